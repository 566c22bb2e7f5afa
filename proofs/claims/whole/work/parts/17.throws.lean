set_option maxHeartbeats 4000000 in
set_option maxRecDepth 100000 in
theorem c_O_read (l : Launch) (htr : l.stackTraces = false) (D : va_G) (q : Nat → Nat) (c : Nat → ClassId) (tnN : Int32) (ckN : Int32) (stN : Int32) (trN : Int32) (dsT : Int32) (dsC : Int32) (tpN : Int32) (lwN : Int32) (rdS : Int32) (rdM : Int32) (rdE : Int32) (rdD : Int32) (twN : Int32) (rsW : Int32) (rsE : Int32) (rwN : Int32) (suns : Nat → Int32) (ckT : Nat → Int32) (ckD : Nat → Int32) (shf : Nat → Int32) (lnT : Nat → Int32) (ways : Nat → Int32) (ups : Nat → Int32) (sts : Nat → Int32) (sty : Nat → Int32) (dly : Nat → Int32) (gAp : Nat → Nat → Int32) (gOp : Nat → Nat → Int32) (stp : Nat → Int32) (bst : Nat → Int32) (sgn : Nat → Int32) (lwT : Nat → Int32) (lwD : Nat → Int32) (rdT : Nat → Int32) (rdO : Nat → Int32) (lwK : Nat → Int32) (lwM : Nat → Int32) (twS : Nat → Int32) (twM : Nat → Int32) (twD : Nat → Int32) (rsO : Nat → Int32) (rsB : Nat → Int32) (rwA : Nat → Int32) (v1 : Int32) (v2 : Int32) (Q : Int32 → Prop) (X : Prop) (hp : p_O_read tnN ckN suns ckT ckD shf v1 v2 Q X) : xKi l yX10_read wsX10_read { frames := 6, cells := 1, slots := 6, locals := 87 } [.ref (q 0), .int v1, .int v2] D (oT c) (wO q c tnN ckN stN trN dsT dsC tpN lwN rdS rdM rdE rdD twN rsW rsE rwN suns ckT ckD shf lnT ways ups sts sty dly gAp gOp stp bst sgn lwT lwD rdT rdO lwK lwM twS twM twD rsO rsB rwA) (Unit) (fun r (_ : Unit) => Q r) (fun _ => wO q c tnN ckN stN trN dsT dsC tpN lwN rdS rdM rdE rdD twN rsW rsE rwN suns ckT ckD shf lnT ways ups sts sty dly gAp gOp stp bst sgn lwT lwD rdT rdO lwK lwM twS twM twD rsO rsB rwA) X := by
  refine xKi.ofW htr (cc := cX10_read) (maxL := 3) (by decide +kernel) rfl rfl (Nat.le_of_ble_eq_true rfl) (by decide +kernel) (by decide +kernel) (fun w h => List.mem_cons_of_mem _ (List.mem_append_right _ h)) (by decide) (fun p e s m args below meth cd A ls Z hx hb hml hown hts hxs hret hth hthW ho hl => ?_)
  replace hl : lv_has ls 3 [(0, .ref (q 0)), (1, .int v1), (2, .int v2)] := hl
  have hinX10 : ∀ w ∈ u_ws RX10 TX10 8, w ∈ wsX10_read := by decide +kernel
  have hf12 := hts (.fieldLink RX10 12 "OneTime" "towns" "LOneTime$Towns;") (by decide +kernel)
  unfold p_O_read at hp
  refine lv_aload_n hx hb dX10_read_0 rfl (lv_at hl 0 rfl) ?_
  refine o_get (ci := 10) (T := TX10) hx hb hts hinX10 hown ho 0 rfl rfl 0 (by decide) hf12 rfl dX10_read_1 ?_
  refine lv_iload_n hx hb dX10_read_4 rfl (lv_at hl 1 rfl) ?_
  refine o_callVi (rest := []) (ci := 9) ⟨hx, hb, hml, hown, hts⟩ ho (c_Tn_has l D q c tnN ckN stN trN dsT dsC tpN lwN rdS rdM rdE rdD twN rsW rsE rwN suns ckT ckD shf lnT ways ups sts sty dly gAp gOp stp bst sgn lwT lwD rdT rdO lwK lwM twS twM twD rsO rsB rwA v1 _ hp) (cwV 1 hts gX10_read_X9_has rfl rfl rfl (by decide +kernel) ⟨(Nat.le_of_ble_eq_true rfl), (Nat.le_of_ble_eq_true rfl)⟩) 1 rfl rfl rfl hl.1 rfl (Nat.le_of_ble_eq_true rfl) dX10_read_5 ⟨Nat.zero_le _, Nat.zero_le _⟩ (fun r5 u H locs hp ho => ?_)
  try dsimp only at hp
  replace ho : oW D (oT c) A s.heap s (wO q c tnN ckN stN trN dsT dsC tpN lwN rdS rdM rdE rdD twN rsW rsE rwN suns ckT ckD shf lnT ways ups sts sty dly gAp gOp stp bst sgn lwT lwD rdT rdO lwK lwM twS twM twD rsO rsB rwA) H locs := ho
  refine lv_if_eq (tgt := 18) hx hb dX10_read_8 (by decide) (fun c_8 => ?_) (fun c_8 => ?_)
  · replace hp := hp.1 c_8
    exact hth 119 "no such town or minute" _ _ _ _ hxs.1 dX10_read_18 dX10_read_21 dX10_read_22 dX10_read_24 dX10_read_27 hl.1 ho hp
  · replace hp := hp.2 c_8
    refine lv_iload_n hx hb dX10_read_11 rfl (lv_at hl 2 rfl) ?_
    refine o_callSi (rest := []) ⟨hx, hb, hml, hown, hts⟩ ho (c_O_isMinute l D (oT c) (wO q c tnN ckN stN trN dsT dsC tpN lwN rdS rdM rdE rdD twN rsW rsE rwN suns ckT ckD shf lnT ways ups sts sty dly gAp gOp stp bst sgn lwT lwD rdT rdO lwK lwM twS twM twD rsO rsB rwA) v2 _ hp) (va_cwS 1 hts gX10_read_X10_isMinute rfl rfl rfl (by decide +kernel) ⟨(Nat.le_of_ble_eq_true rfl), (Nat.le_of_ble_eq_true rfl)⟩) rfl hl.1 rfl (Nat.le_of_ble_eq_true rfl) dX10_read_12 ⟨Nat.zero_le _, Nat.zero_le _⟩ (fun r12 u H locs hp ho => ?_)
    try dsimp only at hp
    replace ho : oW D (oT c) A s.heap s (wO q c tnN ckN stN trN dsT dsC tpN lwN rdS rdM rdE rdD twN rsW rsE rwN suns ckT ckD shf lnT ways ups sts sty dly gAp gOp stp bst sgn lwT lwD rdT rdO lwK lwM twS twM twD rsO rsB rwA) H locs := ho
    refine lv_if_ne (tgt := 28) hx hb dX10_read_15 (by decide) (fun c_15 => ?_) (fun c_15 => ?_)
    · replace hp := hp.2 c_15
      refine lv_aload_n hx hb dX10_read_28 rfl (lv_at hl 0 rfl) ?_
      refine o_get (ci := 10) (T := TX10) hx hb hts hinX10 hown ho 0 rfl rfl 0 (by decide) hf12 rfl dX10_read_29 ?_
      refine lv_iload_n hx hb dX10_read_32 rfl (lv_at hl 1 rfl) ?_
      refine lv_iload_n hx hb dX10_read_33 rfl (lv_at hl 2 rfl) ?_
      refine o_callVi (rest := []) (ci := 9) ⟨hx, hb, hml, hown, hts⟩ ho (c_Tn_readingAt l D q c tnN ckN stN trN dsT dsC tpN lwN rdS rdM rdE rdD twN rsW rsE rwN suns ckT ckD shf lnT ways ups sts sty dly gAp gOp stp bst sgn lwT lwD rdT rdO lwK lwM twS twM twD rsO rsB rwA v1 v2 _ hp) (cwV 2 hts gX10_read_X9_readingAt rfl rfl rfl (by decide +kernel) ⟨(Nat.le_of_ble_eq_true rfl), (Nat.le_of_ble_eq_true rfl)⟩) 1 rfl rfl rfl hl.1 rfl (Nat.le_of_ble_eq_true rfl) dX10_read_34 ⟨Nat.zero_le _, Nat.zero_le _⟩ (fun r34 u H locs hp ho => ?_)
      try dsimp only at hp
      replace ho : oW D (oT c) A s.heap s (wO q c tnN ckN stN trN dsT dsC tpN lwN rdS rdM rdE rdD twN rsW rsE rwN suns ckT ckD shf lnT ways ups sts sty dly gAp gOp stp bst sgn lwT lwD rdT rdO lwK lwM twS twM twD rsO rsB rwA) H locs := ho
      exact hret r34 () _ _ _ _ dX10_read_37 ho hp
    · replace hp := hp.1 c_15
      exact hth 119 "no such town or minute" _ _ _ _ hxs.1 dX10_read_18 dX10_read_21 dX10_read_22 dX10_read_24 dX10_read_27 hl.1 ho hp
set_option maxHeartbeats 4000000 in
set_option maxRecDepth 100000 in
theorem c_O_turned (l : Launch) (htr : l.stackTraces = false) (D : va_G) (q : Nat → Nat) (c : Nat → ClassId) (tnN : Int32) (ckN : Int32) (stN : Int32) (trN : Int32) (dsT : Int32) (dsC : Int32) (tpN : Int32) (lwN : Int32) (rdS : Int32) (rdM : Int32) (rdE : Int32) (rdD : Int32) (twN : Int32) (rsW : Int32) (rsE : Int32) (rwN : Int32) (suns : Nat → Int32) (ckT : Nat → Int32) (ckD : Nat → Int32) (shf : Nat → Int32) (lnT : Nat → Int32) (ways : Nat → Int32) (ups : Nat → Int32) (sts : Nat → Int32) (sty : Nat → Int32) (dly : Nat → Int32) (gAp : Nat → Nat → Int32) (gOp : Nat → Nat → Int32) (stp : Nat → Int32) (bst : Nat → Int32) (sgn : Nat → Int32) (lwT : Nat → Int32) (lwD : Nat → Int32) (rdT : Nat → Int32) (rdO : Nat → Int32) (lwK : Nat → Int32) (lwM : Nat → Int32) (twS : Nat → Int32) (twM : Nat → Int32) (twD : Nat → Int32) (rsO : Nat → Int32) (rsB : Nat → Int32) (rwA : Nat → Int32) (v1 : Int32) (v2 : Int32) (v3 : Int32) (Q : Int32 → Prop) (X : Prop) (hp : p_O_turned tnN ckN suns ckT ckD shf v1 v2 v3 Q X) : xKi l yX10_turned wsX10_turned { frames := 6, cells := 1, slots := 6, locals := 113 } [.ref (q 0), .int v1, .int v2, .int v3] D (oT c) (wO q c tnN ckN stN trN dsT dsC tpN lwN rdS rdM rdE rdD twN rsW rsE rwN suns ckT ckD shf lnT ways ups sts sty dly gAp gOp stp bst sgn lwT lwD rdT rdO lwK lwM twS twM twD rsO rsB rwA) (Unit) (fun r (_ : Unit) => Q r) (fun _ => wO q c tnN ckN stN trN dsT dsC tpN lwN rdS rdM rdE rdD twN rsW rsE rwN suns ckT ckD shf lnT ways ups sts sty dly gAp gOp stp bst sgn lwT lwD rdT rdO lwK lwM twS twM twD rsO rsB rwA) X := by
  refine xKi.ofW htr (cc := cX10_turned) (maxL := 5) (by decide +kernel) rfl rfl (Nat.le_of_ble_eq_true rfl) (by decide +kernel) (by decide +kernel) (fun w h => List.mem_cons_of_mem _ (List.mem_append_right _ h)) (by decide) (fun p e s m args below meth cd A ls Z hx hb hml hown hts hxs hret hth hthW ho hl => ?_)
  replace hl : lv_has ls 5 [(0, .ref (q 0)), (1, .int v1), (2, .int v2), (3, .int v3)] := hl
  have hinX10 : ∀ w ∈ u_ws RX10 TX10 8, w ∈ wsX10_turned := by decide +kernel
  have hf12 := hts (.fieldLink RX10 12 "OneTime" "towns" "LOneTime$Towns;") (by decide +kernel)
  unfold p_O_turned at hp
  refine lv_aload_n hx hb dX10_turned_0 rfl (lv_at hl 0 rfl) ?_
  refine o_get (ci := 10) (T := TX10) hx hb hts hinX10 hown ho 0 rfl rfl 0 (by decide) hf12 rfl dX10_turned_1 ?_
  refine lv_iload_n hx hb dX10_turned_4 rfl (lv_at hl 1 rfl) ?_
  refine o_callVi (rest := []) (ci := 9) ⟨hx, hb, hml, hown, hts⟩ ho (c_Tn_has l D q c tnN ckN stN trN dsT dsC tpN lwN rdS rdM rdE rdD twN rsW rsE rwN suns ckT ckD shf lnT ways ups sts sty dly gAp gOp stp bst sgn lwT lwD rdT rdO lwK lwM twS twM twD rsO rsB rwA v1 _ hp) (cwV 1 hts gX10_turned_X9_has rfl rfl rfl (by decide +kernel) ⟨(Nat.le_of_ble_eq_true rfl), (Nat.le_of_ble_eq_true rfl)⟩) 1 rfl rfl rfl hl.1 rfl (Nat.le_of_ble_eq_true rfl) dX10_turned_5 ⟨Nat.zero_le _, Nat.zero_le _⟩ (fun r5 u H locs hp ho => ?_)
  try dsimp only at hp
  replace ho : oW D (oT c) A s.heap s (wO q c tnN ckN stN trN dsT dsC tpN lwN rdS rdM rdE rdD twN rsW rsE rwN suns ckT ckD shf lnT ways ups sts sty dly gAp gOp stp bst sgn lwT lwD rdT rdO lwK lwM twS twM twD rsO rsB rwA) H locs := ho
  refine lv_if_eq (tgt := 22) hx hb dX10_turned_8 (by decide) (fun c_8 => ?_) (fun c_8 => ?_)
  · replace hp := hp.1 c_8
    exact hth 141 "no such towns" _ _ _ _ hxs.2.1 dX10_turned_22 dX10_turned_25 dX10_turned_26 dX10_turned_28 dX10_turned_31 hl.1 ho hp
  · replace hp := hp.2 c_8
    refine lv_aload_n hx hb dX10_turned_11 rfl (lv_at hl 0 rfl) ?_
    refine o_get (ci := 10) (T := TX10) hx hb hts hinX10 hown ho 0 rfl rfl 0 (by decide) hf12 rfl dX10_turned_12 ?_
    refine lv_iload_n hx hb dX10_turned_15 rfl (lv_at hl 3 rfl) ?_
    refine o_callVi (rest := []) (ci := 9) ⟨hx, hb, hml, hown, hts⟩ ho (c_Tn_has l D q c tnN ckN stN trN dsT dsC tpN lwN rdS rdM rdE rdD twN rsW rsE rwN suns ckT ckD shf lnT ways ups sts sty dly gAp gOp stp bst sgn lwT lwD rdT rdO lwK lwM twS twM twD rsO rsB rwA v3 _ hp) (cwV 1 hts gX10_turned_X9_has rfl rfl rfl (by decide +kernel) ⟨(Nat.le_of_ble_eq_true rfl), (Nat.le_of_ble_eq_true rfl)⟩) 1 rfl rfl rfl hl.1 rfl (Nat.le_of_ble_eq_true rfl) dX10_turned_16 ⟨Nat.zero_le _, Nat.zero_le _⟩ (fun r16 u H locs hp ho => ?_)
    try dsimp only at hp
    replace ho : oW D (oT c) A s.heap s (wO q c tnN ckN stN trN dsT dsC tpN lwN rdS rdM rdE rdD twN rsW rsE rwN suns ckT ckD shf lnT ways ups sts sty dly gAp gOp stp bst sgn lwT lwD rdT rdO lwK lwM twS twM twD rsO rsB rwA) H locs := ho
    refine lv_if_ne (tgt := 32) hx hb dX10_turned_19 (by decide) (fun c_19 => ?_) (fun c_19 => ?_)
    · replace hp := hp.2 c_19
      refine lv_aload_n hx hb dX10_turned_32 rfl (lv_at hl 0 rfl) ?_
      refine o_get (ci := 10) (T := TX10) hx hb hts hinX10 hown ho 0 rfl rfl 0 (by decide) hf12 rfl dX10_turned_33 ?_
      refine lv_iload_n hx hb dX10_turned_36 rfl (lv_at hl 1 rfl) ?_
      refine lv_iload_n hx hb dX10_turned_37 rfl (lv_at hl 2 rfl) ?_
      refine o_callVi (rest := []) (ci := 9) ⟨hx, hb, hml, hown, hts⟩ ho (c_Tn_firstShowing l D q c tnN ckN stN trN dsT dsC tpN lwN rdS rdM rdE rdD twN rsW rsE rwN suns ckT ckD shf lnT ways ups sts sty dly gAp gOp stp bst sgn lwT lwD rdT rdO lwK lwM twS twM twD rsO rsB rwA v1 v2 _ hp) (cwV 2 hts gX10_turned_X9_firstShowing rfl rfl rfl (by decide +kernel) ⟨(Nat.le_of_ble_eq_true rfl), (Nat.le_of_ble_eq_true rfl)⟩) 1 rfl rfl rfl hl.1 rfl (Nat.le_of_ble_eq_true rfl) dX10_turned_38 ⟨Nat.zero_le _, Nat.zero_le _⟩ (fun r38 u H locs hp ho => ?_)
      try dsimp only at hp
      replace ho : oW D (oT c) A s.heap s (wO q c tnN ckN stN trN dsT dsC tpN lwN rdS rdM rdE rdD twN rsW rsE rwN suns ckT ckD shf lnT ways ups sts sty dly gAp gOp stp bst sgn lwT lwD rdT rdO lwK lwM twS twM twD rsO rsB rwA) H locs := ho
      refine lv_istore (lv' := [(4, .int r38), (0, .ref (q 0)), (1, .int v1), (2, .int v2), (3, .int v3)]) hx hb dX10_turned_41 hl (by decide) rfl (fun ls hl => ?_)
      refine lv_iload hx hb dX10_turned_43 (lv_at hl 0 rfl) ?_
      refine lv_iconst (v := (-1)) hx hb dX10_turned_45 (by decide) ?_
      refine lv_icmp_ne (tgt := 59) hx hb dX10_turned_46 (by decide) (fun c_46 => ?_) (fun c_46 => ?_)
      · replace hp := hp.2 c_46
        refine lv_aload_n hx hb dX10_turned_59 rfl (lv_at hl 1 rfl) ?_
        refine o_get (ci := 10) (T := TX10) hx hb hts hinX10 hown ho 0 rfl rfl 0 (by decide) hf12 rfl dX10_turned_60 ?_
        refine lv_iload_n hx hb dX10_turned_63 rfl (lv_at hl 4 rfl) ?_
        refine lv_iload hx hb dX10_turned_64 (lv_at hl 0 rfl) ?_
        refine o_callVi (rest := []) (ci := 9) ⟨hx, hb, hml, hown, hts⟩ ho (c_Tn_readingAt l D q c tnN ckN stN trN dsT dsC tpN lwN rdS rdM rdE rdD twN rsW rsE rwN suns ckT ckD shf lnT ways ups sts sty dly gAp gOp stp bst sgn lwT lwD rdT rdO lwK lwM twS twM twD rsO rsB rwA v3 r38 _ hp) (cwV 2 hts gX10_turned_X9_readingAt rfl rfl rfl (by decide +kernel) ⟨(Nat.le_of_ble_eq_true rfl), (Nat.le_of_ble_eq_true rfl)⟩) 1 rfl rfl rfl hl.1 rfl (Nat.le_of_ble_eq_true rfl) dX10_turned_66 ⟨Nat.zero_le _, Nat.zero_le _⟩ (fun r66 u H locs hp ho => ?_)
        try dsimp only at hp
        replace ho : oW D (oT c) A s.heap s (wO q c tnN ckN stN trN dsT dsC tpN lwN rdS rdM rdE rdD twN rsW rsE rwN suns ckT ckD shf lnT ways ups sts sty dly gAp gOp stp bst sgn lwT lwD rdT rdO lwK lwM twS twM twD rsO rsB rwA) H locs := ho
        exact hret r66 () _ _ _ _ dX10_turned_69 ho hp
      · replace hp := hp.1 c_46
        exact hth 146 "the clock never shows this" _ _ _ _ hxs.2.2.1 dX10_turned_49 dX10_turned_52 dX10_turned_53 dX10_turned_55 dX10_turned_58 hl.1 ho hp
    · replace hp := hp.1 c_19
      exact hth 141 "no such towns" _ _ _ _ hxs.2.1 dX10_turned_22 dX10_turned_25 dX10_turned_26 dX10_turned_28 dX10_turned_31 hl.1 ho hp
set_option maxHeartbeats 4000000 in
set_option maxRecDepth 100000 in
theorem c_O_judged (l : Launch) (htr : l.stackTraces = false) (D : va_G) (q : Nat → Nat) (c : Nat → ClassId) (tnN : Int32) (ckN : Int32) (stN : Int32) (trN : Int32) (dsT : Int32) (dsC : Int32) (tpN : Int32) (lwN : Int32) (rdS : Int32) (rdM : Int32) (rdE : Int32) (rdD : Int32) (twN : Int32) (rsW : Int32) (rsE : Int32) (rwN : Int32) (suns : Nat → Int32) (ckT : Nat → Int32) (ckD : Nat → Int32) (shf : Nat → Int32) (lnT : Nat → Int32) (ways : Nat → Int32) (ups : Nat → Int32) (sts : Nat → Int32) (sty : Nat → Int32) (dly : Nat → Int32) (gAp : Nat → Nat → Int32) (gOp : Nat → Nat → Int32) (stp : Nat → Int32) (bst : Nat → Int32) (sgn : Nat → Int32) (lwT : Nat → Int32) (lwD : Nat → Int32) (rdT : Nat → Int32) (rdO : Nat → Int32) (lwK : Nat → Int32) (lwM : Nat → Int32) (twS : Nat → Int32) (twM : Nat → Int32) (twD : Nat → Int32) (rsO : Nat → Int32) (rsB : Nat → Int32) (rwA : Nat → Int32) (v1 : Int32) (v2 : Int32) (v3 : Int32) (Q : Int32 → Prop) (X : Prop) (hp : p_O_judged tnN ckN lwN suns ckT ckD shf lwT lwD lwK lwM v1 v2 v3 Q X) : xKi l yX10_judged wsX10_judged { frames := 6, cells := 1, slots := 6, locals := 91 } [.ref (q 0), .int v1, .int v2, .int v3] D (oT c) (wO q c tnN ckN stN trN dsT dsC tpN lwN rdS rdM rdE rdD twN rsW rsE rwN suns ckT ckD shf lnT ways ups sts sty dly gAp gOp stp bst sgn lwT lwD rdT rdO lwK lwM twS twM twD rsO rsB rwA) (Unit) (fun r (_ : Unit) => Q r) (fun _ => wO q c tnN ckN stN trN dsT dsC tpN lwN rdS rdM rdE rdD twN rsW rsE rwN suns ckT ckD shf lnT ways ups sts sty dly gAp gOp stp bst sgn lwT lwD rdT rdO lwK lwM twS twM twD rsO rsB rwA) X := by
  refine xKi.ofW htr (cc := cX10_judged) (maxL := 4) (by decide +kernel) rfl rfl (Nat.le_of_ble_eq_true rfl) (by decide +kernel) (by decide +kernel) (fun w h => List.mem_cons_of_mem _ (List.mem_append_right _ h)) (by decide) (fun p e s m args below meth cd A ls Z hx hb hml hown hts hxs hret hth hthW ho hl => ?_)
  replace hl : lv_has ls 4 [(0, .ref (q 0)), (1, .int v1), (2, .int v2), (3, .int v3)] := hl
  have hinX10 : ∀ w ∈ u_ws RX10 TX10 8, w ∈ wsX10_judged := by decide +kernel
  have hf12 := hts (.fieldLink RX10 12 "OneTime" "towns" "LOneTime$Towns;") (by decide +kernel)
  unfold p_O_judged at hp
  refine lv_aload_n hx hb dX10_judged_0 rfl (lv_at hl 0 rfl) ?_
  refine o_get (ci := 10) (T := TX10) hx hb hts hinX10 hown ho 0 rfl rfl 0 (by decide) hf12 rfl dX10_judged_1 ?_
  refine lv_iload_n hx hb dX10_judged_4 rfl (lv_at hl 1 rfl) ?_
  refine o_callVi (rest := []) (ci := 9) ⟨hx, hb, hml, hown, hts⟩ ho (c_Tn_has l D q c tnN ckN stN trN dsT dsC tpN lwN rdS rdM rdE rdD twN rsW rsE rwN suns ckT ckD shf lnT ways ups sts sty dly gAp gOp stp bst sgn lwT lwD rdT rdO lwK lwM twS twM twD rsO rsB rwA v1 _ hp) (cwV 1 hts gX10_judged_X9_has rfl rfl rfl (by decide +kernel) ⟨(Nat.le_of_ble_eq_true rfl), (Nat.le_of_ble_eq_true rfl)⟩) 1 rfl rfl rfl hl.1 rfl (Nat.le_of_ble_eq_true rfl) dX10_judged_5 ⟨Nat.zero_le _, Nat.zero_le _⟩ (fun r5 u H locs hp ho => ?_)
  try dsimp only at hp
  replace ho : oW D (oT c) A s.heap s (wO q c tnN ckN stN trN dsT dsC tpN lwN rdS rdM rdE rdD twN rsW rsE rwN suns ckT ckD shf lnT ways ups sts sty dly gAp gOp stp bst sgn lwT lwD rdT rdO lwK lwM twS twM twD rsO rsB rwA) H locs := ho
  refine lv_if_eq (tgt := 25) hx hb dX10_judged_8 (by decide) (fun c_8 => ?_) (fun c_8 => ?_)
  · replace hp := hp.1 c_8
    exact hth 214 "no such town, matter or minute" _ _ _ _ hxs.2.2.2.1 dX10_judged_25 dX10_judged_28 dX10_judged_29 dX10_judged_31 dX10_judged_34 hl.1 ho hp
  · replace hp := hp.2 c_8
    refine lv_iload_n hx hb dX10_judged_11 rfl (lv_at hl 2 rfl) ?_
    refine o_callSi (rest := []) ⟨hx, hb, hml, hown, hts⟩ ho (c_O_isMatter l D (oT c) (wO q c tnN ckN stN trN dsT dsC tpN lwN rdS rdM rdE rdD twN rsW rsE rwN suns ckT ckD shf lnT ways ups sts sty dly gAp gOp stp bst sgn lwT lwD rdT rdO lwK lwM twS twM twD rsO rsB rwA) v2 _ hp) (va_cwS 1 hts gX10_judged_X10_isMatter rfl rfl rfl (by decide +kernel) ⟨(Nat.le_of_ble_eq_true rfl), (Nat.le_of_ble_eq_true rfl)⟩) rfl hl.1 rfl (Nat.le_of_ble_eq_true rfl) dX10_judged_12 ⟨Nat.zero_le _, Nat.zero_le _⟩ (fun r12 u H locs hp ho => ?_)
    try dsimp only at hp
    replace ho : oW D (oT c) A s.heap s (wO q c tnN ckN stN trN dsT dsC tpN lwN rdS rdM rdE rdD twN rsW rsE rwN suns ckT ckD shf lnT ways ups sts sty dly gAp gOp stp bst sgn lwT lwD rdT rdO lwK lwM twS twM twD rsO rsB rwA) H locs := ho
    refine lv_if_eq (tgt := 25) hx hb dX10_judged_15 (by decide) (fun c_15 => ?_) (fun c_15 => ?_)
    · replace hp := hp.1 c_15
      exact hth 214 "no such town, matter or minute" _ _ _ _ hxs.2.2.2.1 dX10_judged_25 dX10_judged_28 dX10_judged_29 dX10_judged_31 dX10_judged_34 hl.1 ho hp
    · replace hp := hp.2 c_15
      refine lv_iload_n hx hb dX10_judged_18 rfl (lv_at hl 3 rfl) ?_
      refine o_callSi (rest := []) ⟨hx, hb, hml, hown, hts⟩ ho (c_O_isMinute l D (oT c) (wO q c tnN ckN stN trN dsT dsC tpN lwN rdS rdM rdE rdD twN rsW rsE rwN suns ckT ckD shf lnT ways ups sts sty dly gAp gOp stp bst sgn lwT lwD rdT rdO lwK lwM twS twM twD rsO rsB rwA) v3 _ hp) (va_cwS 1 hts gX10_judged_X10_isMinute rfl rfl rfl (by decide +kernel) ⟨(Nat.le_of_ble_eq_true rfl), (Nat.le_of_ble_eq_true rfl)⟩) rfl hl.1 rfl (Nat.le_of_ble_eq_true rfl) dX10_judged_19 ⟨Nat.zero_le _, Nat.zero_le _⟩ (fun r19 u H locs hp ho => ?_)
      try dsimp only at hp
      replace ho : oW D (oT c) A s.heap s (wO q c tnN ckN stN trN dsT dsC tpN lwN rdS rdM rdE rdD twN rsW rsE rwN suns ckT ckD shf lnT ways ups sts sty dly gAp gOp stp bst sgn lwT lwD rdT rdO lwK lwM twS twM twD rsO rsB rwA) H locs := ho
      refine lv_if_ne (tgt := 35) hx hb dX10_judged_22 (by decide) (fun c_22 => ?_) (fun c_22 => ?_)
      · replace hp := hp.2 c_22
        refine lv_iload_n hx hb dX10_judged_35 rfl (lv_at hl 3 rfl) ?_
        refine lv_aload_n hx hb dX10_judged_36 rfl (lv_at hl 0 rfl) ?_
        refine lv_iload_n hx hb dX10_judged_37 rfl (lv_at hl 1 rfl) ?_
        refine lv_iload_n hx hb dX10_judged_38 rfl (lv_at hl 2 rfl) ?_
        refine lv_iload_n hx hb dX10_judged_39 rfl (lv_at hl 3 rfl) ?_
        refine lv_sipush (v := 1440) hx hb dX10_judged_40 (by decide) ?_
        refine lv_idiv hx hb dX10_judged_43 (by decide) ?_
        refine o_callVi (rest := [.int v3]) (ci := 10) ⟨hx, hb, hml, hown, hts⟩ ho (c_O_shiftFor l D q c tnN ckN stN trN dsT dsC tpN lwN rdS rdM rdE rdD twN rsW rsE rwN suns ckT ckD shf lnT ways ups sts sty dly gAp gOp stp bst sgn lwT lwD rdT rdO lwK lwM twS twM twD rsO rsB rwA v1 v2 (v3 / 1440) _ hp) (cwV 3 hts gX10_judged_X10_shiftFor rfl rfl rfl (by decide +kernel) ⟨(Nat.le_of_ble_eq_true rfl), (Nat.le_of_ble_eq_true rfl)⟩) 0 rfl rfl rfl hl.1 rfl (Nat.le_of_ble_eq_true rfl) dX10_judged_44 ⟨Nat.zero_le _, Nat.zero_le _⟩ (fun r44 u H locs hp ho => ?_)
        try dsimp only at hp
        replace ho : oW D (oT c) A s.heap s (wO q c tnN ckN stN trN dsT dsC tpN lwN rdS rdM rdE rdD twN rsW rsE rwN suns ckT ckD shf lnT ways ups sts sty dly gAp gOp stp bst sgn lwT lwD rdT rdO lwK lwM twS twM twD rsO rsB rwA) H locs := ho
        refine lv_iadd hx hb dX10_judged_47 ?_
        exact hret (v3 + r44) () _ _ _ _ dX10_judged_48 ho hp
      · replace hp := hp.1 c_22
        exact hth 214 "no such town, matter or minute" _ _ _ _ hxs.2.2.2.1 dX10_judged_25 dX10_judged_28 dX10_judged_29 dX10_judged_31 dX10_judged_34 hl.1 ho hp
set_option maxHeartbeats 4000000 in
set_option maxRecDepth 100000 in
theorem c_O_error (l : Launch) (htr : l.stackTraces = false) (D : va_G) (q : Nat → Nat) (c : Nat → ClassId) (tnN : Int32) (ckN : Int32) (stN : Int32) (trN : Int32) (dsT : Int32) (dsC : Int32) (tpN : Int32) (lwN : Int32) (rdS : Int32) (rdM : Int32) (rdE : Int32) (rdD : Int32) (twN : Int32) (rsW : Int32) (rsE : Int32) (rwN : Int32) (suns : Nat → Int32) (ckT : Nat → Int32) (ckD : Nat → Int32) (shf : Nat → Int32) (lnT : Nat → Int32) (ways : Nat → Int32) (ups : Nat → Int32) (sts : Nat → Int32) (sty : Nat → Int32) (dly : Nat → Int32) (gAp : Nat → Nat → Int32) (gOp : Nat → Nat → Int32) (stp : Nat → Int32) (bst : Nat → Int32) (sgn : Nat → Int32) (lwT : Nat → Int32) (lwD : Nat → Int32) (rdT : Nat → Int32) (rdO : Nat → Int32) (lwK : Nat → Int32) (lwM : Nat → Int32) (twS : Nat → Int32) (twM : Nat → Int32) (twD : Nat → Int32) (rsO : Nat → Int32) (rsB : Nat → Int32) (rwA : Nat → Int32) (v1 : Int32) (v2 : Int32) (Q : Int32 → Prop) (X : Prop) (hp : p_O_error twN twM twD v1 v2 Q X) : xKi l yX10_error wsX10_error { frames := 6, cells := 1, slots := 6, locals := 82 } [.ref (q 0), .int v1, .int v2] D (oT c) (wO q c tnN ckN stN trN dsT dsC tpN lwN rdS rdM rdE rdD twN rsW rsE rwN suns ckT ckD shf lnT ways ups sts sty dly gAp gOp stp bst sgn lwT lwD rdT rdO lwK lwM twS twM twD rsO rsB rwA) (Unit) (fun r (_ : Unit) => Q r) (fun _ => wO q c tnN ckN stN trN dsT dsC tpN lwN rdS rdM rdE rdD twN rsW rsE rwN suns ckT ckD shf lnT ways ups sts sty dly gAp gOp stp bst sgn lwT lwD rdT rdO lwK lwM twS twM twD rsO rsB rwA) X := by
  refine xKi.ofW htr (cc := cX10_error) (maxL := 3) (by decide +kernel) rfl rfl (Nat.le_of_ble_eq_true rfl) (by decide +kernel) (by decide +kernel) (fun w h => List.mem_cons_of_mem _ (List.mem_append_right _ h)) (by decide) (fun p e s m args below meth cd A ls Z hx hb hml hown hts hxs hret hth hthW ho hl => ?_)
  replace hl : lv_has ls 3 [(0, .ref (q 0)), (1, .int v1), (2, .int v2)] := hl
  have hinX10 : ∀ w ∈ u_ws RX10 TX10 8, w ∈ wsX10_error := by decide +kernel
  have hf47 := hts (.fieldLink RX10 47 "OneTime" "towers" "LOneTime$Towers;") (by decide +kernel)
  unfold p_O_error at hp
  refine lv_iload_n hx hb dX10_error_0 rfl (lv_at hl 2 rfl) ?_
  refine o_callSi (rest := []) ⟨hx, hb, hml, hown, hts⟩ ho (c_O_isMinute l D (oT c) (wO q c tnN ckN stN trN dsT dsC tpN lwN rdS rdM rdE rdD twN rsW rsE rwN suns ckT ckD shf lnT ways ups sts sty dly gAp gOp stp bst sgn lwT lwD rdT rdO lwK lwM twS twM twD rsO rsB rwA) v2 _ hp) (va_cwS 1 hts gX10_error_X10_isMinute rfl rfl rfl (by decide +kernel) ⟨(Nat.le_of_ble_eq_true rfl), (Nat.le_of_ble_eq_true rfl)⟩) rfl hl.1 rfl (Nat.le_of_ble_eq_true rfl) dX10_error_1 ⟨Nat.zero_le _, Nat.zero_le _⟩ (fun r1 u H locs hp ho => ?_)
  try dsimp only at hp
  replace ho : oW D (oT c) A s.heap s (wO q c tnN ckN stN trN dsT dsC tpN lwN rdS rdM rdE rdD twN rsW rsE rwN suns ckT ckD shf lnT ways ups sts sty dly gAp gOp stp bst sgn lwT lwD rdT rdO lwK lwM twS twM twD rsO rsB rwA) H locs := ho
  refine lv_if_eq (tgt := 19) hx hb dX10_error_4 (by decide) (fun c_4 => ?_) (fun c_4 => ?_)
  · replace hp := hp.1 c_4
    exact hth 239 "no such tower or minute" _ _ _ _ hxs.2.2.2.2.1 dX10_error_19 dX10_error_22 dX10_error_23 dX10_error_25 dX10_error_28 hl.1 ho hp
  · replace hp := hp.2 c_4
    refine lv_aload_n hx hb dX10_error_7 rfl (lv_at hl 0 rfl) ?_
    refine o_get (ci := 10) (T := TX10) hx hb hts hinX10 hown ho 0 rfl rfl 5 (by decide) hf47 rfl dX10_error_8 ?_
    refine lv_iload_n hx hb dX10_error_11 rfl (lv_at hl 1 rfl) ?_
    refine lv_iload_n hx hb dX10_error_12 rfl (lv_at hl 2 rfl) ?_
    refine o_callVi (rest := []) (ci := 8) ⟨hx, hb, hml, hown, hts⟩ ho (c_Tw_isSetBy l D q c tnN ckN stN trN dsT dsC tpN lwN rdS rdM rdE rdD twN rsW rsE rwN suns ckT ckD shf lnT ways ups sts sty dly gAp gOp stp bst sgn lwT lwD rdT rdO lwK lwM twS twM twD rsO rsB rwA v1 v2 _ hp) (cwV 2 hts gX10_error_X8_isSetBy rfl rfl rfl (by decide +kernel) ⟨(Nat.le_of_ble_eq_true rfl), (Nat.le_of_ble_eq_true rfl)⟩) 43 rfl rfl rfl hl.1 rfl (Nat.le_of_ble_eq_true rfl) dX10_error_13 ⟨Nat.zero_le _, Nat.zero_le _⟩ (fun r13 u H locs hp ho => ?_)
    try dsimp only at hp
    replace ho : oW D (oT c) A s.heap s (wO q c tnN ckN stN trN dsT dsC tpN lwN rdS rdM rdE rdD twN rsW rsE rwN suns ckT ckD shf lnT ways ups sts sty dly gAp gOp stp bst sgn lwT lwD rdT rdO lwK lwM twS twM twD rsO rsB rwA) H locs := ho
    refine lv_if_ne (tgt := 29) hx hb dX10_error_16 (by decide) (fun c_16 => ?_) (fun c_16 => ?_)
    · replace hp := hp.2 c_16
      refine lv_aload_n hx hb dX10_error_29 rfl (lv_at hl 0 rfl) ?_
      refine o_get (ci := 10) (T := TX10) hx hb hts hinX10 hown ho 0 rfl rfl 5 (by decide) hf47 rfl dX10_error_30 ?_
      refine lv_iload_n hx hb dX10_error_33 rfl (lv_at hl 1 rfl) ?_
      refine lv_iload_n hx hb dX10_error_34 rfl (lv_at hl 2 rfl) ?_
      refine o_callVi (rest := []) (ci := 8) ⟨hx, hb, hml, hown, hts⟩ ho (c_Tw_errorAt l D q c tnN ckN stN trN dsT dsC tpN lwN rdS rdM rdE rdD twN rsW rsE rwN suns ckT ckD shf lnT ways ups sts sty dly gAp gOp stp bst sgn lwT lwD rdT rdO lwK lwM twS twM twD rsO rsB rwA v1 v2 _ hp) (cwV 2 hts gX10_error_X8_errorAt rfl rfl rfl (by decide +kernel) ⟨(Nat.le_of_ble_eq_true rfl), (Nat.le_of_ble_eq_true rfl)⟩) 43 rfl rfl rfl hl.1 rfl (Nat.le_of_ble_eq_true rfl) dX10_error_35 ⟨Nat.zero_le _, Nat.zero_le _⟩ (fun r35 u H locs hp ho => ?_)
      try dsimp only at hp
      replace ho : oW D (oT c) A s.heap s (wO q c tnN ckN stN trN dsT dsC tpN lwN rdS rdM rdE rdD twN rsW rsE rwN suns ckT ckD shf lnT ways ups sts sty dly gAp gOp stp bst sgn lwT lwD rdT rdO lwK lwM twS twM twD rsO rsB rwA) H locs := ho
      exact hret r35 () _ _ _ _ dX10_error_38 ho hp
    · replace hp := hp.1 c_16
      exact hth 239 "no such tower or minute" _ _ _ _ hxs.2.2.2.2.1 dX10_error_19 dX10_error_22 dX10_error_23 dX10_error_25 dX10_error_28 hl.1 ho hp
set_option maxHeartbeats 4000000 in
set_option maxRecDepth 100000 in
theorem c_O_set (l : Launch) (htr : l.stackTraces = false) (D : va_G) (q : Nat → Nat) (c : Nat → ClassId) (tnN : Int32) (ckN : Int32) (stN : Int32) (trN : Int32) (dsT : Int32) (dsC : Int32) (tpN : Int32) (lwN : Int32) (rdS : Int32) (rdM : Int32) (rdE : Int32) (rdD : Int32) (twN : Int32) (rsW : Int32) (rsE : Int32) (rwN : Int32) (suns : Nat → Int32) (ckT : Nat → Int32) (ckD : Nat → Int32) (shf : Nat → Int32) (lnT : Nat → Int32) (ways : Nat → Int32) (ups : Nat → Int32) (sts : Nat → Int32) (sty : Nat → Int32) (dly : Nat → Int32) (gAp : Nat → Nat → Int32) (gOp : Nat → Nat → Int32) (stp : Nat → Int32) (bst : Nat → Int32) (sgn : Nat → Int32) (lwT : Nat → Int32) (lwD : Nat → Int32) (rdT : Nat → Int32) (rdO : Nat → Int32) (lwK : Nat → Int32) (lwM : Nat → Int32) (twS : Nat → Int32) (twM : Nat → Int32) (twD : Nat → Int32) (rsO : Nat → Int32) (rsB : Nat → Int32) (rwA : Nat → Int32) (v1 : Int32) (v2 : Int32) (Q : Int32 → (Nat → Int32) → Prop) (X : Prop) (hp : p_O_set twN twD twM v1 v2 Q X) : xKi l yX10_set wsX10_set { frames := 6, cells := 1, slots := 6, locals := 82 } [.ref (q 0), .int v1, .int v2] D (oT c) (wO q c tnN ckN stN trN dsT dsC tpN lwN rdS rdM rdE rdD twN rsW rsE rwN suns ckT ckD shf lnT ways ups sts sty dly gAp gOp stp bst sgn lwT lwD rdT rdO lwK lwM twS twM twD rsO rsB rwA) ((Nat → Int32)) (fun r (u : (Nat → Int32)) => Q r u) (fun u => wO q c tnN ckN stN trN dsT dsC tpN lwN rdS rdM rdE rdD twN rsW rsE rwN suns ckT ckD shf lnT ways ups sts sty dly gAp gOp stp bst sgn lwT lwD rdT rdO lwK lwM twS u twD rsO rsB rwA) X := by
  refine xKi.ofW htr (cc := cX10_set) (maxL := 4) (by decide +kernel) rfl rfl (Nat.le_of_ble_eq_true rfl) (by decide +kernel) (by decide +kernel) (fun w h => List.mem_cons_of_mem _ (List.mem_append_right _ h)) (by decide) (fun p e s m args below meth cd A ls Z hx hb hml hown hts hxs hret hth hthW ho hl => ?_)
  replace hl : lv_has ls 4 [(0, .ref (q 0)), (1, .int v1), (2, .int v2)] := hl
  have hinX10 : ∀ w ∈ u_ws RX10 TX10 8, w ∈ wsX10_set := by decide +kernel
  have hinX8 : ∀ w ∈ u_ws RX8 TX8 4, w ∈ wsX10_set := by decide +kernel
  have hf47 := hts (.fieldLink RX10 47 "OneTime" "towers" "LOneTime$Towers;") (by decide +kernel)
  have hf244 := hts (.fieldLink RX10 244 "OneTime$Towers" "setMinutes" "[I") (by decide +kernel)
  unfold p_O_set at hp
  refine lv_iload_n hx hb dX10_set_0 rfl (lv_at hl 2 rfl) ?_
  refine o_callSi (rest := []) ⟨hx, hb, hml, hown, hts⟩ ho (c_O_isMinute l D (oT c) (wO q c tnN ckN stN trN dsT dsC tpN lwN rdS rdM rdE rdD twN rsW rsE rwN suns ckT ckD shf lnT ways ups sts sty dly gAp gOp stp bst sgn lwT lwD rdT rdO lwK lwM twS twM twD rsO rsB rwA) v2 _ hp) (va_cwS 1 hts gX10_set_X10_isMinute rfl rfl rfl (by decide +kernel) ⟨(Nat.le_of_ble_eq_true rfl), (Nat.le_of_ble_eq_true rfl)⟩) rfl hl.1 rfl (Nat.le_of_ble_eq_true rfl) dX10_set_1 ⟨Nat.zero_le _, Nat.zero_le _⟩ (fun r1 u H locs hp ho => ?_)
  try dsimp only at hp
  replace ho : oW D (oT c) A s.heap s (wO q c tnN ckN stN trN dsT dsC tpN lwN rdS rdM rdE rdD twN rsW rsE rwN suns ckT ckD shf lnT ways ups sts sty dly gAp gOp stp bst sgn lwT lwD rdT rdO lwK lwM twS twM twD rsO rsB rwA) H locs := ho
  refine lv_if_eq (tgt := 19) hx hb dX10_set_4 (by decide) (fun c_4 => ?_) (fun c_4 => ?_)
  · replace hp := hp.1 c_4
    exact hth 239 "no such tower or minute" _ _ _ _ hxs.2.2.2.2.1 dX10_set_19 dX10_set_22 dX10_set_23 dX10_set_25 dX10_set_28 hl.1 ho hp
  · replace hp := hp.2 c_4
    refine lv_aload_n hx hb dX10_set_7 rfl (lv_at hl 0 rfl) ?_
    refine o_get (ci := 10) (T := TX10) hx hb hts hinX10 hown ho 0 rfl rfl 5 (by decide) hf47 rfl dX10_set_8 ?_
    refine lv_iload_n hx hb dX10_set_11 rfl (lv_at hl 1 rfl) ?_
    refine lv_iload_n hx hb dX10_set_12 rfl (lv_at hl 2 rfl) ?_
    refine o_callVi (rest := []) (ci := 8) ⟨hx, hb, hml, hown, hts⟩ ho (c_Tw_isSetBy l D q c tnN ckN stN trN dsT dsC tpN lwN rdS rdM rdE rdD twN rsW rsE rwN suns ckT ckD shf lnT ways ups sts sty dly gAp gOp stp bst sgn lwT lwD rdT rdO lwK lwM twS twM twD rsO rsB rwA v1 v2 _ hp) (cwV 2 hts gX10_set_X8_isSetBy rfl rfl rfl (by decide +kernel) ⟨(Nat.le_of_ble_eq_true rfl), (Nat.le_of_ble_eq_true rfl)⟩) 43 rfl rfl rfl hl.1 rfl (Nat.le_of_ble_eq_true rfl) dX10_set_13 ⟨Nat.zero_le _, Nat.zero_le _⟩ (fun r13 u H locs hp ho => ?_)
    try dsimp only at hp
    replace ho : oW D (oT c) A s.heap s (wO q c tnN ckN stN trN dsT dsC tpN lwN rdS rdM rdE rdD twN rsW rsE rwN suns ckT ckD shf lnT ways ups sts sty dly gAp gOp stp bst sgn lwT lwD rdT rdO lwK lwM twS twM twD rsO rsB rwA) H locs := ho
    refine lv_if_ne (tgt := 29) hx hb dX10_set_16 (by decide) (fun c_16 => ?_) (fun c_16 => ?_)
    · replace hp := hp.2 c_16
      refine lv_aload_n hx hb dX10_set_29 rfl (lv_at hl 0 rfl) ?_
      refine o_get (ci := 10) (T := TX10) hx hb hts hinX10 hown ho 0 rfl rfl 5 (by decide) hf47 rfl dX10_set_30 ?_
      refine lv_iload_n hx hb dX10_set_33 rfl (lv_at hl 1 rfl) ?_
      refine lv_iload_n hx hb dX10_set_34 rfl (lv_at hl 2 rfl) ?_
      refine o_callVi (rest := []) (ci := 8) ⟨hx, hb, hml, hown, hts⟩ ho (c_Tw_errorAt l D q c tnN ckN stN trN dsT dsC tpN lwN rdS rdM rdE rdD twN rsW rsE rwN suns ckT ckD shf lnT ways ups sts sty dly gAp gOp stp bst sgn lwT lwD rdT rdO lwK lwM twS twM twD rsO rsB rwA v1 v2 _ hp) (cwV 2 hts gX10_set_X8_errorAt rfl rfl rfl (by decide +kernel) ⟨(Nat.le_of_ble_eq_true rfl), (Nat.le_of_ble_eq_true rfl)⟩) 43 rfl rfl rfl hl.1 rfl (Nat.le_of_ble_eq_true rfl) dX10_set_35 ⟨Nat.zero_le _, Nat.zero_le _⟩ (fun r35 u H locs hp ho => ?_)
      try dsimp only at hp
      replace ho : oW D (oT c) A s.heap s (wO q c tnN ckN stN trN dsT dsC tpN lwN rdS rdM rdE rdD twN rsW rsE rwN suns ckT ckD shf lnT ways ups sts sty dly gAp gOp stp bst sgn lwT lwD rdT rdO lwK lwM twS twM twD rsO rsB rwA) H locs := ho
      refine lv_istore_n (lv' := [(3, .int r35), (0, .ref (q 0)), (1, .int v1), (2, .int v2)]) hx hb dX10_set_38 rfl hl (by decide) rfl (fun ls hl => ?_)
      refine lv_aload_n hx hb dX10_set_39 rfl (lv_at hl 1 rfl) ?_
      refine o_get (ci := 10) (T := TX10) hx hb hts hinX10 hown ho 0 rfl rfl 5 (by decide) hf47 rfl dX10_set_40 ?_
      refine o_get (ci := 8) (T := TX8) hx hb hts hinX8 hown ho 43 rfl rfl 2 (by decide) hf244 rfl dX10_set_43 ?_
      refine lv_iload_n hx hb dX10_set_46 rfl (lv_at hl 2 rfl) ?_
      refine lv_iload_n hx hb dX10_set_47 rfl (lv_at hl 3 rfl) ?_
      refine o_ist hx hb ho 45 24 rfl rfl hp.1 dX10_set_48 (fun H locs ho => ?_)
      replace hp := hp.2
      replace ho : oW D (oT c) A s.heap s (wO q c tnN ckN stN trN dsT dsC tpN lwN rdS rdM rdE rdD twN rsW rsE rwN suns ckT ckD shf lnT ways ups sts sty dly gAp gOp stp bst sgn lwT lwD rdT rdO lwK lwM twS (upd twM v1.toNatClampNeg v2) twD rsO rsB rwA) H locs := ho
      refine lv_iload_n hx hb dX10_set_49 rfl (lv_at hl 0 rfl) ?_
      exact hret r35 (upd twM v1.toNatClampNeg v2) _ _ _ _ dX10_set_50 ho hp
    · replace hp := hp.1 c_16
      exact hth 239 "no such tower or minute" _ _ _ _ hxs.2.2.2.2.1 dX10_set_19 dX10_set_22 dX10_set_23 dX10_set_25 dX10_set_28 hl.1 ho hp
set_option maxHeartbeats 4000000 in
set_option maxRecDepth 100000 in
theorem c_O_row (l : Launch) (htr : l.stackTraces = false) (D : va_G) (q : Nat → Nat) (c : Nat → ClassId) (tnN : Int32) (ckN : Int32) (stN : Int32) (trN : Int32) (dsT : Int32) (dsC : Int32) (tpN : Int32) (lwN : Int32) (rdS : Int32) (rdM : Int32) (rdE : Int32) (rdD : Int32) (twN : Int32) (rsW : Int32) (rsE : Int32) (rwN : Int32) (suns : Nat → Int32) (ckT : Nat → Int32) (ckD : Nat → Int32) (shf : Nat → Int32) (lnT : Nat → Int32) (ways : Nat → Int32) (ups : Nat → Int32) (sts : Nat → Int32) (sty : Nat → Int32) (dly : Nat → Int32) (gAp : Nat → Nat → Int32) (gOp : Nat → Nat → Int32) (stp : Nat → Int32) (bst : Nat → Int32) (sgn : Nat → Int32) (lwT : Nat → Int32) (lwD : Nat → Int32) (rdT : Nat → Int32) (rdO : Nat → Int32) (lwK : Nat → Int32) (lwM : Nat → Int32) (twS : Nat → Int32) (twM : Nat → Int32) (twD : Nat → Int32) (rsO : Nat → Int32) (rsB : Nat → Int32) (rwA : Nat → Int32) (v1 : Int32) (Q : Int32 → Prop) (X : Prop) (hp : p_O_row rwN rwA v1 Q X) : xKi l yX10_row wsX10_row { frames := 6, cells := 1, slots := 6, locals := 82 } [.ref (q 0), .int v1] D (oT c) (wO q c tnN ckN stN trN dsT dsC tpN lwN rdS rdM rdE rdD twN rsW rsE rwN suns ckT ckD shf lnT ways ups sts sty dly gAp gOp stp bst sgn lwT lwD rdT rdO lwK lwM twS twM twD rsO rsB rwA) (Unit) (fun r (_ : Unit) => Q r) (fun _ => wO q c tnN ckN stN trN dsT dsC tpN lwN rdS rdM rdE rdD twN rsW rsE rwN suns ckT ckD shf lnT ways ups sts sty dly gAp gOp stp bst sgn lwT lwD rdT rdO lwK lwM twS twM twD rsO rsB rwA) X := by
  refine xKi.ofW htr (cc := cX10_row) (maxL := 2) (by decide +kernel) rfl rfl (Nat.le_of_ble_eq_true rfl) (by decide +kernel) (by decide +kernel) (fun w h => List.mem_cons_of_mem _ (List.mem_append_right _ h)) (by decide) (fun p e s m args below meth cd A ls Z hx hb hml hown hts hxs hret hth hthW ho hl => ?_)
  replace hl : lv_has ls 2 [(0, .ref (q 0)), (1, .int v1)] := hl
  have hinX10 : ∀ w ∈ u_ws RX10 TX10 8, w ∈ wsX10_row := by decide +kernel
  have hinX5 : ∀ w ∈ u_ws RX5 TX5 2, w ∈ wsX10_row := by decide +kernel
  have hf61 := hts (.fieldLink RX10 61 "OneTime" "told" "LOneTime$Row;") (by decide +kernel)
  have hf112 := hts (.fieldLink RX10 112 "OneTime$Row" "size" "I") (by decide +kernel)
  have hf266 := hts (.fieldLink RX10 266 "OneTime$Row" "numbers" "[I") (by decide +kernel)
  unfold p_O_row at hp
  refine lv_iload_n hx hb dX10_row_0 rfl (lv_at hl 1 rfl) ?_
  refine lv_if_lt (tgt := 15) hx hb dX10_row_1 (by decide) (fun c_1 => ?_) (fun c_1 => ?_)
  · replace hp := hp.1 c_1
    exact hthW 264 "the row has no such number" _ _ _ _ hxs.2.2.2.2.2 dX10_row_15 dX10_row_18 dX10_row_19 dX10_row_22 dX10_row_25 hl.1 ho hp
  · replace hp := hp.2 c_1
    refine lv_iload_n hx hb dX10_row_4 rfl (lv_at hl 1 rfl) ?_
    refine lv_aload_n hx hb dX10_row_5 rfl (lv_at hl 0 rfl) ?_
    refine o_get (ci := 10) (T := TX10) hx hb hts hinX10 hown ho 0 rfl rfl 7 (by decide) hf61 rfl dX10_row_6 ?_
    refine o_get (ci := 5) (T := TX5) hx hb hts hinX5 hown ho 50 rfl rfl 1 (by decide) hf112 rfl dX10_row_9 ?_
    refine lv_icmp_lt (tgt := 26) hx hb dX10_row_12 (by decide) (fun c_12 => ?_) (fun c_12 => ?_)
    · replace hp := hp.1 c_12
      refine lv_aload_n hx hb dX10_row_26 rfl (lv_at hl 0 rfl) ?_
      refine o_get (ci := 10) (T := TX10) hx hb hts hinX10 hown ho 0 rfl rfl 7 (by decide) hf61 rfl dX10_row_27 ?_
      refine o_get (ci := 5) (T := TX5) hx hb hts hinX5 hown ho 50 rfl rfl 0 (by decide) hf266 rfl dX10_row_30 ?_
      refine lv_iload_n hx hb dX10_row_33 rfl (lv_at hl 1 rfl) ?_
      refine o_ild hx hb ho 51 28 rfl rfl hp.1 dX10_row_34 ?_
      replace hp := hp.2
      exact hret (rwA v1.toNatClampNeg) () _ _ _ _ dX10_row_35 ho hp
    · replace hp := hp.2 c_12
      exact hthW 264 "the row has no such number" _ _ _ _ hxs.2.2.2.2.2 dX10_row_15 dX10_row_18 dX10_row_19 dX10_row_22 dX10_row_25 hl.1 ho hp
