set_option maxHeartbeats 4000000 in
set_option maxRecDepth 100000 in
theorem c_O_town (l : Launch) (D : va_G) (q : Nat → Nat) (c : Nat → ClassId) (tnN : Int32) (ckN : Int32) (stN : Int32) (trN : Int32) (dsT : Int32) (dsC : Int32) (tpN : Int32) (lwN : Int32) (rdS : Int32) (rdM : Int32) (rdE : Int32) (rdD : Int32) (twN : Int32) (rsW : Int32) (rsE : Int32) (rwN : Int32) (suns : Nat → Int32) (ckT : Nat → Int32) (ckD : Nat → Int32) (shf : Nat → Int32) (lnT : Nat → Int32) (ways : Nat → Int32) (ups : Nat → Int32) (sts : Nat → Int32) (sty : Nat → Int32) (dly : Nat → Int32) (gAp : Nat → Nat → Int32) (gOp : Nat → Nat → Int32) (stp : Nat → Int32) (bst : Nat → Int32) (sgn : Nat → Int32) (lwT : Nat → Int32) (lwD : Nat → Int32) (rdT : Nat → Int32) (rdO : Nat → Int32) (lwK : Nat → Int32) (lwM : Nat → Int32) (twS : Nat → Int32) (twM : Nat → Int32) (twD : Nat → Int32) (rsO : Nat → Int32) (rsB : Nat → Int32) (rwA : Nat → Int32) (v1 : Int32) (Q : Int32 → Int32 → (Nat → Int32) → Prop) (hp : p_O_town tnN suns v1 Q) : oKi l yX10_town wsX10_town { frames := 1, cells := 0, slots := 0, locals := 21 } [.ref (q 0), .int v1] D (oT c) (wO q c tnN ckN stN trN dsT dsC tpN lwN rdS rdM rdE rdD twN rsW rsE rwN suns ckT ckD shf lnT ways ups sts sty dly gAp gOp stp bst sgn lwT lwD rdT rdO lwK lwM twS twM twD rsO rsB rwA) (Int32 × (Nat → Int32)) (fun r (u : Int32 × (Nat → Int32)) => Q r u.1 u.2) (fun u => wO q c u.1 ckN stN trN dsT dsC tpN lwN rdS rdM rdE rdD twN rsW rsE rwN u.2 ckT ckD shf lnT ways ups sts sty dly gAp gOp stp bst sgn lwT lwD rdT rdO lwK lwM twS twM twD rsO rsB rwA) := by
  refine oKi.ofW (own := RX10) (cc := cX10_town) (maxL := 2) (plainFor_of_name (by decide +kernel)) rfl rfl (Nat.le_of_ble_eq_true rfl) (fun p e s m args below meth cd A ls Z hx hb hml hown hts hret ho hl => ?_)
  replace hl : lv_has ls 2 [(0, .ref (q 0)), (1, .int v1)] := hl
  have hinX10 : ∀ w ∈ u_ws RX10 TX10 8, w ∈ wsX10_town := by decide +kernel
  have hf12 := hts (.fieldLink RX10 12 "OneTime" "towns" "LOneTime$Towns;") (by decide +kernel)
  unfold p_O_town at hp
  refine lv_iload_n hx hb dX10_town_0 rfl (lv_at hl 1 rfl) ?_
  refine lv_sipush (v := (-720)) hx hb dX10_town_1 (by decide) ?_
  refine lv_icmp_lt (tgt := 14) hx hb dX10_town_4 (by decide) (fun c_4 => ?_) (fun c_4 => ?_)
  · replace hp := hp.1 c_4
    refine lv_iconst (v := (-1)) hx hb dX10_town_14 (by decide) ?_
    exact hret (-1) (tnN, suns) _ _ _ _ dX10_town_15 ho hp
  · replace hp := hp.2 c_4
    refine lv_iload_n hx hb dX10_town_7 rfl (lv_at hl 1 rfl) ?_
    refine lv_sipush (v := 720) hx hb dX10_town_8 (by decide) ?_
    refine lv_icmp_le (tgt := 16) hx hb dX10_town_11 (by decide) (fun c_11 => ?_) (fun c_11 => ?_)
    · replace hp := hp.1 c_11
      refine lv_aload_n hx hb dX10_town_16 rfl (lv_at hl 0 rfl) ?_
      refine o_get (ci := 10) (T := TX10) hx hb hts hinX10 hown ho 0 rfl rfl 0 (by decide) hf12 rfl dX10_town_17 ?_
      refine lv_iload_n hx hb dX10_town_20 rfl (lv_at hl 1 rfl) ?_
      refine o_callVi (rest := []) (ci := 9) ⟨hx, hb, hml, hown, hts⟩ ho (c_Tn_settle l D q c tnN ckN stN trN dsT dsC tpN lwN rdS rdM rdE rdD twN rsW rsE rwN suns ckT ckD shf lnT ways ups sts sty dly gAp gOp stp bst sgn lwT lwD rdT rdO lwK lwM twS twM twD rsO rsB rwA v1 _ hp) (cwV 1 hts gX10_town_X9_settle rfl rfl rfl (by decide +kernel) ⟨(Nat.le_of_ble_eq_true rfl), (Nat.le_of_ble_eq_true rfl)⟩) 1 rfl rfl rfl hl.1 rfl (Nat.le_of_ble_eq_true rfl) dX10_town_21 ⟨Nat.zero_le _, Nat.zero_le _⟩ (fun r21 u H locs hp ho => ?_)
      obtain ⟨tnN_21, suns_21⟩ := u
      try dsimp only at hp
      replace ho : oW D (oT c) A s.heap s (wO q c tnN_21 ckN stN trN dsT dsC tpN lwN rdS rdM rdE rdD twN rsW rsE rwN suns_21 ckT ckD shf lnT ways ups sts sty dly gAp gOp stp bst sgn lwT lwD rdT rdO lwK lwM twS twM twD rsO rsB rwA) H locs := ho
      exact hret r21 (tnN_21, suns_21) _ _ _ _ dX10_town_24 ho hp
    · replace hp := hp.2 c_11
      refine lv_iconst (v := (-1)) hx hb dX10_town_14 (by decide) ?_
      exact hret (-1) (tnN, suns) _ _ _ _ dX10_town_15 ho hp
set_option maxHeartbeats 4000000 in
set_option maxRecDepth 100000 in
theorem c_O_clock (l : Launch) (D : va_G) (q : Nat → Nat) (c : Nat → ClassId) (tnN : Int32) (ckN : Int32) (stN : Int32) (trN : Int32) (dsT : Int32) (dsC : Int32) (tpN : Int32) (lwN : Int32) (rdS : Int32) (rdM : Int32) (rdE : Int32) (rdD : Int32) (twN : Int32) (rsW : Int32) (rsE : Int32) (rwN : Int32) (suns : Nat → Int32) (ckT : Nat → Int32) (ckD : Nat → Int32) (shf : Nat → Int32) (lnT : Nat → Int32) (ways : Nat → Int32) (ups : Nat → Int32) (sts : Nat → Int32) (sty : Nat → Int32) (dly : Nat → Int32) (gAp : Nat → Nat → Int32) (gOp : Nat → Nat → Int32) (stp : Nat → Int32) (bst : Nat → Int32) (sgn : Nat → Int32) (lwT : Nat → Int32) (lwD : Nat → Int32) (rdT : Nat → Int32) (rdO : Nat → Int32) (lwK : Nat → Int32) (lwM : Nat → Int32) (twS : Nat → Int32) (twM : Nat → Int32) (twD : Nat → Int32) (rsO : Nat → Int32) (rsB : Nat → Int32) (rwA : Nat → Int32) (v1 : Int32) (v2 : Int32) (v3 : Int32) (v4 : Int32) (Q : Int32 → Int32 → (Nat → Int32) → (Nat → Int32) → (Nat → Int32) → Prop) (hp : p_O_clock tnN suns ckN ckT ckD shf v1 v2 v3 v4 Q) : oKi l yX10_clock wsX10_clock { frames := 3, cells := 0, slots := 0, locals := 65 } [.ref (q 0), .int v1, .int v2, .int v3, .int v4] D (oT c) (wO q c tnN ckN stN trN dsT dsC tpN lwN rdS rdM rdE rdD twN rsW rsE rwN suns ckT ckD shf lnT ways ups sts sty dly gAp gOp stp bst sgn lwT lwD rdT rdO lwK lwM twS twM twD rsO rsB rwA) (Int32 × (Nat → Int32) × (Nat → Int32) × (Nat → Int32)) (fun r (u : Int32 × (Nat → Int32) × (Nat → Int32) × (Nat → Int32)) => Q r u.1 u.2.1 u.2.2.1 u.2.2.2) (fun u => wO q c tnN u.1 stN trN dsT dsC tpN lwN rdS rdM rdE rdD twN rsW rsE rwN suns u.2.1 u.2.2.1 u.2.2.2 lnT ways ups sts sty dly gAp gOp stp bst sgn lwT lwD rdT rdO lwK lwM twS twM twD rsO rsB rwA) := by
  refine oKi.ofW (own := RX10) (cc := cX10_clock) (maxL := 5) (plainFor_of_name (by decide +kernel)) rfl rfl (Nat.le_of_ble_eq_true rfl) (fun p e s m args below meth cd A ls Z hx hb hml hown hts hret ho hl => ?_)
  replace hl : lv_has ls 5 [(0, .ref (q 0)), (1, .int v1), (2, .int v2), (3, .int v3), (4, .int v4)] := hl
  have hinX10 : ∀ w ∈ u_ws RX10 TX10 8, w ∈ wsX10_clock := by decide +kernel
  have hf12 := hts (.fieldLink RX10 12 "OneTime" "towns" "LOneTime$Towns;") (by decide +kernel)
  unfold p_O_clock at hp
  refine lv_aload_n hx hb dX10_clock_0 rfl (lv_at hl 0 rfl) ?_
  refine o_get (ci := 10) (T := TX10) hx hb hts hinX10 hown ho 0 rfl rfl 0 (by decide) hf12 rfl dX10_clock_1 ?_
  refine lv_iload_n hx hb dX10_clock_4 rfl (lv_at hl 1 rfl) ?_
  refine o_callVi (rest := []) (ci := 9) ⟨hx, hb, hml, hown, hts⟩ ho (c_Tn_has l D q c tnN ckN stN trN dsT dsC tpN lwN rdS rdM rdE rdD twN rsW rsE rwN suns ckT ckD shf lnT ways ups sts sty dly gAp gOp stp bst sgn lwT lwD rdT rdO lwK lwM twS twM twD rsO rsB rwA v1 _ hp) (cwV 1 hts gX10_clock_X9_has rfl rfl rfl (by decide +kernel) ⟨(Nat.le_of_ble_eq_true rfl), (Nat.le_of_ble_eq_true rfl)⟩) 1 rfl rfl rfl hl.1 rfl (Nat.le_of_ble_eq_true rfl) dX10_clock_5 ⟨Nat.zero_le _, Nat.zero_le _⟩ (fun r5 u H locs hp ho => ?_)
  try dsimp only at hp
  replace ho : oW D (oT c) A s.heap s (wO q c tnN ckN stN trN dsT dsC tpN lwN rdS rdM rdE rdD twN rsW rsE rwN suns ckT ckD shf lnT ways ups sts sty dly gAp gOp stp bst sgn lwT lwD rdT rdO lwK lwM twS twM twD rsO rsB rwA) H locs := ho
  refine lv_if_eq (tgt := 32) hx hb dX10_clock_8 (by decide) (fun c_8 => ?_) (fun c_8 => ?_)
  · replace hp := hp.1 c_8
    refine lv_iconst (v := (-1)) hx hb dX10_clock_32 (by decide) ?_
    exact hret (-1) (ckN, ckT, ckD, shf) _ _ _ _ dX10_clock_33 ho hp
  · replace hp := hp.2 c_8
    refine lv_iload_n hx hb dX10_clock_11 rfl (lv_at hl 2 rfl) ?_
    refine o_callSi (rest := []) ⟨hx, hb, hml, hown, hts⟩ ho (c_O_isDay l D (oT c) (wO q c tnN ckN stN trN dsT dsC tpN lwN rdS rdM rdE rdD twN rsW rsE rwN suns ckT ckD shf lnT ways ups sts sty dly gAp gOp stp bst sgn lwT lwD rdT rdO lwK lwM twS twM twD rsO rsB rwA) v2 _ hp) (va_cwS 1 hts gX10_clock_X10_isDay rfl rfl rfl (by decide +kernel) ⟨(Nat.le_of_ble_eq_true rfl), (Nat.le_of_ble_eq_true rfl)⟩) rfl hl.1 rfl (Nat.le_of_ble_eq_true rfl) dX10_clock_12 ⟨Nat.zero_le _, Nat.zero_le _⟩ (fun r12 u H locs hp ho => ?_)
    try dsimp only at hp
    replace ho : oW D (oT c) A s.heap s (wO q c tnN ckN stN trN dsT dsC tpN lwN rdS rdM rdE rdD twN rsW rsE rwN suns ckT ckD shf lnT ways ups sts sty dly gAp gOp stp bst sgn lwT lwD rdT rdO lwK lwM twS twM twD rsO rsB rwA) H locs := ho
    refine lv_if_eq (tgt := 32) hx hb dX10_clock_15 (by decide) (fun c_15 => ?_) (fun c_15 => ?_)
    · replace hp := hp.1 c_15
      refine lv_iconst (v := (-1)) hx hb dX10_clock_32 (by decide) ?_
      exact hret (-1) (ckN, ckT, ckD, shf) _ _ _ _ dX10_clock_33 ho hp
    · replace hp := hp.2 c_15
      refine lv_aload_n hx hb dX10_clock_18 rfl (lv_at hl 0 rfl) ?_
      refine o_get (ci := 10) (T := TX10) hx hb hts hinX10 hown ho 0 rfl rfl 0 (by decide) hf12 rfl dX10_clock_19 ?_
      refine lv_iload_n hx hb dX10_clock_22 rfl (lv_at hl 1 rfl) ?_
      refine lv_iload_n hx hb dX10_clock_23 rfl (lv_at hl 3 rfl) ?_
      refine lv_iload hx hb dX10_clock_24 (lv_at hl 4 rfl) ?_
      refine o_callVi (rest := []) (ci := 9) ⟨hx, hb, hml, hown, hts⟩ ho (c_Tn_isClock l D q c tnN ckN stN trN dsT dsC tpN lwN rdS rdM rdE rdD twN rsW rsE rwN suns ckT ckD shf lnT ways ups sts sty dly gAp gOp stp bst sgn lwT lwD rdT rdO lwK lwM twS twM twD rsO rsB rwA v1 v3 v4 _ hp) (cwV 3 hts gX10_clock_X9_isClock rfl rfl rfl (by decide +kernel) ⟨(Nat.le_of_ble_eq_true rfl), (Nat.le_of_ble_eq_true rfl)⟩) 1 rfl rfl rfl hl.1 rfl (Nat.le_of_ble_eq_true rfl) dX10_clock_26 ⟨Nat.zero_le _, Nat.zero_le _⟩ (fun r26 u H locs hp ho => ?_)
      try dsimp only at hp
      replace ho : oW D (oT c) A s.heap s (wO q c tnN ckN stN trN dsT dsC tpN lwN rdS rdM rdE rdD twN rsW rsE rwN suns ckT ckD shf lnT ways ups sts sty dly gAp gOp stp bst sgn lwT lwD rdT rdO lwK lwM twS twM twD rsO rsB rwA) H locs := ho
      refine lv_if_ne (tgt := 34) hx hb dX10_clock_29 (by decide) (fun c_29 => ?_) (fun c_29 => ?_)
      · replace hp := hp.2 c_29
        refine lv_aload_n hx hb dX10_clock_34 rfl (lv_at hl 0 rfl) ?_
        refine o_get (ci := 10) (T := TX10) hx hb hts hinX10 hown ho 0 rfl rfl 0 (by decide) hf12 rfl dX10_clock_35 ?_
        refine lv_iload_n hx hb dX10_clock_38 rfl (lv_at hl 1 rfl) ?_
        refine lv_iload_n hx hb dX10_clock_39 rfl (lv_at hl 2 rfl) ?_
        refine lv_aload_n hx hb dX10_clock_40 rfl (lv_at hl 0 rfl) ?_
        refine o_get (ci := 10) (T := TX10) hx hb hts hinX10 hown ho 0 rfl rfl 0 (by decide) hf12 rfl dX10_clock_41 ?_
        refine lv_iload_n hx hb dX10_clock_44 rfl (lv_at hl 1 rfl) ?_
        refine lv_iload_n hx hb dX10_clock_45 rfl (lv_at hl 3 rfl) ?_
        refine lv_iload hx hb dX10_clock_46 (lv_at hl 4 rfl) ?_
        refine o_callVi (rest := [.int v2, .int v1, .ref (q 1)]) (ci := 9) ⟨hx, hb, hml, hown, hts⟩ ho (c_Tn_shiftOfKind l D q c tnN ckN stN trN dsT dsC tpN lwN rdS rdM rdE rdD twN rsW rsE rwN suns ckT ckD shf lnT ways ups sts sty dly gAp gOp stp bst sgn lwT lwD rdT rdO lwK lwM twS twM twD rsO rsB rwA v1 v3 v4 _ hp) (cwV 3 hts gX10_clock_X9_shiftOfKind rfl rfl rfl (by decide +kernel) ⟨(Nat.le_of_ble_eq_true rfl), (Nat.le_of_ble_eq_true rfl)⟩) 1 rfl rfl rfl hl.1 rfl (Nat.le_of_ble_eq_true rfl) dX10_clock_48 ⟨Nat.zero_le _, Nat.zero_le _⟩ (fun r48 u H locs hp ho => ?_)
        try dsimp only at hp
        replace ho : oW D (oT c) A s.heap s (wO q c tnN ckN stN trN dsT dsC tpN lwN rdS rdM rdE rdD twN rsW rsE rwN suns ckT ckD shf lnT ways ups sts sty dly gAp gOp stp bst sgn lwT lwD rdT rdO lwK lwM twS twM twD rsO rsB rwA) H locs := ho
        refine o_callVi (rest := []) (ci := 9) ⟨hx, hb, hml, hown, hts⟩ ho (c_Tn_tellClock l D q c tnN ckN stN trN dsT dsC tpN lwN rdS rdM rdE rdD twN rsW rsE rwN suns ckT ckD shf lnT ways ups sts sty dly gAp gOp stp bst sgn lwT lwD rdT rdO lwK lwM twS twM twD rsO rsB rwA v1 v2 r48 _ hp) (cwV 3 hts gX10_clock_X9_tellClock rfl rfl rfl (by decide +kernel) ⟨(Nat.le_of_ble_eq_true rfl), (Nat.le_of_ble_eq_true rfl)⟩) 1 rfl rfl rfl hl.1 rfl (Nat.le_of_ble_eq_true rfl) dX10_clock_51 ⟨Nat.zero_le _, Nat.zero_le _⟩ (fun r51 u H locs hp ho => ?_)
        obtain ⟨ckN_51, ckT_51, ckD_51, shf_51⟩ := u
        try dsimp only at hp
        replace ho : oW D (oT c) A s.heap s (wO q c tnN ckN_51 stN trN dsT dsC tpN lwN rdS rdM rdE rdD twN rsW rsE rwN suns ckT_51 ckD_51 shf_51 lnT ways ups sts sty dly gAp gOp stp bst sgn lwT lwD rdT rdO lwK lwM twS twM twD rsO rsB rwA) H locs := ho
        exact hret r51 (ckN_51, ckT_51, ckD_51, shf_51) _ _ _ _ dX10_clock_54 ho hp
      · replace hp := hp.1 c_29
        refine lv_iconst (v := (-1)) hx hb dX10_clock_32 (by decide) ?_
        exact hret (-1) (ckN, ckT, ckD, shf) _ _ _ _ dX10_clock_33 ho hp
set_option maxHeartbeats 4000000 in
set_option maxRecDepth 100000 in
theorem c_O_untell (l : Launch) (D : va_G) (q : Nat → Nat) (c : Nat → ClassId) (tnN : Int32) (ckN : Int32) (stN : Int32) (trN : Int32) (dsT : Int32) (dsC : Int32) (tpN : Int32) (lwN : Int32) (rdS : Int32) (rdM : Int32) (rdE : Int32) (rdD : Int32) (twN : Int32) (rsW : Int32) (rsE : Int32) (rwN : Int32) (suns : Nat → Int32) (ckT : Nat → Int32) (ckD : Nat → Int32) (shf : Nat → Int32) (lnT : Nat → Int32) (ways : Nat → Int32) (ups : Nat → Int32) (sts : Nat → Int32) (sty : Nat → Int32) (dly : Nat → Int32) (gAp : Nat → Nat → Int32) (gOp : Nat → Nat → Int32) (stp : Nat → Int32) (bst : Nat → Int32) (sgn : Nat → Int32) (lwT : Nat → Int32) (lwD : Nat → Int32) (rdT : Nat → Int32) (rdO : Nat → Int32) (lwK : Nat → Int32) (lwM : Nat → Int32) (twS : Nat → Int32) (twM : Nat → Int32) (twD : Nat → Int32) (rsO : Nat → Int32) (rsB : Nat → Int32) (rwA : Nat → Int32)  (Q : Int32 → Int32 → Prop) (hp : p_O_untell ckN Q) : oKi l yX10_untell wsX10_untell { frames := 2, cells := 0, slots := 0, locals := 40 } [.ref (q 0)] D (oT c) (wO q c tnN ckN stN trN dsT dsC tpN lwN rdS rdM rdE rdD twN rsW rsE rwN suns ckT ckD shf lnT ways ups sts sty dly gAp gOp stp bst sgn lwT lwD rdT rdO lwK lwM twS twM twD rsO rsB rwA) (Int32) (fun r (u : Int32) => Q r u) (fun u => wO q c tnN u stN trN dsT dsC tpN lwN rdS rdM rdE rdD twN rsW rsE rwN suns ckT ckD shf lnT ways ups sts sty dly gAp gOp stp bst sgn lwT lwD rdT rdO lwK lwM twS twM twD rsO rsB rwA) := by
  refine oKi.ofW (own := RX10) (cc := cX10_untell) (maxL := 1) (plainFor_of_name (by decide +kernel)) rfl rfl (Nat.le_of_ble_eq_true rfl) (fun p e s m args below meth cd A ls Z hx hb hml hown hts hret ho hl => ?_)
  replace hl : lv_has ls 1 [(0, .ref (q 0))] := hl
  have hinX10 : ∀ w ∈ u_ws RX10 TX10 8, w ∈ wsX10_untell := by decide +kernel
  have hf12 := hts (.fieldLink RX10 12 "OneTime" "towns" "LOneTime$Towns;") (by decide +kernel)
  unfold p_O_untell at hp
  refine lv_aload_n hx hb dX10_untell_0 rfl (lv_at hl 0 rfl) ?_
  refine o_get (ci := 10) (T := TX10) hx hb hts hinX10 hown ho 0 rfl rfl 0 (by decide) hf12 rfl dX10_untell_1 ?_
  refine o_callVi (rest := []) (ci := 9) ⟨hx, hb, hml, hown, hts⟩ ho (c_Tn_takeClockBack l D q c tnN ckN stN trN dsT dsC tpN lwN rdS rdM rdE rdD twN rsW rsE rwN suns ckT ckD shf lnT ways ups sts sty dly gAp gOp stp bst sgn lwT lwD rdT rdO lwK lwM twS twM twD rsO rsB rwA  _ hp) (cwV 0 hts gX10_untell_X9_takeClockBack rfl rfl rfl (by decide +kernel) ⟨(Nat.le_of_ble_eq_true rfl), (Nat.le_of_ble_eq_true rfl)⟩) 1 rfl rfl rfl hl.1 rfl (Nat.le_of_ble_eq_true rfl) dX10_untell_4 ⟨Nat.zero_le _, Nat.zero_le _⟩ (fun r4 u H locs hp ho => ?_)
  obtain ⟨ckN_4, rfl⟩ : ∃ z, z = u := ⟨_, rfl⟩
  try dsimp only at hp
  replace ho : oW D (oT c) A s.heap s (wO q c tnN ckN_4 stN trN dsT dsC tpN lwN rdS rdM rdE rdD twN rsW rsE rwN suns ckT ckD shf lnT ways ups sts sty dly gAp gOp stp bst sgn lwT lwD rdT rdO lwK lwM twS twM twD rsO rsB rwA) H locs := ho
  exact hret r4 ckN_4 _ _ _ _ dX10_untell_7 ho hp
set_option maxHeartbeats 4000000 in
set_option maxRecDepth 100000 in
theorem c_O_count (l : Launch) (D : va_G) (q : Nat → Nat) (c : Nat → ClassId) (tnN : Int32) (ckN : Int32) (stN : Int32) (trN : Int32) (dsT : Int32) (dsC : Int32) (tpN : Int32) (lwN : Int32) (rdS : Int32) (rdM : Int32) (rdE : Int32) (rdD : Int32) (twN : Int32) (rsW : Int32) (rsE : Int32) (rwN : Int32) (suns : Nat → Int32) (ckT : Nat → Int32) (ckD : Nat → Int32) (shf : Nat → Int32) (lnT : Nat → Int32) (ways : Nat → Int32) (ups : Nat → Int32) (sts : Nat → Int32) (sty : Nat → Int32) (dly : Nat → Int32) (gAp : Nat → Nat → Int32) (gOp : Nat → Nat → Int32) (stp : Nat → Int32) (bst : Nat → Int32) (sgn : Nat → Int32) (lwT : Nat → Int32) (lwD : Nat → Int32) (rdT : Nat → Int32) (rdO : Nat → Int32) (lwK : Nat → Int32) (lwM : Nat → Int32) (twS : Nat → Int32) (twM : Nat → Int32) (twD : Nat → Int32) (rsO : Nat → Int32) (rsB : Nat → Int32) (rwA : Nat → Int32) (v1 : Int32) (Q : Int32 → Prop) (hp : p_O_count tnN ckN stN trN tpN lwN twN rwN v1 Q) : oKi l yX10_count wsX10_count { frames := 0, cells := 0, slots := 0, locals := 0 } [.ref (q 0), .int v1] D (oT c) (wO q c tnN ckN stN trN dsT dsC tpN lwN rdS rdM rdE rdD twN rsW rsE rwN suns ckT ckD shf lnT ways ups sts sty dly gAp gOp stp bst sgn lwT lwD rdT rdO lwK lwM twS twM twD rsO rsB rwA) (Unit) (fun r (_ : Unit) => Q r) (fun _ => wO q c tnN ckN stN trN dsT dsC tpN lwN rdS rdM rdE rdD twN rsW rsE rwN suns ckT ckD shf lnT ways ups sts sty dly gAp gOp stp bst sgn lwT lwD rdT rdO lwK lwM twS twM twD rsO rsB rwA) := by
  refine oKi.ofW (own := RX10) (cc := cX10_count) (maxL := 2) (plainFor_of_name (by decide +kernel)) rfl rfl (Nat.le_of_ble_eq_true rfl) (fun p e s m args below meth cd A ls Z hx hb hml hown hts hret ho hl => ?_)
  replace hl : lv_has ls 2 [(0, .ref (q 0)), (1, .int v1)] := hl
  have hinX10 : ∀ w ∈ u_ws RX10 TX10 8, w ∈ wsX10_count := by decide +kernel
  have hinX2 : ∀ w ∈ u_ws RX2 TX2 4, w ∈ wsX10_count := by decide +kernel
  have hinX3 : ∀ w ∈ u_ws RX3 TX3 8, w ∈ wsX10_count := by decide +kernel
  have hinX5 : ∀ w ∈ u_ws RX5 TX5 2, w ∈ wsX10_count := by decide +kernel
  have hinX6 : ∀ w ∈ u_ws RX6 TX6 3, w ∈ wsX10_count := by decide +kernel
  have hinX7 : ∀ w ∈ u_ws RX7 TX7 2, w ∈ wsX10_count := by decide +kernel
  have hinX8 : ∀ w ∈ u_ws RX8 TX8 4, w ∈ wsX10_count := by decide +kernel
  have hinX9 : ∀ w ∈ u_ws RX9 TX9 4, w ∈ wsX10_count := by decide +kernel
  have hf12 := hts (.fieldLink RX10 12 "OneTime" "towns" "LOneTime$Towns;") (by decide +kernel)
  have hf19 := hts (.fieldLink RX10 19 "OneTime" "line" "LOneTime$Line;") (by decide +kernel)
  have hf33 := hts (.fieldLink RX10 33 "OneTime" "tape" "LOneTime$Tape;") (by decide +kernel)
  have hf40 := hts (.fieldLink RX10 40 "OneTime" "laws" "LOneTime$Laws;") (by decide +kernel)
  have hf47 := hts (.fieldLink RX10 47 "OneTime" "towers" "LOneTime$Towers;") (by decide +kernel)
  have hf61 := hts (.fieldLink RX10 61 "OneTime" "told" "LOneTime$Row;") (by decide +kernel)
  have hf91 := hts (.fieldLink RX10 91 "OneTime$Towns" "size" "I") (by decide +kernel)
  have hf95 := hts (.fieldLink RX10 95 "OneTime$Towns" "clocks" "LOneTime$Since;") (by decide +kernel)
  have hf99 := hts (.fieldLink RX10 99 "OneTime$Since" "size" "I") (by decide +kernel)
  have hf102 := hts (.fieldLink RX10 102 "OneTime$Line" "stations" "I") (by decide +kernel)
  have hf105 := hts (.fieldLink RX10 105 "OneTime$Line" "trains" "I") (by decide +kernel)
  have hf108 := hts (.fieldLink RX10 108 "OneTime$Laws" "since" "LOneTime$Since;") (by decide +kernel)
  have hf111 := hts (.fieldLink RX10 111 "OneTime$Towers" "size" "I") (by decide +kernel)
  have hf112 := hts (.fieldLink RX10 112 "OneTime$Row" "size" "I") (by decide +kernel)
  have hf113 := hts (.fieldLink RX10 113 "OneTime$Tape" "size" "I") (by decide +kernel)
  unfold p_O_count at hp
  refine lv_iload_n hx hb dX10_count_0 rfl (lv_at hl 1 rfl) ?_
  by_cases c_1_0 : v1 = 0
  · replace hp := hp.1 c_1_0
    refine lv_tableIn (tgt := 48) (off := 47) hx hb dX10_count_1 (by rw [c_1_0]; decide) (by rw [c_1_0]; decide) (by rw [c_1_0]; rfl) (by decide) ?_
    refine lv_aload_n hx hb dX10_count_48 rfl (lv_at hl 0 rfl) ?_
    refine o_get (ci := 10) (T := TX10) hx hb hts hinX10 hown ho 0 rfl rfl 0 (by decide) hf12 rfl dX10_count_49 ?_
    refine o_get (ci := 9) (T := TX9) hx hb hts hinX9 hown ho 1 rfl rfl 1 (by decide) hf91 rfl dX10_count_52 ?_
    exact hret tnN () _ _ _ _ dX10_count_55 ho hp
  replace hp := hp.2 c_1_0
  by_cases c_1_1 : v1 = 1
  · replace hp := hp.1 c_1_1
    refine lv_tableIn (tgt := 56) (off := 55) hx hb dX10_count_1 (by rw [c_1_1]; decide) (by rw [c_1_1]; decide) (by rw [c_1_1]; rfl) (by decide) ?_
    refine lv_aload_n hx hb dX10_count_56 rfl (lv_at hl 0 rfl) ?_
    refine o_get (ci := 10) (T := TX10) hx hb hts hinX10 hown ho 0 rfl rfl 0 (by decide) hf12 rfl dX10_count_57 ?_
    refine o_get (ci := 9) (T := TX9) hx hb hts hinX9 hown ho 1 rfl rfl 2 (by decide) hf95 rfl dX10_count_60 ?_
    refine o_get (ci := 6) (T := TX6) hx hb hts hinX6 hown ho 3 rfl rfl 2 (by decide) hf99 rfl dX10_count_63 ?_
    exact hret ckN () _ _ _ _ dX10_count_66 ho hp
  replace hp := hp.2 c_1_1
  by_cases c_1_2 : v1 = 2
  · replace hp := hp.1 c_1_2
    refine lv_tableIn (tgt := 67) (off := 66) hx hb dX10_count_1 (by rw [c_1_2]; decide) (by rw [c_1_2]; decide) (by rw [c_1_2]; rfl) (by decide) ?_
    refine lv_aload_n hx hb dX10_count_67 rfl (lv_at hl 0 rfl) ?_
    refine o_get (ci := 10) (T := TX10) hx hb hts hinX10 hown ho 0 rfl rfl 1 (by decide) hf19 rfl dX10_count_68 ?_
    refine o_get (ci := 3) (T := TX3) hx hb hts hinX3 hown ho 7 rfl rfl 0 (by decide) hf102 rfl dX10_count_71 ?_
    exact hret stN () _ _ _ _ dX10_count_74 ho hp
  replace hp := hp.2 c_1_2
  by_cases c_1_3 : v1 = 3
  · replace hp := hp.1 c_1_3
    refine lv_tableIn (tgt := 75) (off := 74) hx hb dX10_count_1 (by rw [c_1_3]; decide) (by rw [c_1_3]; decide) (by rw [c_1_3]; rfl) (by decide) ?_
    refine lv_aload_n hx hb dX10_count_75 rfl (lv_at hl 0 rfl) ?_
    refine o_get (ci := 10) (T := TX10) hx hb hts hinX10 hown ho 0 rfl rfl 1 (by decide) hf19 rfl dX10_count_76 ?_
    refine o_get (ci := 3) (T := TX3) hx hb hts hinX3 hown ho 7 rfl rfl 3 (by decide) hf105 rfl dX10_count_79 ?_
    exact hret trN () _ _ _ _ dX10_count_82 ho hp
  replace hp := hp.2 c_1_3
  by_cases c_1_4 : v1 = 4
  · replace hp := hp.1 c_1_4
    refine lv_tableIn (tgt := 83) (off := 82) hx hb dX10_count_1 (by rw [c_1_4]; decide) (by rw [c_1_4]; decide) (by rw [c_1_4]; rfl) (by decide) ?_
    refine lv_aload_n hx hb dX10_count_83 rfl (lv_at hl 0 rfl) ?_
    refine o_get (ci := 10) (T := TX10) hx hb hts hinX10 hown ho 0 rfl rfl 4 (by decide) hf40 rfl dX10_count_84 ?_
    refine o_get (ci := 2) (T := TX2) hx hb hts hinX2 hown ho 34 rfl rfl 0 (by decide) hf108 rfl dX10_count_87 ?_
    refine o_get (ci := 6) (T := TX6) hx hb hts hinX6 hown ho 35 rfl rfl 2 (by decide) hf99 rfl dX10_count_90 ?_
    exact hret lwN () _ _ _ _ dX10_count_93 ho hp
  replace hp := hp.2 c_1_4
  by_cases c_1_5 : v1 = 5
  · replace hp := hp.1 c_1_5
    refine lv_tableIn (tgt := 94) (off := 93) hx hb dX10_count_1 (by rw [c_1_5]; decide) (by rw [c_1_5]; decide) (by rw [c_1_5]; rfl) (by decide) ?_
    refine lv_aload_n hx hb dX10_count_94 rfl (lv_at hl 0 rfl) ?_
    refine o_get (ci := 10) (T := TX10) hx hb hts hinX10 hown ho 0 rfl rfl 5 (by decide) hf47 rfl dX10_count_95 ?_
    refine o_get (ci := 8) (T := TX8) hx hb hts hinX8 hown ho 43 rfl rfl 0 (by decide) hf111 rfl dX10_count_98 ?_
    exact hret twN () _ _ _ _ dX10_count_101 ho hp
  replace hp := hp.2 c_1_5
  by_cases c_1_6 : v1 = 6
  · replace hp := hp.1 c_1_6
    refine lv_tableIn (tgt := 102) (off := 101) hx hb dX10_count_1 (by rw [c_1_6]; decide) (by rw [c_1_6]; decide) (by rw [c_1_6]; rfl) (by decide) ?_
    refine lv_aload_n hx hb dX10_count_102 rfl (lv_at hl 0 rfl) ?_
    refine o_get (ci := 10) (T := TX10) hx hb hts hinX10 hown ho 0 rfl rfl 7 (by decide) hf61 rfl dX10_count_103 ?_
    refine o_get (ci := 5) (T := TX5) hx hb hts hinX5 hown ho 50 rfl rfl 1 (by decide) hf112 rfl dX10_count_106 ?_
    exact hret rwN () _ _ _ _ dX10_count_109 ho hp
  replace hp := hp.2 c_1_6
  by_cases c_1_7 : v1 = 7
  · replace hp := hp.1 c_1_7
    refine lv_tableIn (tgt := 110) (off := 109) hx hb dX10_count_1 (by rw [c_1_7]; decide) (by rw [c_1_7]; decide) (by rw [c_1_7]; rfl) (by decide) ?_
    refine lv_aload_n hx hb dX10_count_110 rfl (lv_at hl 0 rfl) ?_
    refine o_get (ci := 10) (T := TX10) hx hb hts hinX10 hown ho 0 rfl rfl 3 (by decide) hf33 rfl dX10_count_111 ?_
    refine o_get (ci := 7) (T := TX7) hx hb hts hinX7 hown ho 32 rfl rfl 1 (by decide) hf113 rfl dX10_count_114 ?_
    exact hret tpN () _ _ _ _ dX10_count_117 ho hp
  replace hp := hp.2 c_1_7
  have n_1_0 := ne_ti 0 (by decide : (0 : Int32).toInt = 0) c_1_0
  have n_1_1 := ne_ti 1 (by decide : (1 : Int32).toInt = 1) c_1_1
  have n_1_2 := ne_ti 2 (by decide : (2 : Int32).toInt = 2) c_1_2
  have n_1_3 := ne_ti 3 (by decide : (3 : Int32).toInt = 3) c_1_3
  have n_1_4 := ne_ti 4 (by decide : (4 : Int32).toInt = 4) c_1_4
  have n_1_5 := ne_ti 5 (by decide : (5 : Int32).toInt = 5) c_1_5
  have n_1_6 := ne_ti 6 (by decide : (6 : Int32).toInt = 6) c_1_6
  have n_1_7 := ne_ti 7 (by decide : (7 : Int32).toInt = 7) c_1_7
  refine lv_tableOut (tgt := 118) hx hb dX10_count_1 (by omega) (by decide) ?_
  refine lv_iconst (v := (-1)) hx hb dX10_count_118 (by decide) ?_
  exact hret (-1) () _ _ _ _ dX10_count_119 ho hp
set_option maxHeartbeats 4000000 in
set_option maxRecDepth 100000 in
theorem c_O_when (l : Launch) (D : va_G) (q : Nat → Nat) (c : Nat → ClassId) (tnN : Int32) (ckN : Int32) (stN : Int32) (trN : Int32) (dsT : Int32) (dsC : Int32) (tpN : Int32) (lwN : Int32) (rdS : Int32) (rdM : Int32) (rdE : Int32) (rdD : Int32) (twN : Int32) (rsW : Int32) (rsE : Int32) (rwN : Int32) (suns : Nat → Int32) (ckT : Nat → Int32) (ckD : Nat → Int32) (shf : Nat → Int32) (lnT : Nat → Int32) (ways : Nat → Int32) (ups : Nat → Int32) (sts : Nat → Int32) (sty : Nat → Int32) (dly : Nat → Int32) (gAp : Nat → Nat → Int32) (gOp : Nat → Nat → Int32) (stp : Nat → Int32) (bst : Nat → Int32) (sgn : Nat → Int32) (lwT : Nat → Int32) (lwD : Nat → Int32) (rdT : Nat → Int32) (rdO : Nat → Int32) (lwK : Nat → Int32) (lwM : Nat → Int32) (twS : Nat → Int32) (twM : Nat → Int32) (twD : Nat → Int32) (rsO : Nat → Int32) (rsB : Nat → Int32) (rwA : Nat → Int32) (v1 : Int32) (v2 : Int32) (Q : Int32 → Int32 → (Nat → Int32) → Prop) (hp : p_O_when tnN ckN suns ckT ckD shf rwN rwA v1 v2 Q) : oKi l yX10_when wsX10_when { frames := 4, cells := 0, slots := 0, locals := 89 } [.ref (q 0), .int v1, .int v2] D (oT c) (wO q c tnN ckN stN trN dsT dsC tpN lwN rdS rdM rdE rdD twN rsW rsE rwN suns ckT ckD shf lnT ways ups sts sty dly gAp gOp stp bst sgn lwT lwD rdT rdO lwK lwM twS twM twD rsO rsB rwA) (Int32 × (Nat → Int32)) (fun r (u : Int32 × (Nat → Int32)) => Q r u.1 u.2) (fun u => wO q c tnN ckN stN trN dsT dsC tpN lwN rdS rdM rdE rdD twN rsW rsE u.1 suns ckT ckD shf lnT ways ups sts sty dly gAp gOp stp bst sgn lwT lwD rdT rdO lwK lwM twS twM twD rsO rsB u.2) := by
  refine oKi.ofW (own := RX10) (cc := cX10_when) (maxL := 4) (plainFor_of_name (by decide +kernel)) rfl rfl (Nat.le_of_ble_eq_true rfl) (fun p e s m args below meth cd A ls Z hx hb hml hown hts hret ho hl => ?_)
  replace hl : lv_has ls 4 [(0, .ref (q 0)), (1, .int v1), (2, .int v2)] := hl
  have hinX10 : ∀ w ∈ u_ws RX10 TX10 8, w ∈ wsX10_when := by decide +kernel
  have hinX5 : ∀ w ∈ u_ws RX5 TX5 2, w ∈ wsX10_when := by decide +kernel
  have hf12 := hts (.fieldLink RX10 12 "OneTime" "towns" "LOneTime$Towns;") (by decide +kernel)
  have hf61 := hts (.fieldLink RX10 61 "OneTime" "told" "LOneTime$Row;") (by decide +kernel)
  have hf112 := hts (.fieldLink RX10 112 "OneTime$Row" "size" "I") (by decide +kernel)
  unfold p_O_when at hp
  refine lv_aload_n hx hb dX10_when_0 rfl (lv_at hl 0 rfl) ?_
  refine o_get (ci := 10) (T := TX10) hx hb hts hinX10 hown ho 0 rfl rfl 0 (by decide) hf12 rfl dX10_when_1 ?_
  refine lv_iload_n hx hb dX10_when_4 rfl (lv_at hl 1 rfl) ?_
  refine o_callVi (rest := []) (ci := 9) ⟨hx, hb, hml, hown, hts⟩ ho (c_Tn_has l D q c tnN ckN stN trN dsT dsC tpN lwN rdS rdM rdE rdD twN rsW rsE rwN suns ckT ckD shf lnT ways ups sts sty dly gAp gOp stp bst sgn lwT lwD rdT rdO lwK lwM twS twM twD rsO rsB rwA v1 _ hp) (cwV 1 hts gX10_when_X9_has rfl rfl rfl (by decide +kernel) ⟨(Nat.le_of_ble_eq_true rfl), (Nat.le_of_ble_eq_true rfl)⟩) 1 rfl rfl rfl hl.1 rfl (Nat.le_of_ble_eq_true rfl) dX10_when_5 ⟨Nat.zero_le _, Nat.zero_le _⟩ (fun r5 u H locs hp ho => ?_)
  try dsimp only at hp
  replace ho : oW D (oT c) A s.heap s (wO q c tnN ckN stN trN dsT dsC tpN lwN rdS rdM rdE rdD twN rsW rsE rwN suns ckT ckD shf lnT ways ups sts sty dly gAp gOp stp bst sgn lwT lwD rdT rdO lwK lwM twS twM twD rsO rsB rwA) H locs := ho
  refine lv_if_ne (tgt := 13) hx hb dX10_when_8 (by decide) (fun c_8 => ?_) (fun c_8 => ?_)
  · replace hp := hp.2 c_8
    refine lv_aload_n hx hb dX10_when_13 rfl (lv_at hl 0 rfl) ?_
    refine o_get (ci := 10) (T := TX10) hx hb hts hinX10 hown ho 0 rfl rfl 7 (by decide) hf61 rfl dX10_when_14 ?_
    refine o_callVv (rest := []) (ci := 5) ⟨hx, hb, hml, hown, hts⟩ ho (c_Rw_clear l D q c tnN ckN stN trN dsT dsC tpN lwN rdS rdM rdE rdD twN rsW rsE rwN suns ckT ckD shf lnT ways ups sts sty dly gAp gOp stp bst sgn lwT lwD rdT rdO lwK lwM twS twM twD rsO rsB rwA  _ hp) (cwV 0 hts gX10_when_X5_clear rfl rfl rfl (by decide +kernel) ⟨(Nat.le_of_ble_eq_true rfl), (Nat.le_of_ble_eq_true rfl)⟩) 50 rfl rfl rfl hl.1 rfl (Nat.le_of_ble_eq_true rfl) dX10_when_17 ⟨Nat.zero_le _, Nat.zero_le _⟩ (fun u H locs hp ho => ?_)
    obtain ⟨rwN_17, rfl⟩ : ∃ z, z = u := ⟨_, rfl⟩
    try dsimp only at hp
    replace ho : oW D (oT c) A s.heap s (wO q c tnN ckN stN trN dsT dsC tpN lwN rdS rdM rdE rdD twN rsW rsE rwN_17 suns ckT ckD shf lnT ways ups sts sty dly gAp gOp stp bst sgn lwT lwD rdT rdO lwK lwM twS twM twD rsO rsB rwA) H locs := ho
    refine lv_iload_n hx hb dX10_when_20 rfl (lv_at hl 2 rfl) ?_
    refine o_callSi (rest := []) ⟨hx, hb, hml, hown, hts⟩ ho (c_Tn_firstDayNear l D (oT c) (wO q c tnN ckN stN trN dsT dsC tpN lwN rdS rdM rdE rdD twN rsW rsE rwN_17 suns ckT ckD shf lnT ways ups sts sty dly gAp gOp stp bst sgn lwT lwD rdT rdO lwK lwM twS twM twD rsO rsB rwA) v2 _ hp) (va_cwS 1 hts gX10_when_X9_firstDayNear rfl rfl rfl (by decide +kernel) ⟨(Nat.le_of_ble_eq_true rfl), (Nat.le_of_ble_eq_true rfl)⟩) rfl hl.1 rfl (Nat.le_of_ble_eq_true rfl) dX10_when_21 ⟨Nat.zero_le _, Nat.zero_le _⟩ (fun r21 u H locs hp ho => ?_)
    try dsimp only at hp
    replace ho : oW D (oT c) A s.heap s (wO q c tnN ckN stN trN dsT dsC tpN lwN rdS rdM rdE rdD twN rsW rsE rwN_17 suns ckT ckD shf lnT ways ups sts sty dly gAp gOp stp bst sgn lwT lwD rdT rdO lwK lwM twS twM twD rsO rsB rwA) H locs := ho
    refine lv_istore_n (lv' := [(3, .int r21), (0, .ref (q 0)), (1, .int v1), (2, .int v2)]) hx hb dX10_when_24 rfl hl (by decide) rfl (fun ls hl => ?_)
    refine lv_aload_n hx hb dX10_when_25 rfl (lv_at hl 1 rfl) ?_
    refine o_get (ci := 10) (T := TX10) hx hb hts hinX10 hown ho 0 rfl rfl 7 (by decide) hf61 rfl dX10_when_26 ?_
    refine lv_aload_n hx hb dX10_when_29 rfl (lv_at hl 1 rfl) ?_
    refine o_get (ci := 10) (T := TX10) hx hb hts hinX10 hown ho 0 rfl rfl 0 (by decide) hf12 rfl dX10_when_30 ?_
    refine lv_iload_n hx hb dX10_when_33 rfl (lv_at hl 2 rfl) ?_
    refine lv_iload_n hx hb dX10_when_34 rfl (lv_at hl 0 rfl) ?_
    refine lv_iload_n hx hb dX10_when_35 rfl (lv_at hl 3 rfl) ?_
    refine o_callVi (rest := [.ref (q 50)]) (ci := 9) ⟨hx, hb, hml, hown, hts⟩ ho (c_Tn_minuteShowing l D q c tnN ckN stN trN dsT dsC tpN lwN rdS rdM rdE rdD twN rsW rsE rwN_17 suns ckT ckD shf lnT ways ups sts sty dly gAp gOp stp bst sgn lwT lwD rdT rdO lwK lwM twS twM twD rsO rsB rwA v1 r21 v2 _ hp) (cwV 3 hts gX10_when_X9_minuteShowing rfl rfl rfl (by decide +kernel) ⟨(Nat.le_of_ble_eq_true rfl), (Nat.le_of_ble_eq_true rfl)⟩) 1 rfl rfl rfl hl.1 rfl (Nat.le_of_ble_eq_true rfl) dX10_when_36 ⟨Nat.zero_le _, Nat.zero_le _⟩ (fun r36 u H locs hp ho => ?_)
    try dsimp only at hp
    replace ho : oW D (oT c) A s.heap s (wO q c tnN ckN stN trN dsT dsC tpN lwN rdS rdM rdE rdD twN rsW rsE rwN_17 suns ckT ckD shf lnT ways ups sts sty dly gAp gOp stp bst sgn lwT lwD rdT rdO lwK lwM twS twM twD rsO rsB rwA) H locs := ho
    refine o_callVv (rest := []) (ci := 5) ⟨hx, hb, hml, hown, hts⟩ ho (c_Rw_addMinute l D q c tnN ckN stN trN dsT dsC tpN lwN rdS rdM rdE rdD twN rsW rsE rwN_17 suns ckT ckD shf lnT ways ups sts sty dly gAp gOp stp bst sgn lwT lwD rdT rdO lwK lwM twS twM twD rsO rsB rwA r36 _ hp) (cwV 1 hts gX10_when_X5_addMinute rfl rfl rfl (by decide +kernel) ⟨(Nat.le_of_ble_eq_true rfl), (Nat.le_of_ble_eq_true rfl)⟩) 50 rfl rfl rfl hl.1 rfl (Nat.le_of_ble_eq_true rfl) dX10_when_39 ⟨Nat.zero_le _, Nat.zero_le _⟩ (fun u H locs hp ho => ?_)
    obtain ⟨rwN_39, rwA_39⟩ := u
    try dsimp only at hp
    replace ho : oW D (oT c) A s.heap s (wO q c tnN ckN stN trN dsT dsC tpN lwN rdS rdM rdE rdD twN rsW rsE rwN_39 suns ckT ckD shf lnT ways ups sts sty dly gAp gOp stp bst sgn lwT lwD rdT rdO lwK lwM twS twM twD rsO rsB rwA_39) H locs := ho
    refine lv_aload_n hx hb dX10_when_42 rfl (lv_at hl 1 rfl) ?_
    refine o_get (ci := 10) (T := TX10) hx hb hts hinX10 hown ho 0 rfl rfl 7 (by decide) hf61 rfl dX10_when_43 ?_
    refine lv_aload_n hx hb dX10_when_46 rfl (lv_at hl 1 rfl) ?_
    refine o_get (ci := 10) (T := TX10) hx hb hts hinX10 hown ho 0 rfl rfl 0 (by decide) hf12 rfl dX10_when_47 ?_
    refine lv_iload_n hx hb dX10_when_50 rfl (lv_at hl 2 rfl) ?_
    refine lv_iload_n hx hb dX10_when_51 rfl (lv_at hl 0 rfl) ?_
    refine lv_iconst (v := 1) hx hb dX10_when_52 (by decide) ?_
    refine lv_iadd hx hb dX10_when_53 ?_
    refine lv_iload_n hx hb dX10_when_54 rfl (lv_at hl 3 rfl) ?_
    refine o_callVi (rest := [.ref (q 50)]) (ci := 9) ⟨hx, hb, hml, hown, hts⟩ ho (c_Tn_minuteShowing l D q c tnN ckN stN trN dsT dsC tpN lwN rdS rdM rdE rdD twN rsW rsE rwN_39 suns ckT ckD shf lnT ways ups sts sty dly gAp gOp stp bst sgn lwT lwD rdT rdO lwK lwM twS twM twD rsO rsB rwA_39 v1 (r21 + 1) v2 _ hp) (cwV 3 hts gX10_when_X9_minuteShowing rfl rfl rfl (by decide +kernel) ⟨(Nat.le_of_ble_eq_true rfl), (Nat.le_of_ble_eq_true rfl)⟩) 1 rfl rfl rfl hl.1 rfl (Nat.le_of_ble_eq_true rfl) dX10_when_55 ⟨Nat.zero_le _, Nat.zero_le _⟩ (fun r55 u H locs hp ho => ?_)
    try dsimp only at hp
    replace ho : oW D (oT c) A s.heap s (wO q c tnN ckN stN trN dsT dsC tpN lwN rdS rdM rdE rdD twN rsW rsE rwN_39 suns ckT ckD shf lnT ways ups sts sty dly gAp gOp stp bst sgn lwT lwD rdT rdO lwK lwM twS twM twD rsO rsB rwA_39) H locs := ho
    refine o_callVv (rest := []) (ci := 5) ⟨hx, hb, hml, hown, hts⟩ ho (c_Rw_addMinute l D q c tnN ckN stN trN dsT dsC tpN lwN rdS rdM rdE rdD twN rsW rsE rwN_39 suns ckT ckD shf lnT ways ups sts sty dly gAp gOp stp bst sgn lwT lwD rdT rdO lwK lwM twS twM twD rsO rsB rwA_39 r55 _ hp) (cwV 1 hts gX10_when_X5_addMinute rfl rfl rfl (by decide +kernel) ⟨(Nat.le_of_ble_eq_true rfl), (Nat.le_of_ble_eq_true rfl)⟩) 50 rfl rfl rfl hl.1 rfl (Nat.le_of_ble_eq_true rfl) dX10_when_58 ⟨Nat.zero_le _, Nat.zero_le _⟩ (fun u H locs hp ho => ?_)
    obtain ⟨rwN_58, rwA_58⟩ := u
    try dsimp only at hp
    replace ho : oW D (oT c) A s.heap s (wO q c tnN ckN stN trN dsT dsC tpN lwN rdS rdM rdE rdD twN rsW rsE rwN_58 suns ckT ckD shf lnT ways ups sts sty dly gAp gOp stp bst sgn lwT lwD rdT rdO lwK lwM twS twM twD rsO rsB rwA_58) H locs := ho
    refine lv_aload_n hx hb dX10_when_61 rfl (lv_at hl 1 rfl) ?_
    refine o_get (ci := 10) (T := TX10) hx hb hts hinX10 hown ho 0 rfl rfl 7 (by decide) hf61 rfl dX10_when_62 ?_
    refine o_get (ci := 5) (T := TX5) hx hb hts hinX5 hown ho 50 rfl rfl 1 (by decide) hf112 rfl dX10_when_65 ?_
    exact hret rwN_58 (rwN_58, rwA_58) _ _ _ _ dX10_when_68 ho hp
  · replace hp := hp.1 c_8
    refine lv_iconst (v := (-1)) hx hb dX10_when_11 (by decide) ?_
    exact hret (-1) (rwN, rwA) _ _ _ _ dX10_when_12 ho hp
set_option maxHeartbeats 4000000 in
set_option maxRecDepth 100000 in
theorem c_O_unlike (l : Launch) (D : va_G) (q : Nat → Nat) (c : Nat → ClassId) (tnN : Int32) (ckN : Int32) (stN : Int32) (trN : Int32) (dsT : Int32) (dsC : Int32) (tpN : Int32) (lwN : Int32) (rdS : Int32) (rdM : Int32) (rdE : Int32) (rdD : Int32) (twN : Int32) (rsW : Int32) (rsE : Int32) (rwN : Int32) (suns : Nat → Int32) (ckT : Nat → Int32) (ckD : Nat → Int32) (shf : Nat → Int32) (lnT : Nat → Int32) (ways : Nat → Int32) (ups : Nat → Int32) (sts : Nat → Int32) (sty : Nat → Int32) (dly : Nat → Int32) (gAp : Nat → Nat → Int32) (gOp : Nat → Nat → Int32) (stp : Nat → Int32) (bst : Nat → Int32) (sgn : Nat → Int32) (lwT : Nat → Int32) (lwD : Nat → Int32) (rdT : Nat → Int32) (rdO : Nat → Int32) (lwK : Nat → Int32) (lwM : Nat → Int32) (twS : Nat → Int32) (twM : Nat → Int32) (twD : Nat → Int32) (rsO : Nat → Int32) (rsB : Nat → Int32) (rwA : Nat → Int32) (v1 : Int32) (v2 : Int32) (Q : Int32 → Prop) (hp : p_O_unlike tnN ckN suns ckT ckD shf v1 v2 Q) : oKi l yX10_unlike wsX10_unlike { frames := 4, cells := 0, slots := 0, locals := 91 } [.ref (q 0), .int v1, .int v2] D (oT c) (wO q c tnN ckN stN trN dsT dsC tpN lwN rdS rdM rdE rdD twN rsW rsE rwN suns ckT ckD shf lnT ways ups sts sty dly gAp gOp stp bst sgn lwT lwD rdT rdO lwK lwM twS twM twD rsO rsB rwA) (Unit) (fun r (_ : Unit) => Q r) (fun _ => wO q c tnN ckN stN trN dsT dsC tpN lwN rdS rdM rdE rdD twN rsW rsE rwN suns ckT ckD shf lnT ways ups sts sty dly gAp gOp stp bst sgn lwT lwD rdT rdO lwK lwM twS twM twD rsO rsB rwA) := by
  refine oKi.ofW (own := RX10) (cc := cX10_unlike) (maxL := 3) (plainFor_of_name (by decide +kernel)) rfl rfl (Nat.le_of_ble_eq_true rfl) (fun p e s m args below meth cd A ls Z hx hb hml hown hts hret ho hl => ?_)
  replace hl : lv_has ls 3 [(0, .ref (q 0)), (1, .int v1), (2, .int v2)] := hl
  have hinX10 : ∀ w ∈ u_ws RX10 TX10 8, w ∈ wsX10_unlike := by decide +kernel
  have hf12 := hts (.fieldLink RX10 12 "OneTime" "towns" "LOneTime$Towns;") (by decide +kernel)
  unfold p_O_unlike at hp
  refine lv_aload_n hx hb dX10_unlike_0 rfl (lv_at hl 0 rfl) ?_
  refine o_get (ci := 10) (T := TX10) hx hb hts hinX10 hown ho 0 rfl rfl 0 (by decide) hf12 rfl dX10_unlike_1 ?_
  refine lv_iload_n hx hb dX10_unlike_4 rfl (lv_at hl 1 rfl) ?_
  refine o_callVi (rest := []) (ci := 9) ⟨hx, hb, hml, hown, hts⟩ ho (c_Tn_has l D q c tnN ckN stN trN dsT dsC tpN lwN rdS rdM rdE rdD twN rsW rsE rwN suns ckT ckD shf lnT ways ups sts sty dly gAp gOp stp bst sgn lwT lwD rdT rdO lwK lwM twS twM twD rsO rsB rwA v1 _ hp) (cwV 1 hts gX10_unlike_X9_has rfl rfl rfl (by decide +kernel) ⟨(Nat.le_of_ble_eq_true rfl), (Nat.le_of_ble_eq_true rfl)⟩) 1 rfl rfl rfl hl.1 rfl (Nat.le_of_ble_eq_true rfl) dX10_unlike_5 ⟨Nat.zero_le _, Nat.zero_le _⟩ (fun r5 u H locs hp ho => ?_)
  try dsimp only at hp
  replace ho : oW D (oT c) A s.heap s (wO q c tnN ckN stN trN dsT dsC tpN lwN rdS rdM rdE rdD twN rsW rsE rwN suns ckT ckD shf lnT ways ups sts sty dly gAp gOp stp bst sgn lwT lwD rdT rdO lwK lwM twS twM twD rsO rsB rwA) H locs := ho
  refine lv_if_eq (tgt := 22) hx hb dX10_unlike_8 (by decide) (fun c_8 => ?_) (fun c_8 => ?_)
  · replace hp := hp.1 c_8
    refine lv_iconst (v := (-1)) hx hb dX10_unlike_22 (by decide) ?_
    exact hret (-1) () _ _ _ _ dX10_unlike_23 ho hp
  · replace hp := hp.2 c_8
    refine lv_aload_n hx hb dX10_unlike_11 rfl (lv_at hl 0 rfl) ?_
    refine o_get (ci := 10) (T := TX10) hx hb hts hinX10 hown ho 0 rfl rfl 0 (by decide) hf12 rfl dX10_unlike_12 ?_
    refine lv_iload_n hx hb dX10_unlike_15 rfl (lv_at hl 2 rfl) ?_
    refine o_callVi (rest := []) (ci := 9) ⟨hx, hb, hml, hown, hts⟩ ho (c_Tn_has l D q c tnN ckN stN trN dsT dsC tpN lwN rdS rdM rdE rdD twN rsW rsE rwN suns ckT ckD shf lnT ways ups sts sty dly gAp gOp stp bst sgn lwT lwD rdT rdO lwK lwM twS twM twD rsO rsB rwA v2 _ hp) (cwV 1 hts gX10_unlike_X9_has rfl rfl rfl (by decide +kernel) ⟨(Nat.le_of_ble_eq_true rfl), (Nat.le_of_ble_eq_true rfl)⟩) 1 rfl rfl rfl hl.1 rfl (Nat.le_of_ble_eq_true rfl) dX10_unlike_16 ⟨Nat.zero_le _, Nat.zero_le _⟩ (fun r16 u H locs hp ho => ?_)
    try dsimp only at hp
    replace ho : oW D (oT c) A s.heap s (wO q c tnN ckN stN trN dsT dsC tpN lwN rdS rdM rdE rdD twN rsW rsE rwN suns ckT ckD shf lnT ways ups sts sty dly gAp gOp stp bst sgn lwT lwD rdT rdO lwK lwM twS twM twD rsO rsB rwA) H locs := ho
    refine lv_if_ne (tgt := 24) hx hb dX10_unlike_19 (by decide) (fun c_19 => ?_) (fun c_19 => ?_)
    · replace hp := hp.2 c_19
      refine lv_aload_n hx hb dX10_unlike_24 rfl (lv_at hl 0 rfl) ?_
      refine o_get (ci := 10) (T := TX10) hx hb hts hinX10 hown ho 0 rfl rfl 0 (by decide) hf12 rfl dX10_unlike_25 ?_
      refine lv_iload_n hx hb dX10_unlike_28 rfl (lv_at hl 1 rfl) ?_
      refine lv_iload_n hx hb dX10_unlike_29 rfl (lv_at hl 2 rfl) ?_
      refine o_callVi (rest := []) (ci := 9) ⟨hx, hb, hml, hown, hts⟩ ho (c_Tn_daysUnlike l D q c tnN ckN stN trN dsT dsC tpN lwN rdS rdM rdE rdD twN rsW rsE rwN suns ckT ckD shf lnT ways ups sts sty dly gAp gOp stp bst sgn lwT lwD rdT rdO lwK lwM twS twM twD rsO rsB rwA v1 v2 _ hp) (cwV 2 hts gX10_unlike_X9_daysUnlike rfl rfl rfl (by decide +kernel) ⟨(Nat.le_of_ble_eq_true rfl), (Nat.le_of_ble_eq_true rfl)⟩) 1 rfl rfl rfl hl.1 rfl (Nat.le_of_ble_eq_true rfl) dX10_unlike_30 ⟨Nat.zero_le _, Nat.zero_le _⟩ (fun r30 u H locs hp ho => ?_)
      try dsimp only at hp
      replace ho : oW D (oT c) A s.heap s (wO q c tnN ckN stN trN dsT dsC tpN lwN rdS rdM rdE rdD twN rsW rsE rwN suns ckT ckD shf lnT ways ups sts sty dly gAp gOp stp bst sgn lwT lwD rdT rdO lwK lwM twS twM twD rsO rsB rwA) H locs := ho
      exact hret r30 () _ _ _ _ dX10_unlike_33 ho hp
    · replace hp := hp.1 c_19
      refine lv_iconst (v := (-1)) hx hb dX10_unlike_22 (by decide) ?_
      exact hret (-1) () _ _ _ _ dX10_unlike_23 ho hp
set_option maxHeartbeats 4000000 in
set_option maxRecDepth 100000 in
theorem c_O_one (l : Launch) (D : va_G) (q : Nat → Nat) (c : Nat → ClassId) (tnN : Int32) (ckN : Int32) (stN : Int32) (trN : Int32) (dsT : Int32) (dsC : Int32) (tpN : Int32) (lwN : Int32) (rdS : Int32) (rdM : Int32) (rdE : Int32) (rdD : Int32) (twN : Int32) (rsW : Int32) (rsE : Int32) (rwN : Int32) (suns : Nat → Int32) (ckT : Nat → Int32) (ckD : Nat → Int32) (shf : Nat → Int32) (lnT : Nat → Int32) (ways : Nat → Int32) (ups : Nat → Int32) (sts : Nat → Int32) (sty : Nat → Int32) (dly : Nat → Int32) (gAp : Nat → Nat → Int32) (gOp : Nat → Nat → Int32) (stp : Nat → Int32) (bst : Nat → Int32) (sgn : Nat → Int32) (lwT : Nat → Int32) (lwD : Nat → Int32) (rdT : Nat → Int32) (rdO : Nat → Int32) (lwK : Nat → Int32) (lwM : Nat → Int32) (twS : Nat → Int32) (twM : Nat → Int32) (twD : Nat → Int32) (rsO : Nat → Int32) (rsB : Nat → Int32) (rwA : Nat → Int32) (v1 : Int32) (Q : Int32 → Prop) (hp : p_O_one tnN ckN suns ckT ckD shf v1 Q) : oKi l yX10_one wsX10_one { frames := 5, cells := 0, slots := 0, locals := 111 } [.ref (q 0), .int v1] D (oT c) (wO q c tnN ckN stN trN dsT dsC tpN lwN rdS rdM rdE rdD twN rsW rsE rwN suns ckT ckD shf lnT ways ups sts sty dly gAp gOp stp bst sgn lwT lwD rdT rdO lwK lwM twS twM twD rsO rsB rwA) (Unit) (fun r (_ : Unit) => Q r) (fun _ => wO q c tnN ckN stN trN dsT dsC tpN lwN rdS rdM rdE rdD twN rsW rsE rwN suns ckT ckD shf lnT ways ups sts sty dly gAp gOp stp bst sgn lwT lwD rdT rdO lwK lwM twS twM twD rsO rsB rwA) := by
  refine oKi.ofW (own := RX10) (cc := cX10_one) (maxL := 2) (plainFor_of_name (by decide +kernel)) rfl rfl (Nat.le_of_ble_eq_true rfl) (fun p e s m args below meth cd A ls Z hx hb hml hown hts hret ho hl => ?_)
  replace hl : lv_has ls 2 [(0, .ref (q 0)), (1, .int v1)] := hl
  have hinX10 : ∀ w ∈ u_ws RX10 TX10 8, w ∈ wsX10_one := by decide +kernel
  have hf12 := hts (.fieldLink RX10 12 "OneTime" "towns" "LOneTime$Towns;") (by decide +kernel)
  unfold p_O_one at hp
  refine lv_iload_n hx hb dX10_one_0 rfl (lv_at hl 1 rfl) ?_
  refine o_callSi (rest := []) ⟨hx, hb, hml, hown, hts⟩ ho (c_O_isDay l D (oT c) (wO q c tnN ckN stN trN dsT dsC tpN lwN rdS rdM rdE rdD twN rsW rsE rwN suns ckT ckD shf lnT ways ups sts sty dly gAp gOp stp bst sgn lwT lwD rdT rdO lwK lwM twS twM twD rsO rsB rwA) v1 _ hp) (va_cwS 1 hts gX10_one_X10_isDay rfl rfl rfl (by decide +kernel) ⟨(Nat.le_of_ble_eq_true rfl), (Nat.le_of_ble_eq_true rfl)⟩) rfl hl.1 rfl (Nat.le_of_ble_eq_true rfl) dX10_one_1 ⟨Nat.zero_le _, Nat.zero_le _⟩ (fun r1 u H locs hp ho => ?_)
  try dsimp only at hp
  replace ho : oW D (oT c) A s.heap s (wO q c tnN ckN stN trN dsT dsC tpN lwN rdS rdM rdE rdD twN rsW rsE rwN suns ckT ckD shf lnT ways ups sts sty dly gAp gOp stp bst sgn lwT lwD rdT rdO lwK lwM twS twM twD rsO rsB rwA) H locs := ho
  refine lv_if_eq (tgt := 18) hx hb dX10_one_4 (by decide) (fun c_4 => ?_) (fun c_4 => ?_)
  · replace hp := hp.1 c_4
    refine lv_iconst (v := (-1)) hx hb dX10_one_18 (by decide) ?_
    exact hret (-1) () _ _ _ _ dX10_one_19 ho hp
  · replace hp := hp.2 c_4
    refine lv_aload_n hx hb dX10_one_7 rfl (lv_at hl 0 rfl) ?_
    refine o_get (ci := 10) (T := TX10) hx hb hts hinX10 hown ho 0 rfl rfl 0 (by decide) hf12 rfl dX10_one_8 ?_
    refine lv_iload_n hx hb dX10_one_11 rfl (lv_at hl 1 rfl) ?_
    refine o_callVi (rest := []) (ci := 9) ⟨hx, hb, hml, hown, hts⟩ ho (c_Tn_firstDayAlike l D q c tnN ckN stN trN dsT dsC tpN lwN rdS rdM rdE rdD twN rsW rsE rwN suns ckT ckD shf lnT ways ups sts sty dly gAp gOp stp bst sgn lwT lwD rdT rdO lwK lwM twS twM twD rsO rsB rwA v1 _ hp) (cwV 1 hts gX10_one_X9_firstDayAlike rfl rfl rfl (by decide +kernel) ⟨(Nat.le_of_ble_eq_true rfl), (Nat.le_of_ble_eq_true rfl)⟩) 1 rfl rfl rfl hl.1 rfl (Nat.le_of_ble_eq_true rfl) dX10_one_12 ⟨Nat.zero_le _, Nat.zero_le _⟩ (fun r12 u H locs hp ho => ?_)
    try dsimp only at hp
    replace ho : oW D (oT c) A s.heap s (wO q c tnN ckN stN trN dsT dsC tpN lwN rdS rdM rdE rdD twN rsW rsE rwN suns ckT ckD shf lnT ways ups sts sty dly gAp gOp stp bst sgn lwT lwD rdT rdO lwK lwM twS twM twD rsO rsB rwA) H locs := ho
    refine lv_goto (tgt := 19) hx hb dX10_one_15 (by decide) ?_
    exact hret r12 () _ _ _ _ dX10_one_19 ho hp
set_option maxHeartbeats 4000000 in
set_option maxRecDepth 100000 in
theorem c_O_station (l : Launch) (D : va_G) (q : Nat → Nat) (c : Nat → ClassId) (tnN : Int32) (ckN : Int32) (stN : Int32) (trN : Int32) (dsT : Int32) (dsC : Int32) (tpN : Int32) (lwN : Int32) (rdS : Int32) (rdM : Int32) (rdE : Int32) (rdD : Int32) (twN : Int32) (rsW : Int32) (rsE : Int32) (rwN : Int32) (suns : Nat → Int32) (ckT : Nat → Int32) (ckD : Nat → Int32) (shf : Nat → Int32) (lnT : Nat → Int32) (ways : Nat → Int32) (ups : Nat → Int32) (sts : Nat → Int32) (sty : Nat → Int32) (dly : Nat → Int32) (gAp : Nat → Nat → Int32) (gOp : Nat → Nat → Int32) (stp : Nat → Int32) (bst : Nat → Int32) (sgn : Nat → Int32) (lwT : Nat → Int32) (lwD : Nat → Int32) (rdT : Nat → Int32) (rdO : Nat → Int32) (lwK : Nat → Int32) (lwM : Nat → Int32) (twS : Nat → Int32) (twM : Nat → Int32) (twD : Nat → Int32) (rsO : Nat → Int32) (rsB : Nat → Int32) (rwA : Nat → Int32) (v1 : Int32) (v2 : Int32) (Q : Int32 → Int32 → (Nat → Int32) → (Nat → Int32) → Prop) (hp : p_O_station tnN trN stN lnT ways v1 v2 Q) : oKi l yX10_station wsX10_station { frames := 1, cells := 0, slots := 0, locals := 22 } [.ref (q 0), .int v1, .int v2] D (oT c) (wO q c tnN ckN stN trN dsT dsC tpN lwN rdS rdM rdE rdD twN rsW rsE rwN suns ckT ckD shf lnT ways ups sts sty dly gAp gOp stp bst sgn lwT lwD rdT rdO lwK lwM twS twM twD rsO rsB rwA) (Int32 × (Nat → Int32) × (Nat → Int32)) (fun r (u : Int32 × (Nat → Int32) × (Nat → Int32)) => Q r u.1 u.2.1 u.2.2) (fun u => wO q c tnN ckN u.1 trN dsT dsC tpN lwN rdS rdM rdE rdD twN rsW rsE rwN suns ckT ckD shf u.2.1 u.2.2 ups sts sty dly gAp gOp stp bst sgn lwT lwD rdT rdO lwK lwM twS twM twD rsO rsB rwA) := by
  refine oKi.ofW (own := RX10) (cc := cX10_station) (maxL := 3) (plainFor_of_name (by decide +kernel)) rfl rfl (Nat.le_of_ble_eq_true rfl) (fun p e s m args below meth cd A ls Z hx hb hml hown hts hret ho hl => ?_)
  replace hl : lv_has ls 3 [(0, .ref (q 0)), (1, .int v1), (2, .int v2)] := hl
  have hinX10 : ∀ w ∈ u_ws RX10 TX10 8, w ∈ wsX10_station := by decide +kernel
  have hf12 := hts (.fieldLink RX10 12 "OneTime" "towns" "LOneTime$Towns;") (by decide +kernel)
  have hf19 := hts (.fieldLink RX10 19 "OneTime" "line" "LOneTime$Line;") (by decide +kernel)
  unfold p_O_station at hp
  refine lv_aload_n hx hb dX10_station_0 rfl (lv_at hl 0 rfl) ?_
  refine o_get (ci := 10) (T := TX10) hx hb hts hinX10 hown ho 0 rfl rfl 0 (by decide) hf12 rfl dX10_station_1 ?_
  refine lv_iload_n hx hb dX10_station_4 rfl (lv_at hl 1 rfl) ?_
  refine o_callVi (rest := []) (ci := 9) ⟨hx, hb, hml, hown, hts⟩ ho (c_Tn_has l D q c tnN ckN stN trN dsT dsC tpN lwN rdS rdM rdE rdD twN rsW rsE rwN suns ckT ckD shf lnT ways ups sts sty dly gAp gOp stp bst sgn lwT lwD rdT rdO lwK lwM twS twM twD rsO rsB rwA v1 _ hp) (cwV 1 hts gX10_station_X9_has rfl rfl rfl (by decide +kernel) ⟨(Nat.le_of_ble_eq_true rfl), (Nat.le_of_ble_eq_true rfl)⟩) 1 rfl rfl rfl hl.1 rfl (Nat.le_of_ble_eq_true rfl) dX10_station_5 ⟨Nat.zero_le _, Nat.zero_le _⟩ (fun r5 u H locs hp ho => ?_)
  try dsimp only at hp
  replace ho : oW D (oT c) A s.heap s (wO q c tnN ckN stN trN dsT dsC tpN lwN rdS rdM rdE rdD twN rsW rsE rwN suns ckT ckD shf lnT ways ups sts sty dly gAp gOp stp bst sgn lwT lwD rdT rdO lwK lwM twS twM twD rsO rsB rwA) H locs := ho
  refine lv_if_ne (tgt := 13) hx hb dX10_station_8 (by decide) (fun c_8 => ?_) (fun c_8 => ?_)
  · replace hp := hp.2 c_8
    refine lv_aload_n hx hb dX10_station_13 rfl (lv_at hl 0 rfl) ?_
    refine o_get (ci := 10) (T := TX10) hx hb hts hinX10 hown ho 0 rfl rfl 1 (by decide) hf19 rfl dX10_station_14 ?_
    refine lv_iload_n hx hb dX10_station_17 rfl (lv_at hl 1 rfl) ?_
    refine lv_iload_n hx hb dX10_station_18 rfl (lv_at hl 2 rfl) ?_
    refine o_callVi (rest := []) (ci := 3) ⟨hx, hb, hml, hown, hts⟩ ho (c_Ln_build l D q c tnN ckN stN trN dsT dsC tpN lwN rdS rdM rdE rdD twN rsW rsE rwN suns ckT ckD shf lnT ways ups sts sty dly gAp gOp stp bst sgn lwT lwD rdT rdO lwK lwM twS twM twD rsO rsB rwA v1 v2 _ hp) (cwV 2 hts gX10_station_X3_build rfl rfl rfl (by decide +kernel) ⟨(Nat.le_of_ble_eq_true rfl), (Nat.le_of_ble_eq_true rfl)⟩) 7 rfl rfl rfl hl.1 rfl (Nat.le_of_ble_eq_true rfl) dX10_station_19 ⟨Nat.zero_le _, Nat.zero_le _⟩ (fun r19 u H locs hp ho => ?_)
    obtain ⟨stN_19, lnT_19, ways_19⟩ := u
    try dsimp only at hp
    replace ho : oW D (oT c) A s.heap s (wO q c tnN ckN stN_19 trN dsT dsC tpN lwN rdS rdM rdE rdD twN rsW rsE rwN suns ckT ckD shf lnT_19 ways_19 ups sts sty dly gAp gOp stp bst sgn lwT lwD rdT rdO lwK lwM twS twM twD rsO rsB rwA) H locs := ho
    exact hret r19 (stN_19, lnT_19, ways_19) _ _ _ _ dX10_station_22 ho hp
  · replace hp := hp.1 c_8
    refine lv_iconst (v := (-1)) hx hb dX10_station_11 (by decide) ?_
    exact hret (-1) (stN, lnT, ways) _ _ _ _ dX10_station_12 ho hp
set_option maxHeartbeats 4000000 in
set_option maxRecDepth 100000 in
theorem c_O_train (l : Launch) (D : va_G) (q : Nat → Nat) (c : Nat → ClassId) (tnN : Int32) (ckN : Int32) (stN : Int32) (trN : Int32) (dsT : Int32) (dsC : Int32) (tpN : Int32) (lwN : Int32) (rdS : Int32) (rdM : Int32) (rdE : Int32) (rdD : Int32) (twN : Int32) (rsW : Int32) (rsE : Int32) (rwN : Int32) (suns : Nat → Int32) (ckT : Nat → Int32) (ckD : Nat → Int32) (shf : Nat → Int32) (lnT : Nat → Int32) (ways : Nat → Int32) (ups : Nat → Int32) (sts : Nat → Int32) (sty : Nat → Int32) (dly : Nat → Int32) (gAp : Nat → Nat → Int32) (gOp : Nat → Nat → Int32) (stp : Nat → Int32) (bst : Nat → Int32) (sgn : Nat → Int32) (lwT : Nat → Int32) (lwD : Nat → Int32) (rdT : Nat → Int32) (rdO : Nat → Int32) (lwK : Nat → Int32) (lwM : Nat → Int32) (twS : Nat → Int32) (twM : Nat → Int32) (twD : Nat → Int32) (rsO : Nat → Int32) (rsB : Nat → Int32) (rwA : Nat → Int32) (v1 : Int32) (v2 : Int32) (v3 : Int32) (v4 : Int32) (Q : Int32 → Int32 → (Nat → Int32) → (Nat → Int32) → (Nat → Int32) → (Nat → Int32) → Prop) (hp : p_O_train tnN ckN stN suns ckT ckD shf lnT trN ups sts sty dly v1 v2 v3 v4 Q) : oKi l yX10_train wsX10_train { frames := 5, cells := 0, slots := 0, locals := 113 } [.ref (q 0), .int v1, .int v2, .int v3, .int v4] D (oT c) (wO q c tnN ckN stN trN dsT dsC tpN lwN rdS rdM rdE rdD twN rsW rsE rwN suns ckT ckD shf lnT ways ups sts sty dly gAp gOp stp bst sgn lwT lwD rdT rdO lwK lwM twS twM twD rsO rsB rwA) (Int32 × (Nat → Int32) × (Nat → Int32) × (Nat → Int32) × (Nat → Int32)) (fun r (u : Int32 × (Nat → Int32) × (Nat → Int32) × (Nat → Int32) × (Nat → Int32)) => Q r u.1 u.2.1 u.2.2.1 u.2.2.2.1 u.2.2.2.2) (fun u => wO q c tnN ckN stN u.1 dsT dsC tpN lwN rdS rdM rdE rdD twN rsW rsE rwN suns ckT ckD shf lnT ways u.2.1 u.2.2.1 u.2.2.2.1 u.2.2.2.2 gAp gOp stp bst sgn lwT lwD rdT rdO lwK lwM twS twM twD rsO rsB rwA) := by
  refine oKi.ofW (own := RX10) (cc := cX10_train) (maxL := 6) (plainFor_of_name (by decide +kernel)) rfl rfl (Nat.le_of_ble_eq_true rfl) (fun p e s m args below meth cd A ls Z hx hb hml hown hts hret ho hl => ?_)
  replace hl : lv_has ls 6 [(0, .ref (q 0)), (1, .int v1), (2, .int v2), (3, .int v3), (4, .int v4)] := hl
  have hinX10 : ∀ w ∈ u_ws RX10 TX10 8, w ∈ wsX10_train := by decide +kernel
  have hf12 := hts (.fieldLink RX10 12 "OneTime" "towns" "LOneTime$Towns;") (by decide +kernel)
  have hf19 := hts (.fieldLink RX10 19 "OneTime" "line" "LOneTime$Line;") (by decide +kernel)
  unfold p_O_train at hp
  refine lv_iload_n hx hb dX10_train_0 rfl (lv_at hl 2 rfl) ?_
  refine o_callSi (rest := []) ⟨hx, hb, hml, hown, hts⟩ ho (c_O_isDay l D (oT c) (wO q c tnN ckN stN trN dsT dsC tpN lwN rdS rdM rdE rdD twN rsW rsE rwN suns ckT ckD shf lnT ways ups sts sty dly gAp gOp stp bst sgn lwT lwD rdT rdO lwK lwM twS twM twD rsO rsB rwA) v2 _ hp) (va_cwS 1 hts gX10_train_X10_isDay rfl rfl rfl (by decide +kernel) ⟨(Nat.le_of_ble_eq_true rfl), (Nat.le_of_ble_eq_true rfl)⟩) rfl hl.1 rfl (Nat.le_of_ble_eq_true rfl) dX10_train_1 ⟨Nat.zero_le _, Nat.zero_le _⟩ (fun r1 u H locs hp ho => ?_)
  try dsimp only at hp
  replace ho : oW D (oT c) A s.heap s (wO q c tnN ckN stN trN dsT dsC tpN lwN rdS rdM rdE rdD twN rsW rsE rwN suns ckT ckD shf lnT ways ups sts sty dly gAp gOp stp bst sgn lwT lwD rdT rdO lwK lwM twS twM twD rsO rsB rwA) H locs := ho
  refine lv_if_eq (tgt := 36) hx hb dX10_train_4 (by decide) (fun c_4 => ?_) (fun c_4 => ?_)
  · replace hp := hp.1 c_4
    refine lv_iconst (v := (-1)) hx hb dX10_train_36 (by decide) ?_
    exact hret (-1) (trN, ups, sts, sty, dly) _ _ _ _ dX10_train_37 ho hp
  · replace hp := hp.2 c_4
    refine lv_iload_n hx hb dX10_train_7 rfl (lv_at hl 3 rfl) ?_
    refine o_callSi (rest := []) ⟨hx, hb, hml, hown, hts⟩ ho (c_O_isTimeOfDay l D (oT c) (wO q c tnN ckN stN trN dsT dsC tpN lwN rdS rdM rdE rdD twN rsW rsE rwN suns ckT ckD shf lnT ways ups sts sty dly gAp gOp stp bst sgn lwT lwD rdT rdO lwK lwM twS twM twD rsO rsB rwA) v3 _ hp) (va_cwS 1 hts gX10_train_X10_isTimeOfDay rfl rfl rfl (by decide +kernel) ⟨(Nat.le_of_ble_eq_true rfl), (Nat.le_of_ble_eq_true rfl)⟩) rfl hl.1 rfl (Nat.le_of_ble_eq_true rfl) dX10_train_8 ⟨Nat.zero_le _, Nat.zero_le _⟩ (fun r8 u H locs hp ho => ?_)
    try dsimp only at hp
    replace ho : oW D (oT c) A s.heap s (wO q c tnN ckN stN trN dsT dsC tpN lwN rdS rdM rdE rdD twN rsW rsE rwN suns ckT ckD shf lnT ways ups sts sty dly gAp gOp stp bst sgn lwT lwD rdT rdO lwK lwM twS twM twD rsO rsB rwA) H locs := ho
    refine lv_if_eq (tgt := 36) hx hb dX10_train_11 (by decide) (fun c_11 => ?_) (fun c_11 => ?_)
    · replace hp := hp.1 c_11
      refine lv_iconst (v := (-1)) hx hb dX10_train_36 (by decide) ?_
      exact hret (-1) (trN, ups, sts, sty, dly) _ _ _ _ dX10_train_37 ho hp
    · replace hp := hp.2 c_11
      refine lv_iload hx hb dX10_train_14 (lv_at hl 4 rfl) ?_
      refine lv_if_lt (tgt := 36) hx hb dX10_train_16 (by decide) (fun c_16 => ?_) (fun c_16 => ?_)
      · replace hp := hp.1 c_16
        refine lv_iconst (v := (-1)) hx hb dX10_train_36 (by decide) ?_
        exact hret (-1) (trN, ups, sts, sty, dly) _ _ _ _ dX10_train_37 ho hp
      · replace hp := hp.2 c_16
        refine lv_iload hx hb dX10_train_19 (lv_at hl 4 rfl) ?_
        refine lv_bipush (v := 60) hx hb dX10_train_21 (by decide) ?_
        refine lv_icmp_gt (tgt := 36) hx hb dX10_train_23 (by decide) (fun c_23 => ?_) (fun c_23 => ?_)
        · replace hp := hp.1 c_23
          refine lv_iconst (v := (-1)) hx hb dX10_train_36 (by decide) ?_
          exact hret (-1) (trN, ups, sts, sty, dly) _ _ _ _ dX10_train_37 ho hp
        · replace hp := hp.2 c_23
          refine lv_aload_n hx hb dX10_train_26 rfl (lv_at hl 0 rfl) ?_
          refine o_get (ci := 10) (T := TX10) hx hb hts hinX10 hown ho 0 rfl rfl 1 (by decide) hf19 rfl dX10_train_27 ?_
          refine o_callVi (rest := []) (ci := 3) ⟨hx, hb, hml, hown, hts⟩ ho (c_Ln_takesTrains l D q c tnN ckN stN trN dsT dsC tpN lwN rdS rdM rdE rdD twN rsW rsE rwN suns ckT ckD shf lnT ways ups sts sty dly gAp gOp stp bst sgn lwT lwD rdT rdO lwK lwM twS twM twD rsO rsB rwA  _ hp) (cwV 0 hts gX10_train_X3_takesTrains rfl rfl rfl (by decide +kernel) ⟨(Nat.le_of_ble_eq_true rfl), (Nat.le_of_ble_eq_true rfl)⟩) 7 rfl rfl rfl hl.1 rfl (Nat.le_of_ble_eq_true rfl) dX10_train_30 ⟨Nat.zero_le _, Nat.zero_le _⟩ (fun r30 u H locs hp ho => ?_)
          try dsimp only at hp
          replace ho : oW D (oT c) A s.heap s (wO q c tnN ckN stN trN dsT dsC tpN lwN rdS rdM rdE rdD twN rsW rsE rwN suns ckT ckD shf lnT ways ups sts sty dly gAp gOp stp bst sgn lwT lwD rdT rdO lwK lwM twS twM twD rsO rsB rwA) H locs := ho
          refine lv_if_ne (tgt := 38) hx hb dX10_train_33 (by decide) (fun c_33 => ?_) (fun c_33 => ?_)
          · replace hp := hp.2 c_33
            refine lv_aload_n hx hb dX10_train_38 rfl (lv_at hl 0 rfl) ?_
            refine o_get (ci := 10) (T := TX10) hx hb hts hinX10 hown ho 0 rfl rfl 0 (by decide) hf12 rfl dX10_train_39 ?_
            refine lv_aload_n hx hb dX10_train_42 rfl (lv_at hl 0 rfl) ?_
            refine o_get (ci := 10) (T := TX10) hx hb hts hinX10 hown ho 0 rfl rfl 1 (by decide) hf19 rfl dX10_train_43 ?_
            refine lv_iload_n hx hb dX10_train_46 rfl (lv_at hl 1 rfl) ?_
            refine o_callVi (rest := [.ref (q 1)]) (ci := 3) ⟨hx, hb, hml, hown, hts⟩ ho (c_Ln_firstTown l D q c tnN ckN stN trN dsT dsC tpN lwN rdS rdM rdE rdD twN rsW rsE rwN suns ckT ckD shf lnT ways ups sts sty dly gAp gOp stp bst sgn lwT lwD rdT rdO lwK lwM twS twM twD rsO rsB rwA v1 _ hp) (cwV 1 hts gX10_train_X3_firstTown rfl rfl rfl (by decide +kernel) ⟨(Nat.le_of_ble_eq_true rfl), (Nat.le_of_ble_eq_true rfl)⟩) 7 rfl rfl rfl hl.1 rfl (Nat.le_of_ble_eq_true rfl) dX10_train_47 ⟨Nat.zero_le _, Nat.zero_le _⟩ (fun r47 u H locs hp ho => ?_)
            try dsimp only at hp
            replace ho : oW D (oT c) A s.heap s (wO q c tnN ckN stN trN dsT dsC tpN lwN rdS rdM rdE rdD twN rsW rsE rwN suns ckT ckD shf lnT ways ups sts sty dly gAp gOp stp bst sgn lwT lwD rdT rdO lwK lwM twS twM twD rsO rsB rwA) H locs := ho
            refine lv_iload_n hx hb dX10_train_50 rfl (lv_at hl 2 rfl) ?_
            refine lv_sipush (v := 1440) hx hb dX10_train_51 (by decide) ?_
            refine lv_imul hx hb dX10_train_54 ?_
            refine lv_iload_n hx hb dX10_train_55 rfl (lv_at hl 3 rfl) ?_
            refine lv_iadd hx hb dX10_train_56 ?_
            refine o_callVi (rest := []) (ci := 9) ⟨hx, hb, hml, hown, hts⟩ ho (c_Tn_firstShowing l D q c tnN ckN stN trN dsT dsC tpN lwN rdS rdM rdE rdD twN rsW rsE rwN suns ckT ckD shf lnT ways ups sts sty dly gAp gOp stp bst sgn lwT lwD rdT rdO lwK lwM twS twM twD rsO rsB rwA r47 ((v2 * 1440) + v3) _ hp) (cwV 2 hts gX10_train_X9_firstShowing rfl rfl rfl (by decide +kernel) ⟨(Nat.le_of_ble_eq_true rfl), (Nat.le_of_ble_eq_true rfl)⟩) 1 rfl rfl rfl hl.1 rfl (Nat.le_of_ble_eq_true rfl) dX10_train_57 ⟨Nat.zero_le _, Nat.zero_le _⟩ (fun r57 u H locs hp ho => ?_)
            try dsimp only at hp
            replace ho : oW D (oT c) A s.heap s (wO q c tnN ckN stN trN dsT dsC tpN lwN rdS rdM rdE rdD twN rsW rsE rwN suns ckT ckD shf lnT ways ups sts sty dly gAp gOp stp bst sgn lwT lwD rdT rdO lwK lwM twS twM twD rsO rsB rwA) H locs := ho
            refine lv_istore (lv' := [(5, .int r57), (0, .ref (q 0)), (1, .int v1), (2, .int v2), (3, .int v3), (4, .int v4)]) hx hb dX10_train_60 hl (by decide) rfl (fun ls hl => ?_)
            refine lv_iload hx hb dX10_train_62 (lv_at hl 0 rfl) ?_
            refine lv_iconst (v := (-1)) hx hb dX10_train_64 (by decide) ?_
            refine lv_icmp_ne (tgt := 72) hx hb dX10_train_65 (by decide) (fun c_65 => ?_) (fun c_65 => ?_)
            · replace hp := hp.2 c_65
              refine lv_aload_n hx hb dX10_train_72 rfl (lv_at hl 1 rfl) ?_
              refine o_get (ci := 10) (T := TX10) hx hb hts hinX10 hown ho 0 rfl rfl 1 (by decide) hf19 rfl dX10_train_73 ?_
              refine lv_iload_n hx hb dX10_train_76 rfl (lv_at hl 2 rfl) ?_
              refine lv_iload hx hb dX10_train_77 (lv_at hl 0 rfl) ?_
              refine lv_iload hx hb dX10_train_79 (lv_at hl 5 rfl) ?_
              refine o_callVi (rest := []) (ci := 3) ⟨hx, hb, hml, hown, hts⟩ ho (c_Ln_addTrain l D q c tnN ckN stN trN dsT dsC tpN lwN rdS rdM rdE rdD twN rsW rsE rwN suns ckT ckD shf lnT ways ups sts sty dly gAp gOp stp bst sgn lwT lwD rdT rdO lwK lwM twS twM twD rsO rsB rwA v1 r57 v4 _ hp) (cwV 3 hts gX10_train_X3_addTrain rfl rfl rfl (by decide +kernel) ⟨(Nat.le_of_ble_eq_true rfl), (Nat.le_of_ble_eq_true rfl)⟩) 7 rfl rfl rfl hl.1 rfl (Nat.le_of_ble_eq_true rfl) dX10_train_81 ⟨Nat.zero_le _, Nat.zero_le _⟩ (fun r81 u H locs hp ho => ?_)
              obtain ⟨trN_81, ups_81, sts_81, sty_81, dly_81⟩ := u
              try dsimp only at hp
              replace ho : oW D (oT c) A s.heap s (wO q c tnN ckN stN trN_81 dsT dsC tpN lwN rdS rdM rdE rdD twN rsW rsE rwN suns ckT ckD shf lnT ways ups_81 sts_81 sty_81 dly_81 gAp gOp stp bst sgn lwT lwD rdT rdO lwK lwM twS twM twD rsO rsB rwA) H locs := ho
              exact hret r81 (trN_81, ups_81, sts_81, sty_81, dly_81) _ _ _ _ dX10_train_84 ho hp
            · replace hp := hp.1 c_65
              refine lv_iconst (v := (-1)) hx hb dX10_train_68 (by decide) ?_
              refine lv_goto (tgt := 84) hx hb dX10_train_69 (by decide) ?_
              exact hret (-1) (trN, ups, sts, sty, dly) _ _ _ _ dX10_train_84 ho hp
          · replace hp := hp.1 c_33
            refine lv_iconst (v := (-1)) hx hb dX10_train_36 (by decide) ?_
            exact hret (-1) (trN, ups, sts, sty, dly) _ _ _ _ dX10_train_37 ho hp
set_option maxHeartbeats 4000000 in
set_option maxRecDepth 100000 in
theorem c_O_leaves (l : Launch) (D : va_G) (q : Nat → Nat) (c : Nat → ClassId) (tnN : Int32) (ckN : Int32) (stN : Int32) (trN : Int32) (dsT : Int32) (dsC : Int32) (tpN : Int32) (lwN : Int32) (rdS : Int32) (rdM : Int32) (rdE : Int32) (rdD : Int32) (twN : Int32) (rsW : Int32) (rsE : Int32) (rwN : Int32) (suns : Nat → Int32) (ckT : Nat → Int32) (ckD : Nat → Int32) (shf : Nat → Int32) (lnT : Nat → Int32) (ways : Nat → Int32) (ups : Nat → Int32) (sts : Nat → Int32) (sty : Nat → Int32) (dly : Nat → Int32) (gAp : Nat → Nat → Int32) (gOp : Nat → Nat → Int32) (stp : Nat → Int32) (bst : Nat → Int32) (sgn : Nat → Int32) (lwT : Nat → Int32) (lwD : Nat → Int32) (rdT : Nat → Int32) (rdO : Nat → Int32) (lwK : Nat → Int32) (lwM : Nat → Int32) (twS : Nat → Int32) (twM : Nat → Int32) (twD : Nat → Int32) (rsO : Nat → Int32) (rsB : Nat → Int32) (rwA : Nat → Int32) (v1 : Int32) (v2 : Int32) (Q : Int32 → Prop) (hp : p_O_leaves stN trN ways ups sts sty dly v1 v2 Q) : oKi l yX10_leaves wsX10_leaves { frames := 2, cells := 0, slots := 0, locals := 47 } [.ref (q 0), .int v1, .int v2] D (oT c) (wO q c tnN ckN stN trN dsT dsC tpN lwN rdS rdM rdE rdD twN rsW rsE rwN suns ckT ckD shf lnT ways ups sts sty dly gAp gOp stp bst sgn lwT lwD rdT rdO lwK lwM twS twM twD rsO rsB rwA) (Unit) (fun r (_ : Unit) => Q r) (fun _ => wO q c tnN ckN stN trN dsT dsC tpN lwN rdS rdM rdE rdD twN rsW rsE rwN suns ckT ckD shf lnT ways ups sts sty dly gAp gOp stp bst sgn lwT lwD rdT rdO lwK lwM twS twM twD rsO rsB rwA) := by
  refine oKi.ofW (own := RX10) (cc := cX10_leaves) (maxL := 3) (plainFor_of_name (by decide +kernel)) rfl rfl (Nat.le_of_ble_eq_true rfl) (fun p e s m args below meth cd A ls Z hx hb hml hown hts hret ho hl => ?_)
  replace hl : lv_has ls 3 [(0, .ref (q 0)), (1, .int v1), (2, .int v2)] := hl
  have hinX10 : ∀ w ∈ u_ws RX10 TX10 8, w ∈ wsX10_leaves := by decide +kernel
  have hinX3 : ∀ w ∈ u_ws RX3 TX3 8, w ∈ wsX10_leaves := by decide +kernel
  have hf19 := hts (.fieldLink RX10 19 "OneTime" "line" "LOneTime$Line;") (by decide +kernel)
  have hf181 := hts (.fieldLink RX10 181 "OneTime$Line" "delays" "[I") (by decide +kernel)
  unfold p_O_leaves at hp
  refine lv_aload_n hx hb dX10_leaves_0 rfl (lv_at hl 0 rfl) ?_
  refine o_get (ci := 10) (T := TX10) hx hb hts hinX10 hown ho 0 rfl rfl 1 (by decide) hf19 rfl dX10_leaves_1 ?_
  refine lv_iload_n hx hb dX10_leaves_4 rfl (lv_at hl 1 rfl) ?_
  refine o_callVi (rest := []) (ci := 3) ⟨hx, hb, hml, hown, hts⟩ ho (c_Ln_hasTrain l D q c tnN ckN stN trN dsT dsC tpN lwN rdS rdM rdE rdD twN rsW rsE rwN suns ckT ckD shf lnT ways ups sts sty dly gAp gOp stp bst sgn lwT lwD rdT rdO lwK lwM twS twM twD rsO rsB rwA v1 _ hp) (cwV 1 hts gX10_leaves_X3_hasTrain rfl rfl rfl (by decide +kernel) ⟨(Nat.le_of_ble_eq_true rfl), (Nat.le_of_ble_eq_true rfl)⟩) 7 rfl rfl rfl hl.1 rfl (Nat.le_of_ble_eq_true rfl) dX10_leaves_5 ⟨Nat.zero_le _, Nat.zero_le _⟩ (fun r5 u H locs hp ho => ?_)
  try dsimp only at hp
  replace ho : oW D (oT c) A s.heap s (wO q c tnN ckN stN trN dsT dsC tpN lwN rdS rdM rdE rdD twN rsW rsE rwN suns ckT ckD shf lnT ways ups sts sty dly gAp gOp stp bst sgn lwT lwD rdT rdO lwK lwM twS twM twD rsO rsB rwA) H locs := ho
  refine lv_if_eq (tgt := 22) hx hb dX10_leaves_8 (by decide) (fun c_8 => ?_) (fun c_8 => ?_)
  · replace hp := hp.1 c_8
    refine lv_iconst (v := (-1)) hx hb dX10_leaves_22 (by decide) ?_
    exact hret (-1) () _ _ _ _ dX10_leaves_23 ho hp
  · replace hp := hp.2 c_8
    refine lv_aload_n hx hb dX10_leaves_11 rfl (lv_at hl 0 rfl) ?_
    refine o_get (ci := 10) (T := TX10) hx hb hts hinX10 hown ho 0 rfl rfl 1 (by decide) hf19 rfl dX10_leaves_12 ?_
    refine lv_iload_n hx hb dX10_leaves_15 rfl (lv_at hl 2 rfl) ?_
    refine o_callVi (rest := []) (ci := 3) ⟨hx, hb, hml, hown, hts⟩ ho (c_Ln_hasStation l D q c tnN ckN stN trN dsT dsC tpN lwN rdS rdM rdE rdD twN rsW rsE rwN suns ckT ckD shf lnT ways ups sts sty dly gAp gOp stp bst sgn lwT lwD rdT rdO lwK lwM twS twM twD rsO rsB rwA v2 _ hp) (cwV 1 hts gX10_leaves_X3_hasStation rfl rfl rfl (by decide +kernel) ⟨(Nat.le_of_ble_eq_true rfl), (Nat.le_of_ble_eq_true rfl)⟩) 7 rfl rfl rfl hl.1 rfl (Nat.le_of_ble_eq_true rfl) dX10_leaves_16 ⟨Nat.zero_le _, Nat.zero_le _⟩ (fun r16 u H locs hp ho => ?_)
    try dsimp only at hp
    replace ho : oW D (oT c) A s.heap s (wO q c tnN ckN stN trN dsT dsC tpN lwN rdS rdM rdE rdD twN rsW rsE rwN suns ckT ckD shf lnT ways ups sts sty dly gAp gOp stp bst sgn lwT lwD rdT rdO lwK lwM twS twM twD rsO rsB rwA) H locs := ho
    refine lv_if_ne (tgt := 24) hx hb dX10_leaves_19 (by decide) (fun c_19 => ?_) (fun c_19 => ?_)
    · replace hp := hp.2 c_19
      refine lv_aload_n hx hb dX10_leaves_24 rfl (lv_at hl 0 rfl) ?_
      refine o_get (ci := 10) (T := TX10) hx hb hts hinX10 hown ho 0 rfl rfl 1 (by decide) hf19 rfl dX10_leaves_25 ?_
      refine lv_iload_n hx hb dX10_leaves_28 rfl (lv_at hl 1 rfl) ?_
      refine lv_iload_n hx hb dX10_leaves_29 rfl (lv_at hl 2 rfl) ?_
      refine o_callVi (rest := []) (ci := 3) ⟨hx, hb, hml, hown, hts⟩ ho (c_Ln_plannedAt l D q c tnN ckN stN trN dsT dsC tpN lwN rdS rdM rdE rdD twN rsW rsE rwN suns ckT ckD shf lnT ways ups sts sty dly gAp gOp stp bst sgn lwT lwD rdT rdO lwK lwM twS twM twD rsO rsB rwA v1 v2 _ hp) (cwV 2 hts gX10_leaves_X3_plannedAt rfl rfl rfl (by decide +kernel) ⟨(Nat.le_of_ble_eq_true rfl), (Nat.le_of_ble_eq_true rfl)⟩) 7 rfl rfl rfl hl.1 rfl (Nat.le_of_ble_eq_true rfl) dX10_leaves_30 ⟨Nat.zero_le _, Nat.zero_le _⟩ (fun r30 u H locs hp ho => ?_)
      try dsimp only at hp
      replace ho : oW D (oT c) A s.heap s (wO q c tnN ckN stN trN dsT dsC tpN lwN rdS rdM rdE rdD twN rsW rsE rwN suns ckT ckD shf lnT ways ups sts sty dly gAp gOp stp bst sgn lwT lwD rdT rdO lwK lwM twS twM twD rsO rsB rwA) H locs := ho
      refine lv_aload_n hx hb dX10_leaves_33 rfl (lv_at hl 0 rfl) ?_
      refine o_get (ci := 10) (T := TX10) hx hb hts hinX10 hown ho 0 rfl rfl 1 (by decide) hf19 rfl dX10_leaves_34 ?_
      refine o_get (ci := 3) (T := TX3) hx hb hts hinX3 hown ho 7 rfl rfl 7 (by decide) hf181 rfl dX10_leaves_37 ?_
      refine lv_iload_n hx hb dX10_leaves_40 rfl (lv_at hl 1 rfl) ?_
      refine o_ild hx hb ho 13 9 rfl rfl hp.1 dX10_leaves_41 ?_
      replace hp := hp.2
      refine lv_iadd hx hb dX10_leaves_42 ?_
      exact hret (r30 + (dly v1.toNatClampNeg)) () _ _ _ _ dX10_leaves_43 ho hp
    · replace hp := hp.1 c_19
      refine lv_iconst (v := (-1)) hx hb dX10_leaves_22 (by decide) ?_
      exact hret (-1) () _ _ _ _ dX10_leaves_23 ho hp
set_option maxHeartbeats 4000000 in
set_option maxRecDepth 100000 in
theorem c_O_delay (l : Launch) (D : va_G) (q : Nat → Nat) (c : Nat → ClassId) (tnN : Int32) (ckN : Int32) (stN : Int32) (trN : Int32) (dsT : Int32) (dsC : Int32) (tpN : Int32) (lwN : Int32) (rdS : Int32) (rdM : Int32) (rdE : Int32) (rdD : Int32) (twN : Int32) (rsW : Int32) (rsE : Int32) (rwN : Int32) (suns : Nat → Int32) (ckT : Nat → Int32) (ckD : Nat → Int32) (shf : Nat → Int32) (lnT : Nat → Int32) (ways : Nat → Int32) (ups : Nat → Int32) (sts : Nat → Int32) (sty : Nat → Int32) (dly : Nat → Int32) (gAp : Nat → Nat → Int32) (gOp : Nat → Nat → Int32) (stp : Nat → Int32) (bst : Nat → Int32) (sgn : Nat → Int32) (lwT : Nat → Int32) (lwD : Nat → Int32) (rdT : Nat → Int32) (rdO : Nat → Int32) (lwK : Nat → Int32) (lwM : Nat → Int32) (twS : Nat → Int32) (twM : Nat → Int32) (twD : Nat → Int32) (rsO : Nat → Int32) (rsB : Nat → Int32) (rwA : Nat → Int32) (v1 : Int32) (v2 : Int32) (Q : Int32 → (Nat → Int32) → Prop) (hp : p_O_delay trN dly v1 v2 Q) : oKi l yX10_delay wsX10_delay { frames := 1, cells := 0, slots := 0, locals := 21 } [.ref (q 0), .int v1, .int v2] D (oT c) (wO q c tnN ckN stN trN dsT dsC tpN lwN rdS rdM rdE rdD twN rsW rsE rwN suns ckT ckD shf lnT ways ups sts sty dly gAp gOp stp bst sgn lwT lwD rdT rdO lwK lwM twS twM twD rsO rsB rwA) ((Nat → Int32)) (fun r (u : (Nat → Int32)) => Q r u) (fun u => wO q c tnN ckN stN trN dsT dsC tpN lwN rdS rdM rdE rdD twN rsW rsE rwN suns ckT ckD shf lnT ways ups sts sty u gAp gOp stp bst sgn lwT lwD rdT rdO lwK lwM twS twM twD rsO rsB rwA) := by
  refine oKi.ofWz (own := RX10) (cc := cX10_delay) (maxL := 3) (plainFor_of_name (by decide +kernel)) rfl rfl (Nat.le_of_ble_eq_true rfl) (fun p e s m args below meth cd A ls Z hx hb hml hown hts hret ho hl => ?_)
  replace hl : lv_has ls 3 [(0, .ref (q 0)), (1, .int v1), (2, .int v2)] := hl
  have hinX10 : ∀ w ∈ u_ws RX10 TX10 8, w ∈ wsX10_delay := by decide +kernel
  have hinX3 : ∀ w ∈ u_ws RX3 TX3 8, w ∈ wsX10_delay := by decide +kernel
  have hf19 := hts (.fieldLink RX10 19 "OneTime" "line" "LOneTime$Line;") (by decide +kernel)
  have hf181 := hts (.fieldLink RX10 181 "OneTime$Line" "delays" "[I") (by decide +kernel)
  unfold p_O_delay at hp
  refine lv_aload_n hx hb dX10_delay_0 rfl (lv_at hl 0 rfl) ?_
  refine o_get (ci := 10) (T := TX10) hx hb hts hinX10 hown ho 0 rfl rfl 1 (by decide) hf19 rfl dX10_delay_1 ?_
  refine lv_iload_n hx hb dX10_delay_4 rfl (lv_at hl 1 rfl) ?_
  refine o_callVi (rest := []) (ci := 3) ⟨hx, hb, hml, hown, hts⟩ ho (c_Ln_hasTrain l D q c tnN ckN stN trN dsT dsC tpN lwN rdS rdM rdE rdD twN rsW rsE rwN suns ckT ckD shf lnT ways ups sts sty dly gAp gOp stp bst sgn lwT lwD rdT rdO lwK lwM twS twM twD rsO rsB rwA v1 _ hp) (cwV 1 hts gX10_delay_X3_hasTrain rfl rfl rfl (by decide +kernel) ⟨(Nat.le_of_ble_eq_true rfl), (Nat.le_of_ble_eq_true rfl)⟩) 7 rfl rfl rfl hl.1 rfl (Nat.le_of_ble_eq_true rfl) dX10_delay_5 ⟨Nat.zero_le _, Nat.zero_le _⟩ (fun r5 u H locs hp ho => ?_)
  try dsimp only at hp
  replace ho : oW D (oT c) A s.heap s (wO q c tnN ckN stN trN dsT dsC tpN lwN rdS rdM rdE rdD twN rsW rsE rwN suns ckT ckD shf lnT ways ups sts sty dly gAp gOp stp bst sgn lwT lwD rdT rdO lwK lwM twS twM twD rsO rsB rwA) H locs := ho
  refine lv_if_eq (tgt := 21) hx hb dX10_delay_8 (by decide) (fun c_8 => ?_) (fun c_8 => ?_)
  · replace hp := hp.1 c_8
    refine lv_iconst (v := 0) hx hb dX10_delay_21 (by decide) ?_
    exact hret 0 dly _ _ _ _ dX10_delay_22 (Or.inl rfl) ho hp
  · replace hp := hp.2 c_8
    refine lv_iload_n hx hb dX10_delay_11 rfl (lv_at hl 2 rfl) ?_
    refine lv_if_lt (tgt := 21) hx hb dX10_delay_12 (by decide) (fun c_12 => ?_) (fun c_12 => ?_)
    · replace hp := hp.1 c_12
      refine lv_iconst (v := 0) hx hb dX10_delay_21 (by decide) ?_
      exact hret 0 dly _ _ _ _ dX10_delay_22 (Or.inl rfl) ho hp
    · replace hp := hp.2 c_12
      refine lv_iload_n hx hb dX10_delay_15 rfl (lv_at hl 2 rfl) ?_
      refine lv_bipush (v := 30) hx hb dX10_delay_16 (by decide) ?_
      refine lv_icmp_le (tgt := 23) hx hb dX10_delay_18 (by decide) (fun c_18 => ?_) (fun c_18 => ?_)
      · replace hp := hp.1 c_18
        refine lv_aload_n hx hb dX10_delay_23 rfl (lv_at hl 0 rfl) ?_
        refine o_get (ci := 10) (T := TX10) hx hb hts hinX10 hown ho 0 rfl rfl 1 (by decide) hf19 rfl dX10_delay_24 ?_
        refine o_get (ci := 3) (T := TX3) hx hb hts hinX3 hown ho 7 rfl rfl 7 (by decide) hf181 rfl dX10_delay_27 ?_
        refine lv_iload_n hx hb dX10_delay_30 rfl (lv_at hl 1 rfl) ?_
        refine lv_iload_n hx hb dX10_delay_31 rfl (lv_at hl 2 rfl) ?_
        refine o_ist hx hb ho 13 9 rfl rfl hp.1 dX10_delay_32 (fun H locs ho => ?_)
        replace hp := hp.2
        replace ho : oW D (oT c) A s.heap s (wO q c tnN ckN stN trN dsT dsC tpN lwN rdS rdM rdE rdD twN rsW rsE rwN suns ckT ckD shf lnT ways ups sts sty (upd dly v1.toNatClampNeg v2) gAp gOp stp bst sgn lwT lwD rdT rdO lwK lwM twS twM twD rsO rsB rwA) H locs := ho
        refine lv_iconst (v := 1) hx hb dX10_delay_33 (by decide) ?_
        exact hret 1 (upd dly v1.toNatClampNeg v2) _ _ _ _ dX10_delay_34 (Or.inr rfl) ho hp
      · replace hp := hp.2 c_18
        refine lv_iconst (v := 0) hx hb dX10_delay_21 (by decide) ?_
        exact hret 0 dly _ _ _ _ dX10_delay_22 (Or.inl rfl) ho hp
set_option maxHeartbeats 4000000 in
set_option maxRecDepth 100000 in
theorem c_O_meet (l : Launch) (D : va_G) (q : Nat → Nat) (c : Nat → ClassId) (tnN : Int32) (ckN : Int32) (stN : Int32) (trN : Int32) (dsT : Int32) (dsC : Int32) (tpN : Int32) (lwN : Int32) (rdS : Int32) (rdM : Int32) (rdE : Int32) (rdD : Int32) (twN : Int32) (rsW : Int32) (rsE : Int32) (rwN : Int32) (suns : Nat → Int32) (ckT : Nat → Int32) (ckD : Nat → Int32) (shf : Nat → Int32) (lnT : Nat → Int32) (ways : Nat → Int32) (ups : Nat → Int32) (sts : Nat → Int32) (sty : Nat → Int32) (dly : Nat → Int32) (gAp : Nat → Nat → Int32) (gOp : Nat → Nat → Int32) (stp : Nat → Int32) (bst : Nat → Int32) (sgn : Nat → Int32) (lwT : Nat → Int32) (lwD : Nat → Int32) (rdT : Nat → Int32) (rdO : Nat → Int32) (lwK : Nat → Int32) (lwM : Nat → Int32) (twS : Nat → Int32) (twM : Nat → Int32) (twD : Nat → Int32) (rsO : Nat → Int32) (rsB : Nat → Int32) (rwA : Nat → Int32)  (Q : Int32 → Int32 → (Nat → Int32) → Prop) (hp : p_O_meet stN trN ways ups sts sty dly rwN rwA Q) : oKi l yX10_meet wsX10_meet { frames := 5, cells := 0, slots := 0, locals := 116 } [.ref (q 0)] D (oT c) (wO q c tnN ckN stN trN dsT dsC tpN lwN rdS rdM rdE rdD twN rsW rsE rwN suns ckT ckD shf lnT ways ups sts sty dly gAp gOp stp bst sgn lwT lwD rdT rdO lwK lwM twS twM twD rsO rsB rwA) (Int32 × (Nat → Int32)) (fun r (u : Int32 × (Nat → Int32)) => Q r u.1 u.2) (fun u => wO q c tnN ckN stN trN dsT dsC tpN lwN rdS rdM rdE rdD twN rsW rsE u.1 suns ckT ckD shf lnT ways ups sts sty dly gAp gOp stp bst sgn lwT lwD rdT rdO lwK lwM twS twM twD rsO rsB u.2) := by
  refine oKi.ofW (own := RX10) (cc := cX10_meet) (maxL := 4) (plainFor_of_name (by decide +kernel)) rfl rfl (Nat.le_of_ble_eq_true rfl) (fun p e s m args below meth cd A ls Z hx hb hml hown hts hret ho hl => ?_)
  replace hl : lv_has ls 4 [(0, .ref (q 0))] := hl
  have hinX10 : ∀ w ∈ u_ws RX10 TX10 8, w ∈ wsX10_meet := by decide +kernel
  have hinX3 : ∀ w ∈ u_ws RX3 TX3 8, w ∈ wsX10_meet := by decide +kernel
  have hf19 := hts (.fieldLink RX10 19 "OneTime" "line" "LOneTime$Line;") (by decide +kernel)
  have hf61 := hts (.fieldLink RX10 61 "OneTime" "told" "LOneTime$Row;") (by decide +kernel)
  have hf105 := hts (.fieldLink RX10 105 "OneTime$Line" "trains" "I") (by decide +kernel)
  unfold p_O_meet at hp
  have hL17 : ∀ (v1 : Int32) (rwN : Int32) (rwA : Nat → Int32) (k2 : Int32 → Prop) (hk2 : ∀ (v1 : Int32), k2 v1 → ∀ (H : Heap) (locs : List Loc) (ls : Array Slot), oW D (oT c) A s.heap s (wO q c tnN ckN stN trN dsT dsC tpN lwN rdS rdM rdE rdD twN rsW rsE rwN suns ckT ckD shf lnT ways ups sts sty dly gAp gOp stp bst sgn lwT lwD rdT rdO lwK lwM twS twM twD rsO rsB rwA) H locs → lv_has ls 4 [(0, .ref (q 0)), (1, .int v1)] → W p l e { frames := 5, cells := 0, slots := 0, locals := 116 } s m args below meth cd H locs 0 0 Z (F0 m 2 ls [])) (v2 : Int32), Lp1 (p_O_meet_L17 stN trN ways ups sts sty dly v1 rwN rwA k2 Q) v2 → ∀ (H : Heap) (locs : List Loc) (ls : Array Slot), oW D (oT c) A s.heap s (wO q c tnN ckN stN trN dsT dsC tpN lwN rdS rdM rdE rdD twN rsW rsE rwN suns ckT ckD shf lnT ways ups sts sty dly gAp gOp stp bst sgn lwT lwD rdT rdO lwK lwM twS twM twD rsO rsB rwA) H locs → lv_has ls 4 [(0, .ref (q 0)), (1, .int v1), (2, .int v2)] → W p l e { frames := 5, cells := 0, slots := 0, locals := 116 } s m args below meth cd H locs 0 0 Z (F0 m 17 ls []) := by
    intro v1 rwN rwA k2 hk2
    refine Lp1.ind (fun rec hrec v2 hp H locs ls ho hl => ?_)
    unfold p_O_meet_L17 at hp
    refine lv_iload_n hx hb dX10_meet_17 rfl (lv_at hl 2 rfl) ?_
    refine lv_aload_n hx hb dX10_meet_18 rfl (lv_at hl 0 rfl) ?_
    refine o_get (ci := 10) (T := TX10) hx hb hts hinX10 hown ho 0 rfl rfl 1 (by decide) hf19 rfl dX10_meet_19 ?_
    refine o_get (ci := 3) (T := TX3) hx hb hts hinX3 hown ho 7 rfl rfl 3 (by decide) hf105 rfl dX10_meet_22 ?_
    refine lv_icmp_ge (tgt := 82) hx hb dX10_meet_25 (by decide) (fun c_25 => ?_) (fun c_25 => ?_)
    · replace hp := hp.1 c_25
      obtain ⟨x82, e_x82⟩ : ∃ y : Int32, y = v1 + 1 := ⟨_, rfl⟩
      replace hp := hp x82 e_x82
      refine lv_iinc (v := x82) (lv' := [(1, .int x82), (0, .ref (q 0)), (2, .int v2)]) hx hb dX10_meet_82 hl (k := 1) rfl (by rw [e_x82]; rfl) (by decide) rfl (fun ls hl => ?_)
      refine lv_goto (tgt := 2) hx hb dX10_meet_85 (by decide) ?_
      exact hk2 x82 hp _ _ _ ho (lv_sub hl [1, 0] rfl)
    · replace hp := hp.2 c_25
      refine lv_aload_n hx hb dX10_meet_28 rfl (lv_at hl 0 rfl) ?_
      refine o_get (ci := 10) (T := TX10) hx hb hts hinX10 hown ho 0 rfl rfl 1 (by decide) hf19 rfl dX10_meet_29 ?_
      refine lv_iload_n hx hb dX10_meet_32 rfl (lv_at hl 1 rfl) ?_
      refine lv_iload_n hx hb dX10_meet_33 rfl (lv_at hl 2 rfl) ?_
      refine o_callVi (rest := []) (ci := 3) ⟨hx, hb, hml, hown, hts⟩ ho (c_Ln_firstRunMeeting l D q c tnN ckN stN trN dsT dsC tpN lwN rdS rdM rdE rdD twN rsW rsE rwN suns ckT ckD shf lnT ways ups sts sty dly gAp gOp stp bst sgn lwT lwD rdT rdO lwK lwM twS twM twD rsO rsB rwA v1 v2 _ hp) (cwV 2 hts gX10_meet_X3_firstRunMeeting rfl rfl rfl (by decide +kernel) ⟨(Nat.le_of_ble_eq_true rfl), (Nat.le_of_ble_eq_true rfl)⟩) 7 rfl rfl rfl hl.1 rfl (Nat.le_of_ble_eq_true rfl) dX10_meet_34 ⟨Nat.zero_le _, Nat.zero_le _⟩ (fun r34 u H locs hp ho => ?_)
      try dsimp only at hp
      replace ho : oW D (oT c) A s.heap s (wO q c tnN ckN stN trN dsT dsC tpN lwN rdS rdM rdE rdD twN rsW rsE rwN suns ckT ckD shf lnT ways ups sts sty dly gAp gOp stp bst sgn lwT lwD rdT rdO lwK lwM twS twM twD rsO rsB rwA) H locs := ho
      refine lv_istore_n (lv' := [(3, .int r34), (0, .ref (q 0)), (1, .int v1), (2, .int v2)]) hx hb dX10_meet_37 rfl hl (by decide) rfl (fun ls hl => ?_)
      refine lv_iload_n hx hb dX10_meet_38 rfl (lv_at hl 0 rfl) ?_
      refine lv_iconst (v := (-1)) hx hb dX10_meet_39 (by decide) ?_
      refine lv_icmp_eq (tgt := 76) hx hb dX10_meet_40 (by decide) (fun c_40 => ?_) (fun c_40 => ?_)
      · replace hp := hp.1 c_40
        obtain ⟨x76, e_x76⟩ : ∃ y : Int32, y = v2 + 1 := ⟨_, rfl⟩
        replace hp := hp x76 e_x76
        refine lv_iinc (v := x76) (lv' := [(2, .int x76), (3, .int r34), (0, .ref (q 0)), (1, .int v1)]) hx hb dX10_meet_76 hl (k := 3) rfl (by rw [e_x76]; rfl) (by decide) rfl (fun ls hl => ?_)
        refine lv_goto (tgt := 17) hx hb dX10_meet_79 (by decide) ?_
        exact hrec x76 hp _ _ _ ho (lv_sub hl [2, 3, 0] rfl)
      · replace hp := hp.2 c_40
        refine lv_aload_n hx hb dX10_meet_43 rfl (lv_at hl 1 rfl) ?_
        refine o_get (ci := 10) (T := TX10) hx hb hts hinX10 hown ho 0 rfl rfl 7 (by decide) hf61 rfl dX10_meet_44 ?_
        refine o_callVv (rest := []) (ci := 5) ⟨hx, hb, hml, hown, hts⟩ ho (c_Rw_clear l D q c tnN ckN stN trN dsT dsC tpN lwN rdS rdM rdE rdD twN rsW rsE rwN suns ckT ckD shf lnT ways ups sts sty dly gAp gOp stp bst sgn lwT lwD rdT rdO lwK lwM twS twM twD rsO rsB rwA  _ hp) (cwV 0 hts gX10_meet_X5_clear rfl rfl rfl (by decide +kernel) ⟨(Nat.le_of_ble_eq_true rfl), (Nat.le_of_ble_eq_true rfl)⟩) 50 rfl rfl rfl hl.1 rfl (Nat.le_of_ble_eq_true rfl) dX10_meet_47 ⟨Nat.zero_le _, Nat.zero_le _⟩ (fun u H locs hp ho => ?_)
        obtain ⟨rwN_47, rfl⟩ : ∃ z, z = u := ⟨_, rfl⟩
        try dsimp only at hp
        replace ho : oW D (oT c) A s.heap s (wO q c tnN ckN stN trN dsT dsC tpN lwN rdS rdM rdE rdD twN rsW rsE rwN_47 suns ckT ckD shf lnT ways ups sts sty dly gAp gOp stp bst sgn lwT lwD rdT rdO lwK lwM twS twM twD rsO rsB rwA) H locs := ho
        refine lv_aload_n hx hb dX10_meet_50 rfl (lv_at hl 1 rfl) ?_
        refine o_get (ci := 10) (T := TX10) hx hb hts hinX10 hown ho 0 rfl rfl 7 (by decide) hf61 rfl dX10_meet_51 ?_
        refine lv_iload_n hx hb dX10_meet_54 rfl (lv_at hl 2 rfl) ?_
        refine o_callVv (rest := []) (ci := 5) ⟨hx, hb, hml, hown, hts⟩ ho (c_Rw_add l D q c tnN ckN stN trN dsT dsC tpN lwN rdS rdM rdE rdD twN rsW rsE rwN_47 suns ckT ckD shf lnT ways ups sts sty dly gAp gOp stp bst sgn lwT lwD rdT rdO lwK lwM twS twM twD rsO rsB rwA v1 _ hp) (cwV 1 hts gX10_meet_X5_add rfl rfl rfl (by decide +kernel) ⟨(Nat.le_of_ble_eq_true rfl), (Nat.le_of_ble_eq_true rfl)⟩) 50 rfl rfl rfl hl.1 rfl (Nat.le_of_ble_eq_true rfl) dX10_meet_55 ⟨Nat.zero_le _, Nat.zero_le _⟩ (fun u H locs hp ho => ?_)
        obtain ⟨rwN_55, rwA_55⟩ := u
        try dsimp only at hp
        replace ho : oW D (oT c) A s.heap s (wO q c tnN ckN stN trN dsT dsC tpN lwN rdS rdM rdE rdD twN rsW rsE rwN_55 suns ckT ckD shf lnT ways ups sts sty dly gAp gOp stp bst sgn lwT lwD rdT rdO lwK lwM twS twM twD rsO rsB rwA_55) H locs := ho
        refine lv_aload_n hx hb dX10_meet_58 rfl (lv_at hl 1 rfl) ?_
        refine o_get (ci := 10) (T := TX10) hx hb hts hinX10 hown ho 0 rfl rfl 7 (by decide) hf61 rfl dX10_meet_59 ?_
        refine lv_iload_n hx hb dX10_meet_62 rfl (lv_at hl 3 rfl) ?_
        refine o_callVv (rest := []) (ci := 5) ⟨hx, hb, hml, hown, hts⟩ ho (c_Rw_add l D q c tnN ckN stN trN dsT dsC tpN lwN rdS rdM rdE rdD twN rsW rsE rwN_55 suns ckT ckD shf lnT ways ups sts sty dly gAp gOp stp bst sgn lwT lwD rdT rdO lwK lwM twS twM twD rsO rsB rwA_55 v2 _ hp) (cwV 1 hts gX10_meet_X5_add rfl rfl rfl (by decide +kernel) ⟨(Nat.le_of_ble_eq_true rfl), (Nat.le_of_ble_eq_true rfl)⟩) 50 rfl rfl rfl hl.1 rfl (Nat.le_of_ble_eq_true rfl) dX10_meet_63 ⟨Nat.zero_le _, Nat.zero_le _⟩ (fun u H locs hp ho => ?_)
        obtain ⟨rwN_63, rwA_63⟩ := u
        try dsimp only at hp
        replace ho : oW D (oT c) A s.heap s (wO q c tnN ckN stN trN dsT dsC tpN lwN rdS rdM rdE rdD twN rsW rsE rwN_63 suns ckT ckD shf lnT ways ups sts sty dly gAp gOp stp bst sgn lwT lwD rdT rdO lwK lwM twS twM twD rsO rsB rwA_63) H locs := ho
        refine lv_aload_n hx hb dX10_meet_66 rfl (lv_at hl 1 rfl) ?_
        refine o_get (ci := 10) (T := TX10) hx hb hts hinX10 hown ho 0 rfl rfl 7 (by decide) hf61 rfl dX10_meet_67 ?_
        refine lv_iload_n hx hb dX10_meet_70 rfl (lv_at hl 0 rfl) ?_
        refine o_callVv (rest := []) (ci := 5) ⟨hx, hb, hml, hown, hts⟩ ho (c_Rw_add l D q c tnN ckN stN trN dsT dsC tpN lwN rdS rdM rdE rdD twN rsW rsE rwN_63 suns ckT ckD shf lnT ways ups sts sty dly gAp gOp stp bst sgn lwT lwD rdT rdO lwK lwM twS twM twD rsO rsB rwA_63 r34 _ hp) (cwV 1 hts gX10_meet_X5_add rfl rfl rfl (by decide +kernel) ⟨(Nat.le_of_ble_eq_true rfl), (Nat.le_of_ble_eq_true rfl)⟩) 50 rfl rfl rfl hl.1 rfl (Nat.le_of_ble_eq_true rfl) dX10_meet_71 ⟨Nat.zero_le _, Nat.zero_le _⟩ (fun u H locs hp ho => ?_)
        obtain ⟨rwN_71, rwA_71⟩ := u
        try dsimp only at hp
        replace ho : oW D (oT c) A s.heap s (wO q c tnN ckN stN trN dsT dsC tpN lwN rdS rdM rdE rdD twN rsW rsE rwN_71 suns ckT ckD shf lnT ways ups sts sty dly gAp gOp stp bst sgn lwT lwD rdT rdO lwK lwM twS twM twD rsO rsB rwA_71) H locs := ho
        refine lv_iconst (v := 1) hx hb dX10_meet_74 (by decide) ?_
        exact hret 1 (rwN_71, rwA_71) _ _ _ _ dX10_meet_75 ho hp
  have hL2 : ∀ (rwN : Int32) (rwA : Nat → Int32) (v1 : Int32), Lp1 (p_O_meet_L2 stN trN ways ups sts sty dly rwN rwA Q) v1 → ∀ (H : Heap) (locs : List Loc) (ls : Array Slot), oW D (oT c) A s.heap s (wO q c tnN ckN stN trN dsT dsC tpN lwN rdS rdM rdE rdD twN rsW rsE rwN suns ckT ckD shf lnT ways ups sts sty dly gAp gOp stp bst sgn lwT lwD rdT rdO lwK lwM twS twM twD rsO rsB rwA) H locs → lv_has ls 4 [(0, .ref (q 0)), (1, .int v1)] → W p l e { frames := 5, cells := 0, slots := 0, locals := 116 } s m args below meth cd H locs 0 0 Z (F0 m 2 ls []) := by
    intro rwN rwA
    refine Lp1.ind (fun rec hrec v1 hp H locs ls ho hl => ?_)
    unfold p_O_meet_L2 at hp
    refine lv_iload_n hx hb dX10_meet_2 rfl (lv_at hl 1 rfl) ?_
    refine lv_aload_n hx hb dX10_meet_3 rfl (lv_at hl 0 rfl) ?_
    refine o_get (ci := 10) (T := TX10) hx hb hts hinX10 hown ho 0 rfl rfl 1 (by decide) hf19 rfl dX10_meet_4 ?_
    refine o_get (ci := 3) (T := TX3) hx hb hts hinX3 hown ho 7 rfl rfl 3 (by decide) hf105 rfl dX10_meet_7 ?_
    refine lv_icmp_ge (tgt := 88) hx hb dX10_meet_10 (by decide) (fun c_10 => ?_) (fun c_10 => ?_)
    · replace hp := hp.1 c_10
      refine lv_iconst (v := 0) hx hb dX10_meet_88 (by decide) ?_
      exact hret 0 (rwN, rwA) _ _ _ _ dX10_meet_89 ho hp
    · replace hp := hp.2 c_10
      refine lv_iload_n hx hb dX10_meet_13 rfl (lv_at hl 1 rfl) ?_
      refine lv_iconst (v := 1) hx hb dX10_meet_14 (by decide) ?_
      refine lv_iadd hx hb dX10_meet_15 ?_
      refine lv_topi (fun x16 e_x16 => ?_)
      replace hp := hp x16 e_x16
      refine lv_istore_n (lv' := [(2, .int x16), (0, .ref (q 0)), (1, .int v1)]) hx hb dX10_meet_16 rfl hl (by decide) rfl (fun ls hl => ?_)
      exact hL17 v1 rwN rwA rec hrec x16 hp _ _ _ ho (lv_sub hl [1, 2, 0] rfl)
  refine lv_iconst (v := 0) hx hb dX10_meet_0 (by decide) ?_
  refine lv_istore_n (lv' := [(1, .int 0), (0, .ref (q 0))]) hx hb dX10_meet_1 rfl hl (by decide) rfl (fun ls hl => ?_)
  exact hL2 rwN rwA 0 hp _ _ _ ho (lv_sub hl [1, 0] rfl)
set_option maxHeartbeats 4000000 in
set_option maxRecDepth 100000 in
theorem c_O_free (l : Launch) (D : va_G) (q : Nat → Nat) (c : Nat → ClassId) (tnN : Int32) (ckN : Int32) (stN : Int32) (trN : Int32) (dsT : Int32) (dsC : Int32) (tpN : Int32) (lwN : Int32) (rdS : Int32) (rdM : Int32) (rdE : Int32) (rdD : Int32) (twN : Int32) (rsW : Int32) (rsE : Int32) (rwN : Int32) (suns : Nat → Int32) (ckT : Nat → Int32) (ckD : Nat → Int32) (shf : Nat → Int32) (lnT : Nat → Int32) (ways : Nat → Int32) (ups : Nat → Int32) (sts : Nat → Int32) (sty : Nat → Int32) (dly : Nat → Int32) (gAp : Nat → Nat → Int32) (gOp : Nat → Nat → Int32) (stp : Nat → Int32) (bst : Nat → Int32) (sgn : Nat → Int32) (lwT : Nat → Int32) (lwD : Nat → Int32) (rdT : Nat → Int32) (rdO : Nat → Int32) (lwK : Nat → Int32) (lwM : Nat → Int32) (twS : Nat → Int32) (twM : Nat → Int32) (twD : Nat → Int32) (rsO : Nat → Int32) (rsB : Nat → Int32) (rwA : Nat → Int32)  (Q : Int32 → Int32 → Int32 → (Nat → Int32) → (Nat → Nat → Int32) → (Nat → Nat → Int32) → (Nat → Int32) → (Nat → Int32) → Prop) (hp : p_O_free stN trN ways ups sts sty dsT dsC dly gAp gOp stp bst Q) : oKi l yX10_free wsX10_free { frames := 12, cells := 0, slots := 0, locals := 280 } [.ref (q 0)] D (oT c) (wO q c tnN ckN stN trN dsT dsC tpN lwN rdS rdM rdE rdD twN rsW rsE rwN suns ckT ckD shf lnT ways ups sts sty dly gAp gOp stp bst sgn lwT lwD rdT rdO lwK lwM twS twM twD rsO rsB rwA) (Int32 × Int32 × (Nat → Int32) × (Nat → Nat → Int32) × (Nat → Nat → Int32) × (Nat → Int32) × (Nat → Int32)) (fun r (u : Int32 × Int32 × (Nat → Int32) × (Nat → Nat → Int32) × (Nat → Nat → Int32) × (Nat → Int32) × (Nat → Int32)) => Q r u.1 u.2.1 u.2.2.1 u.2.2.2.1 u.2.2.2.2.1 u.2.2.2.2.2.1 u.2.2.2.2.2.2) (fun u => wO q c tnN ckN stN trN u.1 u.2.1 tpN lwN rdS rdM rdE rdD twN rsW rsE rwN suns ckT ckD shf lnT ways ups sts sty u.2.2.1 u.2.2.2.1 u.2.2.2.2.1 u.2.2.2.2.2.1 u.2.2.2.2.2.2 sgn lwT lwD rdT rdO lwK lwM twS twM twD rsO rsB rwA) := by
  refine oKi.ofW (own := RX10) (cc := cX10_free) (maxL := 1) (plainFor_of_name (by decide +kernel)) rfl rfl (Nat.le_of_ble_eq_true rfl) (fun p e s m args below meth cd A ls Z hx hb hml hown hts hret ho hl => ?_)
  replace hl : lv_has ls 1 [(0, .ref (q 0))] := hl
  have hinX10 : ∀ w ∈ u_ws RX10 TX10 8, w ∈ wsX10_free := by decide +kernel
  have hf19 := hts (.fieldLink RX10 19 "OneTime" "line" "LOneTime$Line;") (by decide +kernel)
  have hf26 := hts (.fieldLink RX10 26 "OneTime" "delaySearch" "LOneTime$DelaySearch;") (by decide +kernel)
  unfold p_O_free at hp
  refine lv_aload_n hx hb dX10_free_0 rfl (lv_at hl 0 rfl) ?_
  refine o_get (ci := 10) (T := TX10) hx hb hts hinX10 hown ho 0 rfl rfl 2 (by decide) hf26 rfl dX10_free_1 ?_
  refine lv_aload_n hx hb dX10_free_4 rfl (lv_at hl 0 rfl) ?_
  refine o_get (ci := 10) (T := TX10) hx hb hts hinX10 hown ho 0 rfl rfl 1 (by decide) hf19 rfl dX10_free_5 ?_
  refine o_callVi (rest := []) (ci := 0) ⟨hx, hb, hml, hown, hts⟩ ho (c_Ds_settleBest l D q c tnN ckN stN trN dsT dsC tpN lwN rdS rdM rdE rdD twN rsW rsE rwN suns ckT ckD shf lnT ways ups sts sty dly gAp gOp stp bst sgn lwT lwD rdT rdO lwK lwM twS twM twD rsO rsB rwA  _ hp) (cwV 1 hts gX10_free_X0_settleBest rfl rfl rfl (by decide +kernel) ⟨(Nat.le_of_ble_eq_true rfl), (Nat.le_of_ble_eq_true rfl)⟩) 14 rfl rfl rfl hl.1 rfl (Nat.le_of_ble_eq_true rfl) dX10_free_8 ⟨Nat.zero_le _, Nat.zero_le _⟩ (fun r8 u H locs hp ho => ?_)
  obtain ⟨dsT_8, dsC_8, dly_8, gAp_8, gOp_8, stp_8, bst_8⟩ := u
  try dsimp only at hp
  replace ho : oW D (oT c) A s.heap s (wO q c tnN ckN stN trN dsT_8 dsC_8 tpN lwN rdS rdM rdE rdD twN rsW rsE rwN suns ckT ckD shf lnT ways ups sts sty dly_8 gAp_8 gOp_8 stp_8 bst_8 sgn lwT lwD rdT rdO lwK lwM twS twM twD rsO rsB rwA) H locs := ho
  exact hret r8 (dsT_8, dsC_8, dly_8, gAp_8, gOp_8, stp_8, bst_8) _ _ _ _ dX10_free_11 ho hp
set_option maxHeartbeats 4000000 in
set_option maxRecDepth 100000 in
theorem c_O_close (l : Launch) (D : va_G) (q : Nat → Nat) (c : Nat → ClassId) (tnN : Int32) (ckN : Int32) (stN : Int32) (trN : Int32) (dsT : Int32) (dsC : Int32) (tpN : Int32) (lwN : Int32) (rdS : Int32) (rdM : Int32) (rdE : Int32) (rdD : Int32) (twN : Int32) (rsW : Int32) (rsE : Int32) (rwN : Int32) (suns : Nat → Int32) (ckT : Nat → Int32) (ckD : Nat → Int32) (shf : Nat → Int32) (lnT : Nat → Int32) (ways : Nat → Int32) (ups : Nat → Int32) (sts : Nat → Int32) (sty : Nat → Int32) (dly : Nat → Int32) (gAp : Nat → Nat → Int32) (gOp : Nat → Nat → Int32) (stp : Nat → Int32) (bst : Nat → Int32) (sgn : Nat → Int32) (lwT : Nat → Int32) (lwD : Nat → Int32) (rdT : Nat → Int32) (rdO : Nat → Int32) (lwK : Nat → Int32) (lwM : Nat → Int32) (twS : Nat → Int32) (twM : Nat → Int32) (twD : Nat → Int32) (rsO : Nat → Int32) (rsB : Nat → Int32) (rwA : Nat → Int32)  (Q : Int32 → Int32 → Int32 → Prop) (hp : p_O_close stN trN Q) : oKi l yX10_close wsX10_close { frames := 1, cells := 0, slots := 0, locals := 21 } [.ref (q 0)] D (oT c) (wO q c tnN ckN stN trN dsT dsC tpN lwN rdS rdM rdE rdD twN rsW rsE rwN suns ckT ckD shf lnT ways ups sts sty dly gAp gOp stp bst sgn lwT lwD rdT rdO lwK lwM twS twM twD rsO rsB rwA) (Int32 × Int32) (fun r (u : Int32 × Int32) => Q r u.1 u.2) (fun u => wO q c tnN ckN u.1 u.2 dsT dsC tpN lwN rdS rdM rdE rdD twN rsW rsE rwN suns ckT ckD shf lnT ways ups sts sty dly gAp gOp stp bst sgn lwT lwD rdT rdO lwK lwM twS twM twD rsO rsB rwA) := by
  refine oKi.ofW (own := RX10) (cc := cX10_close) (maxL := 1) (plainFor_of_name (by decide +kernel)) rfl rfl (Nat.le_of_ble_eq_true rfl) (fun p e s m args below meth cd A ls Z hx hb hml hown hts hret ho hl => ?_)
  replace hl : lv_has ls 1 [(0, .ref (q 0))] := hl
  have hinX10 : ∀ w ∈ u_ws RX10 TX10 8, w ∈ wsX10_close := by decide +kernel
  have hf19 := hts (.fieldLink RX10 19 "OneTime" "line" "LOneTime$Line;") (by decide +kernel)
  unfold p_O_close at hp
  refine lv_aload_n hx hb dX10_close_0 rfl (lv_at hl 0 rfl) ?_
  refine o_get (ci := 10) (T := TX10) hx hb hts hinX10 hown ho 0 rfl rfl 1 (by decide) hf19 rfl dX10_close_1 ?_
  refine o_callVi (rest := []) (ci := 3) ⟨hx, hb, hml, hown, hts⟩ ho (c_Ln_clear l D q c tnN ckN stN trN dsT dsC tpN lwN rdS rdM rdE rdD twN rsW rsE rwN suns ckT ckD shf lnT ways ups sts sty dly gAp gOp stp bst sgn lwT lwD rdT rdO lwK lwM twS twM twD rsO rsB rwA  _ hp) (cwV 0 hts gX10_close_X3_clear rfl rfl rfl (by decide +kernel) ⟨(Nat.le_of_ble_eq_true rfl), (Nat.le_of_ble_eq_true rfl)⟩) 7 rfl rfl rfl hl.1 rfl (Nat.le_of_ble_eq_true rfl) dX10_close_4 ⟨Nat.zero_le _, Nat.zero_le _⟩ (fun r4 u H locs hp ho => ?_)
  obtain ⟨stN_4, trN_4⟩ := u
  try dsimp only at hp
  replace ho : oW D (oT c) A s.heap s (wO q c tnN ckN stN_4 trN_4 dsT dsC tpN lwN rdS rdM rdE rdD twN rsW rsE rwN suns ckT ckD shf lnT ways ups sts sty dly gAp gOp stp bst sgn lwT lwD rdT rdO lwK lwM twS twM twD rsO rsB rwA) H locs := ho
  exact hret r4 (stN_4, trN_4) _ _ _ _ dX10_close_7 ho hp
set_option maxHeartbeats 4000000 in
set_option maxRecDepth 100000 in
theorem c_O_sign (l : Launch) (D : va_G) (q : Nat → Nat) (c : Nat → ClassId) (tnN : Int32) (ckN : Int32) (stN : Int32) (trN : Int32) (dsT : Int32) (dsC : Int32) (tpN : Int32) (lwN : Int32) (rdS : Int32) (rdM : Int32) (rdE : Int32) (rdD : Int32) (twN : Int32) (rsW : Int32) (rsE : Int32) (rwN : Int32) (suns : Nat → Int32) (ckT : Nat → Int32) (ckD : Nat → Int32) (shf : Nat → Int32) (lnT : Nat → Int32) (ways : Nat → Int32) (ups : Nat → Int32) (sts : Nat → Int32) (sty : Nat → Int32) (dly : Nat → Int32) (gAp : Nat → Nat → Int32) (gOp : Nat → Nat → Int32) (stp : Nat → Int32) (bst : Nat → Int32) (sgn : Nat → Int32) (lwT : Nat → Int32) (lwD : Nat → Int32) (rdT : Nat → Int32) (rdO : Nat → Int32) (lwK : Nat → Int32) (lwM : Nat → Int32) (twS : Nat → Int32) (twM : Nat → Int32) (twD : Nat → Int32) (rsO : Nat → Int32) (rsB : Nat → Int32) (rwA : Nat → Int32) (v1 : Int32) (Q : Int32 → Int32 → (Nat → Int32) → Prop) (hp : p_O_sign tpN sgn v1 Q) : oKi l yX10_sign wsX10_sign { frames := 1, cells := 0, slots := 0, locals := 22 } [.ref (q 0), .int v1] D (oT c) (wO q c tnN ckN stN trN dsT dsC tpN lwN rdS rdM rdE rdD twN rsW rsE rwN suns ckT ckD shf lnT ways ups sts sty dly gAp gOp stp bst sgn lwT lwD rdT rdO lwK lwM twS twM twD rsO rsB rwA) (Int32 × (Nat → Int32)) (fun r (u : Int32 × (Nat → Int32)) => Q r u.1 u.2) (fun u => wO q c tnN ckN stN trN dsT dsC u.1 lwN rdS rdM rdE rdD twN rsW rsE rwN suns ckT ckD shf lnT ways ups sts sty dly gAp gOp stp bst u.2 lwT lwD rdT rdO lwK lwM twS twM twD rsO rsB rwA) := by
  refine oKi.ofW (own := RX10) (cc := cX10_sign) (maxL := 2) (plainFor_of_name (by decide +kernel)) rfl rfl (Nat.le_of_ble_eq_true rfl) (fun p e s m args below meth cd A ls Z hx hb hml hown hts hret ho hl => ?_)
  replace hl : lv_has ls 2 [(0, .ref (q 0)), (1, .int v1)] := hl
  have hinX10 : ∀ w ∈ u_ws RX10 TX10 8, w ∈ wsX10_sign := by decide +kernel
  have hf33 := hts (.fieldLink RX10 33 "OneTime" "tape" "LOneTime$Tape;") (by decide +kernel)
  unfold p_O_sign at hp
  refine lv_aload_n hx hb dX10_sign_0 rfl (lv_at hl 0 rfl) ?_
  refine o_get (ci := 10) (T := TX10) hx hb hts hinX10 hown ho 0 rfl rfl 3 (by decide) hf33 rfl dX10_sign_1 ?_
  refine lv_iload_n hx hb dX10_sign_4 rfl (lv_at hl 1 rfl) ?_
  refine o_callVi (rest := []) (ci := 7) ⟨hx, hb, hml, hown, hts⟩ ho (c_Tp_addFour l D q c tnN ckN stN trN dsT dsC tpN lwN rdS rdM rdE rdD twN rsW rsE rwN suns ckT ckD shf lnT ways ups sts sty dly gAp gOp stp bst sgn lwT lwD rdT rdO lwK lwM twS twM twD rsO rsB rwA v1 _ hp) (cwV 1 hts gX10_sign_X7_addFour rfl rfl rfl (by decide +kernel) ⟨(Nat.le_of_ble_eq_true rfl), (Nat.le_of_ble_eq_true rfl)⟩) 32 rfl rfl rfl hl.1 rfl (Nat.le_of_ble_eq_true rfl) dX10_sign_5 ⟨Nat.zero_le _, Nat.zero_le _⟩ (fun r5 u H locs hp ho => ?_)
  obtain ⟨tpN_5, sgn_5⟩ := u
  try dsimp only at hp
  replace ho : oW D (oT c) A s.heap s (wO q c tnN ckN stN trN dsT dsC tpN_5 lwN rdS rdM rdE rdD twN rsW rsE rwN suns ckT ckD shf lnT ways ups sts sty dly gAp gOp stp bst sgn_5 lwT lwD rdT rdO lwK lwM twS twM twD rsO rsB rwA) H locs := ho
  exact hret r5 (tpN_5, sgn_5) _ _ _ _ dX10_sign_8 ho hp
set_option maxHeartbeats 4000000 in
set_option maxRecDepth 100000 in
theorem c_O_end (l : Launch) (D : va_G) (q : Nat → Nat) (c : Nat → ClassId) (tnN : Int32) (ckN : Int32) (stN : Int32) (trN : Int32) (dsT : Int32) (dsC : Int32) (tpN : Int32) (lwN : Int32) (rdS : Int32) (rdM : Int32) (rdE : Int32) (rdD : Int32) (twN : Int32) (rsW : Int32) (rsE : Int32) (rwN : Int32) (suns : Nat → Int32) (ckT : Nat → Int32) (ckD : Nat → Int32) (shf : Nat → Int32) (lnT : Nat → Int32) (ways : Nat → Int32) (ups : Nat → Int32) (sts : Nat → Int32) (sty : Nat → Int32) (dly : Nat → Int32) (gAp : Nat → Nat → Int32) (gOp : Nat → Nat → Int32) (stp : Nat → Int32) (bst : Nat → Int32) (sgn : Nat → Int32) (lwT : Nat → Int32) (lwD : Nat → Int32) (rdT : Nat → Int32) (rdO : Nat → Int32) (lwK : Nat → Int32) (lwM : Nat → Int32) (twS : Nat → Int32) (twM : Nat → Int32) (twD : Nat → Int32) (rsO : Nat → Int32) (rsB : Nat → Int32) (rwA : Nat → Int32) (v1 : Int32) (Q : Int32 → Int32 → Prop) (hp : p_O_end tpN v1 Q) : oKi l yX10_end wsX10_end { frames := 1, cells := 0, slots := 0, locals := 21 } [.ref (q 0), .int v1] D (oT c) (wO q c tnN ckN stN trN dsT dsC tpN lwN rdS rdM rdE rdD twN rsW rsE rwN suns ckT ckD shf lnT ways ups sts sty dly gAp gOp stp bst sgn lwT lwD rdT rdO lwK lwM twS twM twD rsO rsB rwA) (Int32) (fun r (u : Int32) => Q r u) (fun u => wO q c tnN ckN stN trN dsT dsC u lwN rdS rdM rdE rdD twN rsW rsE rwN suns ckT ckD shf lnT ways ups sts sty dly gAp gOp stp bst sgn lwT lwD rdT rdO lwK lwM twS twM twD rsO rsB rwA) := by
  refine oKi.ofWz (own := RX10) (cc := cX10_end) (maxL := 2) (plainFor_of_name (by decide +kernel)) rfl rfl (Nat.le_of_ble_eq_true rfl) (fun p e s m args below meth cd A ls Z hx hb hml hown hts hret ho hl => ?_)
  replace hl : lv_has ls 2 [(0, .ref (q 0)), (1, .int v1)] := hl
  have hinX10 : ∀ w ∈ u_ws RX10 TX10 8, w ∈ wsX10_end := by decide +kernel
  have hf33 := hts (.fieldLink RX10 33 "OneTime" "tape" "LOneTime$Tape;") (by decide +kernel)
  unfold p_O_end at hp
  refine lv_aload_n hx hb dX10_end_0 rfl (lv_at hl 0 rfl) ?_
  refine o_get (ci := 10) (T := TX10) hx hb hts hinX10 hown ho 0 rfl rfl 3 (by decide) hf33 rfl dX10_end_1 ?_
  refine lv_iload_n hx hb dX10_end_4 rfl (lv_at hl 1 rfl) ?_
  refine o_callVi (rest := []) (ci := 7) ⟨hx, hb, hml, hown, hts⟩ ho (c_Tp_cut l D q c tnN ckN stN trN dsT dsC tpN lwN rdS rdM rdE rdD twN rsW rsE rwN suns ckT ckD shf lnT ways ups sts sty dly gAp gOp stp bst sgn lwT lwD rdT rdO lwK lwM twS twM twD rsO rsB rwA v1 _ hp) (cwV 1 hts gX10_end_X7_cut rfl rfl rfl (by decide +kernel) ⟨(Nat.le_of_ble_eq_true rfl), (Nat.le_of_ble_eq_true rfl)⟩) 32 rfl rfl rfl hl.1 rfl (Nat.le_of_ble_eq_true rfl) dX10_end_5 ⟨Nat.zero_le _, Nat.zero_le _⟩ (fun r5 u H locs hp ho => ?_)
  obtain ⟨tpN_5, rfl⟩ : ∃ z, z = u := ⟨_, rfl⟩
  try dsimp only at hp
  replace ho : oW D (oT c) A s.heap s (wO q c tnN ckN stN trN dsT dsC tpN_5 lwN rdS rdM rdE rdD twN rsW rsE rwN suns ckT ckD shf lnT ways ups sts sty dly gAp gOp stp bst sgn lwT lwD rdT rdO lwK lwM twS twM twD rsO rsB rwA) H locs := ho
  exact hret r5 tpN_5 _ _ _ _ dX10_end_8 hp.1 ho hp.2
set_option maxHeartbeats 4000000 in
set_option maxRecDepth 100000 in
theorem c_O_law (l : Launch) (D : va_G) (q : Nat → Nat) (c : Nat → ClassId) (tnN : Int32) (ckN : Int32) (stN : Int32) (trN : Int32) (dsT : Int32) (dsC : Int32) (tpN : Int32) (lwN : Int32) (rdS : Int32) (rdM : Int32) (rdE : Int32) (rdD : Int32) (twN : Int32) (rsW : Int32) (rsE : Int32) (rwN : Int32) (suns : Nat → Int32) (ckT : Nat → Int32) (ckD : Nat → Int32) (shf : Nat → Int32) (lnT : Nat → Int32) (ways : Nat → Int32) (ups : Nat → Int32) (sts : Nat → Int32) (sty : Nat → Int32) (dly : Nat → Int32) (gAp : Nat → Nat → Int32) (gOp : Nat → Nat → Int32) (stp : Nat → Int32) (bst : Nat → Int32) (sgn : Nat → Int32) (lwT : Nat → Int32) (lwD : Nat → Int32) (rdT : Nat → Int32) (rdO : Nat → Int32) (lwK : Nat → Int32) (lwM : Nat → Int32) (twS : Nat → Int32) (twM : Nat → Int32) (twD : Nat → Int32) (rsO : Nat → Int32) (rsB : Nat → Int32) (rwA : Nat → Int32) (v1 : Int32) (v2 : Int32) (Q : Int32 → Int32 → Int32 → Int32 → Int32 → Int32 → Int32 → (Nat → Int32) → (Nat → Int32) → (Nat → Int32) → (Nat → Int32) → (Nat → Int32) → (Nat → Int32) → Prop) (hp : p_O_law tnN sgn tpN lwN rdS rdM rdE rdD lwT lwD rdT rdO lwK lwM v1 v2 Q) : oKi l yX10_law wsX10_law { frames := 5, cells := 0, slots := 0, locals := 111 } [.ref (q 0), .int v1, .int v2] D (oT c) (wO q c tnN ckN stN trN dsT dsC tpN lwN rdS rdM rdE rdD twN rsW rsE rwN suns ckT ckD shf lnT ways ups sts sty dly gAp gOp stp bst sgn lwT lwD rdT rdO lwK lwM twS twM twD rsO rsB rwA) (Int32 × Int32 × Int32 × Int32 × Int32 × Int32 × (Nat → Int32) × (Nat → Int32) × (Nat → Int32) × (Nat → Int32) × (Nat → Int32) × (Nat → Int32)) (fun r (u : Int32 × Int32 × Int32 × Int32 × Int32 × Int32 × (Nat → Int32) × (Nat → Int32) × (Nat → Int32) × (Nat → Int32) × (Nat → Int32) × (Nat → Int32)) => Q r u.1 u.2.1 u.2.2.1 u.2.2.2.1 u.2.2.2.2.1 u.2.2.2.2.2.1 u.2.2.2.2.2.2.1 u.2.2.2.2.2.2.2.1 u.2.2.2.2.2.2.2.2.1 u.2.2.2.2.2.2.2.2.2.1 u.2.2.2.2.2.2.2.2.2.2.1 u.2.2.2.2.2.2.2.2.2.2.2) (fun u => wO q c tnN ckN stN trN dsT dsC u.1 u.2.1 u.2.2.1 u.2.2.2.1 u.2.2.2.2.1 u.2.2.2.2.2.1 twN rsW rsE rwN suns ckT ckD shf lnT ways ups sts sty dly gAp gOp stp bst sgn u.2.2.2.2.2.2.1 u.2.2.2.2.2.2.2.1 u.2.2.2.2.2.2.2.2.1 u.2.2.2.2.2.2.2.2.2.1 u.2.2.2.2.2.2.2.2.2.2.1 u.2.2.2.2.2.2.2.2.2.2.2 twS twM twD rsO rsB rwA) := by
  refine oKi.ofW (own := RX10) (cc := cX10_law) (maxL := 5) (plainFor_of_name (by decide +kernel)) rfl rfl (Nat.le_of_ble_eq_true rfl) (fun p e s m args below meth cd A ls Z hx hb hml hown hts hret ho hl => ?_)
  replace hl : lv_has ls 5 [(0, .ref (q 0)), (1, .int v1), (2, .int v2)] := hl
  have hinX10 : ∀ w ∈ u_ws RX10 TX10 8, w ∈ wsX10_law := by decide +kernel
  have hf12 := hts (.fieldLink RX10 12 "OneTime" "towns" "LOneTime$Towns;") (by decide +kernel)
  have hf33 := hts (.fieldLink RX10 33 "OneTime" "tape" "LOneTime$Tape;") (by decide +kernel)
  have hf40 := hts (.fieldLink RX10 40 "OneTime" "laws" "LOneTime$Laws;") (by decide +kernel)
  unfold p_O_law at hp
  have hJ56 : ∀ (tpN : Int32) (lwN : Int32) (rdS : Int32) (rdM : Int32) (rdE : Int32) (rdD : Int32) (lwT : Nat → Int32) (lwD : Nat → Int32) (rdT : Nat → Int32) (rdO : Nat → Int32) (lwK : Nat → Int32) (lwM : Nat → Int32) (s0 : Int32), p_O_law_J56 tnN sgn tpN lwN rdS rdM rdE rdD lwT lwD rdT rdO lwK lwM s0 Q → ∀ (H : Heap) (locs : List Loc) (ls : Array Slot), oW D (oT c) A s.heap s (wO q c tnN ckN stN trN dsT dsC tpN lwN rdS rdM rdE rdD twN rsW rsE rwN suns ckT ckD shf lnT ways ups sts sty dly gAp gOp stp bst sgn lwT lwD rdT rdO lwK lwM twS twM twD rsO rsB rwA) H locs → lv_has ls 5 [(0, .ref (q 0))] → W p l e { frames := 5, cells := 0, slots := 0, locals := 111 } s m args below meth cd H locs 0 0 Z (F0 m 56 ls [.int s0]) := by
    intro tpN lwN rdS rdM rdE rdD lwT lwD rdT rdO lwK lwM s0
    intro hp H locs ls ho hl
    unfold p_O_law_J56 at hp
    refine lv_istore (lv' := [(4, .int s0), (0, .ref (q 0))]) hx hb dX10_law_56 hl (by decide) rfl (fun ls hl => ?_)
    refine lv_aload_n hx hb dX10_law_58 rfl (lv_at hl 1 rfl) ?_
    refine o_get (ci := 10) (T := TX10) hx hb hts hinX10 hown ho 0 rfl rfl 3 (by decide) hf33 rfl dX10_law_59 ?_
    refine o_callVv (rest := []) (ci := 7) ⟨hx, hb, hml, hown, hts⟩ ho (c_Tp_clear l D q c tnN ckN stN trN dsT dsC tpN lwN rdS rdM rdE rdD twN rsW rsE rwN suns ckT ckD shf lnT ways ups sts sty dly gAp gOp stp bst sgn lwT lwD rdT rdO lwK lwM twS twM twD rsO rsB rwA  _ hp) (cwV 0 hts gX10_law_X7_clear rfl rfl rfl (by decide +kernel) ⟨(Nat.le_of_ble_eq_true rfl), (Nat.le_of_ble_eq_true rfl)⟩) 32 rfl rfl rfl hl.1 rfl (Nat.le_of_ble_eq_true rfl) dX10_law_62 ⟨Nat.zero_le _, Nat.zero_le _⟩ (fun u H locs hp ho => ?_)
    obtain ⟨tpN_62, rfl⟩ : ∃ z, z = u := ⟨_, rfl⟩
    try dsimp only at hp
    replace ho : oW D (oT c) A s.heap s (wO q c tnN ckN stN trN dsT dsC tpN_62 lwN rdS rdM rdE rdD twN rsW rsE rwN suns ckT ckD shf lnT ways ups sts sty dly gAp gOp stp bst sgn lwT lwD rdT rdO lwK lwM twS twM twD rsO rsB rwA) H locs := ho
    refine lv_iload hx hb dX10_law_65 (lv_at hl 0 rfl) ?_
    exact hret s0 (tpN_62, lwN, rdS, rdM, rdE, rdD, lwT, lwD, rdT, rdO, lwK, lwM) _ _ _ _ dX10_law_67 ho hp
  have hJ33 : ∀ (v1 : Int32) (v2 : Int32) (tpN : Int32) (lwN : Int32) (rdS : Int32) (rdM : Int32) (rdE : Int32) (rdD : Int32) (lwT : Nat → Int32) (lwD : Nat → Int32) (rdT : Nat → Int32) (rdO : Nat → Int32) (lwK : Nat → Int32) (lwM : Nat → Int32) (s0 : Int32), p_O_law_J33 tnN sgn v1 v2 tpN lwN rdS rdM rdE rdD lwT lwD rdT rdO lwK lwM s0 Q → ∀ (H : Heap) (locs : List Loc) (ls : Array Slot), oW D (oT c) A s.heap s (wO q c tnN ckN stN trN dsT dsC tpN lwN rdS rdM rdE rdD twN rsW rsE rwN suns ckT ckD shf lnT ways ups sts sty dly gAp gOp stp bst sgn lwT lwD rdT rdO lwK lwM twS twM twD rsO rsB rwA) H locs → lv_has ls 5 [(0, .ref (q 0)), (1, .int v1), (2, .int v2)] → W p l e { frames := 5, cells := 0, slots := 0, locals := 111 } s m args below meth cd H locs 0 0 Z (F0 m 33 ls [.int s0]) := by
    intro v1 v2 tpN lwN rdS rdM rdE rdD lwT lwD rdT rdO lwK lwM s0
    intro hp H locs ls ho hl
    unfold p_O_law_J33 at hp
    refine lv_istore_n (lv' := [(3, .int s0), (0, .ref (q 0)), (1, .int v1), (2, .int v2)]) hx hb dX10_law_33 rfl hl (by decide) rfl (fun ls hl => ?_)
    refine lv_iload_n hx hb dX10_law_34 rfl (lv_at hl 0 rfl) ?_
    refine lv_if_eq (tgt := 43) hx hb dX10_law_35 (by decide) (fun c_35 => ?_) (fun c_35 => ?_)
    · replace hp := hp.1 c_35
      refine lv_aload_n hx hb dX10_law_43 rfl (lv_at hl 1 rfl) ?_
      refine o_get (ci := 10) (T := TX10) hx hb hts hinX10 hown ho 0 rfl rfl 4 (by decide) hf40 rfl dX10_law_44 ?_
      refine lv_iload_n hx hb dX10_law_47 rfl (lv_at hl 2 rfl) ?_
      refine lv_iload_n hx hb dX10_law_48 rfl (lv_at hl 3 rfl) ?_
      refine lv_aload_n hx hb dX10_law_49 rfl (lv_at hl 1 rfl) ?_
      refine o_get (ci := 10) (T := TX10) hx hb hts hinX10 hown ho 0 rfl rfl 3 (by decide) hf33 rfl dX10_law_50 ?_
      refine o_callVi (rest := []) (ci := 2) ⟨hx, hb, hml, hown, hts⟩ ho (c_Lw_tell l D q c tnN ckN stN trN dsT dsC tpN lwN rdS rdM rdE rdD twN rsW rsE rwN suns ckT ckD shf lnT ways ups sts sty dly gAp gOp stp bst sgn lwT lwD rdT rdO lwK lwM twS twM twD rsO rsB rwA v1 v2 _ hp) (cwV 3 hts gX10_law_X2_tell rfl rfl rfl (by decide +kernel) ⟨(Nat.le_of_ble_eq_true rfl), (Nat.le_of_ble_eq_true rfl)⟩) 34 rfl rfl rfl hl.1 rfl (Nat.le_of_ble_eq_true rfl) dX10_law_53 ⟨Nat.zero_le _, Nat.zero_le _⟩ (fun r53 u H locs hp ho => ?_)
      obtain ⟨lwN_53, rdS_53, rdM_53, rdE_53, rdD_53, lwT_53, lwD_53, rdT_53, rdO_53, lwK_53, lwM_53⟩ := u
      try dsimp only at hp
      replace ho : oW D (oT c) A s.heap s (wO q c tnN ckN stN trN dsT dsC tpN lwN_53 rdS_53 rdM_53 rdE_53 rdD_53 twN rsW rsE rwN suns ckT ckD shf lnT ways ups sts sty dly gAp gOp stp bst sgn lwT_53 lwD_53 rdT_53 rdO_53 lwK_53 lwM_53 twS twM twD rsO rsB rwA) H locs := ho
      exact hJ56 tpN lwN_53 rdS_53 rdM_53 rdE_53 rdD_53 lwT_53 lwD_53 rdT_53 rdO_53 lwK_53 lwM_53 r53 hp _ _ _ ho (lv_sub hl [1] rfl)
    · replace hp := hp.2 c_35
      refine lv_bipush (v := (-100)) hx hb dX10_law_38 (by decide) ?_
      refine lv_goto (tgt := 56) hx hb dX10_law_40 (by decide) ?_
      exact hJ56 tpN lwN rdS rdM rdE rdD lwT lwD rdT rdO lwK lwM (-100) hp _ _ _ ho (lv_sub hl [1] rfl)
  refine lv_aload_n hx hb dX10_law_0 rfl (lv_at hl 0 rfl) ?_
  refine o_get (ci := 10) (T := TX10) hx hb hts hinX10 hown ho 0 rfl rfl 0 (by decide) hf12 rfl dX10_law_1 ?_
  refine lv_iload_n hx hb dX10_law_4 rfl (lv_at hl 1 rfl) ?_
  refine o_callVi (rest := []) (ci := 9) ⟨hx, hb, hml, hown, hts⟩ ho (c_Tn_has l D q c tnN ckN stN trN dsT dsC tpN lwN rdS rdM rdE rdD twN rsW rsE rwN suns ckT ckD shf lnT ways ups sts sty dly gAp gOp stp bst sgn lwT lwD rdT rdO lwK lwM twS twM twD rsO rsB rwA v1 _ hp) (cwV 1 hts gX10_law_X9_has rfl rfl rfl (by decide +kernel) ⟨(Nat.le_of_ble_eq_true rfl), (Nat.le_of_ble_eq_true rfl)⟩) 1 rfl rfl rfl hl.1 rfl (Nat.le_of_ble_eq_true rfl) dX10_law_5 ⟨Nat.zero_le _, Nat.zero_le _⟩ (fun r5 u H locs hp ho => ?_)
  try dsimp only at hp
  replace ho : oW D (oT c) A s.heap s (wO q c tnN ckN stN trN dsT dsC tpN lwN rdS rdM rdE rdD twN rsW rsE rwN suns ckT ckD shf lnT ways ups sts sty dly gAp gOp stp bst sgn lwT lwD rdT rdO lwK lwM twS twM twD rsO rsB rwA) H locs := ho
  refine lv_if_eq (tgt := 28) hx hb dX10_law_8 (by decide) (fun c_8 => ?_) (fun c_8 => ?_)
  · replace hp := hp.1 c_8
    refine lv_iconst (v := 1) hx hb dX10_law_28 (by decide) ?_
    refine lv_goto (tgt := 33) hx hb dX10_law_29 (by decide) ?_
    exact hJ33 v1 v2 tpN lwN rdS rdM rdE rdD lwT lwD rdT rdO lwK lwM 1 hp _ _ _ ho (lv_sub hl [0, 1, 2] rfl)
  · replace hp := hp.2 c_8
    refine lv_iload_n hx hb dX10_law_11 rfl (lv_at hl 2 rfl) ?_
    refine o_callSi (rest := []) ⟨hx, hb, hml, hown, hts⟩ ho (c_O_isDay l D (oT c) (wO q c tnN ckN stN trN dsT dsC tpN lwN rdS rdM rdE rdD twN rsW rsE rwN suns ckT ckD shf lnT ways ups sts sty dly gAp gOp stp bst sgn lwT lwD rdT rdO lwK lwM twS twM twD rsO rsB rwA) v2 _ hp) (va_cwS 1 hts gX10_law_X10_isDay rfl rfl rfl (by decide +kernel) ⟨(Nat.le_of_ble_eq_true rfl), (Nat.le_of_ble_eq_true rfl)⟩) rfl hl.1 rfl (Nat.le_of_ble_eq_true rfl) dX10_law_12 ⟨Nat.zero_le _, Nat.zero_le _⟩ (fun r12 u H locs hp ho => ?_)
    try dsimp only at hp
    replace ho : oW D (oT c) A s.heap s (wO q c tnN ckN stN trN dsT dsC tpN lwN rdS rdM rdE rdD twN rsW rsE rwN suns ckT ckD shf lnT ways ups sts sty dly gAp gOp stp bst sgn lwT lwD rdT rdO lwK lwM twS twM twD rsO rsB rwA) H locs := ho
    refine lv_if_eq (tgt := 28) hx hb dX10_law_15 (by decide) (fun c_15 => ?_) (fun c_15 => ?_)
    · replace hp := hp.1 c_15
      refine lv_iconst (v := 1) hx hb dX10_law_28 (by decide) ?_
      refine lv_goto (tgt := 33) hx hb dX10_law_29 (by decide) ?_
      exact hJ33 v1 v2 tpN lwN rdS rdM rdE rdD lwT lwD rdT rdO lwK lwM 1 hp _ _ _ ho (lv_sub hl [0, 1, 2] rfl)
    · replace hp := hp.2 c_15
      refine lv_aload_n hx hb dX10_law_18 rfl (lv_at hl 0 rfl) ?_
      refine o_get (ci := 10) (T := TX10) hx hb hts hinX10 hown ho 0 rfl rfl 4 (by decide) hf40 rfl dX10_law_19 ?_
      refine o_callVi (rest := []) (ci := 2) ⟨hx, hb, hml, hown, hts⟩ ho (c_Lw_isFull l D q c tnN ckN stN trN dsT dsC tpN lwN rdS rdM rdE rdD twN rsW rsE rwN suns ckT ckD shf lnT ways ups sts sty dly gAp gOp stp bst sgn lwT lwD rdT rdO lwK lwM twS twM twD rsO rsB rwA  _ hp) (cwV 0 hts gX10_law_X2_isFull rfl rfl rfl (by decide +kernel) ⟨(Nat.le_of_ble_eq_true rfl), (Nat.le_of_ble_eq_true rfl)⟩) 34 rfl rfl rfl hl.1 rfl (Nat.le_of_ble_eq_true rfl) dX10_law_22 ⟨Nat.zero_le _, Nat.zero_le _⟩ (fun r22 u H locs hp ho => ?_)
      try dsimp only at hp
      replace ho : oW D (oT c) A s.heap s (wO q c tnN ckN stN trN dsT dsC tpN lwN rdS rdM rdE rdD twN rsW rsE rwN suns ckT ckD shf lnT ways ups sts sty dly gAp gOp stp bst sgn lwT lwD rdT rdO lwK lwM twS twM twD rsO rsB rwA) H locs := ho
      refine lv_if_eq (tgt := 32) hx hb dX10_law_25 (by decide) (fun c_25 => ?_) (fun c_25 => ?_)
      · replace hp := hp.1 c_25
        refine lv_iconst (v := 0) hx hb dX10_law_32 (by decide) ?_
        exact hJ33 v1 v2 tpN lwN rdS rdM rdE rdD lwT lwD rdT rdO lwK lwM 0 hp _ _ _ ho (lv_sub hl [0, 1, 2] rfl)
      · replace hp := hp.2 c_25
        refine lv_iconst (v := 1) hx hb dX10_law_28 (by decide) ?_
        refine lv_goto (tgt := 33) hx hb dX10_law_29 (by decide) ?_
        exact hJ33 v1 v2 tpN lwN rdS rdM rdE rdD lwT lwD rdT rdO lwK lwM 1 hp _ _ _ ho (lv_sub hl [0, 1, 2] rfl)
set_option maxHeartbeats 4000000 in
set_option maxRecDepth 100000 in
theorem c_O_shiftFor (l : Launch) (D : va_G) (q : Nat → Nat) (c : Nat → ClassId) (tnN : Int32) (ckN : Int32) (stN : Int32) (trN : Int32) (dsT : Int32) (dsC : Int32) (tpN : Int32) (lwN : Int32) (rdS : Int32) (rdM : Int32) (rdE : Int32) (rdD : Int32) (twN : Int32) (rsW : Int32) (rsE : Int32) (rwN : Int32) (suns : Nat → Int32) (ckT : Nat → Int32) (ckD : Nat → Int32) (shf : Nat → Int32) (lnT : Nat → Int32) (ways : Nat → Int32) (ups : Nat → Int32) (sts : Nat → Int32) (sty : Nat → Int32) (dly : Nat → Int32) (gAp : Nat → Nat → Int32) (gOp : Nat → Nat → Int32) (stp : Nat → Int32) (bst : Nat → Int32) (sgn : Nat → Int32) (lwT : Nat → Int32) (lwD : Nat → Int32) (rdT : Nat → Int32) (rdO : Nat → Int32) (lwK : Nat → Int32) (lwM : Nat → Int32) (twS : Nat → Int32) (twM : Nat → Int32) (twD : Nat → Int32) (rsO : Nat → Int32) (rsB : Nat → Int32) (rwA : Nat → Int32) (v1 : Int32) (v2 : Int32) (v3 : Int32) (Q : Int32 → Prop) (hp : p_O_shiftFor tnN ckN lwN suns ckT ckD shf lwT lwD lwK lwM v1 v2 v3 Q) : oKi l yX10_shiftFor wsX10_shiftFor { frames := 3, cells := 0, slots := 0, locals := 65 } [.ref (q 0), .int v1, .int v2, .int v3] D (oT c) (wO q c tnN ckN stN trN dsT dsC tpN lwN rdS rdM rdE rdD twN rsW rsE rwN suns ckT ckD shf lnT ways ups sts sty dly gAp gOp stp bst sgn lwT lwD rdT rdO lwK lwM twS twM twD rsO rsB rwA) (Unit) (fun r (_ : Unit) => Q r) (fun _ => wO q c tnN ckN stN trN dsT dsC tpN lwN rdS rdM rdE rdD twN rsW rsE rwN suns ckT ckD shf lnT ways ups sts sty dly gAp gOp stp bst sgn lwT lwD rdT rdO lwK lwM twS twM twD rsO rsB rwA) := by
  refine oKi.ofW (own := RX10) (cc := cX10_shiftFor) (maxL := 7) (plainFor_of_name (by decide +kernel)) rfl rfl (Nat.le_of_ble_eq_true rfl) (fun p e s m args below meth cd A ls Z hx hb hml hown hts hret ho hl => ?_)
  replace hl : lv_has ls 7 [(0, .ref (q 0)), (1, .int v1), (2, .int v2), (3, .int v3)] := hl
  have hinX10 : ∀ w ∈ u_ws RX10 TX10 8, w ∈ wsX10_shiftFor := by decide +kernel
  have hinX2 : ∀ w ∈ u_ws RX2 TX2 4, w ∈ wsX10_shiftFor := by decide +kernel
  have hinX9 : ∀ w ∈ u_ws RX9 TX9 4, w ∈ wsX10_shiftFor := by decide +kernel
  have hf12 := hts (.fieldLink RX10 12 "OneTime" "towns" "LOneTime$Towns;") (by decide +kernel)
  have hf40 := hts (.fieldLink RX10 40 "OneTime" "laws" "LOneTime$Laws;") (by decide +kernel)
  have hf108 := hts (.fieldLink RX10 108 "OneTime$Laws" "since" "LOneTime$Since;") (by decide +kernel)
  have hf230 := hts (.fieldLink RX10 230 "OneTime$Towns" "suns" "[I") (by decide +kernel)
  unfold p_O_shiftFor at hp
  refine lv_aload_n hx hb dX10_shiftFor_0 rfl (lv_at hl 0 rfl) ?_
  refine o_get (ci := 10) (T := TX10) hx hb hts hinX10 hown ho 0 rfl rfl 0 (by decide) hf12 rfl dX10_shiftFor_1 ?_
  refine lv_iload_n hx hb dX10_shiftFor_4 rfl (lv_at hl 1 rfl) ?_
  refine lv_iload_n hx hb dX10_shiftFor_5 rfl (lv_at hl 3 rfl) ?_
  refine o_callVi (rest := []) (ci := 9) ⟨hx, hb, hml, hown, hts⟩ ho (c_Tn_shiftOn l D q c tnN ckN stN trN dsT dsC tpN lwN rdS rdM rdE rdD twN rsW rsE rwN suns ckT ckD shf lnT ways ups sts sty dly gAp gOp stp bst sgn lwT lwD rdT rdO lwK lwM twS twM twD rsO rsB rwA v1 v3 _ hp) (cwV 2 hts gX10_shiftFor_X9_shiftOn rfl rfl rfl (by decide +kernel) ⟨(Nat.le_of_ble_eq_true rfl), (Nat.le_of_ble_eq_true rfl)⟩) 1 rfl rfl rfl hl.1 rfl (Nat.le_of_ble_eq_true rfl) dX10_shiftFor_6 ⟨Nat.zero_le _, Nat.zero_le _⟩ (fun r6 u H locs hp ho => ?_)
  try dsimp only at hp
  replace ho : oW D (oT c) A s.heap s (wO q c tnN ckN stN trN dsT dsC tpN lwN rdS rdM rdE rdD twN rsW rsE rwN suns ckT ckD shf lnT ways ups sts sty dly gAp gOp stp bst sgn lwT lwD rdT rdO lwK lwM twS twM twD rsO rsB rwA) H locs := ho
  refine lv_istore (lv' := [(4, .int r6), (0, .ref (q 0)), (1, .int v1), (2, .int v2), (3, .int v3)]) hx hb dX10_shiftFor_9 hl (by decide) rfl (fun ls hl => ?_)
  refine lv_aload_n hx hb dX10_shiftFor_11 rfl (lv_at hl 1 rfl) ?_
  refine o_get (ci := 10) (T := TX10) hx hb hts hinX10 hown ho 0 rfl rfl 4 (by decide) hf40 rfl dX10_shiftFor_12 ?_
  refine o_get (ci := 2) (T := TX2) hx hb hts hinX2 hown ho 34 rfl rfl 0 (by decide) hf108 rfl dX10_shiftFor_15 ?_
  refine lv_iload_n hx hb dX10_shiftFor_18 rfl (lv_at hl 2 rfl) ?_
  refine lv_iload_n hx hb dX10_shiftFor_19 rfl (lv_at hl 4 rfl) ?_
  refine o_callVi (rest := []) (ci := 6) ⟨hx, hb, hml, hown, hts⟩ ho (c_Si_holding_l l D q c tnN ckN stN trN dsT dsC tpN lwN rdS rdM rdE rdD twN rsW rsE rwN suns ckT ckD shf lnT ways ups sts sty dly gAp gOp stp bst sgn lwT lwD rdT rdO lwK lwM twS twM twD rsO rsB rwA v1 v3 _ hp) (cwV 2 hts gX10_shiftFor_X6_holding rfl rfl rfl (by decide +kernel) ⟨(Nat.le_of_ble_eq_true rfl), (Nat.le_of_ble_eq_true rfl)⟩) 35 rfl rfl rfl hl.1 rfl (Nat.le_of_ble_eq_true rfl) dX10_shiftFor_20 ⟨Nat.zero_le _, Nat.zero_le _⟩ (fun r20 u H locs hp ho => ?_)
  try dsimp only at hp
  replace ho : oW D (oT c) A s.heap s (wO q c tnN ckN stN trN dsT dsC tpN lwN rdS rdM rdE rdD twN rsW rsE rwN suns ckT ckD shf lnT ways ups sts sty dly gAp gOp stp bst sgn lwT lwD rdT rdO lwK lwM twS twM twD rsO rsB rwA) H locs := ho
  refine lv_istore (lv' := [(5, .int r20), (4, .int r6), (0, .ref (q 0)), (1, .int v1), (2, .int v2), (3, .int v3)]) hx hb dX10_shiftFor_23 hl (by decide) rfl (fun ls hl => ?_)
  refine lv_iload hx hb dX10_shiftFor_25 (lv_at hl 0 rfl) ?_
  refine lv_iconst (v := (-1)) hx hb dX10_shiftFor_27 (by decide) ?_
  refine lv_icmp_ne (tgt := 34) hx hb dX10_shiftFor_28 (by decide) (fun c_28 => ?_) (fun c_28 => ?_)
  · replace hp := hp.2 c_28
    refine lv_aload_n hx hb dX10_shiftFor_34 rfl (lv_at hl 2 rfl) ?_
    refine o_get (ci := 10) (T := TX10) hx hb hts hinX10 hown ho 0 rfl rfl 4 (by decide) hf40 rfl dX10_shiftFor_35 ?_
    refine lv_iload hx hb dX10_shiftFor_38 (lv_at hl 0 rfl) ?_
    refine lv_iload_n hx hb dX10_shiftFor_40 rfl (lv_at hl 4 rfl) ?_
    refine o_callVi (rest := []) (ci := 2) ⟨hx, hb, hml, hown, hts⟩ ho (c_Lw_moreOf l D q c tnN ckN stN trN dsT dsC tpN lwN rdS rdM rdE rdD twN rsW rsE rwN suns ckT ckD shf lnT ways ups sts sty dly gAp gOp stp bst sgn lwT lwD rdT rdO lwK lwM twS twM twD rsO rsB rwA r20 v2 _ hp) (cwV 2 hts gX10_shiftFor_X2_moreOf rfl rfl rfl (by decide +kernel) ⟨(Nat.le_of_ble_eq_true rfl), (Nat.le_of_ble_eq_true rfl)⟩) 34 rfl rfl rfl hl.1 rfl (Nat.le_of_ble_eq_true rfl) dX10_shiftFor_41 ⟨Nat.zero_le _, Nat.zero_le _⟩ (fun r41 u H locs hp ho => ?_)
    try dsimp only at hp
    replace ho : oW D (oT c) A s.heap s (wO q c tnN ckN stN trN dsT dsC tpN lwN rdS rdM rdE rdD twN rsW rsE rwN suns ckT ckD shf lnT ways ups sts sty dly gAp gOp stp bst sgn lwT lwD rdT rdO lwK lwM twS twM twD rsO rsB rwA) H locs := ho
    refine lv_istore (lv' := [(6, .int r41), (5, .int r20), (4, .int r6), (0, .ref (q 0)), (1, .int v1), (2, .int v2), (3, .int v3)]) hx hb dX10_shiftFor_44 hl (by decide) rfl (fun ls hl => ?_)
    refine lv_aload_n hx hb dX10_shiftFor_46 rfl (lv_at hl 3 rfl) ?_
    refine o_get (ci := 10) (T := TX10) hx hb hts hinX10 hown ho 0 rfl rfl 4 (by decide) hf40 rfl dX10_shiftFor_47 ?_
    refine lv_iload hx hb dX10_shiftFor_50 (lv_at hl 1 rfl) ?_
    refine lv_iload_n hx hb dX10_shiftFor_52 rfl (lv_at hl 5 rfl) ?_
    refine o_callVi (rest := []) (ci := 2) ⟨hx, hb, hml, hown, hts⟩ ho (c_Lw_timeOf l D q c tnN ckN stN trN dsT dsC tpN lwN rdS rdM rdE rdD twN rsW rsE rwN suns ckT ckD shf lnT ways ups sts sty dly gAp gOp stp bst sgn lwT lwD rdT rdO lwK lwM twS twM twD rsO rsB rwA r20 v2 _ hp) (cwV 2 hts gX10_shiftFor_X2_timeOf rfl rfl rfl (by decide +kernel) ⟨(Nat.le_of_ble_eq_true rfl), (Nat.le_of_ble_eq_true rfl)⟩) 34 rfl rfl rfl hl.1 rfl (Nat.le_of_ble_eq_true rfl) dX10_shiftFor_53 ⟨Nat.zero_le _, Nat.zero_le _⟩ (fun r53 u H locs hp ho => ?_)
    try dsimp only at hp
    replace ho : oW D (oT c) A s.heap s (wO q c tnN ckN stN trN dsT dsC tpN lwN rdS rdM rdE rdD twN rsW rsE rwN suns ckT ckD shf lnT ways ups sts sty dly gAp gOp stp bst sgn lwT lwD rdT rdO lwK lwM twS twM twD rsO rsB rwA) H locs := ho
    by_cases c_56_108 : r53 = 108
    · replace hp := hp.1 c_56_108
      refine lv_lookup (tgt := 84) (off := 28) hx hb dX10_shiftFor_56 (by decide) (by rw [c_56_108]; decide) (by decide) ?_
      refine lv_aload_n hx hb dX10_shiftFor_84 rfl (lv_at hl 3 rfl) ?_
      refine o_get (ci := 10) (T := TX10) hx hb hts hinX10 hown ho 0 rfl rfl 0 (by decide) hf12 rfl dX10_shiftFor_85 ?_
      refine o_get (ci := 9) (T := TX9) hx hb hts hinX9 hown ho 1 rfl rfl 0 (by decide) hf230 rfl dX10_shiftFor_88 ?_
      refine lv_iload_n hx hb dX10_shiftFor_91 rfl (lv_at hl 4 rfl) ?_
      refine o_ild hx hb ho 2 0 rfl rfl hp.1 dX10_shiftFor_92 ?_
      replace hp := hp.2
      refine lv_iload hx hb dX10_shiftFor_93 (lv_at hl 0 rfl) ?_
      refine lv_iadd hx hb dX10_shiftFor_95 ?_
      exact hret ((suns v1.toNatClampNeg) + r41) () _ _ _ _ dX10_shiftFor_96 ho hp
    replace hp := hp.2 c_56_108
    by_cases c_56_122 : r53 = 122
    · replace hp := hp.1 c_56_122
      refine lv_lookup (tgt := 97) (off := 41) hx hb dX10_shiftFor_56 (by decide) (by rw [c_56_122]; decide) (by decide) ?_
      refine lv_aload_n hx hb dX10_shiftFor_97 rfl (lv_at hl 3 rfl) ?_
      refine o_get (ci := 10) (T := TX10) hx hb hts hinX10 hown ho 0 rfl rfl 0 (by decide) hf12 rfl dX10_shiftFor_98 ?_
      refine lv_iload_n hx hb dX10_shiftFor_101 rfl (lv_at hl 4 rfl) ?_
      refine o_callVi (rest := []) (ci := 9) ⟨hx, hb, hml, hown, hts⟩ ho (c_Tn_nearestZone l D q c tnN ckN stN trN dsT dsC tpN lwN rdS rdM rdE rdD twN rsW rsE rwN suns ckT ckD shf lnT ways ups sts sty dly gAp gOp stp bst sgn lwT lwD rdT rdO lwK lwM twS twM twD rsO rsB rwA v1 _ hp) (cwV 1 hts gX10_shiftFor_X9_nearestZone rfl rfl rfl (by decide +kernel) ⟨(Nat.le_of_ble_eq_true rfl), (Nat.le_of_ble_eq_true rfl)⟩) 1 rfl rfl rfl hl.1 rfl (Nat.le_of_ble_eq_true rfl) dX10_shiftFor_102 ⟨Nat.zero_le _, Nat.zero_le _⟩ (fun r102 u H locs hp ho => ?_)
      try dsimp only at hp
      replace ho : oW D (oT c) A s.heap s (wO q c tnN ckN stN trN dsT dsC tpN lwN rdS rdM rdE rdD twN rsW rsE rwN suns ckT ckD shf lnT ways ups sts sty dly gAp gOp stp bst sgn lwT lwD rdT rdO lwK lwM twS twM twD rsO rsB rwA) H locs := ho
      refine lv_iload hx hb dX10_shiftFor_105 (lv_at hl 0 rfl) ?_
      refine lv_iadd hx hb dX10_shiftFor_107 ?_
      exact hret (r102 + r41) () _ _ _ _ dX10_shiftFor_108 ho hp
    replace hp := hp.2 c_56_122
    have n_56_108 := ne_ti 108 (by decide : (108 : Int32).toInt = 108) c_56_108
    have n_56_122 := ne_ti 122 (by decide : (122 : Int32).toInt = 122) c_56_122
    refine lv_lookup (tgt := 109) (off := 53) hx hb dX10_shiftFor_56 (by decide) (by simp [Op.lookupswitch.offset, n_56_108, n_56_108.symm, n_56_122, n_56_122.symm]) (by decide) ?_
    refine lv_iload hx hb dX10_shiftFor_109 (lv_at hl 2 rfl) ?_
    refine lv_iload hx hb dX10_shiftFor_111 (lv_at hl 0 rfl) ?_
    refine lv_iadd hx hb dX10_shiftFor_113 ?_
    exact hret (r6 + r41) () _ _ _ _ dX10_shiftFor_114 ho hp
  · replace hp := hp.1 c_28
    refine lv_iload hx hb dX10_shiftFor_31 (lv_at hl 1 rfl) ?_
    exact hret r6 () _ _ _ _ dX10_shiftFor_33 ho hp
set_option maxHeartbeats 4000000 in
set_option maxRecDepth 100000 in
theorem c_O_nextChange (l : Launch) (D : va_G) (q : Nat → Nat) (c : Nat → ClassId) (tnN : Int32) (ckN : Int32) (stN : Int32) (trN : Int32) (dsT : Int32) (dsC : Int32) (tpN : Int32) (lwN : Int32) (rdS : Int32) (rdM : Int32) (rdE : Int32) (rdD : Int32) (twN : Int32) (rsW : Int32) (rsE : Int32) (rwN : Int32) (suns : Nat → Int32) (ckT : Nat → Int32) (ckD : Nat → Int32) (shf : Nat → Int32) (lnT : Nat → Int32) (ways : Nat → Int32) (ups : Nat → Int32) (sts : Nat → Int32) (sty : Nat → Int32) (dly : Nat → Int32) (gAp : Nat → Nat → Int32) (gOp : Nat → Nat → Int32) (stp : Nat → Int32) (bst : Nat → Int32) (sgn : Nat → Int32) (lwT : Nat → Int32) (lwD : Nat → Int32) (rdT : Nat → Int32) (rdO : Nat → Int32) (lwK : Nat → Int32) (lwM : Nat → Int32) (twS : Nat → Int32) (twM : Nat → Int32) (twD : Nat → Int32) (rsO : Nat → Int32) (rsB : Nat → Int32) (rwA : Nat → Int32) (v1 : Int32) (v2 : Int32) (Q : Int32 → Prop) (hp : p_O_nextChange ckN lwN ckT ckD lwT lwD v1 v2 Q) : oKi l yX10_nextChange wsX10_nextChange { frames := 1, cells := 0, slots := 0, locals := 24 } [.ref (q 0), .int v1, .int v2] D (oT c) (wO q c tnN ckN stN trN dsT dsC tpN lwN rdS rdM rdE rdD twN rsW rsE rwN suns ckT ckD shf lnT ways ups sts sty dly gAp gOp stp bst sgn lwT lwD rdT rdO lwK lwM twS twM twD rsO rsB rwA) (Unit) (fun r (_ : Unit) => Q r) (fun _ => wO q c tnN ckN stN trN dsT dsC tpN lwN rdS rdM rdE rdD twN rsW rsE rwN suns ckT ckD shf lnT ways ups sts sty dly gAp gOp stp bst sgn lwT lwD rdT rdO lwK lwM twS twM twD rsO rsB rwA) := by
  refine oKi.ofW (own := RX10) (cc := cX10_nextChange) (maxL := 3) (plainFor_of_name (by decide +kernel)) rfl rfl (Nat.le_of_ble_eq_true rfl) (fun p e s m args below meth cd A ls Z hx hb hml hown hts hret ho hl => ?_)
  replace hl : lv_has ls 3 [(0, .ref (q 0)), (1, .int v1), (2, .int v2)] := hl
  have hinX10 : ∀ w ∈ u_ws RX10 TX10 8, w ∈ wsX10_nextChange := by decide +kernel
  have hinX2 : ∀ w ∈ u_ws RX2 TX2 4, w ∈ wsX10_nextChange := by decide +kernel
  have hinX9 : ∀ w ∈ u_ws RX9 TX9 4, w ∈ wsX10_nextChange := by decide +kernel
  have hf12 := hts (.fieldLink RX10 12 "OneTime" "towns" "LOneTime$Towns;") (by decide +kernel)
  have hf40 := hts (.fieldLink RX10 40 "OneTime" "laws" "LOneTime$Laws;") (by decide +kernel)
  have hf95 := hts (.fieldLink RX10 95 "OneTime$Towns" "clocks" "LOneTime$Since;") (by decide +kernel)
  have hf108 := hts (.fieldLink RX10 108 "OneTime$Laws" "since" "LOneTime$Since;") (by decide +kernel)
  unfold p_O_nextChange at hp
  refine lv_aload_n hx hb dX10_nextChange_0 rfl (lv_at hl 0 rfl) ?_
  refine o_get (ci := 10) (T := TX10) hx hb hts hinX10 hown ho 0 rfl rfl 0 (by decide) hf12 rfl dX10_nextChange_1 ?_
  refine o_get (ci := 9) (T := TX9) hx hb hts hinX9 hown ho 1 rfl rfl 2 (by decide) hf95 rfl dX10_nextChange_4 ?_
  refine lv_iload_n hx hb dX10_nextChange_7 rfl (lv_at hl 1 rfl) ?_
  refine lv_iload_n hx hb dX10_nextChange_8 rfl (lv_at hl 2 rfl) ?_
  refine o_callVi (rest := []) (ci := 6) ⟨hx, hb, hml, hown, hts⟩ ho (c_Si_nextDay_c l D q c tnN ckN stN trN dsT dsC tpN lwN rdS rdM rdE rdD twN rsW rsE rwN suns ckT ckD shf lnT ways ups sts sty dly gAp gOp stp bst sgn lwT lwD rdT rdO lwK lwM twS twM twD rsO rsB rwA v1 v2 _ hp) (cwV 2 hts gX10_nextChange_X6_nextDay rfl rfl rfl (by decide +kernel) ⟨(Nat.le_of_ble_eq_true rfl), (Nat.le_of_ble_eq_true rfl)⟩) 3 rfl rfl rfl hl.1 rfl (Nat.le_of_ble_eq_true rfl) dX10_nextChange_9 ⟨Nat.zero_le _, Nat.zero_le _⟩ (fun r9 u H locs hp ho => ?_)
  try dsimp only at hp
  replace ho : oW D (oT c) A s.heap s (wO q c tnN ckN stN trN dsT dsC tpN lwN rdS rdM rdE rdD twN rsW rsE rwN suns ckT ckD shf lnT ways ups sts sty dly gAp gOp stp bst sgn lwT lwD rdT rdO lwK lwM twS twM twD rsO rsB rwA) H locs := ho
  refine lv_aload_n hx hb dX10_nextChange_12 rfl (lv_at hl 0 rfl) ?_
  refine o_get (ci := 10) (T := TX10) hx hb hts hinX10 hown ho 0 rfl rfl 4 (by decide) hf40 rfl dX10_nextChange_13 ?_
  refine o_get (ci := 2) (T := TX2) hx hb hts hinX2 hown ho 34 rfl rfl 0 (by decide) hf108 rfl dX10_nextChange_16 ?_
  refine lv_iload_n hx hb dX10_nextChange_19 rfl (lv_at hl 1 rfl) ?_
  refine lv_iload_n hx hb dX10_nextChange_20 rfl (lv_at hl 2 rfl) ?_
  refine o_callVi (rest := [.int r9]) (ci := 6) ⟨hx, hb, hml, hown, hts⟩ ho (c_Si_nextDay_l l D q c tnN ckN stN trN dsT dsC tpN lwN rdS rdM rdE rdD twN rsW rsE rwN suns ckT ckD shf lnT ways ups sts sty dly gAp gOp stp bst sgn lwT lwD rdT rdO lwK lwM twS twM twD rsO rsB rwA v1 v2 _ hp) (cwV 2 hts gX10_nextChange_X6_nextDay rfl rfl rfl (by decide +kernel) ⟨(Nat.le_of_ble_eq_true rfl), (Nat.le_of_ble_eq_true rfl)⟩) 35 rfl rfl rfl hl.1 rfl (Nat.le_of_ble_eq_true rfl) dX10_nextChange_21 ⟨Nat.zero_le _, Nat.zero_le _⟩ (fun r21 u H locs hp ho => ?_)
  try dsimp only at hp
  replace ho : oW D (oT c) A s.heap s (wO q c tnN ckN stN trN dsT dsC tpN lwN rdS rdM rdE rdD twN rsW rsE rwN suns ckT ckD shf lnT ways ups sts sty dly gAp gOp stp bst sgn lwT lwD rdT rdO lwK lwM twS twM twD rsO rsB rwA) H locs := ho
  refine va_mmin hx hb (hml.trans hl.1.symm) hown (hts (.methodLink RX10 222 Lib.Math.min.name) (by decide +kernel)) (hts (.static Lib.Math.min.name) (by decide +kernel)) (hts (.initialized "java/lang/Math") (by decide +kernel)) (hts (.code Lib.Math.min.name Lib.Math.min.code 2 (some .int)) (by decide +kernel)) (Nat.le_of_ble_eq_true rfl) (Nat.le_of_ble_eq_true rfl) (Nat.zero_le _) (Nat.zero_le _) dX10_nextChange_24 ?_
  exact hret (jmin r9 r21) () _ _ _ _ dX10_nextChange_27 ho hp
set_option maxHeartbeats 4000000 in
set_option maxRecDepth 100000 in
theorem c_O_late (l : Launch) (D : va_G) (q : Nat → Nat) (c : Nat → ClassId) (tnN : Int32) (ckN : Int32) (stN : Int32) (trN : Int32) (dsT : Int32) (dsC : Int32) (tpN : Int32) (lwN : Int32) (rdS : Int32) (rdM : Int32) (rdE : Int32) (rdD : Int32) (twN : Int32) (rsW : Int32) (rsE : Int32) (rwN : Int32) (suns : Nat → Int32) (ckT : Nat → Int32) (ckD : Nat → Int32) (shf : Nat → Int32) (lnT : Nat → Int32) (ways : Nat → Int32) (ups : Nat → Int32) (sts : Nat → Int32) (sty : Nat → Int32) (dly : Nat → Int32) (gAp : Nat → Nat → Int32) (gOp : Nat → Nat → Int32) (stp : Nat → Int32) (bst : Nat → Int32) (sgn : Nat → Int32) (lwT : Nat → Int32) (lwD : Nat → Int32) (rdT : Nat → Int32) (rdO : Nat → Int32) (lwK : Nat → Int32) (lwM : Nat → Int32) (twS : Nat → Int32) (twM : Nat → Int32) (twD : Nat → Int32) (rsO : Nat → Int32) (rsB : Nat → Int32) (rwA : Nat → Int32) (v1 : Int32) (v2 : Int32) (v3 : Int32) (v4 : Int32) (v5 : Int32) (v6 : Int32) (Q : Int32 → Prop) (hp : p_O_late tnN ckN lwN suns ckT ckD shf lwT lwD lwK lwM v1 v2 v3 v4 v5 v6 Q) : oKi l yX10_late wsX10_late { frames := 4, cells := 0, slots := 0, locals := 91 } [.ref (q 0), .int v1, .int v2, .int v3, .int v4, .int v5, .int v6] D (oT c) (wO q c tnN ckN stN trN dsT dsC tpN lwN rdS rdM rdE rdD twN rsW rsE rwN suns ckT ckD shf lnT ways ups sts sty dly gAp gOp stp bst sgn lwT lwD rdT rdO lwK lwM twS twM twD rsO rsB rwA) (Unit) (fun r (_ : Unit) => Q r) (fun _ => wO q c tnN ckN stN trN dsT dsC tpN lwN rdS rdM rdE rdD twN rsW rsE rwN suns ckT ckD shf lnT ways ups sts sty dly gAp gOp stp bst sgn lwT lwD rdT rdO lwK lwM twS twM twD rsO rsB rwA) := by
  refine oKi.ofW (own := RX10) (cc := cX10_late) (maxL := 11) (plainFor_of_name (by decide +kernel)) rfl rfl (Nat.le_of_ble_eq_true rfl) (fun p e s m args below meth cd A ls Z hx hb hml hown hts hret ho hl => ?_)
  replace hl : lv_has ls 11 [(0, .ref (q 0)), (1, .int v1), (2, .int v2), (3, .int v3), (4, .int v4), (5, .int v5), (6, .int v6)] := hl
  have hinX10 : ∀ w ∈ u_ws RX10 TX10 8, w ∈ wsX10_late := by decide +kernel
  have hf12 := hts (.fieldLink RX10 12 "OneTime" "towns" "LOneTime$Towns;") (by decide +kernel)
  unfold p_O_late at hp
  have hL68 : ∀ (v1 : Int32) (v2 : Int32) (v4 : Int32) (v5 : Int32) (v6 : Int32) (v7 : Int32) (v8 : Int32) (v9 : Int32), Lp3 (p_O_late_L68 tnN ckN lwN suns ckT ckD shf lwT lwD lwK lwM v1 v2 v4 v5 v6 Q) v7 v8 v9 → ∀ (H : Heap) (locs : List Loc) (ls : Array Slot), oW D (oT c) A s.heap s (wO q c tnN ckN stN trN dsT dsC tpN lwN rdS rdM rdE rdD twN rsW rsE rwN suns ckT ckD shf lnT ways ups sts sty dly gAp gOp stp bst sgn lwT lwD rdT rdO lwK lwM twS twM twD rsO rsB rwA) H locs → lv_has ls 11 [(0, .ref (q 0)), (1, .int v1), (2, .int v2), (4, .int v4), (5, .int v5), (6, .int v6), (7, .int v7), (8, .int v8), (9, .int v9)] → W p l e { frames := 4, cells := 0, slots := 0, locals := 91 } s m args below meth cd H locs 0 0 Z (F0 m 68 ls []) := by
    intro v1 v2 v4 v5 v6
    refine Lp3.ind (fun rec hrec v7 v8 v9 hp H locs ls ho hl => ?_)
    unfold p_O_late_L68 at hp
    refine lv_iload hx hb dX10_late_68 (lv_at hl 8 rfl) ?_
    refine lv_sipush (v := 400) hx hb dX10_late_70 (by decide) ?_
    refine lv_icmp_ge (tgt := 141) hx hb dX10_late_73 (by decide) (fun c_73 => ?_) (fun c_73 => ?_)
    · replace hp := hp.1 c_73
      refine lv_iload hx hb dX10_late_141 (lv_at hl 6 rfl) ?_
      exact hret v7 () _ _ _ _ dX10_late_143 ho hp
    · replace hp := hp.2 c_73
      refine lv_iload hx hb dX10_late_76 (lv_at hl 7 rfl) ?_
      refine lv_iload hx hb dX10_late_78 (lv_at hl 3 rfl) ?_
      refine lv_icmp_gt (tgt := 141) hx hb dX10_late_80 (by decide) (fun c_80 => ?_) (fun c_80 => ?_)
      · replace hp := hp.1 c_80
        refine lv_iload hx hb dX10_late_141 (lv_at hl 6 rfl) ?_
        exact hret v7 () _ _ _ _ dX10_late_143 ho hp
      · replace hp := hp.2 c_80
        refine lv_aload_n hx hb dX10_late_83 rfl (lv_at hl 0 rfl) ?_
        refine lv_iload_n hx hb dX10_late_84 rfl (lv_at hl 1 rfl) ?_
        refine lv_iload hx hb dX10_late_85 (lv_at hl 7 rfl) ?_
        refine o_callVi (rest := []) (ci := 10) ⟨hx, hb, hml, hown, hts⟩ ho (c_O_nextChange l D q c tnN ckN stN trN dsT dsC tpN lwN rdS rdM rdE rdD twN rsW rsE rwN suns ckT ckD shf lnT ways ups sts sty dly gAp gOp stp bst sgn lwT lwD rdT rdO lwK lwM twS twM twD rsO rsB rwA v1 v8 _ hp) (cwV 2 hts gX10_late_X10_nextChange rfl rfl rfl (by decide +kernel) ⟨(Nat.le_of_ble_eq_true rfl), (Nat.le_of_ble_eq_true rfl)⟩) 0 rfl rfl rfl hl.1 rfl (Nat.le_of_ble_eq_true rfl) dX10_late_87 ⟨Nat.zero_le _, Nat.zero_le _⟩ (fun r87 u H locs hp ho => ?_)
        try dsimp only at hp
        replace ho : oW D (oT c) A s.heap s (wO q c tnN ckN stN trN dsT dsC tpN lwN rdS rdM rdE rdD twN rsW rsE rwN suns ckT ckD shf lnT ways ups sts sty dly gAp gOp stp bst sgn lwT lwD rdT rdO lwK lwM twS twM twD rsO rsB rwA) H locs := ho
        refine lv_iload hx hb dX10_late_90 (lv_at hl 3 rfl) ?_
        refine lv_iconst (v := 1) hx hb dX10_late_92 (by decide) ?_
        refine lv_iadd hx hb dX10_late_93 ?_
        refine va_mmin hx hb (hml.trans hl.1.symm) hown (hts (.methodLink RX10 222 Lib.Math.min.name) (by decide +kernel)) (hts (.static Lib.Math.min.name) (by decide +kernel)) (hts (.initialized "java/lang/Math") (by decide +kernel)) (hts (.code Lib.Math.min.name Lib.Math.min.code 2 (some .int)) (by decide +kernel)) (Nat.le_of_ble_eq_true rfl) (Nat.le_of_ble_eq_true rfl) (Nat.zero_le _) (Nat.zero_le _) dX10_late_94 ?_
        refine lv_topi (fun x97 e_x97 => ?_)
        replace hp := hp x97 e_x97
        refine lv_istore (lv' := [(10, .int x97), (0, .ref (q 0)), (1, .int v1), (2, .int v2), (4, .int v4), (5, .int v5), (6, .int v6), (7, .int v7), (8, .int v8), (9, .int v9)]) hx hb dX10_late_97 hl (by decide) rfl (fun ls hl => ?_)
        refine lv_iload hx hb dX10_late_99 (lv_at hl 5 rfl) ?_
        refine lv_aload_n hx hb dX10_late_101 rfl (lv_at hl 1 rfl) ?_
        refine lv_iload_n hx hb dX10_late_102 rfl (lv_at hl 2 rfl) ?_
        refine lv_iload_n hx hb dX10_late_103 rfl (lv_at hl 3 rfl) ?_
        refine lv_iload hx hb dX10_late_104 (lv_at hl 8 rfl) ?_
        refine o_callVi (rest := [.int v5]) (ci := 10) ⟨hx, hb, hml, hown, hts⟩ ho (c_O_shiftFor l D q c tnN ckN stN trN dsT dsC tpN lwN rdS rdM rdE rdD twN rsW rsE rwN suns ckT ckD shf lnT ways ups sts sty dly gAp gOp stp bst sgn lwT lwD rdT rdO lwK lwM twS twM twD rsO rsB rwA v1 v2 v8 _ hp) (cwV 3 hts gX10_late_X10_shiftFor rfl rfl rfl (by decide +kernel) ⟨(Nat.le_of_ble_eq_true rfl), (Nat.le_of_ble_eq_true rfl)⟩) 0 rfl rfl rfl hl.1 rfl (Nat.le_of_ble_eq_true rfl) dX10_late_106 ⟨Nat.zero_le _, Nat.zero_le _⟩ (fun r106 u H locs hp ho => ?_)
        try dsimp only at hp
        replace ho : oW D (oT c) A s.heap s (wO q c tnN ckN stN trN dsT dsC tpN lwN rdS rdM rdE rdD twN rsW rsE rwN suns ckT ckD shf lnT ways ups sts sty dly gAp gOp stp bst sgn lwT lwD rdT rdO lwK lwM twS twM twD rsO rsB rwA) H locs := ho
        refine lv_iadd hx hb dX10_late_109 ?_
        refine lv_sipush (v := 1440) hx hb dX10_late_110 (by decide) ?_
        refine o_callSi (rest := []) ⟨hx, hb, hml, hown, hts⟩ ho (c_Jm_floorMod l D (oT c) (wO q c tnN ckN stN trN dsT dsC tpN lwN rdS rdM rdE rdD twN rsW rsE rwN suns ckT ckD shf lnT ways ups sts sty dly gAp gOp stp bst sgn lwT lwD rdT rdO lwK lwM twS twM twD rsO rsB rwA) (v5 + r106) 1440 _ hp) (va_cwS 2 hts gX10_late_J9_floorMod_7cf53 rfl rfl rfl (by decide +kernel) ⟨(Nat.le_of_ble_eq_true rfl), (Nat.le_of_ble_eq_true rfl)⟩) rfl hl.1 rfl (Nat.le_of_ble_eq_true rfl) dX10_late_113 ⟨Nat.zero_le _, Nat.zero_le _⟩ (fun r113 u H locs hp ho => ?_)
        try dsimp only at hp
        replace ho : oW D (oT c) A s.heap s (wO q c tnN ckN stN trN dsT dsC tpN lwN rdS rdM rdE rdD twN rsW rsE rwN suns ckT ckD shf lnT ways ups sts sty dly gAp gOp stp bst sgn lwT lwD rdT rdO lwK lwM twS twM twD rsO rsB rwA) H locs := ho
        refine lv_iload hx hb dX10_late_116 (lv_at hl 6 rfl) ?_
        refine lv_icmp_le (tgt := 131) hx hb dX10_late_118 (by decide) (fun c_118 => ?_) (fun c_118 => ?_)
        · replace hp := hp.1 c_118
          refine lv_iload hx hb dX10_late_131 (lv_at hl 0 rfl) ?_
          refine lv_istore (lv' := [(8, .int x97), (10, .int x97), (0, .ref (q 0)), (1, .int v1), (2, .int v2), (4, .int v4), (5, .int v5), (6, .int v6), (7, .int v7), (9, .int v9)]) hx hb dX10_late_133 hl (by decide) rfl (fun ls hl => ?_)
          obtain ⟨x135, e_x135⟩ : ∃ y : Int32, y = v9 + 1 := ⟨_, rfl⟩
          replace hp := hp x135 e_x135
          refine lv_iinc (v := x135) (lv' := [(9, .int x135), (8, .int x97), (10, .int x97), (0, .ref (q 0)), (1, .int v1), (2, .int v2), (4, .int v4), (5, .int v5), (6, .int v6), (7, .int v7)]) hx hb dX10_late_135 hl (k := 9) rfl (by rw [e_x135]; rfl) (by decide) rfl (fun ls hl => ?_)
          refine lv_goto (tgt := 68) hx hb dX10_late_138 (by decide) ?_
          exact hrec v7 x97 x135 hp _ _ _ ho (lv_sub hl [3, 4, 5, 6, 7, 8, 9, 1, 0] rfl)
        · replace hp := hp.2 c_118
          refine lv_iload hx hb dX10_late_121 (lv_at hl 7 rfl) ?_
          refine lv_iload hx hb dX10_late_123 (lv_at hl 0 rfl) ?_
          refine lv_iload hx hb dX10_late_125 (lv_at hl 8 rfl) ?_
          refine lv_isub hx hb dX10_late_127 ?_
          refine lv_iadd hx hb dX10_late_128 ?_
          refine lv_topi (fun x129 e_x129 => ?_)
          replace hp := hp x129 e_x129
          refine lv_istore (lv' := [(7, .int x129), (10, .int x97), (0, .ref (q 0)), (1, .int v1), (2, .int v2), (4, .int v4), (5, .int v5), (6, .int v6), (8, .int v8), (9, .int v9)]) hx hb dX10_late_129 hl (by decide) rfl (fun ls hl => ?_)
          refine lv_iload hx hb dX10_late_131 (lv_at hl 1 rfl) ?_
          refine lv_istore (lv' := [(8, .int x97), (7, .int x129), (10, .int x97), (0, .ref (q 0)), (1, .int v1), (2, .int v2), (4, .int v4), (5, .int v5), (6, .int v6), (9, .int v9)]) hx hb dX10_late_133 hl (by decide) rfl (fun ls hl => ?_)
          obtain ⟨x135, e_x135⟩ : ∃ y : Int32, y = v9 + 1 := ⟨_, rfl⟩
          replace hp := hp x135 e_x135
          refine lv_iinc (v := x135) (lv' := [(9, .int x135), (8, .int x97), (7, .int x129), (10, .int x97), (0, .ref (q 0)), (1, .int v1), (2, .int v2), (4, .int v4), (5, .int v5), (6, .int v6)]) hx hb dX10_late_135 hl (k := 9) rfl (by rw [e_x135]; rfl) (by decide) rfl (fun ls hl => ?_)
          refine lv_goto (tgt := 68) hx hb dX10_late_138 (by decide) ?_
          exact hrec x129 x97 x135 hp _ _ _ ho (lv_sub hl [4, 5, 6, 7, 8, 9, 2, 1, 0] rfl)
  refine lv_aload_n hx hb dX10_late_0 rfl (lv_at hl 0 rfl) ?_
  refine o_get (ci := 10) (T := TX10) hx hb hts hinX10 hown ho 0 rfl rfl 0 (by decide) hf12 rfl dX10_late_1 ?_
  refine lv_iload_n hx hb dX10_late_4 rfl (lv_at hl 1 rfl) ?_
  refine o_callVi (rest := []) (ci := 9) ⟨hx, hb, hml, hown, hts⟩ ho (c_Tn_has l D q c tnN ckN stN trN dsT dsC tpN lwN rdS rdM rdE rdD twN rsW rsE rwN suns ckT ckD shf lnT ways ups sts sty dly gAp gOp stp bst sgn lwT lwD rdT rdO lwK lwM twS twM twD rsO rsB rwA v1 _ hp) (cwV 1 hts gX10_late_X9_has rfl rfl rfl (by decide +kernel) ⟨(Nat.le_of_ble_eq_true rfl), (Nat.le_of_ble_eq_true rfl)⟩) 1 rfl rfl rfl hl.1 rfl (Nat.le_of_ble_eq_true rfl) dX10_late_5 ⟨Nat.zero_le _, Nat.zero_le _⟩ (fun r5 u H locs hp ho => ?_)
  try dsimp only at hp
  replace ho : oW D (oT c) A s.heap s (wO q c tnN ckN stN trN dsT dsC tpN lwN rdS rdM rdE rdD twN rsW rsE rwN suns ckT ckD shf lnT ways ups sts sty dly gAp gOp stp bst sgn lwT lwD rdT rdO lwK lwM twS twM twD rsO rsB rwA) H locs := ho
  refine lv_if_eq (tgt := 39) hx hb dX10_late_8 (by decide) (fun c_8 => ?_) (fun c_8 => ?_)
  · replace hp := hp.1 c_8
    refine lv_iconst (v := (-1)) hx hb dX10_late_39 (by decide) ?_
    exact hret (-1) () _ _ _ _ dX10_late_40 ho hp
  · replace hp := hp.2 c_8
    refine lv_iload_n hx hb dX10_late_11 rfl (lv_at hl 2 rfl) ?_
    refine o_callSi (rest := []) ⟨hx, hb, hml, hown, hts⟩ ho (c_O_isMatter l D (oT c) (wO q c tnN ckN stN trN dsT dsC tpN lwN rdS rdM rdE rdD twN rsW rsE rwN suns ckT ckD shf lnT ways ups sts sty dly gAp gOp stp bst sgn lwT lwD rdT rdO lwK lwM twS twM twD rsO rsB rwA) v2 _ hp) (va_cwS 1 hts gX10_late_X10_isMatter rfl rfl rfl (by decide +kernel) ⟨(Nat.le_of_ble_eq_true rfl), (Nat.le_of_ble_eq_true rfl)⟩) rfl hl.1 rfl (Nat.le_of_ble_eq_true rfl) dX10_late_12 ⟨Nat.zero_le _, Nat.zero_le _⟩ (fun r12 u H locs hp ho => ?_)
    try dsimp only at hp
    replace ho : oW D (oT c) A s.heap s (wO q c tnN ckN stN trN dsT dsC tpN lwN rdS rdM rdE rdD twN rsW rsE rwN suns ckT ckD shf lnT ways ups sts sty dly gAp gOp stp bst sgn lwT lwD rdT rdO lwK lwM twS twM twD rsO rsB rwA) H locs := ho
    refine lv_if_eq (tgt := 39) hx hb dX10_late_15 (by decide) (fun c_15 => ?_) (fun c_15 => ?_)
    · replace hp := hp.1 c_15
      refine lv_iconst (v := (-1)) hx hb dX10_late_39 (by decide) ?_
      exact hret (-1) () _ _ _ _ dX10_late_40 ho hp
    · replace hp := hp.2 c_15
      refine lv_iload_n hx hb dX10_late_18 rfl (lv_at hl 3 rfl) ?_
      refine o_callSi (rest := []) ⟨hx, hb, hml, hown, hts⟩ ho (c_O_isDay l D (oT c) (wO q c tnN ckN stN trN dsT dsC tpN lwN rdS rdM rdE rdD twN rsW rsE rwN suns ckT ckD shf lnT ways ups sts sty dly gAp gOp stp bst sgn lwT lwD rdT rdO lwK lwM twS twM twD rsO rsB rwA) v3 _ hp) (va_cwS 1 hts gX10_late_X10_isDay rfl rfl rfl (by decide +kernel) ⟨(Nat.le_of_ble_eq_true rfl), (Nat.le_of_ble_eq_true rfl)⟩) rfl hl.1 rfl (Nat.le_of_ble_eq_true rfl) dX10_late_19 ⟨Nat.zero_le _, Nat.zero_le _⟩ (fun r19 u H locs hp ho => ?_)
      try dsimp only at hp
      replace ho : oW D (oT c) A s.heap s (wO q c tnN ckN stN trN dsT dsC tpN lwN rdS rdM rdE rdD twN rsW rsE rwN suns ckT ckD shf lnT ways ups sts sty dly gAp gOp stp bst sgn lwT lwD rdT rdO lwK lwM twS twM twD rsO rsB rwA) H locs := ho
      refine lv_if_eq (tgt := 39) hx hb dX10_late_22 (by decide) (fun c_22 => ?_) (fun c_22 => ?_)
      · replace hp := hp.1 c_22
        refine lv_iconst (v := (-1)) hx hb dX10_late_39 (by decide) ?_
        exact hret (-1) () _ _ _ _ dX10_late_40 ho hp
      · replace hp := hp.2 c_22
        refine lv_iload hx hb dX10_late_25 (lv_at hl 4 rfl) ?_
        refine o_callSi (rest := []) ⟨hx, hb, hml, hown, hts⟩ ho (c_O_isDay l D (oT c) (wO q c tnN ckN stN trN dsT dsC tpN lwN rdS rdM rdE rdD twN rsW rsE rwN suns ckT ckD shf lnT ways ups sts sty dly gAp gOp stp bst sgn lwT lwD rdT rdO lwK lwM twS twM twD rsO rsB rwA) v4 _ hp) (va_cwS 1 hts gX10_late_X10_isDay rfl rfl rfl (by decide +kernel) ⟨(Nat.le_of_ble_eq_true rfl), (Nat.le_of_ble_eq_true rfl)⟩) rfl hl.1 rfl (Nat.le_of_ble_eq_true rfl) dX10_late_27 ⟨Nat.zero_le _, Nat.zero_le _⟩ (fun r27 u H locs hp ho => ?_)
        try dsimp only at hp
        replace ho : oW D (oT c) A s.heap s (wO q c tnN ckN stN trN dsT dsC tpN lwN rdS rdM rdE rdD twN rsW rsE rwN suns ckT ckD shf lnT ways ups sts sty dly gAp gOp stp bst sgn lwT lwD rdT rdO lwK lwM twS twM twD rsO rsB rwA) H locs := ho
        refine lv_if_eq (tgt := 39) hx hb dX10_late_30 (by decide) (fun c_30 => ?_) (fun c_30 => ?_)
        · replace hp := hp.1 c_30
          refine lv_iconst (v := (-1)) hx hb dX10_late_39 (by decide) ?_
          exact hret (-1) () _ _ _ _ dX10_late_40 ho hp
        · replace hp := hp.2 c_30
          refine lv_iload_n hx hb dX10_late_33 rfl (lv_at hl 3 rfl) ?_
          refine lv_iload hx hb dX10_late_34 (lv_at hl 4 rfl) ?_
          refine lv_icmp_le (tgt := 41) hx hb dX10_late_36 (by decide) (fun c_36 => ?_) (fun c_36 => ?_)
          · replace hp := hp.1 c_36
            refine lv_iload hx hb dX10_late_41 (lv_at hl 5 rfl) ?_
            refine o_callSi (rest := []) ⟨hx, hb, hml, hown, hts⟩ ho (c_O_isTimeOfDay l D (oT c) (wO q c tnN ckN stN trN dsT dsC tpN lwN rdS rdM rdE rdD twN rsW rsE rwN suns ckT ckD shf lnT ways ups sts sty dly gAp gOp stp bst sgn lwT lwD rdT rdO lwK lwM twS twM twD rsO rsB rwA) v5 _ hp) (va_cwS 1 hts gX10_late_X10_isTimeOfDay rfl rfl rfl (by decide +kernel) ⟨(Nat.le_of_ble_eq_true rfl), (Nat.le_of_ble_eq_true rfl)⟩) rfl hl.1 rfl (Nat.le_of_ble_eq_true rfl) dX10_late_43 ⟨Nat.zero_le _, Nat.zero_le _⟩ (fun r43 u H locs hp ho => ?_)
            try dsimp only at hp
            replace ho : oW D (oT c) A s.heap s (wO q c tnN ckN stN trN dsT dsC tpN lwN rdS rdM rdE rdD twN rsW rsE rwN suns ckT ckD shf lnT ways ups sts sty dly gAp gOp stp bst sgn lwT lwD rdT rdO lwK lwM twS twM twD rsO rsB rwA) H locs := ho
            refine lv_if_eq (tgt := 57) hx hb dX10_late_46 (by decide) (fun c_46 => ?_) (fun c_46 => ?_)
            · replace hp := hp.1 c_46
              refine lv_iconst (v := (-1)) hx hb dX10_late_57 (by decide) ?_
              exact hret (-1) () _ _ _ _ dX10_late_58 ho hp
            · replace hp := hp.2 c_46
              refine lv_iload hx hb dX10_late_49 (lv_at hl 6 rfl) ?_
              refine o_callSi (rest := []) ⟨hx, hb, hml, hown, hts⟩ ho (c_O_isTimeOfDay l D (oT c) (wO q c tnN ckN stN trN dsT dsC tpN lwN rdS rdM rdE rdD twN rsW rsE rwN suns ckT ckD shf lnT ways ups sts sty dly gAp gOp stp bst sgn lwT lwD rdT rdO lwK lwM twS twM twD rsO rsB rwA) v6 _ hp) (va_cwS 1 hts gX10_late_X10_isTimeOfDay rfl rfl rfl (by decide +kernel) ⟨(Nat.le_of_ble_eq_true rfl), (Nat.le_of_ble_eq_true rfl)⟩) rfl hl.1 rfl (Nat.le_of_ble_eq_true rfl) dX10_late_51 ⟨Nat.zero_le _, Nat.zero_le _⟩ (fun r51 u H locs hp ho => ?_)
              try dsimp only at hp
              replace ho : oW D (oT c) A s.heap s (wO q c tnN ckN stN trN dsT dsC tpN lwN rdS rdM rdE rdD twN rsW rsE rwN suns ckT ckD shf lnT ways ups sts sty dly gAp gOp stp bst sgn lwT lwD rdT rdO lwK lwM twS twM twD rsO rsB rwA) H locs := ho
              refine lv_if_ne (tgt := 59) hx hb dX10_late_54 (by decide) (fun c_54 => ?_) (fun c_54 => ?_)
              · replace hp := hp.2 c_54
                refine lv_iconst (v := 0) hx hb dX10_late_59 (by decide) ?_
                refine lv_istore (lv' := [(7, .int 0), (0, .ref (q 0)), (1, .int v1), (2, .int v2), (3, .int v3), (4, .int v4), (5, .int v5), (6, .int v6)]) hx hb dX10_late_60 hl (by decide) rfl (fun ls hl => ?_)
                refine lv_iload_n hx hb dX10_late_62 rfl (lv_at hl 4 rfl) ?_
                refine lv_istore (lv' := [(8, .int v3), (7, .int 0), (0, .ref (q 0)), (1, .int v1), (2, .int v2), (3, .int v3), (4, .int v4), (5, .int v5), (6, .int v6)]) hx hb dX10_late_63 hl (by decide) rfl (fun ls hl => ?_)
                refine lv_iconst (v := 0) hx hb dX10_late_65 (by decide) ?_
                refine lv_istore (lv' := [(9, .int 0), (8, .int v3), (7, .int 0), (0, .ref (q 0)), (1, .int v1), (2, .int v2), (3, .int v3), (4, .int v4), (5, .int v5), (6, .int v6)]) hx hb dX10_late_66 hl (by decide) rfl (fun ls hl => ?_)
                exact hL68 v1 v2 v4 v5 v6 0 v3 0 hp _ _ _ ho (lv_sub hl [3, 4, 5, 7, 8, 9, 2, 1, 0] rfl)
              · replace hp := hp.1 c_54
                refine lv_iconst (v := (-1)) hx hb dX10_late_57 (by decide) ?_
                exact hret (-1) () _ _ _ _ dX10_late_58 ho hp
          · replace hp := hp.2 c_36
            refine lv_iconst (v := (-1)) hx hb dX10_late_39 (by decide) ?_
            exact hret (-1) () _ _ _ _ dX10_late_40 ho hp
set_option maxHeartbeats 4000000 in
set_option maxRecDepth 100000 in
theorem c_O_tower (l : Launch) (D : va_G) (q : Nat → Nat) (c : Nat → ClassId) (tnN : Int32) (ckN : Int32) (stN : Int32) (trN : Int32) (dsT : Int32) (dsC : Int32) (tpN : Int32) (lwN : Int32) (rdS : Int32) (rdM : Int32) (rdE : Int32) (rdD : Int32) (twN : Int32) (rsW : Int32) (rsE : Int32) (rwN : Int32) (suns : Nat → Int32) (ckT : Nat → Int32) (ckD : Nat → Int32) (shf : Nat → Int32) (lnT : Nat → Int32) (ways : Nat → Int32) (ups : Nat → Int32) (sts : Nat → Int32) (sty : Nat → Int32) (dly : Nat → Int32) (gAp : Nat → Nat → Int32) (gOp : Nat → Nat → Int32) (stp : Nat → Int32) (bst : Nat → Int32) (sgn : Nat → Int32) (lwT : Nat → Int32) (lwD : Nat → Int32) (rdT : Nat → Int32) (rdO : Nat → Int32) (lwK : Nat → Int32) (lwM : Nat → Int32) (twS : Nat → Int32) (twM : Nat → Int32) (twD : Nat → Int32) (rsO : Nat → Int32) (rsB : Nat → Int32) (rwA : Nat → Int32) (v1 : Int32) (v2 : Int32) (v3 : Int32) (Q : Int32 → Int32 → (Nat → Int32) → (Nat → Int32) → (Nat → Int32) → Prop) (hp : p_O_tower tnN suns twN twS twM twD v1 v2 v3 Q) : oKi l yX10_tower wsX10_tower { frames := 1, cells := 0, slots := 0, locals := 23 } [.ref (q 0), .int v1, .int v2, .int v3] D (oT c) (wO q c tnN ckN stN trN dsT dsC tpN lwN rdS rdM rdE rdD twN rsW rsE rwN suns ckT ckD shf lnT ways ups sts sty dly gAp gOp stp bst sgn lwT lwD rdT rdO lwK lwM twS twM twD rsO rsB rwA) (Int32 × (Nat → Int32) × (Nat → Int32) × (Nat → Int32)) (fun r (u : Int32 × (Nat → Int32) × (Nat → Int32) × (Nat → Int32)) => Q r u.1 u.2.1 u.2.2.1 u.2.2.2) (fun u => wO q c tnN ckN stN trN dsT dsC tpN lwN rdS rdM rdE rdD u.1 rsW rsE rwN suns ckT ckD shf lnT ways ups sts sty dly gAp gOp stp bst sgn lwT lwD rdT rdO lwK lwM u.2.1 u.2.2.1 u.2.2.2 rsO rsB rwA) := by
  refine oKi.ofW (own := RX10) (cc := cX10_tower) (maxL := 4) (plainFor_of_name (by decide +kernel)) rfl rfl (Nat.le_of_ble_eq_true rfl) (fun p e s m args below meth cd A ls Z hx hb hml hown hts hret ho hl => ?_)
  replace hl : lv_has ls 4 [(0, .ref (q 0)), (1, .int v1), (2, .int v2), (3, .int v3)] := hl
  have hinX10 : ∀ w ∈ u_ws RX10 TX10 8, w ∈ wsX10_tower := by decide +kernel
  have hinX9 : ∀ w ∈ u_ws RX9 TX9 4, w ∈ wsX10_tower := by decide +kernel
  have hf12 := hts (.fieldLink RX10 12 "OneTime" "towns" "LOneTime$Towns;") (by decide +kernel)
  have hf47 := hts (.fieldLink RX10 47 "OneTime" "towers" "LOneTime$Towers;") (by decide +kernel)
  have hf230 := hts (.fieldLink RX10 230 "OneTime$Towns" "suns" "[I") (by decide +kernel)
  unfold p_O_tower at hp
  refine lv_aload_n hx hb dX10_tower_0 rfl (lv_at hl 0 rfl) ?_
  refine o_get (ci := 10) (T := TX10) hx hb hts hinX10 hown ho 0 rfl rfl 0 (by decide) hf12 rfl dX10_tower_1 ?_
  refine lv_iload_n hx hb dX10_tower_4 rfl (lv_at hl 1 rfl) ?_
  refine o_callVi (rest := []) (ci := 9) ⟨hx, hb, hml, hown, hts⟩ ho (c_Tn_has l D q c tnN ckN stN trN dsT dsC tpN lwN rdS rdM rdE rdD twN rsW rsE rwN suns ckT ckD shf lnT ways ups sts sty dly gAp gOp stp bst sgn lwT lwD rdT rdO lwK lwM twS twM twD rsO rsB rwA v1 _ hp) (cwV 1 hts gX10_tower_X9_has rfl rfl rfl (by decide +kernel) ⟨(Nat.le_of_ble_eq_true rfl), (Nat.le_of_ble_eq_true rfl)⟩) 1 rfl rfl rfl hl.1 rfl (Nat.le_of_ble_eq_true rfl) dX10_tower_5 ⟨Nat.zero_le _, Nat.zero_le _⟩ (fun r5 u H locs hp ho => ?_)
  try dsimp only at hp
  replace ho : oW D (oT c) A s.heap s (wO q c tnN ckN stN trN dsT dsC tpN lwN rdS rdM rdE rdD twN rsW rsE rwN suns ckT ckD shf lnT ways ups sts sty dly gAp gOp stp bst sgn lwT lwD rdT rdO lwK lwM twS twM twD rsO rsB rwA) H locs := ho
  refine lv_if_eq (tgt := 32) hx hb dX10_tower_8 (by decide) (fun c_8 => ?_) (fun c_8 => ?_)
  · replace hp := hp.1 c_8
    refine lv_iconst (v := (-1)) hx hb dX10_tower_32 (by decide) ?_
    exact hret (-1) (twN, twS, twM, twD) _ _ _ _ dX10_tower_33 ho hp
  · replace hp := hp.2 c_8
    refine lv_iload_n hx hb dX10_tower_11 rfl (lv_at hl 2 rfl) ?_
    refine o_callSi (rest := []) ⟨hx, hb, hml, hown, hts⟩ ho (c_O_isMinute l D (oT c) (wO q c tnN ckN stN trN dsT dsC tpN lwN rdS rdM rdE rdD twN rsW rsE rwN suns ckT ckD shf lnT ways ups sts sty dly gAp gOp stp bst sgn lwT lwD rdT rdO lwK lwM twS twM twD rsO rsB rwA) v2 _ hp) (va_cwS 1 hts gX10_tower_X10_isMinute rfl rfl rfl (by decide +kernel) ⟨(Nat.le_of_ble_eq_true rfl), (Nat.le_of_ble_eq_true rfl)⟩) rfl hl.1 rfl (Nat.le_of_ble_eq_true rfl) dX10_tower_12 ⟨Nat.zero_le _, Nat.zero_le _⟩ (fun r12 u H locs hp ho => ?_)
    try dsimp only at hp
    replace ho : oW D (oT c) A s.heap s (wO q c tnN ckN stN trN dsT dsC tpN lwN rdS rdM rdE rdD twN rsW rsE rwN suns ckT ckD shf lnT ways ups sts sty dly gAp gOp stp bst sgn lwT lwD rdT rdO lwK lwM twS twM twD rsO rsB rwA) H locs := ho
    refine lv_if_eq (tgt := 32) hx hb dX10_tower_15 (by decide) (fun c_15 => ?_) (fun c_15 => ?_)
    · replace hp := hp.1 c_15
      refine lv_iconst (v := (-1)) hx hb dX10_tower_32 (by decide) ?_
      exact hret (-1) (twN, twS, twM, twD) _ _ _ _ dX10_tower_33 ho hp
    · replace hp := hp.2 c_15
      refine lv_iload_n hx hb dX10_tower_18 rfl (lv_at hl 3 rfl) ?_
      refine lv_sipush (v := (-600)) hx hb dX10_tower_19 (by decide) ?_
      refine lv_icmp_lt (tgt := 32) hx hb dX10_tower_22 (by decide) (fun c_22 => ?_) (fun c_22 => ?_)
      · replace hp := hp.1 c_22
        refine lv_iconst (v := (-1)) hx hb dX10_tower_32 (by decide) ?_
        exact hret (-1) (twN, twS, twM, twD) _ _ _ _ dX10_tower_33 ho hp
      · replace hp := hp.2 c_22
        refine lv_iload_n hx hb dX10_tower_25 rfl (lv_at hl 3 rfl) ?_
        refine lv_sipush (v := 600) hx hb dX10_tower_26 (by decide) ?_
        refine lv_icmp_le (tgt := 34) hx hb dX10_tower_29 (by decide) (fun c_29 => ?_) (fun c_29 => ?_)
        · replace hp := hp.1 c_29
          refine lv_aload_n hx hb dX10_tower_34 rfl (lv_at hl 0 rfl) ?_
          refine o_get (ci := 10) (T := TX10) hx hb hts hinX10 hown ho 0 rfl rfl 5 (by decide) hf47 rfl dX10_tower_35 ?_
          refine lv_aload_n hx hb dX10_tower_38 rfl (lv_at hl 0 rfl) ?_
          refine o_get (ci := 10) (T := TX10) hx hb hts hinX10 hown ho 0 rfl rfl 0 (by decide) hf12 rfl dX10_tower_39 ?_
          refine o_get (ci := 9) (T := TX9) hx hb hts hinX9 hown ho 1 rfl rfl 0 (by decide) hf230 rfl dX10_tower_42 ?_
          refine lv_iload_n hx hb dX10_tower_45 rfl (lv_at hl 1 rfl) ?_
          refine o_ild hx hb ho 2 0 rfl rfl hp.1 dX10_tower_46 ?_
          replace hp := hp.2
          refine lv_iload_n hx hb dX10_tower_47 rfl (lv_at hl 2 rfl) ?_
          refine lv_iload_n hx hb dX10_tower_48 rfl (lv_at hl 3 rfl) ?_
          refine o_callVi (rest := []) (ci := 8) ⟨hx, hb, hml, hown, hts⟩ ho (c_Tw_build l D q c tnN ckN stN trN dsT dsC tpN lwN rdS rdM rdE rdD twN rsW rsE rwN suns ckT ckD shf lnT ways ups sts sty dly gAp gOp stp bst sgn lwT lwD rdT rdO lwK lwM twS twM twD rsO rsB rwA (suns v1.toNatClampNeg) v2 v3 _ hp) (cwV 3 hts gX10_tower_X8_build rfl rfl rfl (by decide +kernel) ⟨(Nat.le_of_ble_eq_true rfl), (Nat.le_of_ble_eq_true rfl)⟩) 43 rfl rfl rfl hl.1 rfl (Nat.le_of_ble_eq_true rfl) dX10_tower_49 ⟨Nat.zero_le _, Nat.zero_le _⟩ (fun r49 u H locs hp ho => ?_)
          obtain ⟨twN_49, twS_49, twM_49, twD_49⟩ := u
          try dsimp only at hp
          replace ho : oW D (oT c) A s.heap s (wO q c tnN ckN stN trN dsT dsC tpN lwN rdS rdM rdE rdD twN_49 rsW rsE rwN suns ckT ckD shf lnT ways ups sts sty dly gAp gOp stp bst sgn lwT lwD rdT rdO lwK lwM twS_49 twM_49 twD_49 rsO rsB rwA) H locs := ho
          exact hret r49 (twN_49, twS_49, twM_49, twD_49) _ _ _ _ dX10_tower_52 ho hp
        · replace hp := hp.2 c_29
          refine lv_iconst (v := (-1)) hx hb dX10_tower_32 (by decide) ?_
          exact hret (-1) (twN, twS, twM, twD) _ _ _ _ dX10_tower_33 ho hp
set_option maxHeartbeats 4000000 in
set_option maxRecDepth 100000 in
theorem c_O_round (l : Launch) (D : va_G) (q : Nat → Nat) (c : Nat → ClassId) (tnN : Int32) (ckN : Int32) (stN : Int32) (trN : Int32) (dsT : Int32) (dsC : Int32) (tpN : Int32) (lwN : Int32) (rdS : Int32) (rdM : Int32) (rdE : Int32) (rdD : Int32) (twN : Int32) (rsW : Int32) (rsE : Int32) (rwN : Int32) (suns : Nat → Int32) (ckT : Nat → Int32) (ckD : Nat → Int32) (shf : Nat → Int32) (lnT : Nat → Int32) (ways : Nat → Int32) (ups : Nat → Int32) (sts : Nat → Int32) (sty : Nat → Int32) (dly : Nat → Int32) (gAp : Nat → Nat → Int32) (gOp : Nat → Nat → Int32) (stp : Nat → Int32) (bst : Nat → Int32) (sgn : Nat → Int32) (lwT : Nat → Int32) (lwD : Nat → Int32) (rdT : Nat → Int32) (rdO : Nat → Int32) (lwK : Nat → Int32) (lwM : Nat → Int32) (twS : Nat → Int32) (twM : Nat → Int32) (twD : Nat → Int32) (rsO : Nat → Int32) (rsB : Nat → Int32) (rwA : Nat → Int32) (v1 : Int32) (v2 : Int32) (Q : Int32 → Int32 → Int32 → Int32 → (Nat → Int32) → (Nat → Int32) → (Nat → Int32) → Prop) (hp : p_O_round tnN twN suns twS twM twD rsW rsE rwN rsO rsB rwA v1 v2 Q) : oKi l yX10_round wsX10_round { frames := 14, cells := 0, slots := 0, locals := 398 } [.ref (q 0), .int v1, .int v2] D (oT c) (wO q c tnN ckN stN trN dsT dsC tpN lwN rdS rdM rdE rdD twN rsW rsE rwN suns ckT ckD shf lnT ways ups sts sty dly gAp gOp stp bst sgn lwT lwD rdT rdO lwK lwM twS twM twD rsO rsB rwA) (Int32 × Int32 × Int32 × (Nat → Int32) × (Nat → Int32) × (Nat → Int32)) (fun r (u : Int32 × Int32 × Int32 × (Nat → Int32) × (Nat → Int32) × (Nat → Int32)) => Q r u.1 u.2.1 u.2.2.1 u.2.2.2.1 u.2.2.2.2.1 u.2.2.2.2.2) (fun u => wO q c tnN ckN stN trN dsT dsC tpN lwN rdS rdM rdE rdD twN u.1 u.2.1 u.2.2.1 suns ckT ckD shf lnT ways ups sts sty dly gAp gOp stp bst sgn lwT lwD rdT rdO lwK lwM twS twM twD u.2.2.2.1 u.2.2.2.2.1 u.2.2.2.2.2) := by
  refine oKi.ofW (own := RX10) (cc := cX10_round) (maxL := 4) (plainFor_of_name (by decide +kernel)) rfl rfl (Nat.le_of_ble_eq_true rfl) (fun p e s m args below meth cd A ls Z hx hb hml hown hts hret ho hl => ?_)
  replace hl : lv_has ls 4 [(0, .ref (q 0)), (1, .int v1), (2, .int v2)] := hl
  have hinX10 : ∀ w ∈ u_ws RX10 TX10 8, w ∈ wsX10_round := by decide +kernel
  have hinX4 : ∀ w ∈ u_ws RX4 TX4 4, w ∈ wsX10_round := by decide +kernel
  have hinX8 : ∀ w ∈ u_ws RX8 TX8 4, w ∈ wsX10_round := by decide +kernel
  have hinX9 : ∀ w ∈ u_ws RX9 TX9 4, w ∈ wsX10_round := by decide +kernel
  have hf12 := hts (.fieldLink RX10 12 "OneTime" "towns" "LOneTime$Towns;") (by decide +kernel)
  have hf47 := hts (.fieldLink RX10 47 "OneTime" "towers" "LOneTime$Towers;") (by decide +kernel)
  have hf54 := hts (.fieldLink RX10 54 "OneTime" "roundSearch" "LOneTime$RoundSearch;") (by decide +kernel)
  have hf61 := hts (.fieldLink RX10 61 "OneTime" "told" "LOneTime$Row;") (by decide +kernel)
  have hf111 := hts (.fieldLink RX10 111 "OneTime$Towers" "size" "I") (by decide +kernel)
  have hf230 := hts (.fieldLink RX10 230 "OneTime$Towns" "suns" "[I") (by decide +kernel)
  have hf254 := hts (.fieldLink RX10 254 "OneTime$RoundSearch" "bestEnd" "I") (by decide +kernel)
  have hf258 := hts (.fieldLink RX10 258 "OneTime$RoundSearch" "best" "[I") (by decide +kernel)
  have hf261 := hts (.fieldLink RX10 261 "OneTime$RoundSearch" "bestWorst" "I") (by decide +kernel)
  have hk257 := hts (.constant RX10 257 576000) (by decide +kernel)
  unfold p_O_round at hp
  have hL86 : ∀ (rsW : Int32) (rsE : Int32) (rsO : Nat → Int32) (rsB : Nat → Int32) (v3 : Int32) (rwN : Int32) (rwA : Nat → Int32), Lp3 (p_O_round_L86 tnN twN suns twS twM twD rsW rsE rsO rsB Q) v3 rwN rwA → ∀ (H : Heap) (locs : List Loc) (ls : Array Slot), oW D (oT c) A s.heap s (wO q c tnN ckN stN trN dsT dsC tpN lwN rdS rdM rdE rdD twN rsW rsE rwN suns ckT ckD shf lnT ways ups sts sty dly gAp gOp stp bst sgn lwT lwD rdT rdO lwK lwM twS twM twD rsO rsB rwA) H locs → lv_has ls 4 [(0, .ref (q 0)), (3, .int v3)] → W p l e { frames := 14, cells := 0, slots := 0, locals := 398 } s m args below meth cd H locs 0 0 Z (F0 m 86 ls []) := by
    intro rsW rsE rsO rsB
    refine Lp3.ind (fun rec hrec v3 rwN rwA hp H locs ls ho hl => ?_)
    unfold p_O_round_L86 at hp
    refine lv_iload_n hx hb dX10_round_86 rfl (lv_at hl 1 rfl) ?_
    refine lv_aload_n hx hb dX10_round_87 rfl (lv_at hl 0 rfl) ?_
    refine o_get (ci := 10) (T := TX10) hx hb hts hinX10 hown ho 0 rfl rfl 5 (by decide) hf47 rfl dX10_round_88 ?_
    refine o_get (ci := 8) (T := TX8) hx hb hts hinX8 hown ho 43 rfl rfl 0 (by decide) hf111 rfl dX10_round_91 ?_
    refine lv_icmp_ge (tgt := 119) hx hb dX10_round_94 (by decide) (fun c_94 => ?_) (fun c_94 => ?_)
    · replace hp := hp.1 c_94
      refine lv_aload_n hx hb dX10_round_119 rfl (lv_at hl 0 rfl) ?_
      refine o_get (ci := 10) (T := TX10) hx hb hts hinX10 hown ho 0 rfl rfl 7 (by decide) hf61 rfl dX10_round_120 ?_
      refine lv_aload_n hx hb dX10_round_123 rfl (lv_at hl 0 rfl) ?_
      refine o_get (ci := 10) (T := TX10) hx hb hts hinX10 hown ho 0 rfl rfl 6 (by decide) hf54 rfl dX10_round_124 ?_
      refine o_get (ci := 4) (T := TX4) hx hb hts hinX4 hown ho 47 rfl rfl 3 (by decide) hf254 rfl dX10_round_127 ?_
      refine o_callVv (rest := []) (ci := 5) ⟨hx, hb, hml, hown, hts⟩ ho (c_Rw_add l D q c tnN ckN stN trN dsT dsC tpN lwN rdS rdM rdE rdD twN rsW rsE rwN suns ckT ckD shf lnT ways ups sts sty dly gAp gOp stp bst sgn lwT lwD rdT rdO lwK lwM twS twM twD rsO rsB rwA rsE _ hp) (cwV 1 hts gX10_round_X5_add rfl rfl rfl (by decide +kernel) ⟨(Nat.le_of_ble_eq_true rfl), (Nat.le_of_ble_eq_true rfl)⟩) 50 rfl rfl rfl hl.1 rfl (Nat.le_of_ble_eq_true rfl) dX10_round_130 ⟨Nat.zero_le _, Nat.zero_le _⟩ (fun u H locs hp ho => ?_)
      obtain ⟨rwN_130, rwA_130⟩ := u
      try dsimp only at hp
      replace ho : oW D (oT c) A s.heap s (wO q c tnN ckN stN trN dsT dsC tpN lwN rdS rdM rdE rdD twN rsW rsE rwN_130 suns ckT ckD shf lnT ways ups sts sty dly gAp gOp stp bst sgn lwT lwD rdT rdO lwK lwM twS twM twD rsO rsB rwA_130) H locs := ho
      refine lv_aload_n hx hb dX10_round_133 rfl (lv_at hl 0 rfl) ?_
      refine o_get (ci := 10) (T := TX10) hx hb hts hinX10 hown ho 0 rfl rfl 6 (by decide) hf54 rfl dX10_round_134 ?_
      refine o_get (ci := 4) (T := TX4) hx hb hts hinX4 hown ho 47 rfl rfl 2 (by decide) hf261 rfl dX10_round_137 ?_
      exact hret rsW (rsW, rsE, rwN_130, rsO, rsB, rwA_130) _ _ _ _ dX10_round_140 ho hp
    · replace hp := hp.2 c_94
      refine lv_aload_n hx hb dX10_round_97 rfl (lv_at hl 0 rfl) ?_
      refine o_get (ci := 10) (T := TX10) hx hb hts hinX10 hown ho 0 rfl rfl 7 (by decide) hf61 rfl dX10_round_98 ?_
      refine lv_aload_n hx hb dX10_round_101 rfl (lv_at hl 0 rfl) ?_
      refine o_get (ci := 10) (T := TX10) hx hb hts hinX10 hown ho 0 rfl rfl 6 (by decide) hf54 rfl dX10_round_102 ?_
      refine o_get (ci := 4) (T := TX4) hx hb hts hinX4 hown ho 47 rfl rfl 1 (by decide) hf258 rfl dX10_round_105 ?_
      refine lv_iload_n hx hb dX10_round_108 rfl (lv_at hl 1 rfl) ?_
      refine o_ild hx hb ho 49 27 rfl rfl hp.1 dX10_round_109 ?_
      replace hp := hp.2
      refine o_callVv (rest := []) (ci := 5) ⟨hx, hb, hml, hown, hts⟩ ho (c_Rw_add l D q c tnN ckN stN trN dsT dsC tpN lwN rdS rdM rdE rdD twN rsW rsE rwN suns ckT ckD shf lnT ways ups sts sty dly gAp gOp stp bst sgn lwT lwD rdT rdO lwK lwM twS twM twD rsO rsB rwA (rsB v3.toNatClampNeg) _ hp) (cwV 1 hts gX10_round_X5_add rfl rfl rfl (by decide +kernel) ⟨(Nat.le_of_ble_eq_true rfl), (Nat.le_of_ble_eq_true rfl)⟩) 50 rfl rfl rfl hl.1 rfl (Nat.le_of_ble_eq_true rfl) dX10_round_110 ⟨Nat.zero_le _, Nat.zero_le _⟩ (fun u H locs hp ho => ?_)
      obtain ⟨rwN_110, rwA_110⟩ := u
      try dsimp only at hp
      replace ho : oW D (oT c) A s.heap s (wO q c tnN ckN stN trN dsT dsC tpN lwN rdS rdM rdE rdD twN rsW rsE rwN_110 suns ckT ckD shf lnT ways ups sts sty dly gAp gOp stp bst sgn lwT lwD rdT rdO lwK lwM twS twM twD rsO rsB rwA_110) H locs := ho
      obtain ⟨x113, e_x113⟩ : ∃ y : Int32, y = v3 + 1 := ⟨_, rfl⟩
      replace hp := hp x113 e_x113
      refine lv_iinc (v := x113) (lv' := [(3, .int x113), (0, .ref (q 0))]) hx hb dX10_round_113 hl (k := 1) rfl (by rw [e_x113]; rfl) (by decide) rfl (fun ls hl => ?_)
      refine lv_goto (tgt := 86) hx hb dX10_round_116 (by decide) ?_
      exact hrec x113 rwN_110 rwA_110 hp _ _ _ ho (lv_sub hl [1, 0] rfl)
  refine lv_aload_n hx hb dX10_round_0 rfl (lv_at hl 0 rfl) ?_
  refine o_get (ci := 10) (T := TX10) hx hb hts hinX10 hown ho 0 rfl rfl 0 (by decide) hf12 rfl dX10_round_1 ?_
  refine lv_iload_n hx hb dX10_round_4 rfl (lv_at hl 1 rfl) ?_
  refine o_callVi (rest := []) (ci := 9) ⟨hx, hb, hml, hown, hts⟩ ho (c_Tn_has l D q c tnN ckN stN trN dsT dsC tpN lwN rdS rdM rdE rdD twN rsW rsE rwN suns ckT ckD shf lnT ways ups sts sty dly gAp gOp stp bst sgn lwT lwD rdT rdO lwK lwM twS twM twD rsO rsB rwA v1 _ hp) (cwV 1 hts gX10_round_X9_has rfl rfl rfl (by decide +kernel) ⟨(Nat.le_of_ble_eq_true rfl), (Nat.le_of_ble_eq_true rfl)⟩) 1 rfl rfl rfl hl.1 rfl (Nat.le_of_ble_eq_true rfl) dX10_round_5 ⟨Nat.zero_le _, Nat.zero_le _⟩ (fun r5 u H locs hp ho => ?_)
  try dsimp only at hp
  replace ho : oW D (oT c) A s.heap s (wO q c tnN ckN stN trN dsT dsC tpN lwN rdS rdM rdE rdD twN rsW rsE rwN suns ckT ckD shf lnT ways ups sts sty dly gAp gOp stp bst sgn lwT lwD rdT rdO lwK lwM twS twM twD rsO rsB rwA) H locs := ho
  refine lv_if_eq (tgt := 39) hx hb dX10_round_8 (by decide) (fun c_8 => ?_) (fun c_8 => ?_)
  · replace hp := hp.1 c_8
    refine lv_iconst (v := (-1)) hx hb dX10_round_39 (by decide) ?_
    exact hret (-1) (rsW, rsE, rwN, rsO, rsB, rwA) _ _ _ _ dX10_round_40 ho hp
  · replace hp := hp.2 c_8
    refine lv_iload_n hx hb dX10_round_11 rfl (lv_at hl 2 rfl) ?_
    refine o_callSi (rest := []) ⟨hx, hb, hml, hown, hts⟩ ho (c_O_isMinute l D (oT c) (wO q c tnN ckN stN trN dsT dsC tpN lwN rdS rdM rdE rdD twN rsW rsE rwN suns ckT ckD shf lnT ways ups sts sty dly gAp gOp stp bst sgn lwT lwD rdT rdO lwK lwM twS twM twD rsO rsB rwA) v2 _ hp) (va_cwS 1 hts gX10_round_X10_isMinute rfl rfl rfl (by decide +kernel) ⟨(Nat.le_of_ble_eq_true rfl), (Nat.le_of_ble_eq_true rfl)⟩) rfl hl.1 rfl (Nat.le_of_ble_eq_true rfl) dX10_round_12 ⟨Nat.zero_le _, Nat.zero_le _⟩ (fun r12 u H locs hp ho => ?_)
    try dsimp only at hp
    replace ho : oW D (oT c) A s.heap s (wO q c tnN ckN stN trN dsT dsC tpN lwN rdS rdM rdE rdD twN rsW rsE rwN suns ckT ckD shf lnT ways ups sts sty dly gAp gOp stp bst sgn lwT lwD rdT rdO lwK lwM twS twM twD rsO rsB rwA) H locs := ho
    refine lv_if_eq (tgt := 39) hx hb dX10_round_15 (by decide) (fun c_15 => ?_) (fun c_15 => ?_)
    · replace hp := hp.1 c_15
      refine lv_iconst (v := (-1)) hx hb dX10_round_39 (by decide) ?_
      exact hret (-1) (rsW, rsE, rwN, rsO, rsB, rwA) _ _ _ _ dX10_round_40 ho hp
    · replace hp := hp.2 c_15
      refine lv_aload_n hx hb dX10_round_18 rfl (lv_at hl 0 rfl) ?_
      refine o_get (ci := 10) (T := TX10) hx hb hts hinX10 hown ho 0 rfl rfl 5 (by decide) hf47 rfl dX10_round_19 ?_
      refine o_get (ci := 8) (T := TX8) hx hb hts hinX8 hown ho 43 rfl rfl 0 (by decide) hf111 rfl dX10_round_22 ?_
      refine lv_if_eq (tgt := 39) hx hb dX10_round_25 (by decide) (fun c_25 => ?_) (fun c_25 => ?_)
      · replace hp := hp.1 c_25
        refine lv_iconst (v := (-1)) hx hb dX10_round_39 (by decide) ?_
        exact hret (-1) (rsW, rsE, rwN, rsO, rsB, rwA) _ _ _ _ dX10_round_40 ho hp
      · replace hp := hp.2 c_25
        refine lv_aload_n hx hb dX10_round_28 rfl (lv_at hl 0 rfl) ?_
        refine o_get (ci := 10) (T := TX10) hx hb hts hinX10 hown ho 0 rfl rfl 5 (by decide) hf47 rfl dX10_round_29 ?_
        refine lv_iload_n hx hb dX10_round_32 rfl (lv_at hl 2 rfl) ?_
        refine o_callVi (rest := []) (ci := 8) ⟨hx, hb, hml, hown, hts⟩ ho (c_Tw_areAllSetBy l D q c tnN ckN stN trN dsT dsC tpN lwN rdS rdM rdE rdD twN rsW rsE rwN suns ckT ckD shf lnT ways ups sts sty dly gAp gOp stp bst sgn lwT lwD rdT rdO lwK lwM twS twM twD rsO rsB rwA v2 _ hp) (cwV 1 hts gX10_round_X8_areAllSetBy rfl rfl rfl (by decide +kernel) ⟨(Nat.le_of_ble_eq_true rfl), (Nat.le_of_ble_eq_true rfl)⟩) 43 rfl rfl rfl hl.1 rfl (Nat.le_of_ble_eq_true rfl) dX10_round_33 ⟨Nat.zero_le _, Nat.zero_le _⟩ (fun r33 u H locs hp ho => ?_)
        try dsimp only at hp
        replace ho : oW D (oT c) A s.heap s (wO q c tnN ckN stN trN dsT dsC tpN lwN rdS rdM rdE rdD twN rsW rsE rwN suns ckT ckD shf lnT ways ups sts sty dly gAp gOp stp bst sgn lwT lwD rdT rdO lwK lwM twS twM twD rsO rsB rwA) H locs := ho
        refine lv_if_ne (tgt := 41) hx hb dX10_round_36 (by decide) (fun c_36 => ?_) (fun c_36 => ?_)
        · replace hp := hp.2 c_36
          refine lv_aload_n hx hb dX10_round_41 rfl (lv_at hl 0 rfl) ?_
          refine o_get (ci := 10) (T := TX10) hx hb hts hinX10 hown ho 0 rfl rfl 6 (by decide) hf54 rfl dX10_round_42 ?_
          refine lv_aload_n hx hb dX10_round_45 rfl (lv_at hl 0 rfl) ?_
          refine o_get (ci := 10) (T := TX10) hx hb hts hinX10 hown ho 0 rfl rfl 5 (by decide) hf47 rfl dX10_round_46 ?_
          refine lv_aload_n hx hb dX10_round_49 rfl (lv_at hl 0 rfl) ?_
          refine o_get (ci := 10) (T := TX10) hx hb hts hinX10 hown ho 0 rfl rfl 0 (by decide) hf12 rfl dX10_round_50 ?_
          refine o_get (ci := 9) (T := TX9) hx hb hts hinX9 hown ho 1 rfl rfl 0 (by decide) hf230 rfl dX10_round_53 ?_
          refine lv_iload_n hx hb dX10_round_56 rfl (lv_at hl 1 rfl) ?_
          refine o_ild hx hb ho 2 0 rfl rfl hp.1 dX10_round_57 ?_
          replace hp := hp.2
          refine lv_iload_n hx hb dX10_round_58 rfl (lv_at hl 2 rfl) ?_
          refine o_callVv (rest := []) (ci := 4) ⟨hx, hb, hml, hown, hts⟩ ho (c_Rs_seek l D q c tnN ckN stN trN dsT dsC tpN lwN rdS rdM rdE rdD twN rsW rsE rwN suns ckT ckD shf lnT ways ups sts sty dly gAp gOp stp bst sgn lwT lwD rdT rdO lwK lwM twS twM twD rsO rsB rwA (suns v1.toNatClampNeg) v2 _ hp) (cwV 3 hts gX10_round_X4_seek rfl rfl rfl (by decide +kernel) ⟨(Nat.le_of_ble_eq_true rfl), (Nat.le_of_ble_eq_true rfl)⟩) 47 rfl rfl rfl hl.1 rfl (Nat.le_of_ble_eq_true rfl) dX10_round_59 ⟨Nat.zero_le _, Nat.zero_le _⟩ (fun u H locs hp ho => ?_)
          obtain ⟨rsW_59, rsE_59, rsO_59, rsB_59⟩ := u
          try dsimp only at hp
          replace ho : oW D (oT c) A s.heap s (wO q c tnN ckN stN trN dsT dsC tpN lwN rdS rdM rdE rdD twN rsW_59 rsE_59 rwN suns ckT ckD shf lnT ways ups sts sty dly gAp gOp stp bst sgn lwT lwD rdT rdO lwK lwM twS twM twD rsO_59 rsB_59 rwA) H locs := ho
          refine lv_aload_n hx hb dX10_round_62 rfl (lv_at hl 0 rfl) ?_
          refine o_get (ci := 10) (T := TX10) hx hb hts hinX10 hown ho 0 rfl rfl 6 (by decide) hf54 rfl dX10_round_63 ?_
          refine o_get (ci := 4) (T := TX4) hx hb hts hinX4 hown ho 47 rfl rfl 3 (by decide) hf254 rfl dX10_round_66 ?_
          refine lv_ldcw (v := 576000) hx hb hown hk257 dX10_round_69 ?_
          refine lv_icmp_lt (tgt := 77) hx hb dX10_round_72 (by decide) (fun c_72 => ?_) (fun c_72 => ?_)
          · replace hp := hp.1 c_72
            refine lv_aload_n hx hb dX10_round_77 rfl (lv_at hl 0 rfl) ?_
            refine o_get (ci := 10) (T := TX10) hx hb hts hinX10 hown ho 0 rfl rfl 7 (by decide) hf61 rfl dX10_round_78 ?_
            refine o_callVv (rest := []) (ci := 5) ⟨hx, hb, hml, hown, hts⟩ ho (c_Rw_clear l D q c tnN ckN stN trN dsT dsC tpN lwN rdS rdM rdE rdD twN rsW_59 rsE_59 rwN suns ckT ckD shf lnT ways ups sts sty dly gAp gOp stp bst sgn lwT lwD rdT rdO lwK lwM twS twM twD rsO_59 rsB_59 rwA  _ hp) (cwV 0 hts gX10_round_X5_clear rfl rfl rfl (by decide +kernel) ⟨(Nat.le_of_ble_eq_true rfl), (Nat.le_of_ble_eq_true rfl)⟩) 50 rfl rfl rfl hl.1 rfl (Nat.le_of_ble_eq_true rfl) dX10_round_81 ⟨Nat.zero_le _, Nat.zero_le _⟩ (fun u H locs hp ho => ?_)
            obtain ⟨rwN_81, rfl⟩ : ∃ z, z = u := ⟨_, rfl⟩
            try dsimp only at hp
            replace ho : oW D (oT c) A s.heap s (wO q c tnN ckN stN trN dsT dsC tpN lwN rdS rdM rdE rdD twN rsW_59 rsE_59 rwN_81 suns ckT ckD shf lnT ways ups sts sty dly gAp gOp stp bst sgn lwT lwD rdT rdO lwK lwM twS twM twD rsO_59 rsB_59 rwA) H locs := ho
            refine lv_iconst (v := 0) hx hb dX10_round_84 (by decide) ?_
            refine lv_istore_n (lv' := [(3, .int 0), (0, .ref (q 0)), (1, .int v1), (2, .int v2)]) hx hb dX10_round_85 rfl hl (by decide) rfl (fun ls hl => ?_)
            exact hL86 rsW_59 rsE_59 rsO_59 rsB_59 0 rwN_81 rwA hp _ _ _ ho (lv_sub hl [1, 0] rfl)
          · replace hp := hp.2 c_72
            refine lv_iconst (v := (-1)) hx hb dX10_round_75 (by decide) ?_
            exact hret (-1) (rsW_59, rsE_59, rwN, rsO_59, rsB_59, rwA) _ _ _ _ dX10_round_76 ho hp
        · replace hp := hp.1 c_36
          refine lv_iconst (v := (-1)) hx hb dX10_round_39 (by decide) ?_
          exact hret (-1) (rsW, rsE, rwN, rsO, rsB, rwA) _ _ _ _ dX10_round_40 ho hp
