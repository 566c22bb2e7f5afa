set_option maxHeartbeats 4000000 in
set_option maxRecDepth 100000 in
theorem c_Ds_stepsApart (l : Launch) (D : va_G) (q : Nat → Nat) (c : Nat → ClassId) (tnN : Int32) (ckN : Int32) (stN : Int32) (trN : Int32) (dsT : Int32) (dsC : Int32) (tpN : Int32) (lwN : Int32) (rdS : Int32) (rdM : Int32) (rdE : Int32) (rdD : Int32) (twN : Int32) (rsW : Int32) (rsE : Int32) (rwN : Int32) (suns : Nat → Int32) (ckT : Nat → Int32) (ckD : Nat → Int32) (shf : Nat → Int32) (lnT : Nat → Int32) (ways : Nat → Int32) (ups : Nat → Int32) (sts : Nat → Int32) (sty : Nat → Int32) (dly : Nat → Int32) (gAp : Nat → Nat → Int32) (gOp : Nat → Nat → Int32) (stp : Nat → Int32) (bst : Nat → Int32) (sgn : Nat → Int32) (lwT : Nat → Int32) (lwD : Nat → Int32) (rdT : Nat → Int32) (rdO : Nat → Int32) (lwK : Nat → Int32) (lwM : Nat → Int32) (twS : Nat → Int32) (twM : Nat → Int32) (twD : Nat → Int32) (rsO : Nat → Int32) (rsB : Nat → Int32) (rwA : Nat → Int32) (v1 : Int32) (v2 : Int32) (Q : Int32 → Prop) (hp : p_Ds_stepsApart stN trN ways ups sts sty v1 v2 Q) : oKi l yX0_stepsApart wsX0_stepsApart { frames := 4, cells := 0, slots := 0, locals := 94 } [.ref (q 7), .int v1, .int v2] D (oT c) (wO q c tnN ckN stN trN dsT dsC tpN lwN rdS rdM rdE rdD twN rsW rsE rwN suns ckT ckD shf lnT ways ups sts sty dly gAp gOp stp bst sgn lwT lwD rdT rdO lwK lwM twS twM twD rsO rsB rwA) (Unit) (fun r (_ : Unit) => Q r) (fun _ => wO q c tnN ckN stN trN dsT dsC tpN lwN rdS rdM rdE rdD twN rsW rsE rwN suns ckT ckD shf lnT ways ups sts sty dly gAp gOp stp bst sgn lwT lwD rdT rdO lwK lwM twS twM twD rsO rsB rwA) := by
  refine oKi.ofW (own := RX0) (cc := cX0_stepsApart) (maxL := 5) (plainFor_of_name (by decide +kernel)) rfl rfl (Nat.le_of_ble_eq_true rfl) (fun p e s m args below meth cd A ls Z hx hb hml hown hts hret ho hl => ?_)
  replace hl : lv_has ls 5 [(0, .ref (q 7)), (1, .int v1), (2, .int v2)] := hl
  unfold p_Ds_stepsApart at hp
  have hL6 : ∀ (v1 : Int32) (v2 : Int32) (v3 : Int32) (v4 : Int32), Lp2 (p_Ds_stepsApart_L6 stN trN ways ups sts sty v1 v2 Q) v3 v4 → ∀ (H : Heap) (locs : List Loc) (ls : Array Slot), oW D (oT c) A s.heap s (wO q c tnN ckN stN trN dsT dsC tpN lwN rdS rdM rdE rdD twN rsW rsE rwN suns ckT ckD shf lnT ways ups sts sty dly gAp gOp stp bst sgn lwT lwD rdT rdO lwK lwM twS twM twD rsO rsB rwA) H locs → lv_has ls 5 [(0, .ref (q 7)), (1, .int v1), (2, .int v2), (3, .int v3), (4, .int v4)] → W p l e { frames := 4, cells := 0, slots := 0, locals := 94 } s m args below meth cd H locs 0 0 Z (F0 m 6 ls []) := by
    intro v1 v2
    refine Lp2.ind (fun rec hrec v3 v4 hp H locs ls ho hl => ?_)
    unfold p_Ds_stepsApart_L6 at hp
    refine lv_iload hx hb dX0_stepsApart_6 (lv_at hl 4 rfl) ?_
    refine lv_bipush (v := 6) hx hb dX0_stepsApart_8 (by decide) ?_
    refine lv_icmp_gt (tgt := 43) hx hb dX0_stepsApart_10 (by decide) (fun c_10 => ?_) (fun c_10 => ?_)
    · replace hp := hp.1 c_10
      refine lv_iload_n hx hb dX0_stepsApart_43 rfl (lv_at hl 3 rfl) ?_
      exact hret v3 () _ _ _ _ dX0_stepsApart_44 ho hp
    · replace hp := hp.2 c_10
      refine lv_aload_n hx hb dX0_stepsApart_13 rfl (lv_at hl 0 rfl) ?_
      refine lv_iload_n hx hb dX0_stepsApart_14 rfl (lv_at hl 1 rfl) ?_
      refine lv_iload_n hx hb dX0_stepsApart_15 rfl (lv_at hl 2 rfl) ?_
      refine lv_iload hx hb dX0_stepsApart_16 (lv_at hl 4 rfl) ?_
      refine lv_iconst (v := 5) hx hb dX0_stepsApart_18 (by decide) ?_
      refine lv_imul hx hb dX0_stepsApart_19 ?_
      refine o_callVi (rest := []) (ci := 3) ⟨hx, hb, hml, hown, hts⟩ ho (c_Ln_firstRunMeetingWith l D q c tnN ckN stN trN dsT dsC tpN lwN rdS rdM rdE rdD twN rsW rsE rwN suns ckT ckD shf lnT ways ups sts sty dly gAp gOp stp bst sgn lwT lwD rdT rdO lwK lwM twS twM twD rsO rsB rwA v1 v2 (v4 * 5) _ hp) (cwV 3 hts gX0_stepsApart_X3_firstRunMeetingWith rfl rfl rfl (by decide +kernel) ⟨(Nat.le_of_ble_eq_true rfl), (Nat.le_of_ble_eq_true rfl)⟩) 7 rfl rfl rfl hl.1 rfl (Nat.le_of_ble_eq_true rfl) dX0_stepsApart_20 ⟨Nat.zero_le _, Nat.zero_le _⟩ (fun r20 u H locs hp ho => ?_)
      try dsimp only at hp
      replace ho : oW D (oT c) A s.heap s (wO q c tnN ckN stN trN dsT dsC tpN lwN rdS rdM rdE rdD twN rsW rsE rwN suns ckT ckD shf lnT ways ups sts sty dly gAp gOp stp bst sgn lwT lwD rdT rdO lwK lwM twS twM twD rsO rsB rwA) H locs := ho
      refine lv_iconst (v := (-1)) hx hb dX0_stepsApart_23 (by decide) ?_
      refine lv_icmp_ne (tgt := 37) hx hb dX0_stepsApart_24 (by decide) (fun c_24 => ?_) (fun c_24 => ?_)
      · replace hp := hp.2 c_24
        obtain ⟨x37, e_x37⟩ : ∃ y : Int32, y = v4 + 1 := ⟨_, rfl⟩
        replace hp := hp x37 e_x37
        refine lv_iinc (v := x37) (lv' := [(4, .int x37), (0, .ref (q 7)), (1, .int v1), (2, .int v2), (3, .int v3)]) hx hb dX0_stepsApart_37 hl (k := 4) rfl (by rw [e_x37]; rfl) (by decide) rfl (fun ls hl => ?_)
        refine lv_goto (tgt := 6) hx hb dX0_stepsApart_40 (by decide) ?_
        exact hrec v3 x37 hp _ _ _ ho (lv_sub hl [1, 2, 3, 4, 0] rfl)
      · replace hp := hp.1 c_24
        refine lv_iload_n hx hb dX0_stepsApart_27 rfl (lv_at hl 3 rfl) ?_
        refine lv_iconst (v := 1) hx hb dX0_stepsApart_28 (by decide) ?_
        refine lv_iload hx hb dX0_stepsApart_29 (lv_at hl 4 rfl) ?_
        refine lv_bipush (v := 6) hx hb dX0_stepsApart_31 (by decide) ?_
        refine lv_iadd hx hb dX0_stepsApart_33 ?_
        refine lv_ishl hx hb dX0_stepsApart_34 ?_
        refine lv_ior hx hb dX0_stepsApart_35 ?_
        refine lv_topi (fun x36 e_x36 => ?_)
        replace hp := hp x36 e_x36
        refine lv_istore_n (lv' := [(3, .int x36), (0, .ref (q 7)), (1, .int v1), (2, .int v2), (4, .int v4)]) hx hb dX0_stepsApart_36 rfl hl (by decide) rfl (fun ls hl => ?_)
        obtain ⟨x37, e_x37⟩ : ∃ y : Int32, y = v4 + 1 := ⟨_, rfl⟩
        replace hp := hp x37 e_x37
        refine lv_iinc (v := x37) (lv' := [(4, .int x37), (3, .int x36), (0, .ref (q 7)), (1, .int v1), (2, .int v2)]) hx hb dX0_stepsApart_37 hl (k := 4) rfl (by rw [e_x37]; rfl) (by decide) rfl (fun ls hl => ?_)
        refine lv_goto (tgt := 6) hx hb dX0_stepsApart_40 (by decide) ?_
        exact hrec x36 x37 hp _ _ _ ho (lv_sub hl [2, 3, 4, 1, 0] rfl)
  refine lv_iconst (v := 0) hx hb dX0_stepsApart_0 (by decide) ?_
  refine lv_istore_n (lv' := [(3, .int 0), (0, .ref (q 7)), (1, .int v1), (2, .int v2)]) hx hb dX0_stepsApart_1 rfl hl (by decide) rfl (fun ls hl => ?_)
  refine lv_bipush (v := (-6)) hx hb dX0_stepsApart_2 (by decide) ?_
  refine lv_istore (lv' := [(4, .int (-6)), (3, .int 0), (0, .ref (q 7)), (1, .int v1), (2, .int v2)]) hx hb dX0_stepsApart_4 hl (by decide) rfl (fun ls hl => ?_)
  exact hL6 v1 v2 0 (-6) hp _ _ _ ho (lv_sub hl [2, 3, 4, 1, 0] rfl)
set_option maxHeartbeats 4000000 in
set_option maxRecDepth 100000 in
theorem c_Ds_keep (l : Launch) (D : va_G) (q : Nat → Nat) (c : Nat → ClassId) (tnN : Int32) (ckN : Int32) (stN : Int32) (trN : Int32) (dsT : Int32) (dsC : Int32) (tpN : Int32) (lwN : Int32) (rdS : Int32) (rdM : Int32) (rdE : Int32) (rdD : Int32) (twN : Int32) (rsW : Int32) (rsE : Int32) (rwN : Int32) (suns : Nat → Int32) (ckT : Nat → Int32) (ckD : Nat → Int32) (shf : Nat → Int32) (lnT : Nat → Int32) (ways : Nat → Int32) (ups : Nat → Int32) (sts : Nat → Int32) (sty : Nat → Int32) (dly : Nat → Int32) (gAp : Nat → Nat → Int32) (gOp : Nat → Nat → Int32) (stp : Nat → Int32) (bst : Nat → Int32) (sgn : Nat → Int32) (lwT : Nat → Int32) (lwD : Nat → Int32) (rdT : Nat → Int32) (rdO : Nat → Int32) (lwK : Nat → Int32) (lwM : Nat → Int32) (twS : Nat → Int32) (twM : Nat → Int32) (twD : Nat → Int32) (rsO : Nat → Int32) (rsB : Nat → Int32) (rwA : Nat → Int32) (v1 : Int32) (Q : Int32 → (Nat → Int32) → Prop) (hp : p_Ds_keep dsT stp dsC bst v1 Q) : oKv l yX0_keep wsX0_keep { frames := 0, cells := 0, slots := 0, locals := 0 } [.ref (q 14), .int v1] D (oT c) (wO q c tnN ckN stN trN dsT dsC tpN lwN rdS rdM rdE rdD twN rsW rsE rwN suns ckT ckD shf lnT ways ups sts sty dly gAp gOp stp bst sgn lwT lwD rdT rdO lwK lwM twS twM twD rsO rsB rwA) (Int32 × (Nat → Int32)) (fun (u : Int32 × (Nat → Int32)) => Q u.1 u.2) (fun u => wO q c tnN ckN stN trN dsT u.1 tpN lwN rdS rdM rdE rdD twN rsW rsE rwN suns ckT ckD shf lnT ways ups sts sty dly gAp gOp stp u.2 sgn lwT lwD rdT rdO lwK lwM twS twM twD rsO rsB rwA) := by
  refine oKv.ofW (own := RX0) (cc := cX0_keep) (maxL := 3) (plainFor_of_name (by decide +kernel)) rfl rfl (Nat.le_of_ble_eq_true rfl) (fun p e s m args below meth cd A ls Z hx hb hml hown hts hret ho hl => ?_)
  replace hl : lv_has ls 3 [(0, .ref (q 14)), (1, .int v1)] := hl
  have hinX0 : ∀ w ∈ u_ws RX0 TX0 6, w ∈ wsX0_keep := by decide +kernel
  have hf19 := hts (.fieldLink RX0 19 "OneTime$DelaySearch" "steps" "[I") (by decide +kernel)
  have hf23 := hts (.fieldLink RX0 23 "OneTime$DelaySearch" "best" "[I") (by decide +kernel)
  have hf26 := hts (.fieldLink RX0 26 "OneTime$DelaySearch" "trains" "I") (by decide +kernel)
  have hf30 := hts (.fieldLink RX0 30 "OneTime$DelaySearch" "bestCost" "I") (by decide +kernel)
  unfold p_Ds_keep at hp
  have hL7 : ∀ (dsC : Int32) (v2 : Int32) (bst : Nat → Int32), Lp2 (p_Ds_keep_L7 dsT stp dsC Q) v2 bst → ∀ (H : Heap) (locs : List Loc) (ls : Array Slot), oW D (oT c) A s.heap s (wO q c tnN ckN stN trN dsT dsC tpN lwN rdS rdM rdE rdD twN rsW rsE rwN suns ckT ckD shf lnT ways ups sts sty dly gAp gOp stp bst sgn lwT lwD rdT rdO lwK lwM twS twM twD rsO rsB rwA) H locs → lv_has ls 3 [(0, .ref (q 14)), (2, .int v2)] → W p l e { frames := 0, cells := 0, slots := 0, locals := 0 } s m args below meth cd H locs 0 0 Z (F0 m 7 ls []) := by
    intro dsC
    refine Lp2.ind (fun rec hrec v2 bst hp H locs ls ho hl => ?_)
    unfold p_Ds_keep_L7 at hp
    refine lv_iload_n hx hb dX0_keep_7 rfl (lv_at hl 1 rfl) ?_
    refine lv_aload_n hx hb dX0_keep_8 rfl (lv_at hl 0 rfl) ?_
    refine o_get (ci := 0) (T := TX0) hx hb hts hinX0 hown ho 14 rfl rfl 4 (by decide) hf26 rfl dX0_keep_9 ?_
    refine lv_icmp_ge (tgt := 33) hx hb dX0_keep_12 (by decide) (fun c_12 => ?_) (fun c_12 => ?_)
    · replace hp := hp.1 c_12
      exact hret (dsC, bst) _ _ _ _ dX0_keep_33 ho hp
    · replace hp := hp.2 c_12
      refine lv_aload_n hx hb dX0_keep_15 rfl (lv_at hl 0 rfl) ?_
      refine o_get (ci := 0) (T := TX0) hx hb hts hinX0 hown ho 14 rfl rfl 3 (by decide) hf23 rfl dX0_keep_16 ?_
      refine lv_iload_n hx hb dX0_keep_19 rfl (lv_at hl 1 rfl) ?_
      refine lv_aload_n hx hb dX0_keep_20 rfl (lv_at hl 0 rfl) ?_
      refine o_get (ci := 0) (T := TX0) hx hb hts hinX0 hown ho 14 rfl rfl 2 (by decide) hf19 rfl dX0_keep_21 ?_
      refine lv_iload_n hx hb dX0_keep_24 rfl (lv_at hl 1 rfl) ?_
      refine o_ild hx hb ho 30 14 rfl rfl hp.1 dX0_keep_25 ?_
      replace hp := hp.2
      refine o_ist hx hb ho 31 15 rfl rfl hp.1 dX0_keep_26 (fun H locs ho => ?_)
      replace hp := hp.2
      replace ho : oW D (oT c) A s.heap s (wO q c tnN ckN stN trN dsT dsC tpN lwN rdS rdM rdE rdD twN rsW rsE rwN suns ckT ckD shf lnT ways ups sts sty dly gAp gOp stp (upd bst v2.toNatClampNeg (stp v2.toNatClampNeg)) sgn lwT lwD rdT rdO lwK lwM twS twM twD rsO rsB rwA) H locs := ho
      obtain ⟨x27, e_x27⟩ : ∃ y : Int32, y = v2 + 1 := ⟨_, rfl⟩
      replace hp := hp x27 e_x27
      refine lv_iinc (v := x27) (lv' := [(2, .int x27), (0, .ref (q 14))]) hx hb dX0_keep_27 hl (k := 1) rfl (by rw [e_x27]; rfl) (by decide) rfl (fun ls hl => ?_)
      refine lv_goto (tgt := 7) hx hb dX0_keep_30 (by decide) ?_
      exact hrec x27 (upd bst v2.toNatClampNeg (stp v2.toNatClampNeg)) hp _ _ _ ho (lv_sub hl [1, 0] rfl)
  refine lv_aload_n hx hb dX0_keep_0 rfl (lv_at hl 0 rfl) ?_
  refine lv_iload_n hx hb dX0_keep_1 rfl (lv_at hl 1 rfl) ?_
  refine o_put (ci := 0) (T := TX0) hx hb hts hinX0 tyX0_ok nmX0 hown ho 14 rfl rfl 5 (by decide) hf30 rfl (tyX0_ok 5 (by decide)) (Nat.le_of_ble_eq_true rfl) dX0_keep_2 (fun H locs ho => ?_)
  replace ho : oW D (oT c) A s.heap s (wO q c tnN ckN stN trN dsT v1 tpN lwN rdS rdM rdE rdD twN rsW rsE rwN suns ckT ckD shf lnT ways ups sts sty dly gAp gOp stp bst sgn lwT lwD rdT rdO lwK lwM twS twM twD rsO rsB rwA) H locs := ho
  refine lv_iconst (v := 0) hx hb dX0_keep_5 (by decide) ?_
  refine lv_istore_n (lv' := [(2, .int 0), (0, .ref (q 14)), (1, .int v1)]) hx hb dX0_keep_6 rfl hl (by decide) rfl (fun ls hl => ?_)
  exact hL7 v1 0 bst hp _ _ _ ho (lv_sub hl [1, 0] rfl)
set_option maxHeartbeats 4000000 in
set_option maxRecDepth 100000 in
theorem c_Ds_costOf (l : Launch) (D : va_G) (tys : List (ClassId × FieldType)) (ws : va_W)  (v0 : Int32) (Q : Int32 → Prop) (hp : p_Ds_costOf v0 Q) : oKi l yX0_costOf wsX0_costOf { frames := 0, cells := 0, slots := 0, locals := 0 } [.int v0] D tys ws (Unit) (fun r (_ : Unit) => Q r) (fun _ => ws) := by
  refine oKi.ofW (own := RX0) (cc := cX0_costOf) (maxL := 1) (plainFor_of_name (by decide +kernel)) rfl rfl (Nat.le_of_ble_eq_true rfl) (fun p e s m args below meth cd A ls Z hx hb hml hown hts hret ho hl => ?_)
  replace hl : lv_has ls 1 [(0, .int v0)] := hl
  unfold p_Ds_costOf at hp
  refine lv_iload_n hx hb dX0_costOf_0 rfl (lv_at hl 0 rfl) ?_
  refine lv_if_ne (tgt := 8) hx hb dX0_costOf_1 (by decide) (fun c_1 => ?_) (fun c_1 => ?_)
  · replace hp := hp.2 c_1
    refine lv_bipush (v := 64) hx hb dX0_costOf_8 (by decide) ?_
    refine lv_iload_n hx hb dX0_costOf_10 rfl (lv_at hl 0 rfl) ?_
    refine lv_iadd hx hb dX0_costOf_11 ?_
    exact hret (64 + v0) () _ _ _ _ dX0_costOf_12 ho hp
  · replace hp := hp.1 c_1
    refine lv_iconst (v := 0) hx hb dX0_costOf_4 (by decide) ?_
    refine lv_goto (tgt := 12) hx hb dX0_costOf_5 (by decide) ?_
    exact hret 0 () _ _ _ _ dX0_costOf_12 ho hp
set_option maxHeartbeats 4000000 in
set_option maxRecDepth 100000 in
theorem c_Ds_leastStep (l : Launch) (D : va_G) (tys : List (ClassId × FieldType)) (ws : va_W)  (v0 : Int32) (Q : Int32 → Prop) (hp : p_Ds_leastStep v0 Q) : oKi l yX0_leastStep wsX0_leastStep { frames := 1, cells := 0, slots := 0, locals := 20 } [.int v0] D tys ws (Unit) (fun r (_ : Unit) => Q r) (fun _ => ws) := by
  refine oKi.ofW (own := RX0) (cc := cX0_leastStep) (maxL := 1) (plainFor_of_name (by decide +kernel)) rfl rfl (Nat.le_of_ble_eq_true rfl) (fun p e s m args below meth cd A ls Z hx hb hml hown hts hret ho hl => ?_)
  replace hl : lv_has ls 1 [(0, .int v0)] := hl
  unfold p_Ds_leastStep at hp
  refine lv_iload_n hx hb dX0_leastStep_0 rfl (lv_at hl 0 rfl) ?_
  refine lv_iload_n hx hb dX0_leastStep_1 rfl (lv_at hl 0 rfl) ?_
  refine lv_ineg hx hb dX0_leastStep_2 ?_
  refine lv_iand hx hb dX0_leastStep_3 ?_
  refine lv_iconst (v := 1) hx hb dX0_leastStep_4 (by decide) ?_
  refine lv_isub hx hb dX0_leastStep_5 ?_
  refine o_callSi (rest := []) ⟨hx, hb, hml, hown, hts⟩ ho (c_Ji_bitCount l D tys ws ((v0 &&& (-v0)) - 1) _ hp) (va_cwS 1 hts gX0_leastStep_J6_bitCount_0f7a4 rfl rfl rfl (by decide +kernel) ⟨(Nat.le_of_ble_eq_true rfl), (Nat.le_of_ble_eq_true rfl)⟩) rfl hl.1 rfl (Nat.le_of_ble_eq_true rfl) dX0_leastStep_6 ⟨Nat.zero_le _, Nat.zero_le _⟩ (fun r6 u H locs hp ho => ?_)
  try dsimp only at hp
  replace ho : oW D tys A s.heap s ws H locs := ho
  exact hret r6 () _ _ _ _ dX0_leastStep_9 ho hp
set_option maxHeartbeats 4000000 in
set_option maxRecDepth 100000 in
theorem c_Ds_costOfOthers (l : Launch) (D : va_G) (q : Nat → Nat) (c : Nat → ClassId) (tnN : Int32) (ckN : Int32) (stN : Int32) (trN : Int32) (dsT : Int32) (dsC : Int32) (tpN : Int32) (lwN : Int32) (rdS : Int32) (rdM : Int32) (rdE : Int32) (rdD : Int32) (twN : Int32) (rsW : Int32) (rsE : Int32) (rwN : Int32) (suns : Nat → Int32) (ckT : Nat → Int32) (ckD : Nat → Int32) (shf : Nat → Int32) (lnT : Nat → Int32) (ways : Nat → Int32) (ups : Nat → Int32) (sts : Nat → Int32) (sty : Nat → Int32) (dly : Nat → Int32) (gAp : Nat → Nat → Int32) (gOp : Nat → Nat → Int32) (stp : Nat → Int32) (bst : Nat → Int32) (sgn : Nat → Int32) (lwT : Nat → Int32) (lwD : Nat → Int32) (rdT : Nat → Int32) (rdO : Nat → Int32) (lwK : Nat → Int32) (lwM : Nat → Int32) (twS : Nat → Int32) (twM : Nat → Int32) (twD : Nat → Int32) (rsO : Nat → Int32) (rsB : Nat → Int32) (rwA : Nat → Int32) (v1 : Int32) (v2 : Int32) (Q : Int32 → (Nat → Nat → Int32) → Prop) (hp : p_Ds_costOfOthers dsT gAp gOp v1 v2 Q) : oKi l yX0_costOfOthers wsX0_costOfOthers { frames := 2, cells := 0, slots := 0, locals := 40 } [.ref (q 14), .int v1, .int v2] D (oT c) (wO q c tnN ckN stN trN dsT dsC tpN lwN rdS rdM rdE rdD twN rsW rsE rwN suns ckT ckD shf lnT ways ups sts sty dly gAp gOp stp bst sgn lwT lwD rdT rdO lwK lwM twS twM twD rsO rsB rwA) ((Nat → Nat → Int32)) (fun r (u : (Nat → Nat → Int32)) => Q r u) (fun u => wO q c tnN ckN stN trN dsT dsC tpN lwN rdS rdM rdE rdD twN rsW rsE rwN suns ckT ckD shf lnT ways ups sts sty dly gAp u stp bst sgn lwT lwD rdT rdO lwK lwM twS twM twD rsO rsB rwA) := by
  refine oKi.ofW (own := RX0) (cc := cX0_costOfOthers) (maxL := 6) (plainFor_of_name (by decide +kernel)) rfl rfl (Nat.le_of_ble_eq_true rfl) (fun p e s m args below meth cd A ls Z hx hb hml hown hts hret ho hl => ?_)
  replace hl : lv_has ls 6 [(0, .ref (q 14)), (1, .int v1), (2, .int v2)] := hl
  have hinX0 : ∀ w ∈ u_ws RX0 TX0 6, w ∈ wsX0_costOfOthers := by decide +kernel
  have hf13 := hts (.fieldLink RX0 13 "OneTime$DelaySearch" "apart" "[[I") (by decide +kernel)
  have hf16 := hts (.fieldLink RX0 16 "OneTime$DelaySearch" "open" "[[I") (by decide +kernel)
  have hf26 := hts (.fieldLink RX0 26 "OneTime$DelaySearch" "trains" "I") (by decide +kernel)
  unfold p_Ds_costOfOthers at hp
  have hL7 : ∀ (v1 : Int32) (v2 : Int32) (v3 : Int32) (v4 : Int32) (gOp : Nat → Nat → Int32), Lp3 (p_Ds_costOfOthers_L7 dsT gAp v1 v2 Q) v3 v4 gOp → ∀ (H : Heap) (locs : List Loc) (ls : Array Slot), oW D (oT c) A s.heap s (wO q c tnN ckN stN trN dsT dsC tpN lwN rdS rdM rdE rdD twN rsW rsE rwN suns ckT ckD shf lnT ways ups sts sty dly gAp gOp stp bst sgn lwT lwD rdT rdO lwK lwM twS twM twD rsO rsB rwA) H locs → lv_has ls 6 [(0, .ref (q 14)), (1, .int v1), (2, .int v2), (3, .int v3), (4, .int v4)] → W p l e { frames := 2, cells := 0, slots := 0, locals := 40 } s m args below meth cd H locs 0 0 Z (F0 m 7 ls []) := by
    intro v1 v2
    refine Lp3.ind (fun rec hrec v3 v4 gOp hp H locs ls ho hl => ?_)
    unfold p_Ds_costOfOthers_L7 at hp
    refine lv_iload hx hb dX0_costOfOthers_7 (lv_at hl 4 rfl) ?_
    refine lv_aload_n hx hb dX0_costOfOthers_9 rfl (lv_at hl 0 rfl) ?_
    refine o_get (ci := 0) (T := TX0) hx hb hts hinX0 hown ho 14 rfl rfl 4 (by decide) hf26 rfl dX0_costOfOthers_10 ?_
    refine lv_icmp_ge (tgt := 81) hx hb dX0_costOfOthers_13 (by decide) (fun c_13 => ?_) (fun c_13 => ?_)
    · replace hp := hp.1 c_13
      refine lv_iload_n hx hb dX0_costOfOthers_81 rfl (lv_at hl 3 rfl) ?_
      exact hret v3 gOp _ _ _ _ dX0_costOfOthers_82 ho hp
    · replace hp := hp.2 c_13
      refine lv_aload_n hx hb dX0_costOfOthers_16 rfl (lv_at hl 0 rfl) ?_
      refine o_get (ci := 0) (T := TX0) hx hb hts hinX0 hown ho 14 rfl rfl 1 (by decide) hf16 rfl dX0_costOfOthers_17 ?_
      refine lv_iload_n hx hb dX0_costOfOthers_20 rfl (lv_at hl 1 rfl) ?_
      have hg21 := hp.1
      refine o_ald hx hb ho 22 12 rfl rfl hp.1 (r := q (23 + v1.toNatClampNeg)) (if_pos (vp_lt hp.1)) dX0_costOfOthers_21 ?_
      replace hp := hp.2
      refine lv_iload hx hb dX0_costOfOthers_22 (lv_at hl 4 rfl) ?_
      refine o_ild hx hb ho (23 + v1.toNatClampNeg) 13 (wO_gOp_row hg21) rfl hp.1 dX0_costOfOthers_24 ?_
      replace hp := hp.2
      refine lv_aload_n hx hb dX0_costOfOthers_25 rfl (lv_at hl 0 rfl) ?_
      refine o_get (ci := 0) (T := TX0) hx hb hts hinX0 hown ho 14 rfl rfl 0 (by decide) hf13 rfl dX0_costOfOthers_26 ?_
      refine lv_iload_n hx hb dX0_costOfOthers_29 rfl (lv_at hl 1 rfl) ?_
      have hg30 := hp.1
      refine o_ald hx hb ho 15 10 rfl rfl hp.1 (r := q (16 + v1.toNatClampNeg)) (if_pos (vp_lt hp.1)) dX0_costOfOthers_30 ?_
      replace hp := hp.2
      refine lv_iload hx hb dX0_costOfOthers_31 (lv_at hl 4 rfl) ?_
      refine o_ild hx hb ho (16 + v1.toNatClampNeg) 11 (wO_gAp_row hg30) rfl hp.1 dX0_costOfOthers_33 ?_
      replace hp := hp.2
      refine lv_bipush (v := 6) hx hb dX0_costOfOthers_34 (by decide) ?_
      refine lv_iload_n hx hb dX0_costOfOthers_36 rfl (lv_at hl 2 rfl) ?_
      refine lv_isub hx hb dX0_costOfOthers_37 ?_
      refine lv_ishr hx hb dX0_costOfOthers_38 ?_
      refine lv_iand hx hb dX0_costOfOthers_39 ?_
      refine lv_topi (fun x40 e_x40 => ?_)
      replace hp := hp x40 e_x40
      refine lv_istore (lv' := [(5, .int x40), (0, .ref (q 14)), (1, .int v1), (2, .int v2), (3, .int v3), (4, .int v4)]) hx hb dX0_costOfOthers_40 hl (by decide) rfl (fun ls hl => ?_)
      refine lv_iload hx hb dX0_costOfOthers_42 (lv_at hl 0 rfl) ?_
      refine lv_if_ne (tgt := 51) hx hb dX0_costOfOthers_44 (by decide) (fun c_44 => ?_) (fun c_44 => ?_)
      · replace hp := hp.2 c_44
        refine lv_aload_n hx hb dX0_costOfOthers_51 rfl (lv_at hl 1 rfl) ?_
        refine o_get (ci := 0) (T := TX0) hx hb hts hinX0 hown ho 14 rfl rfl 1 (by decide) hf16 rfl dX0_costOfOthers_52 ?_
        refine lv_iload_n hx hb dX0_costOfOthers_55 rfl (lv_at hl 2 rfl) ?_
        refine lv_iconst (v := 1) hx hb dX0_costOfOthers_56 (by decide) ?_
        refine lv_iadd hx hb dX0_costOfOthers_57 ?_
        have hg58 := hp.1
        refine o_ald hx hb ho 22 12 rfl rfl hp.1 (r := q (23 + (v1 + 1).toNatClampNeg)) (if_pos (vp_lt hp.1)) dX0_costOfOthers_58 ?_
        replace hp := hp.2
        refine lv_iload hx hb dX0_costOfOthers_59 (lv_at hl 5 rfl) ?_
        refine lv_iload hx hb dX0_costOfOthers_61 (lv_at hl 0 rfl) ?_
        refine o_ist hx hb ho (23 + (v1 + 1).toNatClampNeg) 13 (wO_gOp_row hg58) rfl hp.1 dX0_costOfOthers_63 (fun H locs ho => ?_)
        rw [wO_gOp_set hg58] at ho
        replace hp := hp.2
        replace ho : oW D (oT c) A s.heap s (wO q c tnN ckN stN trN dsT dsC tpN lwN rdS rdM rdE rdD twN rsW rsE rwN suns ckT ckD shf lnT ways ups sts sty dly gAp (va_up gOp (v1 + 1).toNatClampNeg (upd (gOp (v1 + 1).toNatClampNeg) v4.toNatClampNeg x40)) stp bst sgn lwT lwD rdT rdO lwK lwM twS twM twD rsO rsB rwA) H locs := ho
        refine lv_iload_n hx hb dX0_costOfOthers_64 rfl (lv_at hl 4 rfl) ?_
        refine lv_iload hx hb dX0_costOfOthers_65 (lv_at hl 0 rfl) ?_
        refine o_callSi (rest := [.int v3]) ⟨hx, hb, hml, hown, hts⟩ ho (c_Ds_leastStep l D (oT c) (wO q c tnN ckN stN trN dsT dsC tpN lwN rdS rdM rdE rdD twN rsW rsE rwN suns ckT ckD shf lnT ways ups sts sty dly gAp (va_up gOp (v1 + 1).toNatClampNeg (upd (gOp (v1 + 1).toNatClampNeg) v4.toNatClampNeg x40)) stp bst sgn lwT lwD rdT rdO lwK lwM twS twM twD rsO rsB rwA) x40 _ hp) (va_cwS 1 hts gX0_costOfOthers_X0_leastStep rfl rfl rfl (by decide +kernel) ⟨(Nat.le_of_ble_eq_true rfl), (Nat.le_of_ble_eq_true rfl)⟩) rfl hl.1 rfl (Nat.le_of_ble_eq_true rfl) dX0_costOfOthers_67 ⟨Nat.zero_le _, Nat.zero_le _⟩ (fun r67 u H locs hp ho => ?_)
        try dsimp only at hp
        replace ho : oW D (oT c) A s.heap s (wO q c tnN ckN stN trN dsT dsC tpN lwN rdS rdM rdE rdD twN rsW rsE rwN suns ckT ckD shf lnT ways ups sts sty dly gAp (va_up gOp (v1 + 1).toNatClampNeg (upd (gOp (v1 + 1).toNatClampNeg) v4.toNatClampNeg x40)) stp bst sgn lwT lwD rdT rdO lwK lwM twS twM twD rsO rsB rwA) H locs := ho
        refine o_callSi (rest := [.int v3]) ⟨hx, hb, hml, hown, hts⟩ ho (c_Ds_costOf l D (oT c) (wO q c tnN ckN stN trN dsT dsC tpN lwN rdS rdM rdE rdD twN rsW rsE rwN suns ckT ckD shf lnT ways ups sts sty dly gAp (va_up gOp (v1 + 1).toNatClampNeg (upd (gOp (v1 + 1).toNatClampNeg) v4.toNatClampNeg x40)) stp bst sgn lwT lwD rdT rdO lwK lwM twS twM twD rsO rsB rwA) r67 _ hp) (va_cwS 1 hts gX0_costOfOthers_X0_costOf rfl rfl rfl (by decide +kernel) ⟨(Nat.le_of_ble_eq_true rfl), (Nat.le_of_ble_eq_true rfl)⟩) rfl hl.1 rfl (Nat.le_of_ble_eq_true rfl) dX0_costOfOthers_70 ⟨Nat.zero_le _, Nat.zero_le _⟩ (fun r70 u H locs hp ho => ?_)
        try dsimp only at hp
        replace ho : oW D (oT c) A s.heap s (wO q c tnN ckN stN trN dsT dsC tpN lwN rdS rdM rdE rdD twN rsW rsE rwN suns ckT ckD shf lnT ways ups sts sty dly gAp (va_up gOp (v1 + 1).toNatClampNeg (upd (gOp (v1 + 1).toNatClampNeg) v4.toNatClampNeg x40)) stp bst sgn lwT lwD rdT rdO lwK lwM twS twM twD rsO rsB rwA) H locs := ho
        refine lv_iadd hx hb dX0_costOfOthers_73 ?_
        refine lv_topi (fun x74 e_x74 => ?_)
        replace hp := hp x74 e_x74
        refine lv_istore_n (lv' := [(3, .int x74), (5, .int x40), (0, .ref (q 14)), (1, .int v1), (2, .int v2), (4, .int v4)]) hx hb dX0_costOfOthers_74 rfl hl (by decide) rfl (fun ls hl => ?_)
        obtain ⟨x75, e_x75⟩ : ∃ y : Int32, y = v4 + 1 := ⟨_, rfl⟩
        replace hp := hp x75 e_x75
        refine lv_iinc (v := x75) (lv' := [(4, .int x75), (3, .int x74), (5, .int x40), (0, .ref (q 14)), (1, .int v1), (2, .int v2)]) hx hb dX0_costOfOthers_75 hl (k := 5) rfl (by rw [e_x75]; rfl) (by decide) rfl (fun ls hl => ?_)
        refine lv_goto (tgt := 7) hx hb dX0_costOfOthers_78 (by decide) ?_
        exact hrec x74 x75 (va_up gOp (v1 + 1).toNatClampNeg (upd (gOp (v1 + 1).toNatClampNeg) v4.toNatClampNeg x40)) hp _ _ _ ho (lv_sub hl [3, 4, 5, 1, 0] rfl)
      · replace hp := hp.1 c_44
        refine lv_sipush (v := 448) hx hb dX0_costOfOthers_47 (by decide) ?_
        exact hret 448 gOp _ _ _ _ dX0_costOfOthers_50 ho hp
  refine lv_iconst (v := 0) hx hb dX0_costOfOthers_0 (by decide) ?_
  refine lv_istore_n (lv' := [(3, .int 0), (0, .ref (q 14)), (1, .int v1), (2, .int v2)]) hx hb dX0_costOfOthers_1 rfl hl (by decide) rfl (fun ls hl => ?_)
  refine lv_iload_n hx hb dX0_costOfOthers_2 rfl (lv_at hl 2 rfl) ?_
  refine lv_iconst (v := 1) hx hb dX0_costOfOthers_3 (by decide) ?_
  refine lv_iadd hx hb dX0_costOfOthers_4 ?_
  refine lv_topi (fun x5 e_x5 => ?_)
  replace hp := hp x5 e_x5
  refine lv_istore (lv' := [(4, .int x5), (3, .int 0), (0, .ref (q 14)), (1, .int v1), (2, .int v2)]) hx hb dX0_costOfOthers_5 hl (by decide) rfl (fun ls hl => ?_)
  exact hL7 v1 v2 0 x5 gOp hp _ _ _ ho (lv_sub hl [2, 3, 4, 1, 0] rfl)
set_option maxHeartbeats 4000000 in
set_option maxRecDepth 100000 in
theorem c_Ds_place (l : Launch) (D : va_G) (q : Nat → Nat) (c : Nat → ClassId) : ∀ (d : Nat) (tnN : Int32) (ckN : Int32) (stN : Int32) (trN : Int32) (dsT : Int32) (dsC : Int32) (tpN : Int32) (lwN : Int32) (rdS : Int32) (rdM : Int32) (rdE : Int32) (rdD : Int32) (twN : Int32) (rsW : Int32) (rsE : Int32) (rwN : Int32) (suns : Nat → Int32) (ckT : Nat → Int32) (ckD : Nat → Int32) (shf : Nat → Int32) (lnT : Nat → Int32) (ways : Nat → Int32) (ups : Nat → Int32) (sts : Nat → Int32) (sty : Nat → Int32) (dly : Nat → Int32) (gAp : Nat → Nat → Int32) (gOp : Nat → Nat → Int32) (stp : Nat → Int32) (bst : Nat → Int32) (sgn : Nat → Int32) (lwT : Nat → Int32) (lwD : Nat → Int32) (rdT : Nat → Int32) (rdO : Nat → Int32) (lwK : Nat → Int32) (lwM : Nat → Int32) (twS : Nat → Int32) (twM : Nat → Int32) (twD : Nat → Int32) (rsO : Nat → Int32) (rsB : Nat → Int32) (rwA : Nat → Int32) (v1 : Int32) (v2 : Int32) (Q : Int32 → (Nat → Nat → Int32) → (Nat → Int32) → (Nat → Int32) → Prop), p_Ds_place dsT gAp d dsC gOp stp bst v1 v2 Q → oKv l yX0_place wsX0_place { frames := 3 + d, cells := 0, slots := 0, locals := 65 + d * 24 } [.ref (q 14), .int v1, .int v2] D (oT c) (wO q c tnN ckN stN trN dsT dsC tpN lwN rdS rdM rdE rdD twN rsW rsE rwN suns ckT ckD shf lnT ways ups sts sty dly gAp gOp stp bst sgn lwT lwD rdT rdO lwK lwM twS twM twD rsO rsB rwA) (Int32 × (Nat → Nat → Int32) × (Nat → Int32) × (Nat → Int32)) (fun (u : Int32 × (Nat → Nat → Int32) × (Nat → Int32) × (Nat → Int32)) => Q u.1 u.2.1 u.2.2.1 u.2.2.2) (fun u => wO q c tnN ckN stN trN dsT u.1 tpN lwN rdS rdM rdE rdD twN rsW rsE rwN suns ckT ckD shf lnT ways ups sts sty dly gAp u.2.1 u.2.2.1 u.2.2.2 sgn lwT lwD rdT rdO lwK lwM twS twM twD rsO rsB rwA) := by
  intro d
  induction d with
  | zero =>
    intro tnN ckN stN trN dsT dsC tpN lwN rdS rdM rdE rdD twN rsW rsE rwN suns ckT ckD shf lnT ways ups sts sty dly gAp gOp stp bst sgn lwT lwD rdT rdO lwK lwM twS twM twD rsO rsB rwA v1 v2 Q hp
    exact absurd hp (fun h => h)
  | succ d ih =>
    intro tnN ckN stN trN dsT dsC tpN lwN rdS rdM rdE rdD twN rsW rsE rwN suns ckT ckD shf lnT ways ups sts sty dly gAp gOp stp bst sgn lwT lwD rdT rdO lwK lwM twS twM twD rsO rsB rwA v1 v2 Q hp
    replace hp : p_Ds_place_B dsT gAp (p_Ds_place dsT gAp d) dsC gOp stp bst v1 v2 Q := hp
    refine oKv.ofW (own := RX0) (cc := cX0_place) (maxL := 5) (plainFor_of_name (by decide +kernel)) rfl rfl (Nat.le_of_ble_eq_true rfl) (fun p e s m args below meth cd A ls Z hx hb hml hown hts hret ho hl => ?_)
    replace hl : lv_has ls 5 [(0, .ref (q 14)), (1, .int v1), (2, .int v2)] := hl
    have hinX0 : ∀ w ∈ u_ws RX0 TX0 6, w ∈ wsX0_place := by decide +kernel
    have hf16 := hts (.fieldLink RX0 16 "OneTime$DelaySearch" "open" "[[I") (by decide +kernel)
    have hf19 := hts (.fieldLink RX0 19 "OneTime$DelaySearch" "steps" "[I") (by decide +kernel)
    have hf26 := hts (.fieldLink RX0 26 "OneTime$DelaySearch" "trains" "I") (by decide +kernel)
    have hf30 := hts (.fieldLink RX0 30 "OneTime$DelaySearch" "bestCost" "I") (by decide +kernel)
    unfold p_Ds_place_B at hp
    have hJ18 : ∀ (v2 : Int32) (dsC : Int32) (gOp : Nat → Nat → Int32) (stp : Nat → Int32) (bst : Nat → Int32), p_Ds_place_J18 dsT gAp (p_Ds_place dsT gAp d) v2 dsC gOp stp bst Q → ∀ (H : Heap) (locs : List Loc) (ls : Array Slot), oW D (oT c) A s.heap s (wO q c tnN ckN stN trN dsT dsC tpN lwN rdS rdM rdE rdD twN rsW rsE rwN suns ckT ckD shf lnT ways ups sts sty dly gAp gOp stp bst sgn lwT lwD rdT rdO lwK lwM twS twM twD rsO rsB rwA) H locs → lv_has ls 5 [(0, .ref (q 14)), (2, .int v2)] → W p l e { frames := 3 + (d + 1), cells := 0, slots := 0, locals := 65 + (d + 1) * 24 } s m args below meth cd H locs 0 0 Z (F0 m 18 ls []) := by
      intro v2 dsC gOp stp bst
      intro hp H locs ls ho hl
      unfold p_Ds_place_J18 at hp
      refine lv_aload_n hx hb dX0_place_18 rfl (lv_at hl 0 rfl) ?_
      refine lv_iload_n hx hb dX0_place_19 rfl (lv_at hl 1 rfl) ?_
      refine o_callVv (rest := []) (ci := 0) ⟨hx, hb, hml, hown, hts⟩ ho (c_Ds_keep l D q c tnN ckN stN trN dsT dsC tpN lwN rdS rdM rdE rdD twN rsW rsE rwN suns ckT ckD shf lnT ways ups sts sty dly gAp gOp stp bst sgn lwT lwD rdT rdO lwK lwM twS twM twD rsO rsB rwA v2 _ hp) (cwV 1 hts gX0_place_X0_keep rfl rfl rfl (by decide +kernel) ⟨(by dsimp only; omega), (by dsimp only; omega)⟩) 14 rfl rfl rfl hl.1 rfl (Nat.le_of_ble_eq_true rfl) dX0_place_20 ⟨Nat.zero_le _, Nat.zero_le _⟩ (fun u H locs hp ho => ?_)
      obtain ⟨dsC_20, bst_20⟩ := u
      try dsimp only at hp
      replace ho : oW D (oT c) A s.heap s (wO q c tnN ckN stN trN dsT dsC_20 tpN lwN rdS rdM rdE rdD twN rsW rsE rwN suns ckT ckD shf lnT ways ups sts sty dly gAp gOp stp bst_20 sgn lwT lwD rdT rdO lwK lwM twS twM twD rsO rsB rwA) H locs := ho
      exact hret (dsC_20, gOp, stp, bst_20) _ _ _ _ dX0_place_23 ho hp
    have hL26 : ∀ (v1 : Int32) (v2 : Int32) (v3 : Int32) (dsC : Int32) (gOp : Nat → Nat → Int32) (stp : Nat → Int32) (bst : Nat → Int32), Lp5 (p_Ds_place_L26 dsT gAp (p_Ds_place dsT gAp d) v1 v2 Q) v3 dsC gOp stp bst → ∀ (H : Heap) (locs : List Loc) (ls : Array Slot), oW D (oT c) A s.heap s (wO q c tnN ckN stN trN dsT dsC tpN lwN rdS rdM rdE rdD twN rsW rsE rwN suns ckT ckD shf lnT ways ups sts sty dly gAp gOp stp bst sgn lwT lwD rdT rdO lwK lwM twS twM twD rsO rsB rwA) H locs → lv_has ls 5 [(0, .ref (q 14)), (1, .int v1), (2, .int v2), (3, .int v3)] → W p l e { frames := 3 + (d + 1), cells := 0, slots := 0, locals := 65 + (d + 1) * 24 } s m args below meth cd H locs 0 0 Z (F0 m 26 ls []) := by
      intro v1 v2
      refine Lp5.ind (fun rec hrec v3 dsC gOp stp bst hp H locs ls ho hl => ?_)
      unfold p_Ds_place_L26 at hp
      refine lv_iload_n hx hb dX0_place_26 rfl (lv_at hl 3 rfl) ?_
      refine lv_bipush (v := 6) hx hb dX0_place_27 (by decide) ?_
      refine lv_icmp_gt (tgt := 93) hx hb dX0_place_29 (by decide) (fun c_29 => ?_) (fun c_29 => ?_)
      · replace hp := hp.1 c_29
        exact hret (dsC, gOp, stp, bst) _ _ _ _ dX0_place_93 ho hp
      · replace hp := hp.2 c_29
        refine lv_aload_n hx hb dX0_place_32 rfl (lv_at hl 0 rfl) ?_
        refine o_get (ci := 0) (T := TX0) hx hb hts hinX0 hown ho 14 rfl rfl 1 (by decide) hf16 rfl dX0_place_33 ?_
        refine lv_iload_n hx hb dX0_place_36 rfl (lv_at hl 1 rfl) ?_
        have hg37 := hp.1
        refine o_ald hx hb ho 22 12 rfl rfl hp.1 (r := q (23 + v1.toNatClampNeg)) (if_pos (vp_lt hp.1)) dX0_place_37 ?_
        replace hp := hp.2
        refine lv_iload_n hx hb dX0_place_38 rfl (lv_at hl 1 rfl) ?_
        refine o_ild hx hb ho (23 + v1.toNatClampNeg) 13 (wO_gOp_row hg37) rfl hp.1 dX0_place_39 ?_
        replace hp := hp.2
        refine lv_iconst (v := 1) hx hb dX0_place_40 (by decide) ?_
        refine lv_iload_n hx hb dX0_place_41 rfl (lv_at hl 3 rfl) ?_
        refine lv_ishl hx hb dX0_place_42 ?_
        refine lv_iand hx hb dX0_place_43 ?_
        refine lv_if_eq (tgt := 87) hx hb dX0_place_44 (by decide) (fun c_44 => ?_) (fun c_44 => ?_)
        · replace hp := hp.1 c_44
          obtain ⟨x87, e_x87⟩ : ∃ y : Int32, y = v3 + 1 := ⟨_, rfl⟩
          replace hp := hp x87 e_x87
          refine lv_iinc (v := x87) (lv' := [(3, .int x87), (0, .ref (q 14)), (1, .int v1), (2, .int v2)]) hx hb dX0_place_87 hl (k := 3) rfl (by rw [e_x87]; rfl) (by decide) rfl (fun ls hl => ?_)
          refine lv_goto (tgt := 26) hx hb dX0_place_90 (by decide) ?_
          exact hrec x87 dsC gOp stp bst hp _ _ _ ho (lv_sub hl [1, 2, 3, 0] rfl)
        · replace hp := hp.2 c_44
          refine lv_aload_n hx hb dX0_place_47 rfl (lv_at hl 0 rfl) ?_
          refine o_get (ci := 0) (T := TX0) hx hb hts hinX0 hown ho 14 rfl rfl 2 (by decide) hf19 rfl dX0_place_48 ?_
          refine lv_iload_n hx hb dX0_place_51 rfl (lv_at hl 1 rfl) ?_
          refine lv_iload_n hx hb dX0_place_52 rfl (lv_at hl 3 rfl) ?_
          refine o_ist hx hb ho 30 14 rfl rfl hp.1 dX0_place_53 (fun H locs ho => ?_)
          replace hp := hp.2
          replace ho : oW D (oT c) A s.heap s (wO q c tnN ckN stN trN dsT dsC tpN lwN rdS rdM rdE rdD twN rsW rsE rwN suns ckT ckD shf lnT ways ups sts sty dly gAp gOp (upd stp v1.toNatClampNeg v3) bst sgn lwT lwD rdT rdO lwK lwM twS twM twD rsO rsB rwA) H locs := ho
          refine lv_iload_n hx hb dX0_place_54 rfl (lv_at hl 2 rfl) ?_
          refine lv_iload_n hx hb dX0_place_55 rfl (lv_at hl 3 rfl) ?_
          refine o_callSi (rest := [.int v2]) ⟨hx, hb, hml, hown, hts⟩ ho (c_Ds_costOf l D (oT c) (wO q c tnN ckN stN trN dsT dsC tpN lwN rdS rdM rdE rdD twN rsW rsE rwN suns ckT ckD shf lnT ways ups sts sty dly gAp gOp (upd stp v1.toNatClampNeg v3) bst sgn lwT lwD rdT rdO lwK lwM twS twM twD rsO rsB rwA) v3 _ hp) (va_cwS 1 hts gX0_place_X0_costOf rfl rfl rfl (by decide +kernel) ⟨(by dsimp only; omega), (by dsimp only; omega)⟩) rfl hl.1 rfl (Nat.le_of_ble_eq_true rfl) dX0_place_56 ⟨Nat.zero_le _, Nat.zero_le _⟩ (fun r56 u H locs hp ho => ?_)
          try dsimp only at hp
          replace ho : oW D (oT c) A s.heap s (wO q c tnN ckN stN trN dsT dsC tpN lwN rdS rdM rdE rdD twN rsW rsE rwN suns ckT ckD shf lnT ways ups sts sty dly gAp gOp (upd stp v1.toNatClampNeg v3) bst sgn lwT lwD rdT rdO lwK lwM twS twM twD rsO rsB rwA) H locs := ho
          refine lv_iadd hx hb dX0_place_59 ?_
          refine lv_topi (fun x60 e_x60 => ?_)
          replace hp := hp x60 e_x60
          refine lv_istore (lv' := [(4, .int x60), (0, .ref (q 14)), (1, .int v1), (2, .int v2), (3, .int v3)]) hx hb dX0_place_60 hl (by decide) rfl (fun ls hl => ?_)
          refine lv_iload hx hb dX0_place_62 (lv_at hl 0 rfl) ?_
          refine lv_aload_n hx hb dX0_place_64 rfl (lv_at hl 1 rfl) ?_
          refine lv_iload_n hx hb dX0_place_65 rfl (lv_at hl 2 rfl) ?_
          refine lv_iload_n hx hb dX0_place_66 rfl (lv_at hl 4 rfl) ?_
          refine o_callVi (rest := [.int x60]) (ci := 0) ⟨hx, hb, hml, hown, hts⟩ ho (c_Ds_costOfOthers l D q c tnN ckN stN trN dsT dsC tpN lwN rdS rdM rdE rdD twN rsW rsE rwN suns ckT ckD shf lnT ways ups sts sty dly gAp gOp (upd stp v1.toNatClampNeg v3) bst sgn lwT lwD rdT rdO lwK lwM twS twM twD rsO rsB rwA v1 v3 _ hp) (cwV 2 hts gX0_place_X0_costOfOthers rfl rfl rfl (by decide +kernel) ⟨(by dsimp only; omega), (by dsimp only; omega)⟩) 14 rfl rfl rfl hl.1 rfl (Nat.le_of_ble_eq_true rfl) dX0_place_67 ⟨Nat.zero_le _, Nat.zero_le _⟩ (fun r67 u H locs hp ho => ?_)
          obtain ⟨gOp_67, rfl⟩ : ∃ z, z = u := ⟨_, rfl⟩
          try dsimp only at hp
          replace ho : oW D (oT c) A s.heap s (wO q c tnN ckN stN trN dsT dsC tpN lwN rdS rdM rdE rdD twN rsW rsE rwN suns ckT ckD shf lnT ways ups sts sty dly gAp gOp_67 (upd stp v1.toNatClampNeg v3) bst sgn lwT lwD rdT rdO lwK lwM twS twM twD rsO rsB rwA) H locs := ho
          refine lv_iadd hx hb dX0_place_70 ?_
          refine lv_aload_n hx hb dX0_place_71 rfl (lv_at hl 1 rfl) ?_
          refine o_get (ci := 0) (T := TX0) hx hb hts hinX0 hown ho 14 rfl rfl 5 (by decide) hf30 rfl dX0_place_72 ?_
          refine lv_icmp_ge (tgt := 87) hx hb dX0_place_75 (by decide) (fun c_75 => ?_) (fun c_75 => ?_)
          · replace hp := hp.1 c_75
            obtain ⟨x87, e_x87⟩ : ∃ y : Int32, y = v3 + 1 := ⟨_, rfl⟩
            replace hp := hp x87 e_x87
            refine lv_iinc (v := x87) (lv' := [(3, .int x87), (4, .int x60), (0, .ref (q 14)), (1, .int v1), (2, .int v2)]) hx hb dX0_place_87 hl (k := 4) rfl (by rw [e_x87]; rfl) (by decide) rfl (fun ls hl => ?_)
            refine lv_goto (tgt := 26) hx hb dX0_place_90 (by decide) ?_
            exact hrec x87 dsC gOp_67 (upd stp v1.toNatClampNeg v3) bst hp _ _ _ ho (lv_sub hl [2, 3, 4, 0] rfl)
          · replace hp := hp.2 c_75
            refine lv_aload_n hx hb dX0_place_78 rfl (lv_at hl 1 rfl) ?_
            refine lv_iload_n hx hb dX0_place_79 rfl (lv_at hl 2 rfl) ?_
            refine lv_iconst (v := 1) hx hb dX0_place_80 (by decide) ?_
            refine lv_iadd hx hb dX0_place_81 ?_
            refine lv_iload hx hb dX0_place_82 (lv_at hl 0 rfl) ?_
            refine o_callVv (rest := []) (ci := 0) ⟨hx, hb, hml, hown, hts⟩ ho (ih tnN ckN stN trN dsT dsC tpN lwN rdS rdM rdE rdD twN rsW rsE rwN suns ckT ckD shf lnT ways ups sts sty dly gAp gOp_67 (upd stp v1.toNatClampNeg v3) bst sgn lwT lwD rdT rdO lwK lwM twS twM twD rsO rsB rwA (v1 + 1) x60 _ hp) (cwV 2 hts gX0_place_X0_place rfl rfl rfl (by decide +kernel) ⟨(by dsimp only; omega), (by dsimp only; omega)⟩) 14 rfl rfl rfl hl.1 rfl (Nat.le_of_ble_eq_true rfl) dX0_place_84 ⟨Nat.zero_le _, Nat.zero_le _⟩ (fun u H locs hp ho => ?_)
            obtain ⟨dsC_84, gOp_84, stp_84, bst_84⟩ := u
            try dsimp only at hp
            replace ho : oW D (oT c) A s.heap s (wO q c tnN ckN stN trN dsT dsC_84 tpN lwN rdS rdM rdE rdD twN rsW rsE rwN suns ckT ckD shf lnT ways ups sts sty dly gAp gOp_84 stp_84 bst_84 sgn lwT lwD rdT rdO lwK lwM twS twM twD rsO rsB rwA) H locs := ho
            obtain ⟨x87, e_x87⟩ : ∃ y : Int32, y = v3 + 1 := ⟨_, rfl⟩
            replace hp := hp x87 e_x87
            refine lv_iinc (v := x87) (lv' := [(3, .int x87), (4, .int x60), (0, .ref (q 14)), (1, .int v1), (2, .int v2)]) hx hb dX0_place_87 hl (k := 4) rfl (by rw [e_x87]; rfl) (by decide) rfl (fun ls hl => ?_)
            refine lv_goto (tgt := 26) hx hb dX0_place_90 (by decide) ?_
            exact hrec x87 dsC_84 gOp_84 stp_84 bst_84 hp _ _ _ ho (lv_sub hl [2, 3, 4, 0] rfl)
    refine lv_iload_n hx hb dX0_place_0 rfl (lv_at hl 1 rfl) ?_
    refine lv_if_lt (tgt := 18) hx hb dX0_place_1 (by decide) (fun c_1 => ?_) (fun c_1 => ?_)
    · replace hp := hp.1 c_1
      exact hJ18 v2 dsC gOp stp bst hp _ _ _ ho (lv_sub hl [0, 2] rfl)
    · replace hp := hp.2 c_1
      refine lv_iload_n hx hb dX0_place_4 rfl (lv_at hl 1 rfl) ?_
      refine lv_aload_n hx hb dX0_place_5 rfl (lv_at hl 0 rfl) ?_
      refine o_get (ci := 0) (T := TX0) hx hb hts hinX0 hown ho 14 rfl rfl 4 (by decide) hf26 rfl dX0_place_6 ?_
      refine lv_icmp_ge (tgt := 18) hx hb dX0_place_9 (by decide) (fun c_9 => ?_) (fun c_9 => ?_)
      · replace hp := hp.1 c_9
        exact hJ18 v2 dsC gOp stp bst hp _ _ _ ho (lv_sub hl [0, 2] rfl)
      · replace hp := hp.2 c_9
        refine lv_iload_n hx hb dX0_place_12 rfl (lv_at hl 1 rfl) ?_
        refine lv_bipush (v := 6) hx hb dX0_place_13 (by decide) ?_
        refine lv_icmp_lt (tgt := 24) hx hb dX0_place_15 (by decide) (fun c_15 => ?_) (fun c_15 => ?_)
        · replace hp := hp.1 c_15
          refine lv_iconst (v := 0) hx hb dX0_place_24 (by decide) ?_
          refine lv_istore_n (lv' := [(3, .int 0), (0, .ref (q 14)), (1, .int v1), (2, .int v2)]) hx hb dX0_place_25 rfl hl (by decide) rfl (fun ls hl => ?_)
          exact hL26 v1 v2 0 dsC gOp stp bst hp _ _ _ ho (lv_sub hl [1, 2, 3, 0] rfl)
        · replace hp := hp.2 c_15
          exact hJ18 v2 dsC gOp stp bst hp _ _ _ ho (lv_sub hl [0, 2] rfl)
set_option maxHeartbeats 4000000 in
set_option maxRecDepth 100000 in
theorem c_Ds_settleBest (l : Launch) (D : va_G) (q : Nat → Nat) (c : Nat → ClassId) (tnN : Int32) (ckN : Int32) (stN : Int32) (trN : Int32) (dsT : Int32) (dsC : Int32) (tpN : Int32) (lwN : Int32) (rdS : Int32) (rdM : Int32) (rdE : Int32) (rdD : Int32) (twN : Int32) (rsW : Int32) (rsE : Int32) (rwN : Int32) (suns : Nat → Int32) (ckT : Nat → Int32) (ckD : Nat → Int32) (shf : Nat → Int32) (lnT : Nat → Int32) (ways : Nat → Int32) (ups : Nat → Int32) (sts : Nat → Int32) (sty : Nat → Int32) (dly : Nat → Int32) (gAp : Nat → Nat → Int32) (gOp : Nat → Nat → Int32) (stp : Nat → Int32) (bst : Nat → Int32) (sgn : Nat → Int32) (lwT : Nat → Int32) (lwD : Nat → Int32) (rdT : Nat → Int32) (rdO : Nat → Int32) (lwK : Nat → Int32) (lwM : Nat → Int32) (twS : Nat → Int32) (twM : Nat → Int32) (twD : Nat → Int32) (rsO : Nat → Int32) (rsB : Nat → Int32) (rwA : Nat → Int32)  (Q : Int32 → Int32 → Int32 → (Nat → Int32) → (Nat → Nat → Int32) → (Nat → Nat → Int32) → (Nat → Int32) → (Nat → Int32) → Prop) (hp : p_Ds_settleBest stN trN ways ups sts sty dsT dsC dly gAp gOp stp bst Q) : oKi l yX0_settleBest wsX0_settleBest { frames := 11, cells := 0, slots := 0, locals := 257 } [.ref (q 14), .ref (q 7)] D (oT c) (wO q c tnN ckN stN trN dsT dsC tpN lwN rdS rdM rdE rdD twN rsW rsE rwN suns ckT ckD shf lnT ways ups sts sty dly gAp gOp stp bst sgn lwT lwD rdT rdO lwK lwM twS twM twD rsO rsB rwA) (Int32 × Int32 × (Nat → Int32) × (Nat → Nat → Int32) × (Nat → Nat → Int32) × (Nat → Int32) × (Nat → Int32)) (fun r (u : Int32 × Int32 × (Nat → Int32) × (Nat → Nat → Int32) × (Nat → Nat → Int32) × (Nat → Int32) × (Nat → Int32)) => Q r u.1 u.2.1 u.2.2.1 u.2.2.2.1 u.2.2.2.2.1 u.2.2.2.2.2.1 u.2.2.2.2.2.2) (fun u => wO q c tnN ckN stN trN u.1 u.2.1 tpN lwN rdS rdM rdE rdD twN rsW rsE rwN suns ckT ckD shf lnT ways ups sts sty u.2.2.1 u.2.2.2.1 u.2.2.2.2.1 u.2.2.2.2.2.1 u.2.2.2.2.2.2 sgn lwT lwD rdT rdO lwK lwM twS twM twD rsO rsB rwA) := by
  refine oKi.ofW (own := RX0) (cc := cX0_settleBest) (maxL := 4) (plainFor_of_name (by decide +kernel)) rfl rfl (Nat.le_of_ble_eq_true rfl) (fun p e s m args below meth cd A ls Z hx hb hml hown hts hret ho hl => ?_)
  replace hl : lv_has ls 4 [(0, .ref (q 14)), (1, .ref (q 7))] := hl
  have hinX0 : ∀ w ∈ u_ws RX0 TX0 6, w ∈ wsX0_settleBest := by decide +kernel
  have hinX3 : ∀ w ∈ u_ws RX3 TX3 8, w ∈ wsX0_settleBest := by decide +kernel
  have hf13 := hts (.fieldLink RX0 13 "OneTime$DelaySearch" "apart" "[[I") (by decide +kernel)
  have hf16 := hts (.fieldLink RX0 16 "OneTime$DelaySearch" "open" "[[I") (by decide +kernel)
  have hf23 := hts (.fieldLink RX0 23 "OneTime$DelaySearch" "best" "[I") (by decide +kernel)
  have hf26 := hts (.fieldLink RX0 26 "OneTime$DelaySearch" "trains" "I") (by decide +kernel)
  have hf30 := hts (.fieldLink RX0 30 "OneTime$DelaySearch" "bestCost" "I") (by decide +kernel)
  have hf33 := hts (.fieldLink RX0 33 "OneTime$Line" "trains" "I") (by decide +kernel)
  have hf50 := hts (.fieldLink RX0 50 "OneTime$Line" "delays" "[I") (by decide +kernel)
  unfold p_Ds_settleBest at hp
  have hL98 : ∀ (dsT : Int32) (dsC : Int32) (gAp : Nat → Nat → Int32) (gOp : Nat → Nat → Int32) (stp : Nat → Int32) (bst : Nat → Int32) (v2 : Int32) (dly : Nat → Int32), Lp2 (p_Ds_settleBest_L98 stN trN ways ups sts sty dsT dsC gAp gOp stp bst Q) v2 dly → ∀ (H : Heap) (locs : List Loc) (ls : Array Slot), oW D (oT c) A s.heap s (wO q c tnN ckN stN trN dsT dsC tpN lwN rdS rdM rdE rdD twN rsW rsE rwN suns ckT ckD shf lnT ways ups sts sty dly gAp gOp stp bst sgn lwT lwD rdT rdO lwK lwM twS twM twD rsO rsB rwA) H locs → lv_has ls 4 [(0, .ref (q 14)), (1, .ref (q 7)), (2, .int v2)] → W p l e { frames := 11, cells := 0, slots := 0, locals := 257 } s m args below meth cd H locs 0 0 Z (F0 m 98 ls []) := by
    intro dsT dsC gAp gOp stp bst
    refine Lp2.ind (fun rec hrec v2 dly hp H locs ls ho hl => ?_)
    unfold p_Ds_settleBest_L98 at hp
    refine lv_iload_n hx hb dX0_settleBest_98 rfl (lv_at hl 2 rfl) ?_
    refine lv_aload_n hx hb dX0_settleBest_99 rfl (lv_at hl 0 rfl) ?_
    refine o_get (ci := 0) (T := TX0) hx hb hts hinX0 hown ho 14 rfl rfl 4 (by decide) hf26 rfl dX0_settleBest_100 ?_
    refine lv_icmp_ge (tgt := 126) hx hb dX0_settleBest_103 (by decide) (fun c_103 => ?_) (fun c_103 => ?_)
    · replace hp := hp.1 c_103
      refine lv_aload_n hx hb dX0_settleBest_126 rfl (lv_at hl 0 rfl) ?_
      refine o_get (ci := 0) (T := TX0) hx hb hts hinX0 hown ho 14 rfl rfl 5 (by decide) hf30 rfl dX0_settleBest_127 ?_
      refine lv_bipush (v := 64) hx hb dX0_settleBest_130 (by decide) ?_
      refine lv_idiv hx hb dX0_settleBest_132 (by decide) ?_
      exact hret (dsC / 64) (dsT, dsC, dly, gAp, gOp, stp, bst) _ _ _ _ dX0_settleBest_133 ho hp
    · replace hp := hp.2 c_103
      refine lv_aload_n hx hb dX0_settleBest_106 rfl (lv_at hl 1 rfl) ?_
      refine o_get (ci := 3) (T := TX3) hx hb hts hinX3 hown ho 7 rfl rfl 7 (by decide) hf50 rfl dX0_settleBest_107 ?_
      refine lv_iload_n hx hb dX0_settleBest_110 rfl (lv_at hl 2 rfl) ?_
      refine lv_aload_n hx hb dX0_settleBest_111 rfl (lv_at hl 0 rfl) ?_
      refine o_get (ci := 0) (T := TX0) hx hb hts hinX0 hown ho 14 rfl rfl 3 (by decide) hf23 rfl dX0_settleBest_112 ?_
      refine lv_iload_n hx hb dX0_settleBest_115 rfl (lv_at hl 2 rfl) ?_
      refine o_ild hx hb ho 31 15 rfl rfl hp.1 dX0_settleBest_116 ?_
      replace hp := hp.2
      refine lv_iconst (v := 5) hx hb dX0_settleBest_117 (by decide) ?_
      refine lv_imul hx hb dX0_settleBest_118 ?_
      refine o_ist hx hb ho 13 9 rfl rfl hp.1 dX0_settleBest_119 (fun H locs ho => ?_)
      replace hp := hp.2
      replace ho : oW D (oT c) A s.heap s (wO q c tnN ckN stN trN dsT dsC tpN lwN rdS rdM rdE rdD twN rsW rsE rwN suns ckT ckD shf lnT ways ups sts sty (upd dly v2.toNatClampNeg ((bst v2.toNatClampNeg) * 5)) gAp gOp stp bst sgn lwT lwD rdT rdO lwK lwM twS twM twD rsO rsB rwA) H locs := ho
      obtain ⟨x120, e_x120⟩ : ∃ y : Int32, y = v2 + 1 := ⟨_, rfl⟩
      replace hp := hp x120 e_x120
      refine lv_iinc (v := x120) (lv' := [(2, .int x120), (0, .ref (q 14)), (1, .ref (q 7))]) hx hb dX0_settleBest_120 hl (k := 2) rfl (by rw [e_x120]; rfl) (by decide) rfl (fun ls hl => ?_)
      refine lv_goto (tgt := 98) hx hb dX0_settleBest_123 (by decide) ?_
      exact hrec x120 (upd dly v2.toNatClampNeg ((bst v2.toNatClampNeg) * 5)) hp _ _ _ ho (lv_sub hl [1, 2, 0] rfl)
  have hL44 : ∀ (v2 : Int32) (dsT : Int32) (dsC : Int32) (dly : Nat → Int32) (gOp : Nat → Nat → Int32) (stp : Nat → Int32) (bst : Nat → Int32) (k22 : Int32 → (Nat → Nat → Int32) → (Nat → Nat → Int32) → Prop) (hk22 : ∀ (v2 : Int32) (gAp : Nat → Nat → Int32) (gOp : Nat → Nat → Int32), k22 v2 gAp gOp → ∀ (H : Heap) (locs : List Loc) (ls : Array Slot), oW D (oT c) A s.heap s (wO q c tnN ckN stN trN dsT dsC tpN lwN rdS rdM rdE rdD twN rsW rsE rwN suns ckT ckD shf lnT ways ups sts sty dly gAp gOp stp bst sgn lwT lwD rdT rdO lwK lwM twS twM twD rsO rsB rwA) H locs → lv_has ls 4 [(0, .ref (q 14)), (1, .ref (q 7)), (2, .int v2)] → W p l e { frames := 11, cells := 0, slots := 0, locals := 257 } s m args below meth cd H locs 0 0 Z (F0 m 22 ls [])) (v3 : Int32) (gAp : Nat → Nat → Int32), Lp2 (p_Ds_settleBest_L44 stN trN ways ups sts sty v2 dsT dsC dly gOp stp bst k22 Q) v3 gAp → ∀ (H : Heap) (locs : List Loc) (ls : Array Slot), oW D (oT c) A s.heap s (wO q c tnN ckN stN trN dsT dsC tpN lwN rdS rdM rdE rdD twN rsW rsE rwN suns ckT ckD shf lnT ways ups sts sty dly gAp gOp stp bst sgn lwT lwD rdT rdO lwK lwM twS twM twD rsO rsB rwA) H locs → lv_has ls 4 [(0, .ref (q 14)), (1, .ref (q 7)), (2, .int v2), (3, .int v3)] → W p l e { frames := 11, cells := 0, slots := 0, locals := 257 } s m args below meth cd H locs 0 0 Z (F0 m 44 ls []) := by
    intro v2 dsT dsC dly gOp stp bst k22 hk22
    refine Lp2.ind (fun rec hrec v3 gAp hp H locs ls ho hl => ?_)
    unfold p_Ds_settleBest_L44 at hp
    refine lv_iload_n hx hb dX0_settleBest_44 rfl (lv_at hl 3 rfl) ?_
    refine lv_aload_n hx hb dX0_settleBest_45 rfl (lv_at hl 0 rfl) ?_
    refine o_get (ci := 0) (T := TX0) hx hb hts hinX0 hown ho 14 rfl rfl 4 (by decide) hf26 rfl dX0_settleBest_46 ?_
    refine lv_icmp_ge (tgt := 72) hx hb dX0_settleBest_49 (by decide) (fun c_49 => ?_) (fun c_49 => ?_)
    · replace hp := hp.1 c_49
      obtain ⟨x72, e_x72⟩ : ∃ y : Int32, y = v2 + 1 := ⟨_, rfl⟩
      replace hp := hp x72 e_x72
      refine lv_iinc (v := x72) (lv' := [(2, .int x72), (0, .ref (q 14)), (1, .ref (q 7)), (3, .int v3)]) hx hb dX0_settleBest_72 hl (k := 2) rfl (by rw [e_x72]; rfl) (by decide) rfl (fun ls hl => ?_)
      refine lv_goto (tgt := 22) hx hb dX0_settleBest_75 (by decide) ?_
      exact hk22 x72 gAp gOp hp _ _ _ ho (lv_sub hl [1, 2, 0] rfl)
    · replace hp := hp.2 c_49
      refine lv_aload_n hx hb dX0_settleBest_52 rfl (lv_at hl 0 rfl) ?_
      refine o_get (ci := 0) (T := TX0) hx hb hts hinX0 hown ho 14 rfl rfl 0 (by decide) hf13 rfl dX0_settleBest_53 ?_
      refine lv_iload_n hx hb dX0_settleBest_56 rfl (lv_at hl 2 rfl) ?_
      have hg57 := hp.1
      refine o_ald hx hb ho 15 10 rfl rfl hp.1 (r := q (16 + v2.toNatClampNeg)) (if_pos (vp_lt hp.1)) dX0_settleBest_57 ?_
      replace hp := hp.2
      refine lv_iload_n hx hb dX0_settleBest_58 rfl (lv_at hl 3 rfl) ?_
      refine lv_aload_n hx hb dX0_settleBest_59 rfl (lv_at hl 1 rfl) ?_
      refine lv_iload_n hx hb dX0_settleBest_60 rfl (lv_at hl 2 rfl) ?_
      refine lv_iload_n hx hb dX0_settleBest_61 rfl (lv_at hl 3 rfl) ?_
      refine o_callSi (rest := [.int v3, .ref (q (16 + v2.toNatClampNeg))]) ⟨hx, hb, hml, hown, hts⟩ ho (c_Ds_stepsApart l D q c tnN ckN stN trN dsT dsC tpN lwN rdS rdM rdE rdD twN rsW rsE rwN suns ckT ckD shf lnT ways ups sts sty dly gAp gOp stp bst sgn lwT lwD rdT rdO lwK lwM twS twM twD rsO rsB rwA v2 v3 _ hp) (va_cwS 3 hts gX0_settleBest_X0_stepsApart rfl rfl rfl (by decide +kernel) ⟨(Nat.le_of_ble_eq_true rfl), (Nat.le_of_ble_eq_true rfl)⟩) rfl hl.1 rfl (Nat.le_of_ble_eq_true rfl) dX0_settleBest_62 ⟨Nat.zero_le _, Nat.zero_le _⟩ (fun r62 u H locs hp ho => ?_)
      try dsimp only at hp
      replace ho : oW D (oT c) A s.heap s (wO q c tnN ckN stN trN dsT dsC tpN lwN rdS rdM rdE rdD twN rsW rsE rwN suns ckT ckD shf lnT ways ups sts sty dly gAp gOp stp bst sgn lwT lwD rdT rdO lwK lwM twS twM twD rsO rsB rwA) H locs := ho
      refine o_ist hx hb ho (16 + v2.toNatClampNeg) 11 (wO_gAp_row hg57) rfl hp.1 dX0_settleBest_65 (fun H locs ho => ?_)
      rw [wO_gAp_set hg57] at ho
      replace hp := hp.2
      replace ho : oW D (oT c) A s.heap s (wO q c tnN ckN stN trN dsT dsC tpN lwN rdS rdM rdE rdD twN rsW rsE rwN suns ckT ckD shf lnT ways ups sts sty dly (va_up gAp v2.toNatClampNeg (upd (gAp v2.toNatClampNeg) v3.toNatClampNeg r62)) gOp stp bst sgn lwT lwD rdT rdO lwK lwM twS twM twD rsO rsB rwA) H locs := ho
      obtain ⟨x66, e_x66⟩ : ∃ y : Int32, y = v3 + 1 := ⟨_, rfl⟩
      replace hp := hp x66 e_x66
      refine lv_iinc (v := x66) (lv' := [(3, .int x66), (0, .ref (q 14)), (1, .ref (q 7)), (2, .int v2)]) hx hb dX0_settleBest_66 hl (k := 3) rfl (by rw [e_x66]; rfl) (by decide) rfl (fun ls hl => ?_)
      refine lv_goto (tgt := 44) hx hb dX0_settleBest_69 (by decide) ?_
      exact hrec x66 (va_up gAp v2.toNatClampNeg (upd (gAp v2.toNatClampNeg) v3.toNatClampNeg r62)) hp _ _ _ ho (lv_sub hl [1, 2, 3, 0] rfl)
  have hL22 : ∀ (dsT : Int32) (dsC : Int32) (dly : Nat → Int32) (stp : Nat → Int32) (bst : Nat → Int32) (v2 : Int32) (gAp : Nat → Nat → Int32) (gOp : Nat → Nat → Int32), Lp3 (p_Ds_settleBest_L22 stN trN ways ups sts sty dsT dsC dly stp bst Q) v2 gAp gOp → ∀ (H : Heap) (locs : List Loc) (ls : Array Slot), oW D (oT c) A s.heap s (wO q c tnN ckN stN trN dsT dsC tpN lwN rdS rdM rdE rdD twN rsW rsE rwN suns ckT ckD shf lnT ways ups sts sty dly gAp gOp stp bst sgn lwT lwD rdT rdO lwK lwM twS twM twD rsO rsB rwA) H locs → lv_has ls 4 [(0, .ref (q 14)), (1, .ref (q 7)), (2, .int v2)] → W p l e { frames := 11, cells := 0, slots := 0, locals := 257 } s m args below meth cd H locs 0 0 Z (F0 m 22 ls []) := by
    intro dsT dsC dly stp bst
    refine Lp3.ind (fun rec hrec v2 gAp gOp hp H locs ls ho hl => ?_)
    unfold p_Ds_settleBest_L22 at hp
    refine lv_iload_n hx hb dX0_settleBest_22 rfl (lv_at hl 2 rfl) ?_
    refine lv_aload_n hx hb dX0_settleBest_23 rfl (lv_at hl 0 rfl) ?_
    refine o_get (ci := 0) (T := TX0) hx hb hts hinX0 hown ho 14 rfl rfl 4 (by decide) hf26 rfl dX0_settleBest_24 ?_
    refine lv_icmp_ge (tgt := 78) hx hb dX0_settleBest_27 (by decide) (fun c_27 => ?_) (fun c_27 => ?_)
    · replace hp := hp.1 c_27
      refine lv_aload_n hx hb dX0_settleBest_78 rfl (lv_at hl 0 rfl) ?_
      refine lv_iconst (v := 0) hx hb dX0_settleBest_79 (by decide) ?_
      refine lv_iconst (v := 0) hx hb dX0_settleBest_80 (by decide) ?_
      refine o_callVv (rest := []) (ci := 0) ⟨hx, hb, hml, hown, hts⟩ ho (c_Ds_place l D q c 7 tnN ckN stN trN dsT dsC tpN lwN rdS rdM rdE rdD twN rsW rsE rwN suns ckT ckD shf lnT ways ups sts sty dly gAp gOp stp bst sgn lwT lwD rdT rdO lwK lwM twS twM twD rsO rsB rwA 0 0 _ hp) (cwV 2 hts gX0_settleBest_X0_place rfl rfl rfl (by decide +kernel) ⟨(Nat.le_of_ble_eq_true rfl), (Nat.le_of_ble_eq_true rfl)⟩) 14 rfl rfl rfl hl.1 rfl (Nat.le_of_ble_eq_true rfl) dX0_settleBest_81 ⟨Nat.zero_le _, Nat.zero_le _⟩ (fun u H locs hp ho => ?_)
      obtain ⟨dsC_81, gOp_81, stp_81, bst_81⟩ := u
      try dsimp only at hp
      replace ho : oW D (oT c) A s.heap s (wO q c tnN ckN stN trN dsT dsC_81 tpN lwN rdS rdM rdE rdD twN rsW rsE rwN suns ckT ckD shf lnT ways ups sts sty dly gAp gOp_81 stp_81 bst_81 sgn lwT lwD rdT rdO lwK lwM twS twM twD rsO rsB rwA) H locs := ho
      refine lv_aload_n hx hb dX0_settleBest_84 rfl (lv_at hl 0 rfl) ?_
      refine o_get (ci := 0) (T := TX0) hx hb hts hinX0 hown ho 14 rfl rfl 5 (by decide) hf30 rfl dX0_settleBest_85 ?_
      refine lv_sipush (v := 448) hx hb dX0_settleBest_88 (by decide) ?_
      refine lv_icmp_ne (tgt := 96) hx hb dX0_settleBest_91 (by decide) (fun c_91 => ?_) (fun c_91 => ?_)
      · replace hp := hp.2 c_91
        refine lv_iconst (v := 0) hx hb dX0_settleBest_96 (by decide) ?_
        refine lv_istore_n (lv' := [(2, .int 0), (0, .ref (q 14)), (1, .ref (q 7))]) hx hb dX0_settleBest_97 rfl hl (by decide) rfl (fun ls hl => ?_)
        exact hL98 dsT dsC_81 gAp gOp_81 stp_81 bst_81 0 dly hp _ _ _ ho (lv_sub hl [1, 2, 0] rfl)
      · replace hp := hp.1 c_91
        refine lv_iconst (v := (-1)) hx hb dX0_settleBest_94 (by decide) ?_
        exact hret (-1) (dsT, dsC_81, dly, gAp, gOp_81, stp_81, bst_81) _ _ _ _ dX0_settleBest_95 ho hp
    · replace hp := hp.2 c_27
      refine lv_aload_n hx hb dX0_settleBest_30 rfl (lv_at hl 0 rfl) ?_
      refine o_get (ci := 0) (T := TX0) hx hb hts hinX0 hown ho 14 rfl rfl 1 (by decide) hf16 rfl dX0_settleBest_31 ?_
      refine lv_iconst (v := 0) hx hb dX0_settleBest_34 (by decide) ?_
      have hg35 := hp.1
      refine o_ald hx hb ho 22 12 rfl rfl hp.1 (r := q (23 + (0 : Int32).toNatClampNeg)) (if_pos (vp_lt hp.1)) dX0_settleBest_35 ?_
      replace hp := hp.2
      refine lv_iload_n hx hb dX0_settleBest_36 rfl (lv_at hl 2 rfl) ?_
      refine lv_bipush (v := 127) hx hb dX0_settleBest_37 (by decide) ?_
      refine o_ist hx hb ho (23 + (0 : Int32).toNatClampNeg) 13 (wO_gOp_row hg35) rfl hp.1 dX0_settleBest_39 (fun H locs ho => ?_)
      rw [wO_gOp_set hg35] at ho
      replace hp := hp.2
      replace ho : oW D (oT c) A s.heap s (wO q c tnN ckN stN trN dsT dsC tpN lwN rdS rdM rdE rdD twN rsW rsE rwN suns ckT ckD shf lnT ways ups sts sty dly gAp (va_up gOp (0 : Int32).toNatClampNeg (upd (gOp (0 : Int32).toNatClampNeg) v2.toNatClampNeg 127)) stp bst sgn lwT lwD rdT rdO lwK lwM twS twM twD rsO rsB rwA) H locs := ho
      refine lv_iload_n hx hb dX0_settleBest_40 rfl (lv_at hl 2 rfl) ?_
      refine lv_iconst (v := 1) hx hb dX0_settleBest_41 (by decide) ?_
      refine lv_iadd hx hb dX0_settleBest_42 ?_
      refine lv_topi (fun x43 e_x43 => ?_)
      replace hp := hp x43 e_x43
      refine lv_istore_n (lv' := [(3, .int x43), (0, .ref (q 14)), (1, .ref (q 7)), (2, .int v2)]) hx hb dX0_settleBest_43 rfl hl (by decide) rfl (fun ls hl => ?_)
      exact hL44 v2 dsT dsC dly (va_up gOp (0 : Int32).toNatClampNeg (upd (gOp (0 : Int32).toNatClampNeg) v2.toNatClampNeg 127)) stp bst rec hrec x43 gAp hp _ _ _ ho (lv_sub hl [1, 2, 3, 0] rfl)
  refine lv_aload_n hx hb dX0_settleBest_0 rfl (lv_at hl 0 rfl) ?_
  refine lv_aload_n hx hb dX0_settleBest_1 rfl (lv_at hl 1 rfl) ?_
  refine o_get (ci := 3) (T := TX3) hx hb hts hinX3 hown ho 7 rfl rfl 3 (by decide) hf33 rfl dX0_settleBest_2 ?_
  refine lv_bipush (v := 6) hx hb dX0_settleBest_5 (by decide) ?_
  refine va_mmin hx hb (hml.trans hl.1.symm) hown (hts (.methodLink RX0 36 Lib.Math.min.name) (by decide +kernel)) (hts (.static Lib.Math.min.name) (by decide +kernel)) (hts (.initialized "java/lang/Math") (by decide +kernel)) (hts (.code Lib.Math.min.name Lib.Math.min.code 2 (some .int)) (by decide +kernel)) (Nat.le_of_ble_eq_true rfl) (Nat.le_of_ble_eq_true rfl) (Nat.zero_le _) (Nat.zero_le _) dX0_settleBest_7 ?_
  refine lv_topi (fun x10 e_x10 => ?_)
  replace hp := hp x10 e_x10
  refine o_put (ci := 0) (T := TX0) hx hb hts hinX0 tyX0_ok nmX0 hown ho 14 rfl rfl 4 (by decide) hf26 rfl (tyX0_ok 4 (by decide)) (Nat.le_of_ble_eq_true rfl) dX0_settleBest_10 (fun H locs ho => ?_)
  replace ho : oW D (oT c) A s.heap s (wO q c tnN ckN stN trN x10 dsC tpN lwN rdS rdM rdE rdD twN rsW rsE rwN suns ckT ckD shf lnT ways ups sts sty dly gAp gOp stp bst sgn lwT lwD rdT rdO lwK lwM twS twM twD rsO rsB rwA) H locs := ho
  refine lv_aload_n hx hb dX0_settleBest_13 rfl (lv_at hl 0 rfl) ?_
  refine lv_sipush (v := 448) hx hb dX0_settleBest_14 (by decide) ?_
  refine o_put (ci := 0) (T := TX0) hx hb hts hinX0 tyX0_ok nmX0 hown ho 14 rfl rfl 5 (by decide) hf30 rfl (tyX0_ok 5 (by decide)) (Nat.le_of_ble_eq_true rfl) dX0_settleBest_17 (fun H locs ho => ?_)
  replace ho : oW D (oT c) A s.heap s (wO q c tnN ckN stN trN x10 448 tpN lwN rdS rdM rdE rdD twN rsW rsE rwN suns ckT ckD shf lnT ways ups sts sty dly gAp gOp stp bst sgn lwT lwD rdT rdO lwK lwM twS twM twD rsO rsB rwA) H locs := ho
  refine lv_iconst (v := 0) hx hb dX0_settleBest_20 (by decide) ?_
  refine lv_istore_n (lv' := [(2, .int 0), (0, .ref (q 14)), (1, .ref (q 7))]) hx hb dX0_settleBest_21 rfl hl (by decide) rfl (fun ls hl => ?_)
  exact hL22 x10 448 dly stp bst 0 gAp gOp hp _ _ _ ho (lv_sub hl [1, 2, 0] rfl)
