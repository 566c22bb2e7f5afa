set_option maxHeartbeats 4000000 in
set_option maxRecDepth 100000 in
theorem c_Tw_build (l : Launch) (D : va_G) (q : Nat → Nat) (c : Nat → ClassId) (tnN : Int32) (ckN : Int32) (stN : Int32) (trN : Int32) (dsT : Int32) (dsC : Int32) (tpN : Int32) (lwN : Int32) (rdS : Int32) (rdM : Int32) (rdE : Int32) (rdD : Int32) (twN : Int32) (rsW : Int32) (rsE : Int32) (rwN : Int32) (suns : Nat → Int32) (ckT : Nat → Int32) (ckD : Nat → Int32) (shf : Nat → Int32) (lnT : Nat → Int32) (ways : Nat → Int32) (ups : Nat → Int32) (sts : Nat → Int32) (sty : Nat → Int32) (dly : Nat → Int32) (gAp : Nat → Nat → Int32) (gOp : Nat → Nat → Int32) (stp : Nat → Int32) (bst : Nat → Int32) (sgn : Nat → Int32) (lwT : Nat → Int32) (lwD : Nat → Int32) (rdT : Nat → Int32) (rdO : Nat → Int32) (lwK : Nat → Int32) (lwM : Nat → Int32) (twS : Nat → Int32) (twM : Nat → Int32) (twD : Nat → Int32) (rsO : Nat → Int32) (rsB : Nat → Int32) (rwA : Nat → Int32) (v1 : Int32) (v2 : Int32) (v3 : Int32) (Q : Int32 → Int32 → (Nat → Int32) → (Nat → Int32) → (Nat → Int32) → Prop) (hp : p_Tw_build twN twS twM twD v1 v2 v3 Q) : oKi l yX8_build wsX8_build { frames := 0, cells := 0, slots := 0, locals := 0 } [.ref (q 43), .int v1, .int v2, .int v3] D (oT c) (wO q c tnN ckN stN trN dsT dsC tpN lwN rdS rdM rdE rdD twN rsW rsE rwN suns ckT ckD shf lnT ways ups sts sty dly gAp gOp stp bst sgn lwT lwD rdT rdO lwK lwM twS twM twD rsO rsB rwA) (Int32 × (Nat → Int32) × (Nat → Int32) × (Nat → Int32)) (fun r (u : Int32 × (Nat → Int32) × (Nat → Int32) × (Nat → Int32)) => Q r u.1 u.2.1 u.2.2.1 u.2.2.2) (fun u => wO q c tnN ckN stN trN dsT dsC tpN lwN rdS rdM rdE rdD u.1 rsW rsE rwN suns ckT ckD shf lnT ways ups sts sty dly gAp gOp stp bst sgn lwT lwD rdT rdO lwK lwM u.2.1 u.2.2.1 u.2.2.2 rsO rsB rwA) := by
  refine oKi.ofW (own := RX8) (cc := cX8_build) (maxL := 4) (plainFor_of_name (by decide +kernel)) rfl rfl (Nat.le_of_ble_eq_true rfl) (fun p e s m args below meth cd A ls Z hx hb hml hown hts hret ho hl => ?_)
  replace hl : lv_has ls 4 [(0, .ref (q 43)), (1, .int v1), (2, .int v2), (3, .int v3)] := hl
  have hinX8 : ∀ w ∈ u_ws RX8 TX8 4, w ∈ wsX8_build := by decide +kernel
  have hf9 := hts (.fieldLink RX8 9 "OneTime$Towers" "size" "I") (by decide +kernel)
  have hf15 := hts (.fieldLink RX8 15 "OneTime$Towers" "suns" "[I") (by decide +kernel)
  have hf19 := hts (.fieldLink RX8 19 "OneTime$Towers" "setMinutes" "[I") (by decide +kernel)
  have hf22 := hts (.fieldLink RX8 22 "OneTime$Towers" "drifts" "[I") (by decide +kernel)
  unfold p_Tw_build at hp
  refine lv_aload_n hx hb dX8_build_0 rfl (lv_at hl 0 rfl) ?_
  refine o_get (ci := 8) (T := TX8) hx hb hts hinX8 hown ho 43 rfl rfl 0 (by decide) hf9 rfl dX8_build_1 ?_
  refine lv_bipush (v := 7) hx hb dX8_build_4 (by decide) ?_
  refine lv_icmp_lt (tgt := 11) hx hb dX8_build_6 (by decide) (fun c_6 => ?_) (fun c_6 => ?_)
  · replace hp := hp.1 c_6
    refine lv_aload_n hx hb dX8_build_11 rfl (lv_at hl 0 rfl) ?_
    refine o_get (ci := 8) (T := TX8) hx hb hts hinX8 hown ho 43 rfl rfl 1 (by decide) hf15 rfl dX8_build_12 ?_
    refine lv_aload_n hx hb dX8_build_15 rfl (lv_at hl 0 rfl) ?_
    refine o_get (ci := 8) (T := TX8) hx hb hts hinX8 hown ho 43 rfl rfl 0 (by decide) hf9 rfl dX8_build_16 ?_
    refine lv_iload_n hx hb dX8_build_19 rfl (lv_at hl 1 rfl) ?_
    refine o_ist hx hb ho 44 23 rfl rfl hp.1 dX8_build_20 (fun H locs ho => ?_)
    replace hp := hp.2
    replace ho : oW D (oT c) A s.heap s (wO q c tnN ckN stN trN dsT dsC tpN lwN rdS rdM rdE rdD twN rsW rsE rwN suns ckT ckD shf lnT ways ups sts sty dly gAp gOp stp bst sgn lwT lwD rdT rdO lwK lwM (upd twS twN.toNatClampNeg v1) twM twD rsO rsB rwA) H locs := ho
    refine lv_aload_n hx hb dX8_build_21 rfl (lv_at hl 0 rfl) ?_
    refine o_get (ci := 8) (T := TX8) hx hb hts hinX8 hown ho 43 rfl rfl 2 (by decide) hf19 rfl dX8_build_22 ?_
    refine lv_aload_n hx hb dX8_build_25 rfl (lv_at hl 0 rfl) ?_
    refine o_get (ci := 8) (T := TX8) hx hb hts hinX8 hown ho 43 rfl rfl 0 (by decide) hf9 rfl dX8_build_26 ?_
    refine lv_iload_n hx hb dX8_build_29 rfl (lv_at hl 2 rfl) ?_
    refine o_ist hx hb ho 45 24 rfl rfl hp.1 dX8_build_30 (fun H locs ho => ?_)
    replace hp := hp.2
    replace ho : oW D (oT c) A s.heap s (wO q c tnN ckN stN trN dsT dsC tpN lwN rdS rdM rdE rdD twN rsW rsE rwN suns ckT ckD shf lnT ways ups sts sty dly gAp gOp stp bst sgn lwT lwD rdT rdO lwK lwM (upd twS twN.toNatClampNeg v1) (upd twM twN.toNatClampNeg v2) twD rsO rsB rwA) H locs := ho
    refine lv_aload_n hx hb dX8_build_31 rfl (lv_at hl 0 rfl) ?_
    refine o_get (ci := 8) (T := TX8) hx hb hts hinX8 hown ho 43 rfl rfl 3 (by decide) hf22 rfl dX8_build_32 ?_
    refine lv_aload_n hx hb dX8_build_35 rfl (lv_at hl 0 rfl) ?_
    refine o_get (ci := 8) (T := TX8) hx hb hts hinX8 hown ho 43 rfl rfl 0 (by decide) hf9 rfl dX8_build_36 ?_
    refine lv_iload_n hx hb dX8_build_39 rfl (lv_at hl 3 rfl) ?_
    refine o_ist hx hb ho 46 25 rfl rfl hp.1 dX8_build_40 (fun H locs ho => ?_)
    replace hp := hp.2
    replace ho : oW D (oT c) A s.heap s (wO q c tnN ckN stN trN dsT dsC tpN lwN rdS rdM rdE rdD twN rsW rsE rwN suns ckT ckD shf lnT ways ups sts sty dly gAp gOp stp bst sgn lwT lwD rdT rdO lwK lwM (upd twS twN.toNatClampNeg v1) (upd twM twN.toNatClampNeg v2) (upd twD twN.toNatClampNeg v3) rsO rsB rwA) H locs := ho
    refine lv_aload_n hx hb dX8_build_41 rfl (lv_at hl 0 rfl) ?_
    refine lv_dup hx hb dX8_build_42 rfl ?_
    refine o_get (ci := 8) (T := TX8) hx hb hts hinX8 hown ho 43 rfl rfl 0 (by decide) hf9 rfl dX8_build_43 ?_
    refine lv_iconst (v := 1) hx hb dX8_build_46 (by decide) ?_
    refine lv_iadd hx hb dX8_build_47 ?_
    refine lv_topi (fun x48 e_x48 => ?_)
    replace hp := hp x48 e_x48
    refine o_put (ci := 8) (T := TX8) hx hb hts hinX8 tyX8_ok nmX8 hown ho 43 rfl rfl 0 (by decide) hf9 rfl (tyX8_ok 0 (by decide)) (Nat.le_of_ble_eq_true rfl) dX8_build_48 (fun H locs ho => ?_)
    replace ho : oW D (oT c) A s.heap s (wO q c tnN ckN stN trN dsT dsC tpN lwN rdS rdM rdE rdD x48 rsW rsE rwN suns ckT ckD shf lnT ways ups sts sty dly gAp gOp stp bst sgn lwT lwD rdT rdO lwK lwM (upd twS twN.toNatClampNeg v1) (upd twM twN.toNatClampNeg v2) (upd twD twN.toNatClampNeg v3) rsO rsB rwA) H locs := ho
    refine lv_aload_n hx hb dX8_build_51 rfl (lv_at hl 0 rfl) ?_
    refine o_get (ci := 8) (T := TX8) hx hb hts hinX8 hown ho 43 rfl rfl 0 (by decide) hf9 rfl dX8_build_52 ?_
    refine lv_iconst (v := 1) hx hb dX8_build_55 (by decide) ?_
    refine lv_isub hx hb dX8_build_56 ?_
    exact hret (x48 - 1) (x48, upd twS twN.toNatClampNeg v1, upd twM twN.toNatClampNeg v2, upd twD twN.toNatClampNeg v3) _ _ _ _ dX8_build_57 ho hp
  · replace hp := hp.2 c_6
    refine lv_iconst (v := (-1)) hx hb dX8_build_9 (by decide) ?_
    exact hret (-1) (twN, twS, twM, twD) _ _ _ _ dX8_build_10 ho hp
set_option maxHeartbeats 4000000 in
set_option maxRecDepth 100000 in
theorem c_Tw_has (l : Launch) (D : va_G) (q : Nat → Nat) (c : Nat → ClassId) (tnN : Int32) (ckN : Int32) (stN : Int32) (trN : Int32) (dsT : Int32) (dsC : Int32) (tpN : Int32) (lwN : Int32) (rdS : Int32) (rdM : Int32) (rdE : Int32) (rdD : Int32) (twN : Int32) (rsW : Int32) (rsE : Int32) (rwN : Int32) (suns : Nat → Int32) (ckT : Nat → Int32) (ckD : Nat → Int32) (shf : Nat → Int32) (lnT : Nat → Int32) (ways : Nat → Int32) (ups : Nat → Int32) (sts : Nat → Int32) (sty : Nat → Int32) (dly : Nat → Int32) (gAp : Nat → Nat → Int32) (gOp : Nat → Nat → Int32) (stp : Nat → Int32) (bst : Nat → Int32) (sgn : Nat → Int32) (lwT : Nat → Int32) (lwD : Nat → Int32) (rdT : Nat → Int32) (rdO : Nat → Int32) (lwK : Nat → Int32) (lwM : Nat → Int32) (twS : Nat → Int32) (twM : Nat → Int32) (twD : Nat → Int32) (rsO : Nat → Int32) (rsB : Nat → Int32) (rwA : Nat → Int32) (v1 : Int32) (Q : Int32 → Prop) (hp : p_Tw_has twN v1 Q) : oKi l yX8_has wsX8_has { frames := 0, cells := 0, slots := 0, locals := 0 } [.ref (q 43), .int v1] D (oT c) (wO q c tnN ckN stN trN dsT dsC tpN lwN rdS rdM rdE rdD twN rsW rsE rwN suns ckT ckD shf lnT ways ups sts sty dly gAp gOp stp bst sgn lwT lwD rdT rdO lwK lwM twS twM twD rsO rsB rwA) (Unit) (fun r (_ : Unit) => Q r) (fun _ => wO q c tnN ckN stN trN dsT dsC tpN lwN rdS rdM rdE rdD twN rsW rsE rwN suns ckT ckD shf lnT ways ups sts sty dly gAp gOp stp bst sgn lwT lwD rdT rdO lwK lwM twS twM twD rsO rsB rwA) := by
  refine oKi.ofWz (own := RX8) (cc := cX8_has) (maxL := 2) (plainFor_of_name (by decide +kernel)) rfl rfl (Nat.le_of_ble_eq_true rfl) (fun p e s m args below meth cd A ls Z hx hb hml hown hts hret ho hl => ?_)
  replace hl : lv_has ls 2 [(0, .ref (q 43)), (1, .int v1)] := hl
  have hinX8 : ∀ w ∈ u_ws RX8 TX8 4, w ∈ wsX8_has := by decide +kernel
  have hf9 := hts (.fieldLink RX8 9 "OneTime$Towers" "size" "I") (by decide +kernel)
  unfold p_Tw_has at hp
  refine lv_iload_n hx hb dX8_has_0 rfl (lv_at hl 1 rfl) ?_
  refine lv_if_lt (tgt := 16) hx hb dX8_has_1 (by decide) (fun c_1 => ?_) (fun c_1 => ?_)
  · replace hp := hp.1 c_1
    refine lv_iconst (v := 0) hx hb dX8_has_16 (by decide) ?_
    exact hret 0 () _ _ _ _ dX8_has_17 (Or.inl rfl) ho hp
  · replace hp := hp.2 c_1
    refine lv_iload_n hx hb dX8_has_4 rfl (lv_at hl 1 rfl) ?_
    refine lv_aload_n hx hb dX8_has_5 rfl (lv_at hl 0 rfl) ?_
    refine o_get (ci := 8) (T := TX8) hx hb hts hinX8 hown ho 43 rfl rfl 0 (by decide) hf9 rfl dX8_has_6 ?_
    refine lv_icmp_ge (tgt := 16) hx hb dX8_has_9 (by decide) (fun c_9 => ?_) (fun c_9 => ?_)
    · replace hp := hp.1 c_9
      refine lv_iconst (v := 0) hx hb dX8_has_16 (by decide) ?_
      exact hret 0 () _ _ _ _ dX8_has_17 (Or.inl rfl) ho hp
    · replace hp := hp.2 c_9
      refine lv_iconst (v := 1) hx hb dX8_has_12 (by decide) ?_
      refine lv_goto (tgt := 17) hx hb dX8_has_13 (by decide) ?_
      exact hret 1 () _ _ _ _ dX8_has_17 (Or.inr rfl) ho hp
set_option maxHeartbeats 4000000 in
set_option maxRecDepth 100000 in
theorem c_Tw_isSetBy (l : Launch) (D : va_G) (q : Nat → Nat) (c : Nat → ClassId) (tnN : Int32) (ckN : Int32) (stN : Int32) (trN : Int32) (dsT : Int32) (dsC : Int32) (tpN : Int32) (lwN : Int32) (rdS : Int32) (rdM : Int32) (rdE : Int32) (rdD : Int32) (twN : Int32) (rsW : Int32) (rsE : Int32) (rwN : Int32) (suns : Nat → Int32) (ckT : Nat → Int32) (ckD : Nat → Int32) (shf : Nat → Int32) (lnT : Nat → Int32) (ways : Nat → Int32) (ups : Nat → Int32) (sts : Nat → Int32) (sty : Nat → Int32) (dly : Nat → Int32) (gAp : Nat → Nat → Int32) (gOp : Nat → Nat → Int32) (stp : Nat → Int32) (bst : Nat → Int32) (sgn : Nat → Int32) (lwT : Nat → Int32) (lwD : Nat → Int32) (rdT : Nat → Int32) (rdO : Nat → Int32) (lwK : Nat → Int32) (lwM : Nat → Int32) (twS : Nat → Int32) (twM : Nat → Int32) (twD : Nat → Int32) (rsO : Nat → Int32) (rsB : Nat → Int32) (rwA : Nat → Int32) (v1 : Int32) (v2 : Int32) (Q : Int32 → Prop) (hp : p_Tw_isSetBy twN twM v1 v2 Q) : oKi l yX8_isSetBy wsX8_isSetBy { frames := 1, cells := 0, slots := 0, locals := 21 } [.ref (q 43), .int v1, .int v2] D (oT c) (wO q c tnN ckN stN trN dsT dsC tpN lwN rdS rdM rdE rdD twN rsW rsE rwN suns ckT ckD shf lnT ways ups sts sty dly gAp gOp stp bst sgn lwT lwD rdT rdO lwK lwM twS twM twD rsO rsB rwA) (Unit) (fun r (_ : Unit) => Q r) (fun _ => wO q c tnN ckN stN trN dsT dsC tpN lwN rdS rdM rdE rdD twN rsW rsE rwN suns ckT ckD shf lnT ways ups sts sty dly gAp gOp stp bst sgn lwT lwD rdT rdO lwK lwM twS twM twD rsO rsB rwA) := by
  refine oKi.ofWz (own := RX8) (cc := cX8_isSetBy) (maxL := 3) (plainFor_of_name (by decide +kernel)) rfl rfl (Nat.le_of_ble_eq_true rfl) (fun p e s m args below meth cd A ls Z hx hb hml hown hts hret ho hl => ?_)
  replace hl : lv_has ls 3 [(0, .ref (q 43)), (1, .int v1), (2, .int v2)] := hl
  have hinX8 : ∀ w ∈ u_ws RX8 TX8 4, w ∈ wsX8_isSetBy := by decide +kernel
  have hf19 := hts (.fieldLink RX8 19 "OneTime$Towers" "setMinutes" "[I") (by decide +kernel)
  unfold p_Tw_isSetBy at hp
  refine lv_aload_n hx hb dX8_isSetBy_0 rfl (lv_at hl 0 rfl) ?_
  refine lv_iload_n hx hb dX8_isSetBy_1 rfl (lv_at hl 1 rfl) ?_
  refine o_callVi (rest := []) (ci := 8) ⟨hx, hb, hml, hown, hts⟩ ho (c_Tw_has l D q c tnN ckN stN trN dsT dsC tpN lwN rdS rdM rdE rdD twN rsW rsE rwN suns ckT ckD shf lnT ways ups sts sty dly gAp gOp stp bst sgn lwT lwD rdT rdO lwK lwM twS twM twD rsO rsB rwA v1 _ hp) (cwV 1 hts gX8_isSetBy_X8_has rfl rfl rfl (by decide +kernel) ⟨(Nat.le_of_ble_eq_true rfl), (Nat.le_of_ble_eq_true rfl)⟩) 43 rfl rfl rfl hl.1 rfl (Nat.le_of_ble_eq_true rfl) dX8_isSetBy_2 ⟨Nat.zero_le _, Nat.zero_le _⟩ (fun r2 u H locs hp ho => ?_)
  try dsimp only at hp
  replace ho : oW D (oT c) A s.heap s (wO q c tnN ckN stN trN dsT dsC tpN lwN rdS rdM rdE rdD twN rsW rsE rwN suns ckT ckD shf lnT ways ups sts sty dly gAp gOp stp bst sgn lwT lwD rdT rdO lwK lwM twS twM twD rsO rsB rwA) H locs := ho
  refine lv_if_eq (tgt := 22) hx hb dX8_isSetBy_5 (by decide) (fun c_5 => ?_) (fun c_5 => ?_)
  · replace hp := hp.1 c_5
    refine lv_iconst (v := 0) hx hb dX8_isSetBy_22 (by decide) ?_
    exact hret 0 () _ _ _ _ dX8_isSetBy_23 (Or.inl rfl) ho hp
  · replace hp := hp.2 c_5
    refine lv_aload_n hx hb dX8_isSetBy_8 rfl (lv_at hl 0 rfl) ?_
    refine o_get (ci := 8) (T := TX8) hx hb hts hinX8 hown ho 43 rfl rfl 2 (by decide) hf19 rfl dX8_isSetBy_9 ?_
    refine lv_iload_n hx hb dX8_isSetBy_12 rfl (lv_at hl 1 rfl) ?_
    refine o_ild hx hb ho 45 24 rfl rfl hp.1 dX8_isSetBy_13 ?_
    replace hp := hp.2
    refine lv_iload_n hx hb dX8_isSetBy_14 rfl (lv_at hl 2 rfl) ?_
    refine lv_icmp_gt (tgt := 22) hx hb dX8_isSetBy_15 (by decide) (fun c_15 => ?_) (fun c_15 => ?_)
    · replace hp := hp.1 c_15
      refine lv_iconst (v := 0) hx hb dX8_isSetBy_22 (by decide) ?_
      exact hret 0 () _ _ _ _ dX8_isSetBy_23 (Or.inl rfl) ho hp
    · replace hp := hp.2 c_15
      refine lv_iconst (v := 1) hx hb dX8_isSetBy_18 (by decide) ?_
      refine lv_goto (tgt := 23) hx hb dX8_isSetBy_19 (by decide) ?_
      exact hret 1 () _ _ _ _ dX8_isSetBy_23 (Or.inr rfl) ho hp
set_option maxHeartbeats 4000000 in
set_option maxRecDepth 100000 in
theorem c_Tw_errorAt (l : Launch) (D : va_G) (q : Nat → Nat) (c : Nat → ClassId) (tnN : Int32) (ckN : Int32) (stN : Int32) (trN : Int32) (dsT : Int32) (dsC : Int32) (tpN : Int32) (lwN : Int32) (rdS : Int32) (rdM : Int32) (rdE : Int32) (rdD : Int32) (twN : Int32) (rsW : Int32) (rsE : Int32) (rwN : Int32) (suns : Nat → Int32) (ckT : Nat → Int32) (ckD : Nat → Int32) (shf : Nat → Int32) (lnT : Nat → Int32) (ways : Nat → Int32) (ups : Nat → Int32) (sts : Nat → Int32) (sty : Nat → Int32) (dly : Nat → Int32) (gAp : Nat → Nat → Int32) (gOp : Nat → Nat → Int32) (stp : Nat → Int32) (bst : Nat → Int32) (sgn : Nat → Int32) (lwT : Nat → Int32) (lwD : Nat → Int32) (rdT : Nat → Int32) (rdO : Nat → Int32) (lwK : Nat → Int32) (lwM : Nat → Int32) (twS : Nat → Int32) (twM : Nat → Int32) (twD : Nat → Int32) (rsO : Nat → Int32) (rsB : Nat → Int32) (rwA : Nat → Int32) (v1 : Int32) (v2 : Int32) (Q : Int32 → Prop) (hp : p_Tw_errorAt twN twM twD v1 v2 Q) : oKi l yX8_errorAt wsX8_errorAt { frames := 1, cells := 0, slots := 0, locals := 21 } [.ref (q 43), .int v1, .int v2] D (oT c) (wO q c tnN ckN stN trN dsT dsC tpN lwN rdS rdM rdE rdD twN rsW rsE rwN suns ckT ckD shf lnT ways ups sts sty dly gAp gOp stp bst sgn lwT lwD rdT rdO lwK lwM twS twM twD rsO rsB rwA) (Unit) (fun r (_ : Unit) => Q r) (fun _ => wO q c tnN ckN stN trN dsT dsC tpN lwN rdS rdM rdE rdD twN rsW rsE rwN suns ckT ckD shf lnT ways ups sts sty dly gAp gOp stp bst sgn lwT lwD rdT rdO lwK lwM twS twM twD rsO rsB rwA) := by
  refine oKi.ofW (own := RX8) (cc := cX8_errorAt) (maxL := 3) (plainFor_of_name (by decide +kernel)) rfl rfl (Nat.le_of_ble_eq_true rfl) (fun p e s m args below meth cd A ls Z hx hb hml hown hts hret ho hl => ?_)
  replace hl : lv_has ls 3 [(0, .ref (q 43)), (1, .int v1), (2, .int v2)] := hl
  have hinX8 : ∀ w ∈ u_ws RX8 TX8 4, w ∈ wsX8_errorAt := by decide +kernel
  have hf19 := hts (.fieldLink RX8 19 "OneTime$Towers" "setMinutes" "[I") (by decide +kernel)
  have hf22 := hts (.fieldLink RX8 22 "OneTime$Towers" "drifts" "[I") (by decide +kernel)
  unfold p_Tw_errorAt at hp
  refine lv_aload_n hx hb dX8_errorAt_0 rfl (lv_at hl 0 rfl) ?_
  refine lv_iload_n hx hb dX8_errorAt_1 rfl (lv_at hl 1 rfl) ?_
  refine o_callVi (rest := []) (ci := 8) ⟨hx, hb, hml, hown, hts⟩ ho (c_Tw_has l D q c tnN ckN stN trN dsT dsC tpN lwN rdS rdM rdE rdD twN rsW rsE rwN suns ckT ckD shf lnT ways ups sts sty dly gAp gOp stp bst sgn lwT lwD rdT rdO lwK lwM twS twM twD rsO rsB rwA v1 _ hp) (cwV 1 hts gX8_errorAt_X8_has rfl rfl rfl (by decide +kernel) ⟨(Nat.le_of_ble_eq_true rfl), (Nat.le_of_ble_eq_true rfl)⟩) 43 rfl rfl rfl hl.1 rfl (Nat.le_of_ble_eq_true rfl) dX8_errorAt_2 ⟨Nat.zero_le _, Nat.zero_le _⟩ (fun r2 u H locs hp ho => ?_)
  try dsimp only at hp
  replace ho : oW D (oT c) A s.heap s (wO q c tnN ckN stN trN dsT dsC tpN lwN rdS rdM rdE rdD twN rsW rsE rwN suns ckT ckD shf lnT ways ups sts sty dly gAp gOp stp bst sgn lwT lwD rdT rdO lwK lwM twS twM twD rsO rsB rwA) H locs := ho
  refine lv_if_eq (tgt := 30) hx hb dX8_errorAt_5 (by decide) (fun c_5 => ?_) (fun c_5 => ?_)
  · replace hp := hp.1 c_5
    refine lv_iconst (v := 0) hx hb dX8_errorAt_30 (by decide) ?_
    exact hret 0 () _ _ _ _ dX8_errorAt_31 ho hp
  · replace hp := hp.2 c_5
    refine lv_aload_n hx hb dX8_errorAt_8 rfl (lv_at hl 0 rfl) ?_
    refine o_get (ci := 8) (T := TX8) hx hb hts hinX8 hown ho 43 rfl rfl 3 (by decide) hf22 rfl dX8_errorAt_9 ?_
    refine lv_iload_n hx hb dX8_errorAt_12 rfl (lv_at hl 1 rfl) ?_
    refine o_ild hx hb ho 46 25 rfl rfl hp.1 dX8_errorAt_13 ?_
    replace hp := hp.2
    refine lv_iload_n hx hb dX8_errorAt_14 rfl (lv_at hl 2 rfl) ?_
    refine lv_aload_n hx hb dX8_errorAt_15 rfl (lv_at hl 0 rfl) ?_
    refine o_get (ci := 8) (T := TX8) hx hb hts hinX8 hown ho 43 rfl rfl 2 (by decide) hf19 rfl dX8_errorAt_16 ?_
    refine lv_iload_n hx hb dX8_errorAt_19 rfl (lv_at hl 1 rfl) ?_
    refine o_ild hx hb ho 45 24 rfl rfl hp.1 dX8_errorAt_20 ?_
    replace hp := hp.2
    refine lv_isub hx hb dX8_errorAt_21 ?_
    refine lv_imul hx hb dX8_errorAt_22 ?_
    refine lv_sipush (v := 1440) hx hb dX8_errorAt_23 (by decide) ?_
    refine lv_idiv hx hb dX8_errorAt_26 (by decide) ?_
    refine lv_goto (tgt := 31) hx hb dX8_errorAt_27 (by decide) ?_
    exact hret (((twD v1.toNatClampNeg) * (v2 - (twM v1.toNatClampNeg))) / 1440) () _ _ _ _ dX8_errorAt_31 ho hp
set_option maxHeartbeats 4000000 in
set_option maxRecDepth 100000 in
theorem c_Tw_areAllSetBy (l : Launch) (D : va_G) (q : Nat → Nat) (c : Nat → ClassId) (tnN : Int32) (ckN : Int32) (stN : Int32) (trN : Int32) (dsT : Int32) (dsC : Int32) (tpN : Int32) (lwN : Int32) (rdS : Int32) (rdM : Int32) (rdE : Int32) (rdD : Int32) (twN : Int32) (rsW : Int32) (rsE : Int32) (rwN : Int32) (suns : Nat → Int32) (ckT : Nat → Int32) (ckD : Nat → Int32) (shf : Nat → Int32) (lnT : Nat → Int32) (ways : Nat → Int32) (ups : Nat → Int32) (sts : Nat → Int32) (sty : Nat → Int32) (dly : Nat → Int32) (gAp : Nat → Nat → Int32) (gOp : Nat → Nat → Int32) (stp : Nat → Int32) (bst : Nat → Int32) (sgn : Nat → Int32) (lwT : Nat → Int32) (lwD : Nat → Int32) (rdT : Nat → Int32) (rdO : Nat → Int32) (lwK : Nat → Int32) (lwM : Nat → Int32) (twS : Nat → Int32) (twM : Nat → Int32) (twD : Nat → Int32) (rsO : Nat → Int32) (rsB : Nat → Int32) (rwA : Nat → Int32) (v1 : Int32) (Q : Int32 → Prop) (hp : p_Tw_areAllSetBy twN twM v1 Q) : oKi l yX8_areAllSetBy wsX8_areAllSetBy { frames := 0, cells := 0, slots := 0, locals := 0 } [.ref (q 43), .int v1] D (oT c) (wO q c tnN ckN stN trN dsT dsC tpN lwN rdS rdM rdE rdD twN rsW rsE rwN suns ckT ckD shf lnT ways ups sts sty dly gAp gOp stp bst sgn lwT lwD rdT rdO lwK lwM twS twM twD rsO rsB rwA) (Unit) (fun r (_ : Unit) => Q r) (fun _ => wO q c tnN ckN stN trN dsT dsC tpN lwN rdS rdM rdE rdD twN rsW rsE rwN suns ckT ckD shf lnT ways ups sts sty dly gAp gOp stp bst sgn lwT lwD rdT rdO lwK lwM twS twM twD rsO rsB rwA) := by
  refine oKi.ofWz (own := RX8) (cc := cX8_areAllSetBy) (maxL := 3) (plainFor_of_name (by decide +kernel)) rfl rfl (Nat.le_of_ble_eq_true rfl) (fun p e s m args below meth cd A ls Z hx hb hml hown hts hret ho hl => ?_)
  replace hl : lv_has ls 3 [(0, .ref (q 43)), (1, .int v1)] := hl
  have hinX8 : ∀ w ∈ u_ws RX8 TX8 4, w ∈ wsX8_areAllSetBy := by decide +kernel
  have hf9 := hts (.fieldLink RX8 9 "OneTime$Towers" "size" "I") (by decide +kernel)
  have hf19 := hts (.fieldLink RX8 19 "OneTime$Towers" "setMinutes" "[I") (by decide +kernel)
  unfold p_Tw_areAllSetBy at hp
  have hL2 : ∀ (v1 : Int32) (v2 : Int32), Lp1 (p_Tw_areAllSetBy_L2 twN twM v1 Q) v2 → ∀ (H : Heap) (locs : List Loc) (ls : Array Slot), oW D (oT c) A s.heap s (wO q c tnN ckN stN trN dsT dsC tpN lwN rdS rdM rdE rdD twN rsW rsE rwN suns ckT ckD shf lnT ways ups sts sty dly gAp gOp stp bst sgn lwT lwD rdT rdO lwK lwM twS twM twD rsO rsB rwA) H locs → lv_has ls 3 [(0, .ref (q 43)), (1, .int v1), (2, .int v2)] → W p l e { frames := 0, cells := 0, slots := 0, locals := 0 } s m args below meth cd H locs 0 0 Z (F0 m 2 ls []) := by
    intro v1
    refine Lp1.ind (fun rec hrec v2 hp H locs ls ho hl => ?_)
    unfold p_Tw_areAllSetBy_L2 at hp
    refine lv_iload_n hx hb dX8_areAllSetBy_2 rfl (lv_at hl 2 rfl) ?_
    refine lv_aload_n hx hb dX8_areAllSetBy_3 rfl (lv_at hl 0 rfl) ?_
    refine o_get (ci := 8) (T := TX8) hx hb hts hinX8 hown ho 43 rfl rfl 0 (by decide) hf9 rfl dX8_areAllSetBy_4 ?_
    refine lv_icmp_ge (tgt := 28) hx hb dX8_areAllSetBy_7 (by decide) (fun c_7 => ?_) (fun c_7 => ?_)
    · replace hp := hp.1 c_7
      refine lv_iconst (v := 1) hx hb dX8_areAllSetBy_28 (by decide) ?_
      exact hret 1 () _ _ _ _ dX8_areAllSetBy_29 (Or.inr rfl) ho hp
    · replace hp := hp.2 c_7
      refine lv_aload_n hx hb dX8_areAllSetBy_10 rfl (lv_at hl 0 rfl) ?_
      refine o_get (ci := 8) (T := TX8) hx hb hts hinX8 hown ho 43 rfl rfl 2 (by decide) hf19 rfl dX8_areAllSetBy_11 ?_
      refine lv_iload_n hx hb dX8_areAllSetBy_14 rfl (lv_at hl 2 rfl) ?_
      refine o_ild hx hb ho 45 24 rfl rfl hp.1 dX8_areAllSetBy_15 ?_
      replace hp := hp.2
      refine lv_iload_n hx hb dX8_areAllSetBy_16 rfl (lv_at hl 1 rfl) ?_
      refine lv_icmp_le (tgt := 22) hx hb dX8_areAllSetBy_17 (by decide) (fun c_17 => ?_) (fun c_17 => ?_)
      · replace hp := hp.1 c_17
        obtain ⟨x22, e_x22⟩ : ∃ y : Int32, y = v2 + 1 := ⟨_, rfl⟩
        replace hp := hp x22 e_x22
        refine lv_iinc (v := x22) (lv' := [(2, .int x22), (0, .ref (q 43)), (1, .int v1)]) hx hb dX8_areAllSetBy_22 hl (k := 2) rfl (by rw [e_x22]; rfl) (by decide) rfl (fun ls hl => ?_)
        refine lv_goto (tgt := 2) hx hb dX8_areAllSetBy_25 (by decide) ?_
        exact hrec x22 hp _ _ _ ho (lv_sub hl [1, 2, 0] rfl)
      · replace hp := hp.2 c_17
        refine lv_iconst (v := 0) hx hb dX8_areAllSetBy_20 (by decide) ?_
        exact hret 0 () _ _ _ _ dX8_areAllSetBy_21 (Or.inl rfl) ho hp
  refine lv_iconst (v := 0) hx hb dX8_areAllSetBy_0 (by decide) ?_
  refine lv_istore_n (lv' := [(2, .int 0), (0, .ref (q 43)), (1, .int v1)]) hx hb dX8_areAllSetBy_1 rfl hl (by decide) rfl (fun ls hl => ?_)
  exact hL2 v1 0 hp _ _ _ ho (lv_sub hl [1, 2, 0] rfl)
set_option maxHeartbeats 4000000 in
set_option maxRecDepth 100000 in
theorem c_Rs_keep (l : Launch) (D : va_G) (q : Nat → Nat) (c : Nat → ClassId) (tnN : Int32) (ckN : Int32) (stN : Int32) (trN : Int32) (dsT : Int32) (dsC : Int32) (tpN : Int32) (lwN : Int32) (rdS : Int32) (rdM : Int32) (rdE : Int32) (rdD : Int32) (twN : Int32) (rsW : Int32) (rsE : Int32) (rwN : Int32) (suns : Nat → Int32) (ckT : Nat → Int32) (ckD : Nat → Int32) (shf : Nat → Int32) (lnT : Nat → Int32) (ways : Nat → Int32) (ups : Nat → Int32) (sts : Nat → Int32) (sty : Nat → Int32) (dly : Nat → Int32) (gAp : Nat → Nat → Int32) (gOp : Nat → Nat → Int32) (stp : Nat → Int32) (bst : Nat → Int32) (sgn : Nat → Int32) (lwT : Nat → Int32) (lwD : Nat → Int32) (rdT : Nat → Int32) (rdO : Nat → Int32) (lwK : Nat → Int32) (lwM : Nat → Int32) (twS : Nat → Int32) (twM : Nat → Int32) (twD : Nat → Int32) (rsO : Nat → Int32) (rsB : Nat → Int32) (rwA : Nat → Int32) (v1 : Int32) (v2 : Int32) (v3 : Int32) (Q : Int32 → Int32 → (Nat → Int32) → Prop) (hp : p_Rs_keep rsO rsW rsE rsB v1 v2 v3 Q) : oKv l yX4_keep wsX4_keep { frames := 0, cells := 0, slots := 0, locals := 0 } [.ref (q 47), .int v1, .int v2, .int v3] D (oT c) (wO q c tnN ckN stN trN dsT dsC tpN lwN rdS rdM rdE rdD twN rsW rsE rwN suns ckT ckD shf lnT ways ups sts sty dly gAp gOp stp bst sgn lwT lwD rdT rdO lwK lwM twS twM twD rsO rsB rwA) (Int32 × Int32 × (Nat → Int32)) (fun (u : Int32 × Int32 × (Nat → Int32)) => Q u.1 u.2.1 u.2.2) (fun u => wO q c tnN ckN stN trN dsT dsC tpN lwN rdS rdM rdE rdD twN u.1 u.2.1 rwN suns ckT ckD shf lnT ways ups sts sty dly gAp gOp stp bst sgn lwT lwD rdT rdO lwK lwM twS twM twD rsO u.2.2 rwA) := by
  refine oKv.ofW (own := RX4) (cc := cX4_keep) (maxL := 5) (plainFor_of_name (by decide +kernel)) rfl rfl (Nat.le_of_ble_eq_true rfl) (fun p e s m args below meth cd A ls Z hx hb hml hown hts hret ho hl => ?_)
  replace hl : lv_has ls 5 [(0, .ref (q 47)), (1, .int v1), (2, .int v2), (3, .int v3)] := hl
  have hinX4 : ∀ w ∈ u_ws RX4 TX4 4, w ∈ wsX4_keep := by decide +kernel
  have hf9 := hts (.fieldLink RX4 9 "OneTime$RoundSearch" "order" "[I") (by decide +kernel)
  have hf15 := hts (.fieldLink RX4 15 "OneTime$RoundSearch" "best" "[I") (by decide +kernel)
  have hf18 := hts (.fieldLink RX4 18 "OneTime$RoundSearch" "bestWorst" "I") (by decide +kernel)
  have hf22 := hts (.fieldLink RX4 22 "OneTime$RoundSearch" "bestEnd" "I") (by decide +kernel)
  unfold p_Rs_keep at hp
  have hL13 : ∀ (v1 : Int32) (rsW : Int32) (rsE : Int32) (v4 : Int32) (rsB : Nat → Int32), Lp2 (p_Rs_keep_L13 rsO v1 rsW rsE Q) v4 rsB → ∀ (H : Heap) (locs : List Loc) (ls : Array Slot), oW D (oT c) A s.heap s (wO q c tnN ckN stN trN dsT dsC tpN lwN rdS rdM rdE rdD twN rsW rsE rwN suns ckT ckD shf lnT ways ups sts sty dly gAp gOp stp bst sgn lwT lwD rdT rdO lwK lwM twS twM twD rsO rsB rwA) H locs → lv_has ls 5 [(0, .ref (q 47)), (1, .int v1), (4, .int v4)] → W p l e { frames := 0, cells := 0, slots := 0, locals := 0 } s m args below meth cd H locs 0 0 Z (F0 m 13 ls []) := by
    intro v1 rsW rsE
    refine Lp2.ind (fun rec hrec v4 rsB hp H locs ls ho hl => ?_)
    unfold p_Rs_keep_L13 at hp
    refine lv_iload hx hb dX4_keep_13 (lv_at hl 2 rfl) ?_
    refine lv_iload_n hx hb dX4_keep_15 rfl (lv_at hl 1 rfl) ?_
    refine lv_icmp_ge (tgt := 46) hx hb dX4_keep_16 (by decide) (fun c_16 => ?_) (fun c_16 => ?_)
    · replace hp := hp.1 c_16
      exact hret (rsW, rsE, rsB) _ _ _ _ dX4_keep_46 ho hp
    · replace hp := hp.2 c_16
      refine lv_iload hx hb dX4_keep_19 (lv_at hl 2 rfl) ?_
      refine lv_bipush (v := 7) hx hb dX4_keep_21 (by decide) ?_
      refine lv_icmp_ge (tgt := 46) hx hb dX4_keep_23 (by decide) (fun c_23 => ?_) (fun c_23 => ?_)
      · replace hp := hp.1 c_23
        exact hret (rsW, rsE, rsB) _ _ _ _ dX4_keep_46 ho hp
      · replace hp := hp.2 c_23
        refine lv_aload_n hx hb dX4_keep_26 rfl (lv_at hl 0 rfl) ?_
        refine o_get (ci := 4) (T := TX4) hx hb hts hinX4 hown ho 47 rfl rfl 1 (by decide) hf15 rfl dX4_keep_27 ?_
        refine lv_iload hx hb dX4_keep_30 (lv_at hl 2 rfl) ?_
        refine lv_aload_n hx hb dX4_keep_32 rfl (lv_at hl 0 rfl) ?_
        refine o_get (ci := 4) (T := TX4) hx hb hts hinX4 hown ho 47 rfl rfl 0 (by decide) hf9 rfl dX4_keep_33 ?_
        refine lv_iload hx hb dX4_keep_36 (lv_at hl 2 rfl) ?_
        refine o_ild hx hb ho 48 26 rfl rfl hp.1 dX4_keep_38 ?_
        replace hp := hp.2
        refine o_ist hx hb ho 49 27 rfl rfl hp.1 dX4_keep_39 (fun H locs ho => ?_)
        replace hp := hp.2
        replace ho : oW D (oT c) A s.heap s (wO q c tnN ckN stN trN dsT dsC tpN lwN rdS rdM rdE rdD twN rsW rsE rwN suns ckT ckD shf lnT ways ups sts sty dly gAp gOp stp bst sgn lwT lwD rdT rdO lwK lwM twS twM twD rsO (upd rsB v4.toNatClampNeg (rsO v4.toNatClampNeg)) rwA) H locs := ho
        obtain ⟨x40, e_x40⟩ : ∃ y : Int32, y = v4 + 1 := ⟨_, rfl⟩
        replace hp := hp x40 e_x40
        refine lv_iinc (v := x40) (lv' := [(4, .int x40), (0, .ref (q 47)), (1, .int v1)]) hx hb dX4_keep_40 hl (k := 2) rfl (by rw [e_x40]; rfl) (by decide) rfl (fun ls hl => ?_)
        refine lv_goto (tgt := 13) hx hb dX4_keep_43 (by decide) ?_
        exact hrec x40 (upd rsB v4.toNatClampNeg (rsO v4.toNatClampNeg)) hp _ _ _ ho (lv_sub hl [1, 2, 0] rfl)
  refine lv_aload_n hx hb dX4_keep_0 rfl (lv_at hl 0 rfl) ?_
  refine lv_iload_n hx hb dX4_keep_1 rfl (lv_at hl 3 rfl) ?_
  refine o_put (ci := 4) (T := TX4) hx hb hts hinX4 tyX4_ok nmX4 hown ho 47 rfl rfl 2 (by decide) hf18 rfl (tyX4_ok 2 (by decide)) (Nat.le_of_ble_eq_true rfl) dX4_keep_2 (fun H locs ho => ?_)
  replace ho : oW D (oT c) A s.heap s (wO q c tnN ckN stN trN dsT dsC tpN lwN rdS rdM rdE rdD twN v3 rsE rwN suns ckT ckD shf lnT ways ups sts sty dly gAp gOp stp bst sgn lwT lwD rdT rdO lwK lwM twS twM twD rsO rsB rwA) H locs := ho
  refine lv_aload_n hx hb dX4_keep_5 rfl (lv_at hl 0 rfl) ?_
  refine lv_iload_n hx hb dX4_keep_6 rfl (lv_at hl 2 rfl) ?_
  refine o_put (ci := 4) (T := TX4) hx hb hts hinX4 tyX4_ok nmX4 hown ho 47 rfl rfl 3 (by decide) hf22 rfl (tyX4_ok 3 (by decide)) (Nat.le_of_ble_eq_true rfl) dX4_keep_7 (fun H locs ho => ?_)
  replace ho : oW D (oT c) A s.heap s (wO q c tnN ckN stN trN dsT dsC tpN lwN rdS rdM rdE rdD twN v3 v2 rwN suns ckT ckD shf lnT ways ups sts sty dly gAp gOp stp bst sgn lwT lwD rdT rdO lwK lwM twS twM twD rsO rsB rwA) H locs := ho
  refine lv_iconst (v := 0) hx hb dX4_keep_10 (by decide) ?_
  refine lv_istore (lv' := [(4, .int 0), (0, .ref (q 47)), (1, .int v1), (2, .int v2), (3, .int v3)]) hx hb dX4_keep_11 hl (by decide) rfl (fun ls hl => ?_)
  exact hL13 v1 v3 v2 0 rsB hp _ _ _ ho (lv_sub hl [1, 2, 0] rfl)
set_option maxHeartbeats 4000000 in
set_option maxRecDepth 100000 in
theorem c_Tw_sunOf (l : Launch) (D : va_G) (q : Nat → Nat) (c : Nat → ClassId) (tnN : Int32) (ckN : Int32) (stN : Int32) (trN : Int32) (dsT : Int32) (dsC : Int32) (tpN : Int32) (lwN : Int32) (rdS : Int32) (rdM : Int32) (rdE : Int32) (rdD : Int32) (twN : Int32) (rsW : Int32) (rsE : Int32) (rwN : Int32) (suns : Nat → Int32) (ckT : Nat → Int32) (ckD : Nat → Int32) (shf : Nat → Int32) (lnT : Nat → Int32) (ways : Nat → Int32) (ups : Nat → Int32) (sts : Nat → Int32) (sty : Nat → Int32) (dly : Nat → Int32) (gAp : Nat → Nat → Int32) (gOp : Nat → Nat → Int32) (stp : Nat → Int32) (bst : Nat → Int32) (sgn : Nat → Int32) (lwT : Nat → Int32) (lwD : Nat → Int32) (rdT : Nat → Int32) (rdO : Nat → Int32) (lwK : Nat → Int32) (lwM : Nat → Int32) (twS : Nat → Int32) (twM : Nat → Int32) (twD : Nat → Int32) (rsO : Nat → Int32) (rsB : Nat → Int32) (rwA : Nat → Int32) (v1 : Int32) (Q : Int32 → Prop) (hp : p_Tw_sunOf twN twS v1 Q) : oKi l yX8_sunOf wsX8_sunOf { frames := 1, cells := 0, slots := 0, locals := 21 } [.ref (q 43), .int v1] D (oT c) (wO q c tnN ckN stN trN dsT dsC tpN lwN rdS rdM rdE rdD twN rsW rsE rwN suns ckT ckD shf lnT ways ups sts sty dly gAp gOp stp bst sgn lwT lwD rdT rdO lwK lwM twS twM twD rsO rsB rwA) (Unit) (fun r (_ : Unit) => Q r) (fun _ => wO q c tnN ckN stN trN dsT dsC tpN lwN rdS rdM rdE rdD twN rsW rsE rwN suns ckT ckD shf lnT ways ups sts sty dly gAp gOp stp bst sgn lwT lwD rdT rdO lwK lwM twS twM twD rsO rsB rwA) := by
  refine oKi.ofW (own := RX8) (cc := cX8_sunOf) (maxL := 2) (plainFor_of_name (by decide +kernel)) rfl rfl (Nat.le_of_ble_eq_true rfl) (fun p e s m args below meth cd A ls Z hx hb hml hown hts hret ho hl => ?_)
  replace hl : lv_has ls 2 [(0, .ref (q 43)), (1, .int v1)] := hl
  have hinX8 : ∀ w ∈ u_ws RX8 TX8 4, w ∈ wsX8_sunOf := by decide +kernel
  have hf15 := hts (.fieldLink RX8 15 "OneTime$Towers" "suns" "[I") (by decide +kernel)
  unfold p_Tw_sunOf at hp
  refine lv_aload_n hx hb dX8_sunOf_0 rfl (lv_at hl 0 rfl) ?_
  refine lv_iload_n hx hb dX8_sunOf_1 rfl (lv_at hl 1 rfl) ?_
  refine o_callVi (rest := []) (ci := 8) ⟨hx, hb, hml, hown, hts⟩ ho (c_Tw_has l D q c tnN ckN stN trN dsT dsC tpN lwN rdS rdM rdE rdD twN rsW rsE rwN suns ckT ckD shf lnT ways ups sts sty dly gAp gOp stp bst sgn lwT lwD rdT rdO lwK lwM twS twM twD rsO rsB rwA v1 _ hp) (cwV 1 hts gX8_sunOf_X8_has rfl rfl rfl (by decide +kernel) ⟨(Nat.le_of_ble_eq_true rfl), (Nat.le_of_ble_eq_true rfl)⟩) 43 rfl rfl rfl hl.1 rfl (Nat.le_of_ble_eq_true rfl) dX8_sunOf_2 ⟨Nat.zero_le _, Nat.zero_le _⟩ (fun r2 u H locs hp ho => ?_)
  try dsimp only at hp
  replace ho : oW D (oT c) A s.heap s (wO q c tnN ckN stN trN dsT dsC tpN lwN rdS rdM rdE rdD twN rsW rsE rwN suns ckT ckD shf lnT ways ups sts sty dly gAp gOp stp bst sgn lwT lwD rdT rdO lwK lwM twS twM twD rsO rsB rwA) H locs := ho
  refine lv_if_eq (tgt := 17) hx hb dX8_sunOf_5 (by decide) (fun c_5 => ?_) (fun c_5 => ?_)
  · replace hp := hp.1 c_5
    refine lv_iconst (v := 0) hx hb dX8_sunOf_17 (by decide) ?_
    exact hret 0 () _ _ _ _ dX8_sunOf_18 ho hp
  · replace hp := hp.2 c_5
    refine lv_aload_n hx hb dX8_sunOf_8 rfl (lv_at hl 0 rfl) ?_
    refine o_get (ci := 8) (T := TX8) hx hb hts hinX8 hown ho 43 rfl rfl 1 (by decide) hf15 rfl dX8_sunOf_9 ?_
    refine lv_iload_n hx hb dX8_sunOf_12 rfl (lv_at hl 1 rfl) ?_
    refine o_ild hx hb ho 44 23 rfl rfl hp.1 dX8_sunOf_13 ?_
    replace hp := hp.2
    refine lv_goto (tgt := 18) hx hb dX8_sunOf_14 (by decide) ?_
    exact hret (twS v1.toNatClampNeg) () _ _ _ _ dX8_sunOf_18 ho hp
set_option maxHeartbeats 4000000 in
set_option maxRecDepth 100000 in
theorem c_Rs_minutesBetween (l : Launch) (D : va_G) (tys : List (ClassId × FieldType)) (ws : va_W)  (v0 : Int32) (v1 : Int32) (Q : Int32 → Prop) (hp : p_Rs_minutesBetween v0 v1 Q) : oKi l yX4_minutesBetween wsX4_minutesBetween { frames := 1, cells := 0, slots := 0, locals := 21 } [.int v0, .int v1] D tys ws (Unit) (fun r (_ : Unit) => Q r) (fun _ => ws) := by
  refine oKi.ofW (own := RX4) (cc := cX4_minutesBetween) (maxL := 2) (plainFor_of_name (by decide +kernel)) rfl rfl (Nat.le_of_ble_eq_true rfl) (fun p e s m args below meth cd A ls Z hx hb hml hown hts hret ho hl => ?_)
  replace hl : lv_has ls 2 [(0, .int v0), (1, .int v1)] := hl
  unfold p_Rs_minutesBetween at hp
  refine lv_bipush (v := 10) hx hb dX4_minutesBetween_0 (by decide) ?_
  refine lv_iload_n hx hb dX4_minutesBetween_2 rfl (lv_at hl 0 rfl) ?_
  refine lv_iload_n hx hb dX4_minutesBetween_3 rfl (lv_at hl 1 rfl) ?_
  refine lv_isub hx hb dX4_minutesBetween_4 ?_
  refine va_mabs hx hb (hml.trans hl.1.symm) hown (hts (.methodLink RX4 62 Lib.Math.abs.name) (by decide +kernel)) (hts (.static Lib.Math.abs.name) (by decide +kernel)) (hts (.initialized "java/lang/Math") (by decide +kernel)) (hts (.code Lib.Math.abs.name Lib.Math.abs.code 1 (some .int)) (by decide +kernel)) (Nat.le_of_ble_eq_true rfl) (Nat.le_of_ble_eq_true rfl) (Nat.zero_le _) (Nat.zero_le _) dX4_minutesBetween_5 ?_
  refine lv_imul hx hb dX4_minutesBetween_8 ?_
  exact hret (10 * (jabs (v0 - v1))) () _ _ _ _ dX4_minutesBetween_9 ho hp
set_option maxHeartbeats 4000000 in
set_option maxRecDepth 100000 in
theorem c_Rs_sizeOfError (l : Launch) (D : va_G) (q : Nat → Nat) (c : Nat → ClassId) (tnN : Int32) (ckN : Int32) (stN : Int32) (trN : Int32) (dsT : Int32) (dsC : Int32) (tpN : Int32) (lwN : Int32) (rdS : Int32) (rdM : Int32) (rdE : Int32) (rdD : Int32) (twN : Int32) (rsW : Int32) (rsE : Int32) (rwN : Int32) (suns : Nat → Int32) (ckT : Nat → Int32) (ckD : Nat → Int32) (shf : Nat → Int32) (lnT : Nat → Int32) (ways : Nat → Int32) (ups : Nat → Int32) (sts : Nat → Int32) (sty : Nat → Int32) (dly : Nat → Int32) (gAp : Nat → Nat → Int32) (gOp : Nat → Nat → Int32) (stp : Nat → Int32) (bst : Nat → Int32) (sgn : Nat → Int32) (lwT : Nat → Int32) (lwD : Nat → Int32) (rdT : Nat → Int32) (rdO : Nat → Int32) (lwK : Nat → Int32) (lwM : Nat → Int32) (twS : Nat → Int32) (twM : Nat → Int32) (twD : Nat → Int32) (rsO : Nat → Int32) (rsB : Nat → Int32) (rwA : Nat → Int32) (v1 : Int32) (v2 : Int32) (Q : Int32 → Prop) (hp : p_Rs_sizeOfError twN twM twD v1 v2 Q) : oKi l yX4_sizeOfError wsX4_sizeOfError { frames := 2, cells := 0, slots := 0, locals := 43 } [.ref (q 43), .int v1, .int v2] D (oT c) (wO q c tnN ckN stN trN dsT dsC tpN lwN rdS rdM rdE rdD twN rsW rsE rwN suns ckT ckD shf lnT ways ups sts sty dly gAp gOp stp bst sgn lwT lwD rdT rdO lwK lwM twS twM twD rsO rsB rwA) (Unit) (fun r (_ : Unit) => Q r) (fun _ => wO q c tnN ckN stN trN dsT dsC tpN lwN rdS rdM rdE rdD twN rsW rsE rwN suns ckT ckD shf lnT ways ups sts sty dly gAp gOp stp bst sgn lwT lwD rdT rdO lwK lwM twS twM twD rsO rsB rwA) := by
  refine oKi.ofW (own := RX4) (cc := cX4_sizeOfError) (maxL := 3) (plainFor_of_name (by decide +kernel)) rfl rfl (Nat.le_of_ble_eq_true rfl) (fun p e s m args below meth cd A ls Z hx hb hml hown hts hret ho hl => ?_)
  replace hl : lv_has ls 3 [(0, .ref (q 43)), (1, .int v1), (2, .int v2)] := hl
  unfold p_Rs_sizeOfError at hp
  refine lv_aload_n hx hb dX4_sizeOfError_0 rfl (lv_at hl 0 rfl) ?_
  refine lv_iload_n hx hb dX4_sizeOfError_1 rfl (lv_at hl 1 rfl) ?_
  refine lv_iload_n hx hb dX4_sizeOfError_2 rfl (lv_at hl 2 rfl) ?_
  refine o_callVi (rest := []) (ci := 8) ⟨hx, hb, hml, hown, hts⟩ ho (c_Tw_errorAt l D q c tnN ckN stN trN dsT dsC tpN lwN rdS rdM rdE rdD twN rsW rsE rwN suns ckT ckD shf lnT ways ups sts sty dly gAp gOp stp bst sgn lwT lwD rdT rdO lwK lwM twS twM twD rsO rsB rwA v1 v2 _ hp) (cwV 2 hts gX4_sizeOfError_X8_errorAt rfl rfl rfl (by decide +kernel) ⟨(Nat.le_of_ble_eq_true rfl), (Nat.le_of_ble_eq_true rfl)⟩) 43 rfl rfl rfl hl.1 rfl (Nat.le_of_ble_eq_true rfl) dX4_sizeOfError_3 ⟨Nat.zero_le _, Nat.zero_le _⟩ (fun r3 u H locs hp ho => ?_)
  try dsimp only at hp
  replace ho : oW D (oT c) A s.heap s (wO q c tnN ckN stN trN dsT dsC tpN lwN rdS rdM rdE rdD twN rsW rsE rwN suns ckT ckD shf lnT ways ups sts sty dly gAp gOp stp bst sgn lwT lwD rdT rdO lwK lwM twS twM twD rsO rsB rwA) H locs := ho
  refine va_mabs hx hb (hml.trans hl.1.symm) hown (hts (.methodLink RX4 62 Lib.Math.abs.name) (by decide +kernel)) (hts (.static Lib.Math.abs.name) (by decide +kernel)) (hts (.initialized "java/lang/Math") (by decide +kernel)) (hts (.code Lib.Math.abs.name Lib.Math.abs.code 1 (some .int)) (by decide +kernel)) (Nat.le_of_ble_eq_true rfl) (Nat.le_of_ble_eq_true rfl) (Nat.zero_le _) (Nat.zero_le _) dX4_sizeOfError_6 ?_
  exact hret (jabs r3) () _ _ _ _ dX4_sizeOfError_9 ho hp
set_option maxHeartbeats 4000000 in
set_option maxRecDepth 100000 in
theorem c_Rs_canBeBetter (l : Launch) (D : va_G) (q : Nat → Nat) (c : Nat → ClassId) (tnN : Int32) (ckN : Int32) (stN : Int32) (trN : Int32) (dsT : Int32) (dsC : Int32) (tpN : Int32) (lwN : Int32) (rdS : Int32) (rdM : Int32) (rdE : Int32) (rdD : Int32) (twN : Int32) (rsW : Int32) (rsE : Int32) (rwN : Int32) (suns : Nat → Int32) (ckT : Nat → Int32) (ckD : Nat → Int32) (shf : Nat → Int32) (lnT : Nat → Int32) (ways : Nat → Int32) (ups : Nat → Int32) (sts : Nat → Int32) (sty : Nat → Int32) (dly : Nat → Int32) (gAp : Nat → Nat → Int32) (gOp : Nat → Nat → Int32) (stp : Nat → Int32) (bst : Nat → Int32) (sgn : Nat → Int32) (lwT : Nat → Int32) (lwD : Nat → Int32) (rdT : Nat → Int32) (rdO : Nat → Int32) (lwK : Nat → Int32) (lwM : Nat → Int32) (twS : Nat → Int32) (twM : Nat → Int32) (twD : Nat → Int32) (rsO : Nat → Int32) (rsB : Nat → Int32) (rwA : Nat → Int32) (v2 : Int32) (v3 : Int32) (v4 : Int32) (v5 : Int32) (Q : Int32 → Prop) (hp : p_Rs_canBeBetter twN rsW rsE twS twM twD v2 v3 v4 v5 Q) : oKi l yX4_canBeBetter wsX4_canBeBetter { frames := 3, cells := 0, slots := 0, locals := 65 } [.ref (q 47), .ref (q 43), .int v2, .int v3, .int v4, .int v5] D (oT c) (wO q c tnN ckN stN trN dsT dsC tpN lwN rdS rdM rdE rdD twN rsW rsE rwN suns ckT ckD shf lnT ways ups sts sty dly gAp gOp stp bst sgn lwT lwD rdT rdO lwK lwM twS twM twD rsO rsB rwA) (Unit) (fun r (_ : Unit) => Q r) (fun _ => wO q c tnN ckN stN trN dsT dsC tpN lwN rdS rdM rdE rdD twN rsW rsE rwN suns ckT ckD shf lnT ways ups sts sty dly gAp gOp stp bst sgn lwT lwD rdT rdO lwK lwM twS twM twD rsO rsB rwA) := by
  refine oKi.ofWz (own := RX4) (cc := cX4_canBeBetter) (maxL := 12) (plainFor_of_name (by decide +kernel)) rfl rfl (Nat.le_of_ble_eq_true rfl) (fun p e s m args below meth cd A ls Z hx hb hml hown hts hret ho hl => ?_)
  replace hl : lv_has ls 12 [(0, .ref (q 47)), (1, .ref (q 43)), (2, .int v2), (3, .int v3), (4, .int v4), (5, .int v5)] := hl
  have hinX4 : ∀ w ∈ u_ws RX4 TX4 4, w ∈ wsX4_canBeBetter := by decide +kernel
  have hinX8 : ∀ w ∈ u_ws RX8 TX8 4, w ∈ wsX4_canBeBetter := by decide +kernel
  have hf18 := hts (.fieldLink RX4 18 "OneTime$RoundSearch" "bestWorst" "I") (by decide +kernel)
  have hf22 := hts (.fieldLink RX4 22 "OneTime$RoundSearch" "bestEnd" "I") (by decide +kernel)
  have hf28 := hts (.fieldLink RX4 28 "OneTime$Towers" "size" "I") (by decide +kernel)
  unfold p_Rs_canBeBetter at hp
  have hL16 : ∀ (v2 : Int32) (v3 : Int32) (v4 : Int32) (v6 : Int32) (v7 : Int32) (v8 : Int32) (v9 : Int32) (v10 : Int32), Lp5 (p_Rs_canBeBetter_L16 twN rsW rsE twS twM twD v2 v3 v4 Q) v6 v7 v8 v9 v10 → ∀ (H : Heap) (locs : List Loc) (ls : Array Slot), oW D (oT c) A s.heap s (wO q c tnN ckN stN trN dsT dsC tpN lwN rdS rdM rdE rdD twN rsW rsE rwN suns ckT ckD shf lnT ways ups sts sty dly gAp gOp stp bst sgn lwT lwD rdT rdO lwK lwM twS twM twD rsO rsB rwA) H locs → lv_has ls 12 [(0, .ref (q 47)), (1, .ref (q 43)), (2, .int v2), (3, .int v3), (4, .int v4), (6, .int v6), (7, .int v7), (8, .int v8), (9, .int v9), (10, .int v10)] → W p l e { frames := 3, cells := 0, slots := 0, locals := 65 } s m args below meth cd H locs 0 0 Z (F0 m 16 ls []) := by
    intro v2 v3 v4
    refine Lp5.ind (fun rec hrec v6 v7 v8 v9 v10 hp H locs ls ho hl => ?_)
    unfold p_Rs_canBeBetter_L16 at hp
    refine lv_iload hx hb dX4_canBeBetter_16 (lv_at hl 9 rfl) ?_
    refine lv_aload_n hx hb dX4_canBeBetter_18 rfl (lv_at hl 1 rfl) ?_
    refine o_get (ci := 8) (T := TX8) hx hb hts hinX8 hown ho 43 rfl rfl 0 (by decide) hf28 rfl dX4_canBeBetter_19 ?_
    refine lv_icmp_ge (tgt := 91) hx hb dX4_canBeBetter_22 (by decide) (fun c_22 => ?_) (fun c_22 => ?_)
    · replace hp := hp.1 c_22
      refine lv_iload hx hb dX4_canBeBetter_91 (lv_at hl 6 rfl) ?_
      refine lv_iload hx hb dX4_canBeBetter_93 (lv_at hl 5 rfl) ?_
      refine lv_isub hx hb dX4_canBeBetter_95 ?_
      refine lv_iload_n hx hb dX4_canBeBetter_96 rfl (lv_at hl 3 rfl) ?_
      refine lv_iload hx hb dX4_canBeBetter_97 (lv_at hl 5 rfl) ?_
      refine lv_isub hx hb dX4_canBeBetter_99 ?_
      refine lv_iload hx hb dX4_canBeBetter_100 (lv_at hl 6 rfl) ?_
      refine lv_iload_n hx hb dX4_canBeBetter_102 rfl (lv_at hl 3 rfl) ?_
      refine lv_isub hx hb dX4_canBeBetter_103 ?_
      refine va_mmin hx hb (hml.trans hl.1.symm) hown (hts (.methodLink RX4 68 Lib.Math.min.name) (by decide +kernel)) (hts (.static Lib.Math.min.name) (by decide +kernel)) (hts (.initialized "java/lang/Math") (by decide +kernel)) (hts (.code Lib.Math.min.name Lib.Math.min.code 2 (some .int)) (by decide +kernel)) (Nat.le_of_ble_eq_true rfl) (Nat.le_of_ble_eq_true rfl) (Nat.zero_le _) (Nat.zero_le _) dX4_canBeBetter_104 ?_
      refine lv_iadd hx hb dX4_canBeBetter_107 ?_
      refine lv_topi (fun x108 e_x108 => ?_)
      replace hp := hp x108 e_x108
      refine lv_istore (lv' := [(10, .int x108), (0, .ref (q 47)), (1, .ref (q 43)), (2, .int v2), (3, .int v3), (4, .int v4), (6, .int v6), (7, .int v7), (8, .int v8), (9, .int v9)]) hx hb dX4_canBeBetter_108 hl (by decide) rfl (fun ls hl => ?_)
      refine lv_iload hx hb dX4_canBeBetter_110 (lv_at hl 5 rfl) ?_
      refine lv_bipush (v := 30) hx hb dX4_canBeBetter_112 (by decide) ?_
      refine lv_iload hx hb dX4_canBeBetter_114 (lv_at hl 8 rfl) ?_
      refine lv_imul hx hb dX4_canBeBetter_116 ?_
      refine lv_iadd hx hb dX4_canBeBetter_117 ?_
      refine lv_bipush (v := 10) hx hb dX4_canBeBetter_118 (by decide) ?_
      refine lv_iload hx hb dX4_canBeBetter_120 (lv_at hl 0 rfl) ?_
      refine lv_imul hx hb dX4_canBeBetter_122 ?_
      refine lv_iadd hx hb dX4_canBeBetter_123 ?_
      refine lv_topi (fun x124 e_x124 => ?_)
      replace hp := hp x124 e_x124
      refine lv_istore (lv' := [(11, .int x124), (10, .int x108), (0, .ref (q 47)), (1, .ref (q 43)), (2, .int v2), (3, .int v3), (4, .int v4), (6, .int v6), (7, .int v7), (8, .int v8), (9, .int v9)]) hx hb dX4_canBeBetter_124 hl (by decide) rfl (fun ls hl => ?_)
      refine lv_iload hx hb dX4_canBeBetter_126 (lv_at hl 10 rfl) ?_
      refine lv_aload_n hx hb dX4_canBeBetter_128 rfl (lv_at hl 2 rfl) ?_
      refine o_get (ci := 4) (T := TX4) hx hb hts hinX4 hown ho 47 rfl rfl 2 (by decide) hf18 rfl dX4_canBeBetter_129 ?_
      refine lv_icmp_lt (tgt := 153) hx hb dX4_canBeBetter_132 (by decide) (fun c_132 => ?_) (fun c_132 => ?_)
      · replace hp := hp.1 c_132
        refine lv_iconst (v := 1) hx hb dX4_canBeBetter_153 (by decide) ?_
        refine lv_goto (tgt := 158) hx hb dX4_canBeBetter_154 (by decide) ?_
        exact hret 1 () _ _ _ _ dX4_canBeBetter_158 (Or.inr rfl) ho hp
      · replace hp := hp.2 c_132
        refine lv_iload hx hb dX4_canBeBetter_135 (lv_at hl 10 rfl) ?_
        refine lv_aload_n hx hb dX4_canBeBetter_137 rfl (lv_at hl 2 rfl) ?_
        refine o_get (ci := 4) (T := TX4) hx hb hts hinX4 hown ho 47 rfl rfl 2 (by decide) hf18 rfl dX4_canBeBetter_138 ?_
        refine lv_icmp_ne (tgt := 157) hx hb dX4_canBeBetter_141 (by decide) (fun c_141 => ?_) (fun c_141 => ?_)
        · replace hp := hp.2 c_141
          refine lv_iconst (v := 0) hx hb dX4_canBeBetter_157 (by decide) ?_
          exact hret 0 () _ _ _ _ dX4_canBeBetter_158 (Or.inl rfl) ho hp
        · replace hp := hp.1 c_141
          refine lv_iload hx hb dX4_canBeBetter_144 (lv_at hl 0 rfl) ?_
          refine lv_aload_n hx hb dX4_canBeBetter_146 rfl (lv_at hl 2 rfl) ?_
          refine o_get (ci := 4) (T := TX4) hx hb hts hinX4 hown ho 47 rfl rfl 3 (by decide) hf22 rfl dX4_canBeBetter_147 ?_
          refine lv_icmp_ge (tgt := 157) hx hb dX4_canBeBetter_150 (by decide) (fun c_150 => ?_) (fun c_150 => ?_)
          · replace hp := hp.1 c_150
            refine lv_iconst (v := 0) hx hb dX4_canBeBetter_157 (by decide) ?_
            exact hret 0 () _ _ _ _ dX4_canBeBetter_158 (Or.inl rfl) ho hp
          · replace hp := hp.2 c_150
            refine lv_iconst (v := 1) hx hb dX4_canBeBetter_153 (by decide) ?_
            refine lv_goto (tgt := 158) hx hb dX4_canBeBetter_154 (by decide) ?_
            exact hret 1 () _ _ _ _ dX4_canBeBetter_158 (Or.inr rfl) ho hp
    · replace hp := hp.2 c_22
      refine lv_iload_n hx hb dX4_canBeBetter_25 rfl (lv_at hl 2 rfl) ?_
      refine lv_iconst (v := 1) hx hb dX4_canBeBetter_26 (by decide) ?_
      refine lv_iload hx hb dX4_canBeBetter_27 (lv_at hl 9 rfl) ?_
      refine lv_ishl hx hb dX4_canBeBetter_29 ?_
      refine lv_iand hx hb dX4_canBeBetter_30 ?_
      refine lv_if_eq (tgt := 85) hx hb dX4_canBeBetter_31 (by decide) (fun c_31 => ?_) (fun c_31 => ?_)
      · replace hp := hp.1 c_31
        obtain ⟨x85, e_x85⟩ : ∃ y : Int32, y = v10 + 1 := ⟨_, rfl⟩
        replace hp := hp x85 e_x85
        refine lv_iinc (v := x85) (lv' := [(10, .int x85), (0, .ref (q 47)), (1, .ref (q 43)), (2, .int v2), (3, .int v3), (4, .int v4), (6, .int v6), (7, .int v7), (8, .int v8), (9, .int v9)]) hx hb dX4_canBeBetter_85 hl (k := 9) rfl (by rw [e_x85]; rfl) (by decide) rfl (fun ls hl => ?_)
        refine lv_goto (tgt := 16) hx hb dX4_canBeBetter_88 (by decide) ?_
        exact hrec v6 v7 v8 v9 x85 hp _ _ _ ho (lv_sub hl [1, 2, 3, 4, 5, 6, 7, 8, 9, 0] rfl)
      · replace hp := hp.2 c_31
        refine lv_aload_n hx hb dX4_canBeBetter_34 rfl (lv_at hl 1 rfl) ?_
        refine lv_iload hx hb dX4_canBeBetter_35 (lv_at hl 9 rfl) ?_
        refine o_callVi (rest := []) (ci := 8) ⟨hx, hb, hml, hown, hts⟩ ho (c_Tw_sunOf l D q c tnN ckN stN trN dsT dsC tpN lwN rdS rdM rdE rdD twN rsW rsE rwN suns ckT ckD shf lnT ways ups sts sty dly gAp gOp stp bst sgn lwT lwD rdT rdO lwK lwM twS twM twD rsO rsB rwA v10 _ hp) (cwV 1 hts gX4_canBeBetter_X8_sunOf rfl rfl rfl (by decide +kernel) ⟨(Nat.le_of_ble_eq_true rfl), (Nat.le_of_ble_eq_true rfl)⟩) 43 rfl rfl rfl hl.1 rfl (Nat.le_of_ble_eq_true rfl) dX4_canBeBetter_37 ⟨Nat.zero_le _, Nat.zero_le _⟩ (fun r37 u H locs hp ho => ?_)
        try dsimp only at hp
        replace ho : oW D (oT c) A s.heap s (wO q c tnN ckN stN trN dsT dsC tpN lwN rdS rdM rdE rdD twN rsW rsE rwN suns ckT ckD shf lnT ways ups sts sty dly gAp gOp stp bst sgn lwT lwD rdT rdO lwK lwM twS twM twD rsO rsB rwA) H locs := ho
        refine lv_istore (lv' := [(11, .int r37), (0, .ref (q 47)), (1, .ref (q 43)), (2, .int v2), (3, .int v3), (4, .int v4), (6, .int v6), (7, .int v7), (8, .int v8), (9, .int v9), (10, .int v10)]) hx hb dX4_canBeBetter_40 hl (by decide) rfl (fun ls hl => ?_)
        refine lv_iload hx hb dX4_canBeBetter_42 (lv_at hl 6 rfl) ?_
        refine lv_iload hx hb dX4_canBeBetter_44 (lv_at hl 0 rfl) ?_
        refine va_mmin hx hb (hml.trans hl.1.symm) hown (hts (.methodLink RX4 68 Lib.Math.min.name) (by decide +kernel)) (hts (.static Lib.Math.min.name) (by decide +kernel)) (hts (.initialized "java/lang/Math") (by decide +kernel)) (hts (.code Lib.Math.min.name Lib.Math.min.code 2 (some .int)) (by decide +kernel)) (Nat.le_of_ble_eq_true rfl) (Nat.le_of_ble_eq_true rfl) (Nat.zero_le _) (Nat.zero_le _) dX4_canBeBetter_46 ?_
        refine lv_topi (fun x49 e_x49 => ?_)
        replace hp := hp x49 e_x49
        refine lv_istore (lv' := [(6, .int x49), (11, .int r37), (0, .ref (q 47)), (1, .ref (q 43)), (2, .int v2), (3, .int v3), (4, .int v4), (7, .int v7), (8, .int v8), (9, .int v9), (10, .int v10)]) hx hb dX4_canBeBetter_49 hl (by decide) rfl (fun ls hl => ?_)
        refine lv_iload hx hb dX4_canBeBetter_51 (lv_at hl 7 rfl) ?_
        refine lv_iload hx hb dX4_canBeBetter_53 (lv_at hl 1 rfl) ?_
        refine va_mmax hx hb (hml.trans hl.1.symm) hown (hts (.methodLink RX4 53 Lib.Math.max.name) (by decide +kernel)) (hts (.static Lib.Math.max.name) (by decide +kernel)) (hts (.initialized "java/lang/Math") (by decide +kernel)) (hts (.code Lib.Math.max.name Lib.Math.max.code 2 (some .int)) (by decide +kernel)) (Nat.le_of_ble_eq_true rfl) (Nat.le_of_ble_eq_true rfl) (Nat.zero_le _) (Nat.zero_le _) dX4_canBeBetter_55 ?_
        refine lv_topi (fun x58 e_x58 => ?_)
        replace hp := hp x58 e_x58
        refine lv_istore (lv' := [(7, .int x58), (6, .int x49), (11, .int r37), (0, .ref (q 47)), (1, .ref (q 43)), (2, .int v2), (3, .int v3), (4, .int v4), (8, .int v8), (9, .int v9), (10, .int v10)]) hx hb dX4_canBeBetter_58 hl (by decide) rfl (fun ls hl => ?_)
        refine lv_iload hx hb dX4_canBeBetter_60 (lv_at hl 9 rfl) ?_
        refine lv_aload_n hx hb dX4_canBeBetter_62 rfl (lv_at hl 4 rfl) ?_
        refine lv_iload hx hb dX4_canBeBetter_63 (lv_at hl 10 rfl) ?_
        refine lv_iload hx hb dX4_canBeBetter_65 (lv_at hl 7 rfl) ?_
        refine lv_iload_n hx hb dX4_canBeBetter_67 rfl (lv_at hl 6 rfl) ?_
        refine lv_iload hx hb dX4_canBeBetter_68 (lv_at hl 2 rfl) ?_
        refine o_callSi (rest := [.int v4, .int v10, .ref (q 43), .int v9]) ⟨hx, hb, hml, hown, hts⟩ ho (c_Rs_minutesBetween l D (oT c) (wO q c tnN ckN stN trN dsT dsC tpN lwN rdS rdM rdE rdD twN rsW rsE rwN suns ckT ckD shf lnT ways ups sts sty dly gAp gOp stp bst sgn lwT lwD rdT rdO lwK lwM twS twM twD rsO rsB rwA) v3 r37 _ hp) (va_cwS 2 hts gX4_canBeBetter_X4_minutesBetween rfl rfl rfl (by decide +kernel) ⟨(Nat.le_of_ble_eq_true rfl), (Nat.le_of_ble_eq_true rfl)⟩) rfl hl.1 rfl (Nat.le_of_ble_eq_true rfl) dX4_canBeBetter_70 ⟨Nat.zero_le _, Nat.zero_le _⟩ (fun r70 u H locs hp ho => ?_)
        try dsimp only at hp
        replace ho : oW D (oT c) A s.heap s (wO q c tnN ckN stN trN dsT dsC tpN lwN rdS rdM rdE rdD twN rsW rsE rwN suns ckT ckD shf lnT ways ups sts sty dly gAp gOp stp bst sgn lwT lwD rdT rdO lwK lwM twS twM twD rsO rsB rwA) H locs := ho
        refine lv_iadd hx hb dX4_canBeBetter_73 ?_
        refine o_callSi (rest := [.int v9]) ⟨hx, hb, hml, hown, hts⟩ ho (c_Rs_sizeOfError l D q c tnN ckN stN trN dsT dsC tpN lwN rdS rdM rdE rdD twN rsW rsE rwN suns ckT ckD shf lnT ways ups sts sty dly gAp gOp stp bst sgn lwT lwD rdT rdO lwK lwM twS twM twD rsO rsB rwA v10 (v4 + r70) _ hp) (va_cwS 3 hts gX4_canBeBetter_X4_sizeOfError rfl rfl rfl (by decide +kernel) ⟨(Nat.le_of_ble_eq_true rfl), (Nat.le_of_ble_eq_true rfl)⟩) rfl hl.1 rfl (Nat.le_of_ble_eq_true rfl) dX4_canBeBetter_74 ⟨Nat.zero_le _, Nat.zero_le _⟩ (fun r74 u H locs hp ho => ?_)
        try dsimp only at hp
        replace ho : oW D (oT c) A s.heap s (wO q c tnN ckN stN trN dsT dsC tpN lwN rdS rdM rdE rdD twN rsW rsE rwN suns ckT ckD shf lnT ways ups sts sty dly gAp gOp stp bst sgn lwT lwD rdT rdO lwK lwM twS twM twD rsO rsB rwA) H locs := ho
        refine va_mmax hx hb (hml.trans hl.1.symm) hown (hts (.methodLink RX4 53 Lib.Math.max.name) (by decide +kernel)) (hts (.static Lib.Math.max.name) (by decide +kernel)) (hts (.initialized "java/lang/Math") (by decide +kernel)) (hts (.code Lib.Math.max.name Lib.Math.max.code 2 (some .int)) (by decide +kernel)) (Nat.le_of_ble_eq_true rfl) (Nat.le_of_ble_eq_true rfl) (Nat.zero_le _) (Nat.zero_le _) dX4_canBeBetter_77 ?_
        refine lv_topi (fun x80 e_x80 => ?_)
        replace hp := hp x80 e_x80
        refine lv_istore (lv' := [(9, .int x80), (7, .int x58), (6, .int x49), (11, .int r37), (0, .ref (q 47)), (1, .ref (q 43)), (2, .int v2), (3, .int v3), (4, .int v4), (8, .int v8), (10, .int v10)]) hx hb dX4_canBeBetter_80 hl (by decide) rfl (fun ls hl => ?_)
        obtain ⟨x82, e_x82⟩ : ∃ y : Int32, y = v8 + 1 := ⟨_, rfl⟩
        replace hp := hp x82 e_x82
        refine lv_iinc (v := x82) (lv' := [(8, .int x82), (9, .int x80), (7, .int x58), (6, .int x49), (11, .int r37), (0, .ref (q 47)), (1, .ref (q 43)), (2, .int v2), (3, .int v3), (4, .int v4), (10, .int v10)]) hx hb dX4_canBeBetter_82 hl (k := 9) rfl (by rw [e_x82]; rfl) (by decide) rfl (fun ls hl => ?_)
        obtain ⟨x85, e_x85⟩ : ∃ y : Int32, y = v10 + 1 := ⟨_, rfl⟩
        replace hp := hp x85 e_x85
        refine lv_iinc (v := x85) (lv' := [(10, .int x85), (8, .int x82), (9, .int x80), (7, .int x58), (6, .int x49), (11, .int r37), (0, .ref (q 47)), (1, .ref (q 43)), (2, .int v2), (3, .int v3), (4, .int v4)]) hx hb dX4_canBeBetter_85 hl (k := 10) rfl (by rw [e_x85]; rfl) (by decide) rfl (fun ls hl => ?_)
        refine lv_goto (tgt := 16) hx hb dX4_canBeBetter_88 (by decide) ?_
        exact hrec x49 x58 x82 x80 x85 hp _ _ _ ho (lv_sub hl [6, 7, 8, 9, 10, 4, 3, 1, 2, 0] rfl)
  refine lv_iload_n hx hb dX4_canBeBetter_0 rfl (lv_at hl 3 rfl) ?_
  refine lv_istore (lv' := [(6, .int v3), (0, .ref (q 47)), (1, .ref (q 43)), (2, .int v2), (3, .int v3), (4, .int v4), (5, .int v5)]) hx hb dX4_canBeBetter_1 hl (by decide) rfl (fun ls hl => ?_)
  refine lv_iload_n hx hb dX4_canBeBetter_3 rfl (lv_at hl 4 rfl) ?_
  refine lv_istore (lv' := [(7, .int v3), (6, .int v3), (0, .ref (q 47)), (1, .ref (q 43)), (2, .int v2), (3, .int v3), (4, .int v4), (5, .int v5)]) hx hb dX4_canBeBetter_4 hl (by decide) rfl (fun ls hl => ?_)
  refine lv_iconst (v := 0) hx hb dX4_canBeBetter_6 (by decide) ?_
  refine lv_istore (lv' := [(8, .int 0), (7, .int v3), (6, .int v3), (0, .ref (q 47)), (1, .ref (q 43)), (2, .int v2), (3, .int v3), (4, .int v4), (5, .int v5)]) hx hb dX4_canBeBetter_7 hl (by decide) rfl (fun ls hl => ?_)
  refine lv_iload hx hb dX4_canBeBetter_9 (lv_at hl 8 rfl) ?_
  refine lv_istore (lv' := [(9, .int v5), (8, .int 0), (7, .int v3), (6, .int v3), (0, .ref (q 47)), (1, .ref (q 43)), (2, .int v2), (3, .int v3), (4, .int v4), (5, .int v5)]) hx hb dX4_canBeBetter_11 hl (by decide) rfl (fun ls hl => ?_)
  refine lv_iconst (v := 0) hx hb dX4_canBeBetter_13 (by decide) ?_
  refine lv_istore (lv' := [(10, .int 0), (9, .int v5), (8, .int 0), (7, .int v3), (6, .int v3), (0, .ref (q 47)), (1, .ref (q 43)), (2, .int v2), (3, .int v3), (4, .int v4), (5, .int v5)]) hx hb dX4_canBeBetter_14 hl (by decide) rfl (fun ls hl => ?_)
  exact hL16 v2 v3 v4 v3 v3 0 v5 0 hp _ _ _ ho (lv_sub hl [5, 6, 7, 8, 9, 4, 3, 2, 1, 0] rfl)
set_option maxHeartbeats 4000000 in
set_option maxRecDepth 100000 in
theorem c_Rs_goOn (l : Launch) (D : va_G) (q : Nat → Nat) (c : Nat → ClassId) : ∀ (d : Nat) (tnN : Int32) (ckN : Int32) (stN : Int32) (trN : Int32) (dsT : Int32) (dsC : Int32) (tpN : Int32) (lwN : Int32) (rdS : Int32) (rdM : Int32) (rdE : Int32) (rdD : Int32) (twN : Int32) (rsW : Int32) (rsE : Int32) (rwN : Int32) (suns : Nat → Int32) (ckT : Nat → Int32) (ckD : Nat → Int32) (shf : Nat → Int32) (lnT : Nat → Int32) (ways : Nat → Int32) (ups : Nat → Int32) (sts : Nat → Int32) (sty : Nat → Int32) (dly : Nat → Int32) (gAp : Nat → Nat → Int32) (gOp : Nat → Nat → Int32) (stp : Nat → Int32) (bst : Nat → Int32) (sgn : Nat → Int32) (lwT : Nat → Int32) (lwD : Nat → Int32) (rdT : Nat → Int32) (rdO : Nat → Int32) (lwK : Nat → Int32) (lwM : Nat → Int32) (twS : Nat → Int32) (twM : Nat → Int32) (twD : Nat → Int32) (rsO : Nat → Int32) (rsB : Nat → Int32) (rwA : Nat → Int32) (v2 : Int32) (v3 : Int32) (v4 : Int32) (v5 : Int32) (v6 : Int32) (Q : Int32 → Int32 → (Nat → Int32) → (Nat → Int32) → Prop), p_Rs_goOn twN twS twM twD d rsW rsE rsO rsB v2 v3 v4 v5 v6 Q → oKv l yX4_goOn wsX4_goOn { frames := 4 + d, cells := 0, slots := 0, locals := 96 + d * 31 } [.ref (q 47), .ref (q 43), .int v2, .int v3, .int v4, .int v5, .int v6] D (oT c) (wO q c tnN ckN stN trN dsT dsC tpN lwN rdS rdM rdE rdD twN rsW rsE rwN suns ckT ckD shf lnT ways ups sts sty dly gAp gOp stp bst sgn lwT lwD rdT rdO lwK lwM twS twM twD rsO rsB rwA) (Int32 × Int32 × (Nat → Int32) × (Nat → Int32)) (fun (u : Int32 × Int32 × (Nat → Int32) × (Nat → Int32)) => Q u.1 u.2.1 u.2.2.1 u.2.2.2) (fun u => wO q c tnN ckN stN trN dsT dsC tpN lwN rdS rdM rdE rdD twN u.1 u.2.1 rwN suns ckT ckD shf lnT ways ups sts sty dly gAp gOp stp bst sgn lwT lwD rdT rdO lwK lwM twS twM twD u.2.2.1 u.2.2.2 rwA) := by
  intro d
  induction d with
  | zero =>
    intro tnN ckN stN trN dsT dsC tpN lwN rdS rdM rdE rdD twN rsW rsE rwN suns ckT ckD shf lnT ways ups sts sty dly gAp gOp stp bst sgn lwT lwD rdT rdO lwK lwM twS twM twD rsO rsB rwA v2 v3 v4 v5 v6 Q hp
    exact absurd hp (fun h => h)
  | succ d ih =>
    intro tnN ckN stN trN dsT dsC tpN lwN rdS rdM rdE rdD twN rsW rsE rwN suns ckT ckD shf lnT ways ups sts sty dly gAp gOp stp bst sgn lwT lwD rdT rdO lwK lwM twS twM twD rsO rsB rwA v2 v3 v4 v5 v6 Q hp
    replace hp : p_Rs_goOn_B twN twS twM twD (p_Rs_goOn twN twS twM twD d) rsW rsE rsO rsB v2 v3 v4 v5 v6 Q := hp
    refine oKv.ofW (own := RX4) (cc := cX4_goOn) (maxL := 12) (plainFor_of_name (by decide +kernel)) rfl rfl (Nat.le_of_ble_eq_true rfl) (fun p e s m args below meth cd A ls Z hx hb hml hown hts hret ho hl => ?_)
    replace hl : lv_has ls 12 [(0, .ref (q 47)), (1, .ref (q 43)), (2, .int v2), (3, .int v3), (4, .int v4), (5, .int v5), (6, .int v6)] := hl
    have hinX4 : ∀ w ∈ u_ws RX4 TX4 4, w ∈ wsX4_goOn := by decide +kernel
    have hinX8 : ∀ w ∈ u_ws RX8 TX8 4, w ∈ wsX4_goOn := by decide +kernel
    have hf9 := hts (.fieldLink RX4 9 "OneTime$RoundSearch" "order" "[I") (by decide +kernel)
    have hf28 := hts (.fieldLink RX4 28 "OneTime$Towers" "size" "I") (by decide +kernel)
    unfold p_Rs_goOn_B at hp
    have hJ18 : ∀ (v2 : Int32) (v5 : Int32) (v6 : Int32) (rsW : Int32) (rsE : Int32) (rsO : Nat → Int32) (rsB : Nat → Int32), p_Rs_goOn_J18 twN twS twM twD (p_Rs_goOn twN twS twM twD d) v2 v5 v6 rsW rsE rsO rsB Q → ∀ (H : Heap) (locs : List Loc) (ls : Array Slot), oW D (oT c) A s.heap s (wO q c tnN ckN stN trN dsT dsC tpN lwN rdS rdM rdE rdD twN rsW rsE rwN suns ckT ckD shf lnT ways ups sts sty dly gAp gOp stp bst sgn lwT lwD rdT rdO lwK lwM twS twM twD rsO rsB rwA) H locs → lv_has ls 12 [(0, .ref (q 47)), (2, .int v2), (5, .int v5), (6, .int v6)] → W p l e { frames := 4 + (d + 1), cells := 0, slots := 0, locals := 96 + (d + 1) * 31 } s m args below meth cd H locs 0 0 Z (F0 m 18 ls []) := by
      intro v2 v5 v6 rsW rsE rsO rsB
      intro hp H locs ls ho hl
      unfold p_Rs_goOn_J18 at hp
      refine lv_aload_n hx hb dX4_goOn_18 rfl (lv_at hl 0 rfl) ?_
      refine lv_iload_n hx hb dX4_goOn_19 rfl (lv_at hl 1 rfl) ?_
      refine lv_iload hx hb dX4_goOn_20 (lv_at hl 2 rfl) ?_
      refine lv_iload hx hb dX4_goOn_22 (lv_at hl 3 rfl) ?_
      refine o_callVv (rest := []) (ci := 4) ⟨hx, hb, hml, hown, hts⟩ ho (c_Rs_keep l D q c tnN ckN stN trN dsT dsC tpN lwN rdS rdM rdE rdD twN rsW rsE rwN suns ckT ckD shf lnT ways ups sts sty dly gAp gOp stp bst sgn lwT lwD rdT rdO lwK lwM twS twM twD rsO rsB rwA v2 v5 v6 _ hp) (cwV 3 hts gX4_goOn_X4_keep rfl rfl rfl (by decide +kernel) ⟨(by dsimp only; omega), (by dsimp only; omega)⟩) 47 rfl rfl rfl hl.1 rfl (Nat.le_of_ble_eq_true rfl) dX4_goOn_24 ⟨Nat.zero_le _, Nat.zero_le _⟩ (fun u H locs hp ho => ?_)
      obtain ⟨rsW_24, rsE_24, rsB_24⟩ := u
      try dsimp only at hp
      replace ho : oW D (oT c) A s.heap s (wO q c tnN ckN stN trN dsT dsC tpN lwN rdS rdM rdE rdD twN rsW_24 rsE_24 rwN suns ckT ckD shf lnT ways ups sts sty dly gAp gOp stp bst sgn lwT lwD rdT rdO lwK lwM twS twM twD rsO rsB_24 rwA) H locs := ho
      exact hret (rsW_24, rsE_24, rsO, rsB_24) _ _ _ _ dX4_goOn_27 ho hp
    have hL31 : ∀ (v2 : Int32) (v3 : Int32) (v4 : Int32) (v5 : Int32) (v6 : Int32) (v7 : Int32) (rsW : Int32) (rsE : Int32) (rsO : Nat → Int32) (rsB : Nat → Int32), Lp5 (p_Rs_goOn_L31 twN twS twM twD (p_Rs_goOn twN twS twM twD d) v2 v3 v4 v5 v6 Q) v7 rsW rsE rsO rsB → ∀ (H : Heap) (locs : List Loc) (ls : Array Slot), oW D (oT c) A s.heap s (wO q c tnN ckN stN trN dsT dsC tpN lwN rdS rdM rdE rdD twN rsW rsE rwN suns ckT ckD shf lnT ways ups sts sty dly gAp gOp stp bst sgn lwT lwD rdT rdO lwK lwM twS twM twD rsO rsB rwA) H locs → lv_has ls 12 [(0, .ref (q 47)), (1, .ref (q 43)), (2, .int v2), (3, .int v3), (4, .int v4), (5, .int v5), (6, .int v6), (7, .int v7)] → W p l e { frames := 4 + (d + 1), cells := 0, slots := 0, locals := 96 + (d + 1) * 31 } s m args below meth cd H locs 0 0 Z (F0 m 31 ls []) := by
      intro v2 v3 v4 v5 v6
      refine Lp5.ind (fun rec hrec v7 rsW rsE rsO rsB hp H locs ls ho hl => ?_)
      unfold p_Rs_goOn_L31 at hp
      refine lv_iload hx hb dX4_goOn_31 (lv_at hl 7 rfl) ?_
      refine lv_aload_n hx hb dX4_goOn_33 rfl (lv_at hl 1 rfl) ?_
      refine o_get (ci := 8) (T := TX8) hx hb hts hinX8 hown ho 43 rfl rfl 0 (by decide) hf28 rfl dX4_goOn_34 ?_
      refine lv_icmp_ge (tgt := 146) hx hb dX4_goOn_37 (by decide) (fun c_37 => ?_) (fun c_37 => ?_)
      · replace hp := hp.1 c_37
        exact hret (rsW, rsE, rsO, rsB) _ _ _ _ dX4_goOn_146 ho hp
      · replace hp := hp.2 c_37
        refine lv_iload_n hx hb dX4_goOn_40 rfl (lv_at hl 3 rfl) ?_
        refine lv_iconst (v := 1) hx hb dX4_goOn_41 (by decide) ?_
        refine lv_iload hx hb dX4_goOn_42 (lv_at hl 7 rfl) ?_
        refine lv_ishl hx hb dX4_goOn_44 ?_
        refine lv_iand hx hb dX4_goOn_45 ?_
        refine lv_if_eq (tgt := 140) hx hb dX4_goOn_46 (by decide) (fun c_46 => ?_) (fun c_46 => ?_)
        · replace hp := hp.1 c_46
          obtain ⟨x140, e_x140⟩ : ∃ y : Int32, y = v7 + 1 := ⟨_, rfl⟩
          replace hp := hp x140 e_x140
          refine lv_iinc (v := x140) (lv' := [(7, .int x140), (0, .ref (q 47)), (1, .ref (q 43)), (2, .int v2), (3, .int v3), (4, .int v4), (5, .int v5), (6, .int v6)]) hx hb dX4_goOn_140 hl (k := 7) rfl (by rw [e_x140]; rfl) (by decide) rfl (fun ls hl => ?_)
          refine lv_goto (tgt := 31) hx hb dX4_goOn_143 (by decide) ?_
          exact hrec x140 rsW rsE rsO rsB hp _ _ _ ho (lv_sub hl [1, 2, 3, 4, 5, 6, 7, 0] rfl)
        · replace hp := hp.2 c_46
          refine lv_aload_n hx hb dX4_goOn_49 rfl (lv_at hl 1 rfl) ?_
          refine lv_iload hx hb dX4_goOn_50 (lv_at hl 7 rfl) ?_
          refine o_callVi (rest := []) (ci := 8) ⟨hx, hb, hml, hown, hts⟩ ho (c_Tw_sunOf l D q c tnN ckN stN trN dsT dsC tpN lwN rdS rdM rdE rdD twN rsW rsE rwN suns ckT ckD shf lnT ways ups sts sty dly gAp gOp stp bst sgn lwT lwD rdT rdO lwK lwM twS twM twD rsO rsB rwA v7 _ hp) (cwV 1 hts gX4_goOn_X8_sunOf rfl rfl rfl (by decide +kernel) ⟨(by dsimp only; omega), (by dsimp only; omega)⟩) 43 rfl rfl rfl hl.1 rfl (Nat.le_of_ble_eq_true rfl) dX4_goOn_52 ⟨Nat.zero_le _, Nat.zero_le _⟩ (fun r52 u H locs hp ho => ?_)
          try dsimp only at hp
          replace ho : oW D (oT c) A s.heap s (wO q c tnN ckN stN trN dsT dsC tpN lwN rdS rdM rdE rdD twN rsW rsE rwN suns ckT ckD shf lnT ways ups sts sty dly gAp gOp stp bst sgn lwT lwD rdT rdO lwK lwM twS twM twD rsO rsB rwA) H locs := ho
          refine lv_istore (lv' := [(8, .int r52), (0, .ref (q 47)), (1, .ref (q 43)), (2, .int v2), (3, .int v3), (4, .int v4), (5, .int v5), (6, .int v6), (7, .int v7)]) hx hb dX4_goOn_55 hl (by decide) rfl (fun ls hl => ?_)
          refine lv_iload hx hb dX4_goOn_57 (lv_at hl 6 rfl) ?_
          refine lv_iload hx hb dX4_goOn_59 (lv_at hl 5 rfl) ?_
          refine lv_iload hx hb dX4_goOn_61 (lv_at hl 0 rfl) ?_
          refine o_callSi (rest := [.int v5]) ⟨hx, hb, hml, hown, hts⟩ ho (c_Rs_minutesBetween l D (oT c) (wO q c tnN ckN stN trN dsT dsC tpN lwN rdS rdM rdE rdD twN rsW rsE rwN suns ckT ckD shf lnT ways ups sts sty dly gAp gOp stp bst sgn lwT lwD rdT rdO lwK lwM twS twM twD rsO rsB rwA) v4 r52 _ hp) (va_cwS 2 hts gX4_goOn_X4_minutesBetween rfl rfl rfl (by decide +kernel) ⟨(by dsimp only; omega), (by dsimp only; omega)⟩) rfl hl.1 rfl (Nat.le_of_ble_eq_true rfl) dX4_goOn_63 ⟨Nat.zero_le _, Nat.zero_le _⟩ (fun r63 u H locs hp ho => ?_)
          try dsimp only at hp
          replace ho : oW D (oT c) A s.heap s (wO q c tnN ckN stN trN dsT dsC tpN lwN rdS rdM rdE rdD twN rsW rsE rwN suns ckT ckD shf lnT ways ups sts sty dly gAp gOp stp bst sgn lwT lwD rdT rdO lwK lwM twS twM twD rsO rsB rwA) H locs := ho
          refine lv_iadd hx hb dX4_goOn_66 ?_
          refine lv_topi (fun x67 e_x67 => ?_)
          replace hp := hp x67 e_x67
          refine lv_istore (lv' := [(9, .int x67), (8, .int r52), (0, .ref (q 47)), (1, .ref (q 43)), (2, .int v2), (3, .int v3), (4, .int v4), (5, .int v5), (6, .int v6), (7, .int v7)]) hx hb dX4_goOn_67 hl (by decide) rfl (fun ls hl => ?_)
          refine lv_iload hx hb dX4_goOn_69 (lv_at hl 8 rfl) ?_
          refine lv_aload_n hx hb dX4_goOn_71 rfl (lv_at hl 3 rfl) ?_
          refine lv_iload hx hb dX4_goOn_72 (lv_at hl 9 rfl) ?_
          refine lv_iload hx hb dX4_goOn_74 (lv_at hl 0 rfl) ?_
          refine o_callSi (rest := [.int v6]) ⟨hx, hb, hml, hown, hts⟩ ho (c_Rs_sizeOfError l D q c tnN ckN stN trN dsT dsC tpN lwN rdS rdM rdE rdD twN rsW rsE rwN suns ckT ckD shf lnT ways ups sts sty dly gAp gOp stp bst sgn lwT lwD rdT rdO lwK lwM twS twM twD rsO rsB rwA v7 x67 _ hp) (va_cwS 3 hts gX4_goOn_X4_sizeOfError rfl rfl rfl (by decide +kernel) ⟨(by dsimp only; omega), (by dsimp only; omega)⟩) rfl hl.1 rfl (Nat.le_of_ble_eq_true rfl) dX4_goOn_76 ⟨Nat.zero_le _, Nat.zero_le _⟩ (fun r76 u H locs hp ho => ?_)
          try dsimp only at hp
          replace ho : oW D (oT c) A s.heap s (wO q c tnN ckN stN trN dsT dsC tpN lwN rdS rdM rdE rdD twN rsW rsE rwN suns ckT ckD shf lnT ways ups sts sty dly gAp gOp stp bst sgn lwT lwD rdT rdO lwK lwM twS twM twD rsO rsB rwA) H locs := ho
          refine va_mmax hx hb (hml.trans hl.1.symm) hown (hts (.methodLink RX4 53 Lib.Math.max.name) (by decide +kernel)) (hts (.static Lib.Math.max.name) (by decide +kernel)) (hts (.initialized "java/lang/Math") (by decide +kernel)) (hts (.code Lib.Math.max.name Lib.Math.max.code 2 (some .int)) (by decide +kernel)) (by dsimp only; omega) (by show 0 + 13 ≤ 96 + (d + 1) * 31; omega) (Nat.zero_le _) (Nat.zero_le _) dX4_goOn_79 ?_
          refine lv_topi (fun x82 e_x82 => ?_)
          replace hp := hp x82 e_x82
          refine lv_istore (lv' := [(10, .int x82), (9, .int x67), (8, .int r52), (0, .ref (q 47)), (1, .ref (q 43)), (2, .int v2), (3, .int v3), (4, .int v4), (5, .int v5), (6, .int v6), (7, .int v7)]) hx hb dX4_goOn_82 hl (by decide) rfl (fun ls hl => ?_)
          refine lv_iload_n hx hb dX4_goOn_84 rfl (lv_at hl 6 rfl) ?_
          refine lv_iconst (v := 1) hx hb dX4_goOn_85 (by decide) ?_
          refine lv_iload hx hb dX4_goOn_86 (lv_at hl 10 rfl) ?_
          refine lv_ishl hx hb dX4_goOn_88 ?_
          refine lv_iconst (v := (-1)) hx hb dX4_goOn_89 (by decide) ?_
          refine lv_ixor hx hb dX4_goOn_90 ?_
          refine lv_iand hx hb dX4_goOn_91 ?_
          refine lv_topi (fun x92 e_x92 => ?_)
          replace hp := hp x92 e_x92
          refine lv_istore (lv' := [(11, .int x92), (10, .int x82), (9, .int x67), (8, .int r52), (0, .ref (q 47)), (1, .ref (q 43)), (2, .int v2), (3, .int v3), (4, .int v4), (5, .int v5), (6, .int v6), (7, .int v7)]) hx hb dX4_goOn_92 hl (by decide) rfl (fun ls hl => ?_)
          refine lv_aload_n hx hb dX4_goOn_94 rfl (lv_at hl 4 rfl) ?_
          refine lv_aload_n hx hb dX4_goOn_95 rfl (lv_at hl 5 rfl) ?_
          refine lv_iload hx hb dX4_goOn_96 (lv_at hl 0 rfl) ?_
          refine lv_iload hx hb dX4_goOn_98 (lv_at hl 3 rfl) ?_
          refine lv_iload hx hb dX4_goOn_100 (lv_at hl 2 rfl) ?_
          refine lv_bipush (v := 30) hx hb dX4_goOn_102 (by decide) ?_
          refine lv_iadd hx hb dX4_goOn_104 ?_
          refine lv_iload hx hb dX4_goOn_105 (lv_at hl 1 rfl) ?_
          refine o_callVi (rest := []) (ci := 4) ⟨hx, hb, hml, hown, hts⟩ ho (c_Rs_canBeBetter l D q c tnN ckN stN trN dsT dsC tpN lwN rdS rdM rdE rdD twN rsW rsE rwN suns ckT ckD shf lnT ways ups sts sty dly gAp gOp stp bst sgn lwT lwD rdT rdO lwK lwM twS twM twD rsO rsB rwA x92 r52 (x67 + 30) x82 _ hp) (cwV 5 hts gX4_goOn_X4_canBeBetter rfl rfl rfl (by decide +kernel) ⟨(by dsimp only; omega), (by dsimp only; omega)⟩) 47 rfl rfl rfl hl.1 rfl (Nat.le_of_ble_eq_true rfl) dX4_goOn_107 ⟨Nat.zero_le _, Nat.zero_le _⟩ (fun r107 u H locs hp ho => ?_)
          try dsimp only at hp
          replace ho : oW D (oT c) A s.heap s (wO q c tnN ckN stN trN dsT dsC tpN lwN rdS rdM rdE rdD twN rsW rsE rwN suns ckT ckD shf lnT ways ups sts sty dly gAp gOp stp bst sgn lwT lwD rdT rdO lwK lwM twS twM twD rsO rsB rwA) H locs := ho
          refine lv_if_eq (tgt := 140) hx hb dX4_goOn_110 (by decide) (fun c_110 => ?_) (fun c_110 => ?_)
          · replace hp := hp.1 c_110
            obtain ⟨x140, e_x140⟩ : ∃ y : Int32, y = v7 + 1 := ⟨_, rfl⟩
            replace hp := hp x140 e_x140
            refine lv_iinc (v := x140) (lv' := [(7, .int x140), (11, .int x92), (10, .int x82), (9, .int x67), (8, .int r52), (0, .ref (q 47)), (1, .ref (q 43)), (2, .int v2), (3, .int v3), (4, .int v4), (5, .int v5), (6, .int v6)]) hx hb dX4_goOn_140 hl (k := 11) rfl (by rw [e_x140]; rfl) (by decide) rfl (fun ls hl => ?_)
            refine lv_goto (tgt := 31) hx hb dX4_goOn_143 (by decide) ?_
            exact hrec x140 rsW rsE rsO rsB hp _ _ _ ho (lv_sub hl [5, 6, 7, 8, 9, 10, 11, 0] rfl)
          · replace hp := hp.2 c_110
            refine lv_aload_n hx hb dX4_goOn_113 rfl (lv_at hl 4 rfl) ?_
            refine o_get (ci := 4) (T := TX4) hx hb hts hinX4 hown ho 47 rfl rfl 0 (by decide) hf9 rfl dX4_goOn_114 ?_
            refine lv_iload_n hx hb dX4_goOn_117 rfl (lv_at hl 6 rfl) ?_
            refine lv_iload hx hb dX4_goOn_118 (lv_at hl 11 rfl) ?_
            refine o_ist hx hb ho 48 26 rfl rfl hp.1 dX4_goOn_120 (fun H locs ho => ?_)
            replace hp := hp.2
            replace ho : oW D (oT c) A s.heap s (wO q c tnN ckN stN trN dsT dsC tpN lwN rdS rdM rdE rdD twN rsW rsE rwN suns ckT ckD shf lnT ways ups sts sty dly gAp gOp stp bst sgn lwT lwD rdT rdO lwK lwM twS twM twD (upd rsO v2.toNatClampNeg v7) rsB rwA) H locs := ho
            refine lv_aload_n hx hb dX4_goOn_121 rfl (lv_at hl 4 rfl) ?_
            refine lv_aload_n hx hb dX4_goOn_122 rfl (lv_at hl 5 rfl) ?_
            refine lv_iload_n hx hb dX4_goOn_123 rfl (lv_at hl 6 rfl) ?_
            refine lv_iconst (v := 1) hx hb dX4_goOn_124 (by decide) ?_
            refine lv_iadd hx hb dX4_goOn_125 ?_
            refine lv_iload hx hb dX4_goOn_126 (lv_at hl 0 rfl) ?_
            refine lv_iload hx hb dX4_goOn_128 (lv_at hl 3 rfl) ?_
            refine lv_iload hx hb dX4_goOn_130 (lv_at hl 2 rfl) ?_
            refine lv_bipush (v := 30) hx hb dX4_goOn_132 (by decide) ?_
            refine lv_iadd hx hb dX4_goOn_134 ?_
            refine lv_iload hx hb dX4_goOn_135 (lv_at hl 1 rfl) ?_
            refine o_callVv (rest := []) (ci := 4) ⟨hx, hb, hml, hown, hts⟩ ho (ih tnN ckN stN trN dsT dsC tpN lwN rdS rdM rdE rdD twN rsW rsE rwN suns ckT ckD shf lnT ways ups sts sty dly gAp gOp stp bst sgn lwT lwD rdT rdO lwK lwM twS twM twD (upd rsO v2.toNatClampNeg v7) rsB rwA (v2 + 1) x92 r52 (x67 + 30) x82 _ hp) (cwV 6 hts gX4_goOn_X4_goOn rfl rfl rfl (by decide +kernel) ⟨(by dsimp only; omega), (by dsimp only; omega)⟩) 47 rfl rfl rfl hl.1 rfl (Nat.le_of_ble_eq_true rfl) dX4_goOn_137 ⟨Nat.zero_le _, Nat.zero_le _⟩ (fun u H locs hp ho => ?_)
            obtain ⟨rsW_137, rsE_137, rsO_137, rsB_137⟩ := u
            try dsimp only at hp
            replace ho : oW D (oT c) A s.heap s (wO q c tnN ckN stN trN dsT dsC tpN lwN rdS rdM rdE rdD twN rsW_137 rsE_137 rwN suns ckT ckD shf lnT ways ups sts sty dly gAp gOp stp bst sgn lwT lwD rdT rdO lwK lwM twS twM twD rsO_137 rsB_137 rwA) H locs := ho
            obtain ⟨x140, e_x140⟩ : ∃ y : Int32, y = v7 + 1 := ⟨_, rfl⟩
            replace hp := hp x140 e_x140
            refine lv_iinc (v := x140) (lv' := [(7, .int x140), (11, .int x92), (10, .int x82), (9, .int x67), (8, .int r52), (0, .ref (q 47)), (1, .ref (q 43)), (2, .int v2), (3, .int v3), (4, .int v4), (5, .int v5), (6, .int v6)]) hx hb dX4_goOn_140 hl (k := 11) rfl (by rw [e_x140]; rfl) (by decide) rfl (fun ls hl => ?_)
            refine lv_goto (tgt := 31) hx hb dX4_goOn_143 (by decide) ?_
            exact hrec x140 rsW_137 rsE_137 rsO_137 rsB_137 hp _ _ _ ho (lv_sub hl [5, 6, 7, 8, 9, 10, 11, 0] rfl)
    refine lv_iload_n hx hb dX4_goOn_0 rfl (lv_at hl 2 rfl) ?_
    refine lv_if_lt (tgt := 18) hx hb dX4_goOn_1 (by decide) (fun c_1 => ?_) (fun c_1 => ?_)
    · replace hp := hp.1 c_1
      exact hJ18 v2 v5 v6 rsW rsE rsO rsB hp _ _ _ ho (lv_sub hl [0, 2, 5, 6] rfl)
    · replace hp := hp.2 c_1
      refine lv_iload_n hx hb dX4_goOn_4 rfl (lv_at hl 2 rfl) ?_
      refine lv_aload_n hx hb dX4_goOn_5 rfl (lv_at hl 1 rfl) ?_
      refine o_get (ci := 8) (T := TX8) hx hb hts hinX8 hown ho 43 rfl rfl 0 (by decide) hf28 rfl dX4_goOn_6 ?_
      refine lv_icmp_ge (tgt := 18) hx hb dX4_goOn_9 (by decide) (fun c_9 => ?_) (fun c_9 => ?_)
      · replace hp := hp.1 c_9
        exact hJ18 v2 v5 v6 rsW rsE rsO rsB hp _ _ _ ho (lv_sub hl [0, 2, 5, 6] rfl)
      · replace hp := hp.2 c_9
        refine lv_iload_n hx hb dX4_goOn_12 rfl (lv_at hl 2 rfl) ?_
        refine lv_bipush (v := 7) hx hb dX4_goOn_13 (by decide) ?_
        refine lv_icmp_lt (tgt := 28) hx hb dX4_goOn_15 (by decide) (fun c_15 => ?_) (fun c_15 => ?_)
        · replace hp := hp.1 c_15
          refine lv_iconst (v := 0) hx hb dX4_goOn_28 (by decide) ?_
          refine lv_istore (lv' := [(7, .int 0), (0, .ref (q 47)), (1, .ref (q 43)), (2, .int v2), (3, .int v3), (4, .int v4), (5, .int v5), (6, .int v6)]) hx hb dX4_goOn_29 hl (by decide) rfl (fun ls hl => ?_)
          exact hL31 v2 v3 v4 v5 v6 0 rsW rsE rsO rsB hp _ _ _ ho (lv_sub hl [1, 2, 3, 4, 5, 6, 7, 0] rfl)
        · replace hp := hp.2 c_15
          exact hJ18 v2 v5 v6 rsW rsE rsO rsB hp _ _ _ ho (lv_sub hl [0, 2, 5, 6] rfl)
set_option maxHeartbeats 4000000 in
set_option maxRecDepth 100000 in
theorem c_Rs_seek (l : Launch) (D : va_G) (q : Nat → Nat) (c : Nat → ClassId) (tnN : Int32) (ckN : Int32) (stN : Int32) (trN : Int32) (dsT : Int32) (dsC : Int32) (tpN : Int32) (lwN : Int32) (rdS : Int32) (rdM : Int32) (rdE : Int32) (rdD : Int32) (twN : Int32) (rsW : Int32) (rsE : Int32) (rwN : Int32) (suns : Nat → Int32) (ckT : Nat → Int32) (ckD : Nat → Int32) (shf : Nat → Int32) (lnT : Nat → Int32) (ways : Nat → Int32) (ups : Nat → Int32) (sts : Nat → Int32) (sty : Nat → Int32) (dly : Nat → Int32) (gAp : Nat → Nat → Int32) (gOp : Nat → Nat → Int32) (stp : Nat → Int32) (bst : Nat → Int32) (sgn : Nat → Int32) (lwT : Nat → Int32) (lwD : Nat → Int32) (rdT : Nat → Int32) (rdO : Nat → Int32) (lwK : Nat → Int32) (lwM : Nat → Int32) (twS : Nat → Int32) (twM : Nat → Int32) (twD : Nat → Int32) (rsO : Nat → Int32) (rsB : Nat → Int32) (rwA : Nat → Int32) (v2 : Int32) (v3 : Int32) (Q : Int32 → Int32 → (Nat → Int32) → (Nat → Int32) → Prop) (hp : p_Rs_seek twN twS twM twD rsW rsE rsO rsB v2 v3 Q) : oKv l yX4_seek wsX4_seek { frames := 13, cells := 0, slots := 0, locals := 375 } [.ref (q 47), .ref (q 43), .int v2, .int v3] D (oT c) (wO q c tnN ckN stN trN dsT dsC tpN lwN rdS rdM rdE rdD twN rsW rsE rwN suns ckT ckD shf lnT ways ups sts sty dly gAp gOp stp bst sgn lwT lwD rdT rdO lwK lwM twS twM twD rsO rsB rwA) (Int32 × Int32 × (Nat → Int32) × (Nat → Int32)) (fun (u : Int32 × Int32 × (Nat → Int32) × (Nat → Int32)) => Q u.1 u.2.1 u.2.2.1 u.2.2.2) (fun u => wO q c tnN ckN stN trN dsT dsC tpN lwN rdS rdM rdE rdD twN u.1 u.2.1 rwN suns ckT ckD shf lnT ways ups sts sty dly gAp gOp stp bst sgn lwT lwD rdT rdO lwK lwM twS twM twD u.2.2.1 u.2.2.2 rwA) := by
  refine oKv.ofW (own := RX4) (cc := cX4_seek) (maxL := 4) (plainFor_of_name (by decide +kernel)) rfl rfl (Nat.le_of_ble_eq_true rfl) (fun p e s m args below meth cd A ls Z hx hb hml hown hts hret ho hl => ?_)
  replace hl : lv_has ls 4 [(0, .ref (q 47)), (1, .ref (q 43)), (2, .int v2), (3, .int v3)] := hl
  have hinX4 : ∀ w ∈ u_ws RX4 TX4 4, w ∈ wsX4_seek := by decide +kernel
  have hinX8 : ∀ w ∈ u_ws RX8 TX8 4, w ∈ wsX4_seek := by decide +kernel
  have hf18 := hts (.fieldLink RX4 18 "OneTime$RoundSearch" "bestWorst" "I") (by decide +kernel)
  have hf22 := hts (.fieldLink RX4 22 "OneTime$RoundSearch" "bestEnd" "I") (by decide +kernel)
  have hf28 := hts (.fieldLink RX4 28 "OneTime$Towers" "size" "I") (by decide +kernel)
  have hk27 := hts (.constant RX4 27 2147483647) (by decide +kernel)
  unfold p_Rs_seek at hp
  refine lv_aload_n hx hb dX4_seek_0 rfl (lv_at hl 0 rfl) ?_
  refine lv_ldc (v := 2147483647) hx hb hown hk27 dX4_seek_1 ?_
  refine o_put (ci := 4) (T := TX4) hx hb hts hinX4 tyX4_ok nmX4 hown ho 47 rfl rfl 2 (by decide) hf18 rfl (tyX4_ok 2 (by decide)) (Nat.le_of_ble_eq_true rfl) dX4_seek_3 (fun H locs ho => ?_)
  replace ho : oW D (oT c) A s.heap s (wO q c tnN ckN stN trN dsT dsC tpN lwN rdS rdM rdE rdD twN 2147483647 rsE rwN suns ckT ckD shf lnT ways ups sts sty dly gAp gOp stp bst sgn lwT lwD rdT rdO lwK lwM twS twM twD rsO rsB rwA) H locs := ho
  refine lv_aload_n hx hb dX4_seek_6 rfl (lv_at hl 0 rfl) ?_
  refine lv_ldc (v := 2147483647) hx hb hown hk27 dX4_seek_7 ?_
  refine o_put (ci := 4) (T := TX4) hx hb hts hinX4 tyX4_ok nmX4 hown ho 47 rfl rfl 3 (by decide) hf22 rfl (tyX4_ok 3 (by decide)) (Nat.le_of_ble_eq_true rfl) dX4_seek_9 (fun H locs ho => ?_)
  replace ho : oW D (oT c) A s.heap s (wO q c tnN ckN stN trN dsT dsC tpN lwN rdS rdM rdE rdD twN 2147483647 2147483647 rwN suns ckT ckD shf lnT ways ups sts sty dly gAp gOp stp bst sgn lwT lwD rdT rdO lwK lwM twS twM twD rsO rsB rwA) H locs := ho
  refine lv_aload_n hx hb dX4_seek_12 rfl (lv_at hl 0 rfl) ?_
  refine lv_aload_n hx hb dX4_seek_13 rfl (lv_at hl 1 rfl) ?_
  refine lv_iconst (v := 0) hx hb dX4_seek_14 (by decide) ?_
  refine lv_iconst (v := 1) hx hb dX4_seek_15 (by decide) ?_
  refine lv_aload_n hx hb dX4_seek_16 rfl (lv_at hl 1 rfl) ?_
  refine o_get (ci := 8) (T := TX8) hx hb hts hinX8 hown ho 43 rfl rfl 0 (by decide) hf28 rfl dX4_seek_17 ?_
  refine lv_ishl hx hb dX4_seek_20 ?_
  refine lv_iconst (v := 1) hx hb dX4_seek_21 (by decide) ?_
  refine lv_isub hx hb dX4_seek_22 ?_
  refine lv_iload_n hx hb dX4_seek_23 rfl (lv_at hl 2 rfl) ?_
  refine lv_iload_n hx hb dX4_seek_24 rfl (lv_at hl 3 rfl) ?_
  refine lv_iconst (v := 0) hx hb dX4_seek_25 (by decide) ?_
  refine o_callVv (rest := []) (ci := 4) ⟨hx, hb, hml, hown, hts⟩ ho (c_Rs_goOn l D q c 8 tnN ckN stN trN dsT dsC tpN lwN rdS rdM rdE rdD twN 2147483647 2147483647 rwN suns ckT ckD shf lnT ways ups sts sty dly gAp gOp stp bst sgn lwT lwD rdT rdO lwK lwM twS twM twD rsO rsB rwA 0 ((1 <<< (twN &&& 31)) - 1) v2 v3 0 _ hp) (cwV 6 hts gX4_seek_X4_goOn rfl rfl rfl (by decide +kernel) ⟨(Nat.le_of_ble_eq_true rfl), (Nat.le_of_ble_eq_true rfl)⟩) 47 rfl rfl rfl hl.1 rfl (Nat.le_of_ble_eq_true rfl) dX4_seek_26 ⟨Nat.zero_le _, Nat.zero_le _⟩ (fun u H locs hp ho => ?_)
  obtain ⟨rsW_26, rsE_26, rsO_26, rsB_26⟩ := u
  try dsimp only at hp
  replace ho : oW D (oT c) A s.heap s (wO q c tnN ckN stN trN dsT dsC tpN lwN rdS rdM rdE rdD twN rsW_26 rsE_26 rwN suns ckT ckD shf lnT ways ups sts sty dly gAp gOp stp bst sgn lwT lwD rdT rdO lwK lwM twS twM twD rsO_26 rsB_26 rwA) H locs := ho
  exact hret (rsW_26, rsE_26, rsO_26, rsB_26) _ _ _ _ dX4_seek_29 ho hp
