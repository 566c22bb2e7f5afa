set_option maxHeartbeats 4000000 in
set_option maxRecDepth 100000 in
theorem c_Tn_settle (l : Launch) (D : va_G) (q : Nat → Nat) (c : Nat → ClassId) (tnN : Int32) (ckN : Int32) (stN : Int32) (trN : Int32) (dsT : Int32) (dsC : Int32) (tpN : Int32) (lwN : Int32) (rdS : Int32) (rdM : Int32) (rdE : Int32) (rdD : Int32) (twN : Int32) (rsW : Int32) (rsE : Int32) (rwN : Int32) (suns : Nat → Int32) (ckT : Nat → Int32) (ckD : Nat → Int32) (shf : Nat → Int32) (lnT : Nat → Int32) (ways : Nat → Int32) (ups : Nat → Int32) (sts : Nat → Int32) (sty : Nat → Int32) (dly : Nat → Int32) (gAp : Nat → Nat → Int32) (gOp : Nat → Nat → Int32) (stp : Nat → Int32) (bst : Nat → Int32) (sgn : Nat → Int32) (lwT : Nat → Int32) (lwD : Nat → Int32) (rdT : Nat → Int32) (rdO : Nat → Int32) (lwK : Nat → Int32) (lwM : Nat → Int32) (twS : Nat → Int32) (twM : Nat → Int32) (twD : Nat → Int32) (rsO : Nat → Int32) (rsB : Nat → Int32) (rwA : Nat → Int32) (v1 : Int32) (Q : Int32 → Int32 → (Nat → Int32) → Prop) (hp : p_Tn_settle tnN suns v1 Q) : oKi l yX9_settle wsX9_settle { frames := 0, cells := 0, slots := 0, locals := 0 } [.ref (q 1), .int v1] D (oT c) (wO q c tnN ckN stN trN dsT dsC tpN lwN rdS rdM rdE rdD twN rsW rsE rwN suns ckT ckD shf lnT ways ups sts sty dly gAp gOp stp bst sgn lwT lwD rdT rdO lwK lwM twS twM twD rsO rsB rwA) (Int32 × (Nat → Int32)) (fun r (u : Int32 × (Nat → Int32)) => Q r u.1 u.2) (fun u => wO q c u.1 ckN stN trN dsT dsC tpN lwN rdS rdM rdE rdD twN rsW rsE rwN u.2 ckT ckD shf lnT ways ups sts sty dly gAp gOp stp bst sgn lwT lwD rdT rdO lwK lwM twS twM twD rsO rsB rwA) := by
  refine oKi.ofW (own := RX9) (cc := cX9_settle) (maxL := 2) (plainFor_of_name (by decide +kernel)) rfl rfl (Nat.le_of_ble_eq_true rfl) (fun p e s m args below meth cd A ls Z hx hb hml hown hts hret ho hl => ?_)
  replace hl : lv_has ls 2 [(0, .ref (q 1)), (1, .int v1)] := hl
  have hinX9 : ∀ w ∈ u_ws RX9 TX9 4, w ∈ wsX9_settle := by decide +kernel
  have hf9 := hts (.fieldLink RX9 9 "OneTime$Towns" "suns" "[I") (by decide +kernel)
  have hf15 := hts (.fieldLink RX9 15 "OneTime$Towns" "size" "I") (by decide +kernel)
  unfold p_Tn_settle at hp
  refine lv_aload_n hx hb dX9_settle_0 rfl (lv_at hl 0 rfl) ?_
  refine o_get (ci := 9) (T := TX9) hx hb hts hinX9 hown ho 1 rfl rfl 1 (by decide) hf15 rfl dX9_settle_1 ?_
  refine lv_bipush (v := 16) hx hb dX9_settle_4 (by decide) ?_
  refine lv_icmp_lt (tgt := 11) hx hb dX9_settle_6 (by decide) (fun c_6 => ?_) (fun c_6 => ?_)
  · replace hp := hp.1 c_6
    refine lv_aload_n hx hb dX9_settle_11 rfl (lv_at hl 0 rfl) ?_
    refine o_get (ci := 9) (T := TX9) hx hb hts hinX9 hown ho 1 rfl rfl 0 (by decide) hf9 rfl dX9_settle_12 ?_
    refine lv_aload_n hx hb dX9_settle_15 rfl (lv_at hl 0 rfl) ?_
    refine o_get (ci := 9) (T := TX9) hx hb hts hinX9 hown ho 1 rfl rfl 1 (by decide) hf15 rfl dX9_settle_16 ?_
    refine lv_iload_n hx hb dX9_settle_19 rfl (lv_at hl 1 rfl) ?_
    refine o_ist hx hb ho 2 0 rfl rfl hp.1 dX9_settle_20 (fun H locs ho => ?_)
    replace hp := hp.2
    replace ho : oW D (oT c) A s.heap s (wO q c tnN ckN stN trN dsT dsC tpN lwN rdS rdM rdE rdD twN rsW rsE rwN (upd suns tnN.toNatClampNeg v1) ckT ckD shf lnT ways ups sts sty dly gAp gOp stp bst sgn lwT lwD rdT rdO lwK lwM twS twM twD rsO rsB rwA) H locs := ho
    refine lv_aload_n hx hb dX9_settle_21 rfl (lv_at hl 0 rfl) ?_
    refine lv_dup hx hb dX9_settle_22 rfl ?_
    refine o_get (ci := 9) (T := TX9) hx hb hts hinX9 hown ho 1 rfl rfl 1 (by decide) hf15 rfl dX9_settle_23 ?_
    refine lv_iconst (v := 1) hx hb dX9_settle_26 (by decide) ?_
    refine lv_iadd hx hb dX9_settle_27 ?_
    refine lv_topi (fun x28 e_x28 => ?_)
    replace hp := hp x28 e_x28
    refine o_put (ci := 9) (T := TX9) hx hb hts hinX9 tyX9_ok nmX9 hown ho 1 rfl rfl 1 (by decide) hf15 rfl (tyX9_ok 1 (by decide)) (Nat.le_of_ble_eq_true rfl) dX9_settle_28 (fun H locs ho => ?_)
    replace ho : oW D (oT c) A s.heap s (wO q c x28 ckN stN trN dsT dsC tpN lwN rdS rdM rdE rdD twN rsW rsE rwN (upd suns tnN.toNatClampNeg v1) ckT ckD shf lnT ways ups sts sty dly gAp gOp stp bst sgn lwT lwD rdT rdO lwK lwM twS twM twD rsO rsB rwA) H locs := ho
    refine lv_aload_n hx hb dX9_settle_31 rfl (lv_at hl 0 rfl) ?_
    refine o_get (ci := 9) (T := TX9) hx hb hts hinX9 hown ho 1 rfl rfl 1 (by decide) hf15 rfl dX9_settle_32 ?_
    refine lv_iconst (v := 1) hx hb dX9_settle_35 (by decide) ?_
    refine lv_isub hx hb dX9_settle_36 ?_
    exact hret (x28 - 1) (x28, upd suns tnN.toNatClampNeg v1) _ _ _ _ dX9_settle_37 ho hp
  · replace hp := hp.2 c_6
    refine lv_iconst (v := (-1)) hx hb dX9_settle_9 (by decide) ?_
    exact hret (-1) (tnN, suns) _ _ _ _ dX9_settle_10 ho hp
set_option maxHeartbeats 4000000 in
set_option maxRecDepth 100000 in
theorem c_Tn_has (l : Launch) (D : va_G) (q : Nat → Nat) (c : Nat → ClassId) (tnN : Int32) (ckN : Int32) (stN : Int32) (trN : Int32) (dsT : Int32) (dsC : Int32) (tpN : Int32) (lwN : Int32) (rdS : Int32) (rdM : Int32) (rdE : Int32) (rdD : Int32) (twN : Int32) (rsW : Int32) (rsE : Int32) (rwN : Int32) (suns : Nat → Int32) (ckT : Nat → Int32) (ckD : Nat → Int32) (shf : Nat → Int32) (lnT : Nat → Int32) (ways : Nat → Int32) (ups : Nat → Int32) (sts : Nat → Int32) (sty : Nat → Int32) (dly : Nat → Int32) (gAp : Nat → Nat → Int32) (gOp : Nat → Nat → Int32) (stp : Nat → Int32) (bst : Nat → Int32) (sgn : Nat → Int32) (lwT : Nat → Int32) (lwD : Nat → Int32) (rdT : Nat → Int32) (rdO : Nat → Int32) (lwK : Nat → Int32) (lwM : Nat → Int32) (twS : Nat → Int32) (twM : Nat → Int32) (twD : Nat → Int32) (rsO : Nat → Int32) (rsB : Nat → Int32) (rwA : Nat → Int32) (v1 : Int32) (Q : Int32 → Prop) (hp : p_Tn_has tnN v1 Q) : oKi l yX9_has wsX9_has { frames := 0, cells := 0, slots := 0, locals := 0 } [.ref (q 1), .int v1] D (oT c) (wO q c tnN ckN stN trN dsT dsC tpN lwN rdS rdM rdE rdD twN rsW rsE rwN suns ckT ckD shf lnT ways ups sts sty dly gAp gOp stp bst sgn lwT lwD rdT rdO lwK lwM twS twM twD rsO rsB rwA) (Unit) (fun r (_ : Unit) => Q r) (fun _ => wO q c tnN ckN stN trN dsT dsC tpN lwN rdS rdM rdE rdD twN rsW rsE rwN suns ckT ckD shf lnT ways ups sts sty dly gAp gOp stp bst sgn lwT lwD rdT rdO lwK lwM twS twM twD rsO rsB rwA) := by
  refine oKi.ofWz (own := RX9) (cc := cX9_has) (maxL := 2) (plainFor_of_name (by decide +kernel)) rfl rfl (Nat.le_of_ble_eq_true rfl) (fun p e s m args below meth cd A ls Z hx hb hml hown hts hret ho hl => ?_)
  replace hl : lv_has ls 2 [(0, .ref (q 1)), (1, .int v1)] := hl
  have hinX9 : ∀ w ∈ u_ws RX9 TX9 4, w ∈ wsX9_has := by decide +kernel
  have hf15 := hts (.fieldLink RX9 15 "OneTime$Towns" "size" "I") (by decide +kernel)
  unfold p_Tn_has at hp
  refine lv_iload_n hx hb dX9_has_0 rfl (lv_at hl 1 rfl) ?_
  refine lv_if_lt (tgt := 16) hx hb dX9_has_1 (by decide) (fun c_1 => ?_) (fun c_1 => ?_)
  · replace hp := hp.1 c_1
    refine lv_iconst (v := 0) hx hb dX9_has_16 (by decide) ?_
    exact hret 0 () _ _ _ _ dX9_has_17 (Or.inl rfl) ho hp
  · replace hp := hp.2 c_1
    refine lv_iload_n hx hb dX9_has_4 rfl (lv_at hl 1 rfl) ?_
    refine lv_aload_n hx hb dX9_has_5 rfl (lv_at hl 0 rfl) ?_
    refine o_get (ci := 9) (T := TX9) hx hb hts hinX9 hown ho 1 rfl rfl 1 (by decide) hf15 rfl dX9_has_6 ?_
    refine lv_icmp_ge (tgt := 16) hx hb dX9_has_9 (by decide) (fun c_9 => ?_) (fun c_9 => ?_)
    · replace hp := hp.1 c_9
      refine lv_iconst (v := 0) hx hb dX9_has_16 (by decide) ?_
      exact hret 0 () _ _ _ _ dX9_has_17 (Or.inl rfl) ho hp
    · replace hp := hp.2 c_9
      refine lv_iconst (v := 1) hx hb dX9_has_12 (by decide) ?_
      refine lv_goto (tgt := 17) hx hb dX9_has_13 (by decide) ?_
      exact hret 1 () _ _ _ _ dX9_has_17 (Or.inr rfl) ho hp
set_option maxHeartbeats 4000000 in
set_option maxRecDepth 100000 in
theorem c_Tn_isClock (l : Launch) (D : va_G) (q : Nat → Nat) (c : Nat → ClassId) (tnN : Int32) (ckN : Int32) (stN : Int32) (trN : Int32) (dsT : Int32) (dsC : Int32) (tpN : Int32) (lwN : Int32) (rdS : Int32) (rdM : Int32) (rdE : Int32) (rdD : Int32) (twN : Int32) (rsW : Int32) (rsE : Int32) (rwN : Int32) (suns : Nat → Int32) (ckT : Nat → Int32) (ckD : Nat → Int32) (shf : Nat → Int32) (lnT : Nat → Int32) (ways : Nat → Int32) (ups : Nat → Int32) (sts : Nat → Int32) (sty : Nat → Int32) (dly : Nat → Int32) (gAp : Nat → Nat → Int32) (gOp : Nat → Nat → Int32) (stp : Nat → Int32) (bst : Nat → Int32) (sgn : Nat → Int32) (lwT : Nat → Int32) (lwD : Nat → Int32) (rdT : Nat → Int32) (rdO : Nat → Int32) (lwK : Nat → Int32) (lwM : Nat → Int32) (twS : Nat → Int32) (twM : Nat → Int32) (twD : Nat → Int32) (rsO : Nat → Int32) (rsB : Nat → Int32) (rwA : Nat → Int32) (v1 : Int32) (v2 : Int32) (v3 : Int32) (Q : Int32 → Prop) (hp : p_Tn_isClock tnN v1 v2 v3 Q) : oKi l yX9_isClock wsX9_isClock { frames := 1, cells := 0, slots := 0, locals := 21 } [.ref (q 1), .int v1, .int v2, .int v3] D (oT c) (wO q c tnN ckN stN trN dsT dsC tpN lwN rdS rdM rdE rdD twN rsW rsE rwN suns ckT ckD shf lnT ways ups sts sty dly gAp gOp stp bst sgn lwT lwD rdT rdO lwK lwM twS twM twD rsO rsB rwA) (Unit) (fun r (_ : Unit) => Q r) (fun _ => wO q c tnN ckN stN trN dsT dsC tpN lwN rdS rdM rdE rdD twN rsW rsE rwN suns ckT ckD shf lnT ways ups sts sty dly gAp gOp stp bst sgn lwT lwD rdT rdO lwK lwM twS twM twD rsO rsB rwA) := by
  refine oKi.ofWz (own := RX9) (cc := cX9_isClock) (maxL := 4) (plainFor_of_name (by decide +kernel)) rfl rfl (Nat.le_of_ble_eq_true rfl) (fun p e s m args below meth cd A ls Z hx hb hml hown hts hret ho hl => ?_)
  replace hl : lv_has ls 4 [(0, .ref (q 1)), (1, .int v1), (2, .int v2), (3, .int v3)] := hl
  unfold p_Tn_isClock at hp
  refine lv_iload_n hx hb dX9_isClock_0 rfl (lv_at hl 2 rfl) ?_
  by_cases c_1_0 : v2 = 0
  · replace hp := hp.1 c_1_0
    refine lv_tableIn (tgt := 28) (off := 27) hx hb dX9_isClock_1 (by rw [c_1_0]; decide) (by rw [c_1_0]; decide) (by rw [c_1_0]; rfl) (by decide) ?_
    refine lv_iconst (v := 1) hx hb dX9_isClock_28 (by decide) ?_
    exact hret 1 () _ _ _ _ dX9_isClock_29 (Or.inr rfl) ho hp
  replace hp := hp.2 c_1_0
  by_cases c_1_1 : v2 = 1
  · replace hp := hp.1 c_1_1
    refine lv_tableIn (tgt := 30) (off := 29) hx hb dX9_isClock_1 (by rw [c_1_1]; decide) (by rw [c_1_1]; decide) (by rw [c_1_1]; rfl) (by decide) ?_
    refine lv_iload_n hx hb dX9_isClock_30 rfl (lv_at hl 3 rfl) ?_
    refine lv_bipush (v := (-12)) hx hb dX9_isClock_31 (by decide) ?_
    refine lv_icmp_lt (tgt := 46) hx hb dX9_isClock_33 (by decide) (fun c_33 => ?_) (fun c_33 => ?_)
    · replace hp := hp.1 c_33
      refine lv_iconst (v := 0) hx hb dX9_isClock_46 (by decide) ?_
      exact hret 0 () _ _ _ _ dX9_isClock_47 (Or.inl rfl) ho hp
    · replace hp := hp.2 c_33
      refine lv_iload_n hx hb dX9_isClock_36 rfl (lv_at hl 3 rfl) ?_
      refine lv_bipush (v := 12) hx hb dX9_isClock_37 (by decide) ?_
      refine lv_icmp_gt (tgt := 46) hx hb dX9_isClock_39 (by decide) (fun c_39 => ?_) (fun c_39 => ?_)
      · replace hp := hp.1 c_39
        refine lv_iconst (v := 0) hx hb dX9_isClock_46 (by decide) ?_
        exact hret 0 () _ _ _ _ dX9_isClock_47 (Or.inl rfl) ho hp
      · replace hp := hp.2 c_39
        refine lv_iconst (v := 1) hx hb dX9_isClock_42 (by decide) ?_
        refine lv_goto (tgt := 47) hx hb dX9_isClock_43 (by decide) ?_
        exact hret 1 () _ _ _ _ dX9_isClock_47 (Or.inr rfl) ho hp
  replace hp := hp.2 c_1_1
  by_cases c_1_2 : v2 = 2
  · replace hp := hp.1 c_1_2
    refine lv_tableIn (tgt := 48) (off := 47) hx hb dX9_isClock_1 (by rw [c_1_2]; decide) (by rw [c_1_2]; decide) (by rw [c_1_2]; rfl) (by decide) ?_
    refine lv_aload_n hx hb dX9_isClock_48 rfl (lv_at hl 0 rfl) ?_
    refine lv_iload_n hx hb dX9_isClock_49 rfl (lv_at hl 3 rfl) ?_
    refine o_callVi (rest := []) (ci := 9) ⟨hx, hb, hml, hown, hts⟩ ho (c_Tn_has l D q c tnN ckN stN trN dsT dsC tpN lwN rdS rdM rdE rdD twN rsW rsE rwN suns ckT ckD shf lnT ways ups sts sty dly gAp gOp stp bst sgn lwT lwD rdT rdO lwK lwM twS twM twD rsO rsB rwA v3 _ hp) (cwV 1 hts gX9_isClock_X9_has rfl rfl rfl (by decide +kernel) ⟨(Nat.le_of_ble_eq_true rfl), (Nat.le_of_ble_eq_true rfl)⟩) 1 rfl rfl rfl hl.1 rfl (Nat.le_of_ble_eq_true rfl) dX9_isClock_50 ⟨Nat.zero_le _, Nat.zero_le _⟩ (fun r50 u H locs hp ho => ?_)
    try dsimp only at hp
    replace ho : oW D (oT c) A s.heap s (wO q c tnN ckN stN trN dsT dsC tpN lwN rdS rdM rdE rdD twN rsW rsE rwN suns ckT ckD shf lnT ways ups sts sty dly gAp gOp stp bst sgn lwT lwD rdT rdO lwK lwM twS twM twD rsO rsB rwA) H locs := ho
    refine lv_if_eq (tgt := 65) hx hb dX9_isClock_53 (by decide) (fun c_53 => ?_) (fun c_53 => ?_)
    · replace hp := hp.1 c_53
      refine lv_iconst (v := 0) hx hb dX9_isClock_65 (by decide) ?_
      exact hret 0 () _ _ _ _ dX9_isClock_66 (Or.inl rfl) ho hp
    · replace hp := hp.2 c_53
      refine lv_iload_n hx hb dX9_isClock_56 rfl (lv_at hl 3 rfl) ?_
      refine lv_iload_n hx hb dX9_isClock_57 rfl (lv_at hl 1 rfl) ?_
      refine lv_icmp_eq (tgt := 65) hx hb dX9_isClock_58 (by decide) (fun c_58 => ?_) (fun c_58 => ?_)
      · replace hp := hp.1 c_58
        refine lv_iconst (v := 0) hx hb dX9_isClock_65 (by decide) ?_
        exact hret 0 () _ _ _ _ dX9_isClock_66 (Or.inl rfl) ho hp
      · replace hp := hp.2 c_58
        refine lv_iconst (v := 1) hx hb dX9_isClock_61 (by decide) ?_
        refine lv_goto (tgt := 66) hx hb dX9_isClock_62 (by decide) ?_
        exact hret 1 () _ _ _ _ dX9_isClock_66 (Or.inr rfl) ho hp
  replace hp := hp.2 c_1_2
  have n_1_0 := ne_ti 0 (by decide : (0 : Int32).toInt = 0) c_1_0
  have n_1_1 := ne_ti 1 (by decide : (1 : Int32).toInt = 1) c_1_1
  have n_1_2 := ne_ti 2 (by decide : (2 : Int32).toInt = 2) c_1_2
  refine lv_tableOut (tgt := 67) hx hb dX9_isClock_1 (by omega) (by decide) ?_
  refine lv_iconst (v := 0) hx hb dX9_isClock_67 (by decide) ?_
  exact hret 0 () _ _ _ _ dX9_isClock_68 (Or.inl rfl) ho hp
set_option maxHeartbeats 4000000 in
set_option maxRecDepth 100000 in
theorem c_Tn_sunOf (l : Launch) (D : va_G) (q : Nat → Nat) (c : Nat → ClassId) (tnN : Int32) (ckN : Int32) (stN : Int32) (trN : Int32) (dsT : Int32) (dsC : Int32) (tpN : Int32) (lwN : Int32) (rdS : Int32) (rdM : Int32) (rdE : Int32) (rdD : Int32) (twN : Int32) (rsW : Int32) (rsE : Int32) (rwN : Int32) (suns : Nat → Int32) (ckT : Nat → Int32) (ckD : Nat → Int32) (shf : Nat → Int32) (lnT : Nat → Int32) (ways : Nat → Int32) (ups : Nat → Int32) (sts : Nat → Int32) (sty : Nat → Int32) (dly : Nat → Int32) (gAp : Nat → Nat → Int32) (gOp : Nat → Nat → Int32) (stp : Nat → Int32) (bst : Nat → Int32) (sgn : Nat → Int32) (lwT : Nat → Int32) (lwD : Nat → Int32) (rdT : Nat → Int32) (rdO : Nat → Int32) (lwK : Nat → Int32) (lwM : Nat → Int32) (twS : Nat → Int32) (twM : Nat → Int32) (twD : Nat → Int32) (rsO : Nat → Int32) (rsB : Nat → Int32) (rwA : Nat → Int32) (v1 : Int32) (Q : Int32 → Prop) (hp : p_Tn_sunOf tnN suns v1 Q) : oKi l yX9_sunOf wsX9_sunOf { frames := 1, cells := 0, slots := 0, locals := 21 } [.ref (q 1), .int v1] D (oT c) (wO q c tnN ckN stN trN dsT dsC tpN lwN rdS rdM rdE rdD twN rsW rsE rwN suns ckT ckD shf lnT ways ups sts sty dly gAp gOp stp bst sgn lwT lwD rdT rdO lwK lwM twS twM twD rsO rsB rwA) (Unit) (fun r (_ : Unit) => Q r) (fun _ => wO q c tnN ckN stN trN dsT dsC tpN lwN rdS rdM rdE rdD twN rsW rsE rwN suns ckT ckD shf lnT ways ups sts sty dly gAp gOp stp bst sgn lwT lwD rdT rdO lwK lwM twS twM twD rsO rsB rwA) := by
  refine oKi.ofW (own := RX9) (cc := cX9_sunOf) (maxL := 2) (plainFor_of_name (by decide +kernel)) rfl rfl (Nat.le_of_ble_eq_true rfl) (fun p e s m args below meth cd A ls Z hx hb hml hown hts hret ho hl => ?_)
  replace hl : lv_has ls 2 [(0, .ref (q 1)), (1, .int v1)] := hl
  have hinX9 : ∀ w ∈ u_ws RX9 TX9 4, w ∈ wsX9_sunOf := by decide +kernel
  have hf9 := hts (.fieldLink RX9 9 "OneTime$Towns" "suns" "[I") (by decide +kernel)
  unfold p_Tn_sunOf at hp
  refine lv_aload_n hx hb dX9_sunOf_0 rfl (lv_at hl 0 rfl) ?_
  refine lv_iload_n hx hb dX9_sunOf_1 rfl (lv_at hl 1 rfl) ?_
  refine o_callVi (rest := []) (ci := 9) ⟨hx, hb, hml, hown, hts⟩ ho (c_Tn_has l D q c tnN ckN stN trN dsT dsC tpN lwN rdS rdM rdE rdD twN rsW rsE rwN suns ckT ckD shf lnT ways ups sts sty dly gAp gOp stp bst sgn lwT lwD rdT rdO lwK lwM twS twM twD rsO rsB rwA v1 _ hp) (cwV 1 hts gX9_sunOf_X9_has rfl rfl rfl (by decide +kernel) ⟨(Nat.le_of_ble_eq_true rfl), (Nat.le_of_ble_eq_true rfl)⟩) 1 rfl rfl rfl hl.1 rfl (Nat.le_of_ble_eq_true rfl) dX9_sunOf_2 ⟨Nat.zero_le _, Nat.zero_le _⟩ (fun r2 u H locs hp ho => ?_)
  try dsimp only at hp
  replace ho : oW D (oT c) A s.heap s (wO q c tnN ckN stN trN dsT dsC tpN lwN rdS rdM rdE rdD twN rsW rsE rwN suns ckT ckD shf lnT ways ups sts sty dly gAp gOp stp bst sgn lwT lwD rdT rdO lwK lwM twS twM twD rsO rsB rwA) H locs := ho
  refine lv_if_eq (tgt := 17) hx hb dX9_sunOf_5 (by decide) (fun c_5 => ?_) (fun c_5 => ?_)
  · replace hp := hp.1 c_5
    refine lv_iconst (v := 0) hx hb dX9_sunOf_17 (by decide) ?_
    exact hret 0 () _ _ _ _ dX9_sunOf_18 ho hp
  · replace hp := hp.2 c_5
    refine lv_aload_n hx hb dX9_sunOf_8 rfl (lv_at hl 0 rfl) ?_
    refine o_get (ci := 9) (T := TX9) hx hb hts hinX9 hown ho 1 rfl rfl 0 (by decide) hf9 rfl dX9_sunOf_9 ?_
    refine lv_iload_n hx hb dX9_sunOf_12 rfl (lv_at hl 1 rfl) ?_
    refine o_ild hx hb ho 2 0 rfl rfl hp.1 dX9_sunOf_13 ?_
    replace hp := hp.2
    refine lv_goto (tgt := 18) hx hb dX9_sunOf_14 (by decide) ?_
    exact hret (suns v1.toNatClampNeg) () _ _ _ _ dX9_sunOf_18 ho hp
set_option maxHeartbeats 4000000 in
set_option maxRecDepth 100000 in
theorem c_Tn_shiftOfKind (l : Launch) (D : va_G) (q : Nat → Nat) (c : Nat → ClassId) (tnN : Int32) (ckN : Int32) (stN : Int32) (trN : Int32) (dsT : Int32) (dsC : Int32) (tpN : Int32) (lwN : Int32) (rdS : Int32) (rdM : Int32) (rdE : Int32) (rdD : Int32) (twN : Int32) (rsW : Int32) (rsE : Int32) (rwN : Int32) (suns : Nat → Int32) (ckT : Nat → Int32) (ckD : Nat → Int32) (shf : Nat → Int32) (lnT : Nat → Int32) (ways : Nat → Int32) (ups : Nat → Int32) (sts : Nat → Int32) (sty : Nat → Int32) (dly : Nat → Int32) (gAp : Nat → Nat → Int32) (gOp : Nat → Nat → Int32) (stp : Nat → Int32) (bst : Nat → Int32) (sgn : Nat → Int32) (lwT : Nat → Int32) (lwD : Nat → Int32) (rdT : Nat → Int32) (rdO : Nat → Int32) (lwK : Nat → Int32) (lwM : Nat → Int32) (twS : Nat → Int32) (twM : Nat → Int32) (twD : Nat → Int32) (rsO : Nat → Int32) (rsB : Nat → Int32) (rwA : Nat → Int32) (v1 : Int32) (v2 : Int32) (v3 : Int32) (Q : Int32 → Prop) (hp : p_Tn_shiftOfKind tnN suns v1 v2 v3 Q) : oKi l yX9_shiftOfKind wsX9_shiftOfKind { frames := 2, cells := 0, slots := 0, locals := 42 } [.ref (q 1), .int v1, .int v2, .int v3] D (oT c) (wO q c tnN ckN stN trN dsT dsC tpN lwN rdS rdM rdE rdD twN rsW rsE rwN suns ckT ckD shf lnT ways ups sts sty dly gAp gOp stp bst sgn lwT lwD rdT rdO lwK lwM twS twM twD rsO rsB rwA) (Unit) (fun r (_ : Unit) => Q r) (fun _ => wO q c tnN ckN stN trN dsT dsC tpN lwN rdS rdM rdE rdD twN rsW rsE rwN suns ckT ckD shf lnT ways ups sts sty dly gAp gOp stp bst sgn lwT lwD rdT rdO lwK lwM twS twM twD rsO rsB rwA) := by
  refine oKi.ofW (own := RX9) (cc := cX9_shiftOfKind) (maxL := 4) (plainFor_of_name (by decide +kernel)) rfl rfl (Nat.le_of_ble_eq_true rfl) (fun p e s m args below meth cd A ls Z hx hb hml hown hts hret ho hl => ?_)
  replace hl : lv_has ls 4 [(0, .ref (q 1)), (1, .int v1), (2, .int v2), (3, .int v3)] := hl
  unfold p_Tn_shiftOfKind at hp
  refine lv_iload_n hx hb dX9_shiftOfKind_0 rfl (lv_at hl 2 rfl) ?_
  by_cases c_1_1 : v2 = 1
  · replace hp := hp.1 c_1_1
    refine lv_lookup (tgt := 28) (off := 27) hx hb dX9_shiftOfKind_1 (by decide) (by rw [c_1_1]; decide) (by decide) ?_
    refine lv_bipush (v := 60) hx hb dX9_shiftOfKind_28 (by decide) ?_
    refine lv_iload_n hx hb dX9_shiftOfKind_30 rfl (lv_at hl 3 rfl) ?_
    refine lv_imul hx hb dX9_shiftOfKind_31 ?_
    exact hret (60 * v3) () _ _ _ _ dX9_shiftOfKind_32 ho hp
  replace hp := hp.2 c_1_1
  by_cases c_1_2 : v2 = 2
  · replace hp := hp.1 c_1_2
    refine lv_lookup (tgt := 33) (off := 32) hx hb dX9_shiftOfKind_1 (by decide) (by rw [c_1_2]; decide) (by decide) ?_
    refine lv_aload_n hx hb dX9_shiftOfKind_33 rfl (lv_at hl 0 rfl) ?_
    refine lv_iload_n hx hb dX9_shiftOfKind_34 rfl (lv_at hl 3 rfl) ?_
    refine o_callVi (rest := []) (ci := 9) ⟨hx, hb, hml, hown, hts⟩ ho (c_Tn_sunOf l D q c tnN ckN stN trN dsT dsC tpN lwN rdS rdM rdE rdD twN rsW rsE rwN suns ckT ckD shf lnT ways ups sts sty dly gAp gOp stp bst sgn lwT lwD rdT rdO lwK lwM twS twM twD rsO rsB rwA v3 _ hp) (cwV 1 hts gX9_shiftOfKind_X9_sunOf rfl rfl rfl (by decide +kernel) ⟨(Nat.le_of_ble_eq_true rfl), (Nat.le_of_ble_eq_true rfl)⟩) 1 rfl rfl rfl hl.1 rfl (Nat.le_of_ble_eq_true rfl) dX9_shiftOfKind_35 ⟨Nat.zero_le _, Nat.zero_le _⟩ (fun r35 u H locs hp ho => ?_)
    try dsimp only at hp
    replace ho : oW D (oT c) A s.heap s (wO q c tnN ckN stN trN dsT dsC tpN lwN rdS rdM rdE rdD twN rsW rsE rwN suns ckT ckD shf lnT ways ups sts sty dly gAp gOp stp bst sgn lwT lwD rdT rdO lwK lwM twS twM twD rsO rsB rwA) H locs := ho
    exact hret r35 () _ _ _ _ dX9_shiftOfKind_38 ho hp
  replace hp := hp.2 c_1_2
  have n_1_1 := ne_ti 1 (by decide : (1 : Int32).toInt = 1) c_1_1
  have n_1_2 := ne_ti 2 (by decide : (2 : Int32).toInt = 2) c_1_2
  refine lv_lookup (tgt := 39) (off := 38) hx hb dX9_shiftOfKind_1 (by decide) (by simp [Op.lookupswitch.offset, n_1_1, n_1_1.symm, n_1_2, n_1_2.symm]) (by decide) ?_
  refine lv_aload_n hx hb dX9_shiftOfKind_39 rfl (lv_at hl 0 rfl) ?_
  refine lv_iload_n hx hb dX9_shiftOfKind_40 rfl (lv_at hl 1 rfl) ?_
  refine o_callVi (rest := []) (ci := 9) ⟨hx, hb, hml, hown, hts⟩ ho (c_Tn_sunOf l D q c tnN ckN stN trN dsT dsC tpN lwN rdS rdM rdE rdD twN rsW rsE rwN suns ckT ckD shf lnT ways ups sts sty dly gAp gOp stp bst sgn lwT lwD rdT rdO lwK lwM twS twM twD rsO rsB rwA v1 _ hp) (cwV 1 hts gX9_shiftOfKind_X9_sunOf rfl rfl rfl (by decide +kernel) ⟨(Nat.le_of_ble_eq_true rfl), (Nat.le_of_ble_eq_true rfl)⟩) 1 rfl rfl rfl hl.1 rfl (Nat.le_of_ble_eq_true rfl) dX9_shiftOfKind_41 ⟨Nat.zero_le _, Nat.zero_le _⟩ (fun r41 u H locs hp ho => ?_)
  try dsimp only at hp
  replace ho : oW D (oT c) A s.heap s (wO q c tnN ckN stN trN dsT dsC tpN lwN rdS rdM rdE rdD twN rsW rsE rwN suns ckT ckD shf lnT ways ups sts sty dly gAp gOp stp bst sgn lwT lwD rdT rdO lwK lwM twS twM twD rsO rsB rwA) H locs := ho
  exact hret r41 () _ _ _ _ dX9_shiftOfKind_44 ho hp
set_option maxHeartbeats 4000000 in
set_option maxRecDepth 100000 in
theorem c_Tn_tellClock (l : Launch) (D : va_G) (q : Nat → Nat) (c : Nat → ClassId) (tnN : Int32) (ckN : Int32) (stN : Int32) (trN : Int32) (dsT : Int32) (dsC : Int32) (tpN : Int32) (lwN : Int32) (rdS : Int32) (rdM : Int32) (rdE : Int32) (rdD : Int32) (twN : Int32) (rsW : Int32) (rsE : Int32) (rwN : Int32) (suns : Nat → Int32) (ckT : Nat → Int32) (ckD : Nat → Int32) (shf : Nat → Int32) (lnT : Nat → Int32) (ways : Nat → Int32) (ups : Nat → Int32) (sts : Nat → Int32) (sty : Nat → Int32) (dly : Nat → Int32) (gAp : Nat → Nat → Int32) (gOp : Nat → Nat → Int32) (stp : Nat → Int32) (bst : Nat → Int32) (sgn : Nat → Int32) (lwT : Nat → Int32) (lwD : Nat → Int32) (rdT : Nat → Int32) (rdO : Nat → Int32) (lwK : Nat → Int32) (lwM : Nat → Int32) (twS : Nat → Int32) (twM : Nat → Int32) (twD : Nat → Int32) (rsO : Nat → Int32) (rsB : Nat → Int32) (rwA : Nat → Int32) (v1 : Int32) (v2 : Int32) (v3 : Int32) (Q : Int32 → Int32 → (Nat → Int32) → (Nat → Int32) → (Nat → Int32) → Prop) (hp : p_Tn_tellClock ckN ckT ckD shf v1 v2 v3 Q) : oKi l yX9_tellClock wsX9_tellClock { frames := 1, cells := 0, slots := 0, locals := 22 } [.ref (q 1), .int v1, .int v2, .int v3] D (oT c) (wO q c tnN ckN stN trN dsT dsC tpN lwN rdS rdM rdE rdD twN rsW rsE rwN suns ckT ckD shf lnT ways ups sts sty dly gAp gOp stp bst sgn lwT lwD rdT rdO lwK lwM twS twM twD rsO rsB rwA) (Int32 × (Nat → Int32) × (Nat → Int32) × (Nat → Int32)) (fun r (u : Int32 × (Nat → Int32) × (Nat → Int32) × (Nat → Int32)) => Q r u.1 u.2.1 u.2.2.1 u.2.2.2) (fun u => wO q c tnN u.1 stN trN dsT dsC tpN lwN rdS rdM rdE rdD twN rsW rsE rwN suns u.2.1 u.2.2.1 u.2.2.2 lnT ways ups sts sty dly gAp gOp stp bst sgn lwT lwD rdT rdO lwK lwM twS twM twD rsO rsB rwA) := by
  refine oKi.ofW (own := RX9) (cc := cX9_tellClock) (maxL := 4) (plainFor_of_name (by decide +kernel)) rfl rfl (Nat.le_of_ble_eq_true rfl) (fun p e s m args below meth cd A ls Z hx hb hml hown hts hret ho hl => ?_)
  replace hl : lv_has ls 4 [(0, .ref (q 1)), (1, .int v1), (2, .int v2), (3, .int v3)] := hl
  have hinX6 : ∀ w ∈ u_ws RX6 TX6 3, w ∈ wsX9_tellClock := by decide +kernel
  have hinX9 : ∀ w ∈ u_ws RX9 TX9 4, w ∈ wsX9_tellClock := by decide +kernel
  have hf24 := hts (.fieldLink RX9 24 "OneTime$Towns" "clocks" "LOneTime$Since;") (by decide +kernel)
  have hf28 := hts (.fieldLink RX9 28 "OneTime$Towns" "shifts" "[I") (by decide +kernel)
  have hf43 := hts (.fieldLink RX9 43 "OneTime$Since" "size" "I") (by decide +kernel)
  unfold p_Tn_tellClock at hp
  refine lv_aload_n hx hb dX9_tellClock_0 rfl (lv_at hl 0 rfl) ?_
  refine o_get (ci := 9) (T := TX9) hx hb hts hinX9 hown ho 1 rfl rfl 2 (by decide) hf24 rfl dX9_tellClock_1 ?_
  refine o_callVi (rest := []) (ci := 6) ⟨hx, hb, hml, hown, hts⟩ ho (c_Si_isFull_c l D q c tnN ckN stN trN dsT dsC tpN lwN rdS rdM rdE rdD twN rsW rsE rwN suns ckT ckD shf lnT ways ups sts sty dly gAp gOp stp bst sgn lwT lwD rdT rdO lwK lwM twS twM twD rsO rsB rwA  _ hp) (cwV 0 hts gX9_tellClock_X6_isFull rfl rfl rfl (by decide +kernel) ⟨(Nat.le_of_ble_eq_true rfl), (Nat.le_of_ble_eq_true rfl)⟩) 3 rfl rfl rfl hl.1 rfl (Nat.le_of_ble_eq_true rfl) dX9_tellClock_4 ⟨Nat.zero_le _, Nat.zero_le _⟩ (fun r4 u H locs hp ho => ?_)
  try dsimp only at hp
  replace ho : oW D (oT c) A s.heap s (wO q c tnN ckN stN trN dsT dsC tpN lwN rdS rdM rdE rdD twN rsW rsE rwN suns ckT ckD shf lnT ways ups sts sty dly gAp gOp stp bst sgn lwT lwD rdT rdO lwK lwM twS twM twD rsO rsB rwA) H locs := ho
  refine lv_if_eq (tgt := 12) hx hb dX9_tellClock_7 (by decide) (fun c_7 => ?_) (fun c_7 => ?_)
  · replace hp := hp.1 c_7
    refine lv_aload_n hx hb dX9_tellClock_12 rfl (lv_at hl 0 rfl) ?_
    refine o_get (ci := 9) (T := TX9) hx hb hts hinX9 hown ho 1 rfl rfl 3 (by decide) hf28 rfl dX9_tellClock_13 ?_
    refine lv_aload_n hx hb dX9_tellClock_16 rfl (lv_at hl 0 rfl) ?_
    refine o_get (ci := 9) (T := TX9) hx hb hts hinX9 hown ho 1 rfl rfl 2 (by decide) hf24 rfl dX9_tellClock_17 ?_
    refine o_get (ci := 6) (T := TX6) hx hb hts hinX6 hown ho 3 rfl rfl 2 (by decide) hf43 rfl dX9_tellClock_20 ?_
    refine lv_iload_n hx hb dX9_tellClock_23 rfl (lv_at hl 3 rfl) ?_
    refine o_ist hx hb ho 6 3 rfl rfl hp.1 dX9_tellClock_24 (fun H locs ho => ?_)
    replace hp := hp.2
    replace ho : oW D (oT c) A s.heap s (wO q c tnN ckN stN trN dsT dsC tpN lwN rdS rdM rdE rdD twN rsW rsE rwN suns ckT ckD (upd shf ckN.toNatClampNeg v3) lnT ways ups sts sty dly gAp gOp stp bst sgn lwT lwD rdT rdO lwK lwM twS twM twD rsO rsB rwA) H locs := ho
    refine lv_aload_n hx hb dX9_tellClock_25 rfl (lv_at hl 0 rfl) ?_
    refine o_get (ci := 9) (T := TX9) hx hb hts hinX9 hown ho 1 rfl rfl 2 (by decide) hf24 rfl dX9_tellClock_26 ?_
    refine lv_iload_n hx hb dX9_tellClock_29 rfl (lv_at hl 1 rfl) ?_
    refine lv_iload_n hx hb dX9_tellClock_30 rfl (lv_at hl 2 rfl) ?_
    refine o_callVv (rest := []) (ci := 6) ⟨hx, hb, hml, hown, hts⟩ ho (c_Si_add_c l D q c tnN ckN stN trN dsT dsC tpN lwN rdS rdM rdE rdD twN rsW rsE rwN suns ckT ckD (upd shf ckN.toNatClampNeg v3) lnT ways ups sts sty dly gAp gOp stp bst sgn lwT lwD rdT rdO lwK lwM twS twM twD rsO rsB rwA v1 v2 _ hp) (cwV 2 hts gX9_tellClock_X6_add rfl rfl rfl (by decide +kernel) ⟨(Nat.le_of_ble_eq_true rfl), (Nat.le_of_ble_eq_true rfl)⟩) 3 rfl rfl rfl hl.1 rfl (Nat.le_of_ble_eq_true rfl) dX9_tellClock_31 ⟨Nat.zero_le _, Nat.zero_le _⟩ (fun u H locs hp ho => ?_)
    obtain ⟨ckN_31, ckT_31, ckD_31⟩ := u
    try dsimp only at hp
    replace ho : oW D (oT c) A s.heap s (wO q c tnN ckN_31 stN trN dsT dsC tpN lwN rdS rdM rdE rdD twN rsW rsE rwN suns ckT_31 ckD_31 (upd shf ckN.toNatClampNeg v3) lnT ways ups sts sty dly gAp gOp stp bst sgn lwT lwD rdT rdO lwK lwM twS twM twD rsO rsB rwA) H locs := ho
    refine lv_aload_n hx hb dX9_tellClock_34 rfl (lv_at hl 0 rfl) ?_
    refine o_get (ci := 9) (T := TX9) hx hb hts hinX9 hown ho 1 rfl rfl 2 (by decide) hf24 rfl dX9_tellClock_35 ?_
    refine o_get (ci := 6) (T := TX6) hx hb hts hinX6 hown ho 3 rfl rfl 2 (by decide) hf43 rfl dX9_tellClock_38 ?_
    exact hret ckN_31 (ckN_31, ckT_31, ckD_31, upd shf ckN.toNatClampNeg v3) _ _ _ _ dX9_tellClock_41 ho hp
  · replace hp := hp.2 c_7
    refine lv_iconst (v := (-1)) hx hb dX9_tellClock_10 (by decide) ?_
    exact hret (-1) (ckN, ckT, ckD, shf) _ _ _ _ dX9_tellClock_11 ho hp
set_option maxHeartbeats 4000000 in
set_option maxRecDepth 100000 in
theorem c_Tn_takeClockBack (l : Launch) (D : va_G) (q : Nat → Nat) (c : Nat → ClassId) (tnN : Int32) (ckN : Int32) (stN : Int32) (trN : Int32) (dsT : Int32) (dsC : Int32) (tpN : Int32) (lwN : Int32) (rdS : Int32) (rdM : Int32) (rdE : Int32) (rdD : Int32) (twN : Int32) (rsW : Int32) (rsE : Int32) (rwN : Int32) (suns : Nat → Int32) (ckT : Nat → Int32) (ckD : Nat → Int32) (shf : Nat → Int32) (lnT : Nat → Int32) (ways : Nat → Int32) (ups : Nat → Int32) (sts : Nat → Int32) (sty : Nat → Int32) (dly : Nat → Int32) (gAp : Nat → Nat → Int32) (gOp : Nat → Nat → Int32) (stp : Nat → Int32) (bst : Nat → Int32) (sgn : Nat → Int32) (lwT : Nat → Int32) (lwD : Nat → Int32) (rdT : Nat → Int32) (rdO : Nat → Int32) (lwK : Nat → Int32) (lwM : Nat → Int32) (twS : Nat → Int32) (twM : Nat → Int32) (twD : Nat → Int32) (rsO : Nat → Int32) (rsB : Nat → Int32) (rwA : Nat → Int32)  (Q : Int32 → Int32 → Prop) (hp : p_Tn_takeClockBack ckN Q) : oKi l yX9_takeClockBack wsX9_takeClockBack { frames := 1, cells := 0, slots := 0, locals := 20 } [.ref (q 1)] D (oT c) (wO q c tnN ckN stN trN dsT dsC tpN lwN rdS rdM rdE rdD twN rsW rsE rwN suns ckT ckD shf lnT ways ups sts sty dly gAp gOp stp bst sgn lwT lwD rdT rdO lwK lwM twS twM twD rsO rsB rwA) (Int32) (fun r (u : Int32) => Q r u) (fun u => wO q c tnN u stN trN dsT dsC tpN lwN rdS rdM rdE rdD twN rsW rsE rwN suns ckT ckD shf lnT ways ups sts sty dly gAp gOp stp bst sgn lwT lwD rdT rdO lwK lwM twS twM twD rsO rsB rwA) := by
  refine oKi.ofW (own := RX9) (cc := cX9_takeClockBack) (maxL := 1) (plainFor_of_name (by decide +kernel)) rfl rfl (Nat.le_of_ble_eq_true rfl) (fun p e s m args below meth cd A ls Z hx hb hml hown hts hret ho hl => ?_)
  replace hl : lv_has ls 1 [(0, .ref (q 1))] := hl
  have hinX6 : ∀ w ∈ u_ws RX6 TX6 3, w ∈ wsX9_takeClockBack := by decide +kernel
  have hinX9 : ∀ w ∈ u_ws RX9 TX9 4, w ∈ wsX9_takeClockBack := by decide +kernel
  have hf24 := hts (.fieldLink RX9 24 "OneTime$Towns" "clocks" "LOneTime$Since;") (by decide +kernel)
  have hf43 := hts (.fieldLink RX9 43 "OneTime$Since" "size" "I") (by decide +kernel)
  unfold p_Tn_takeClockBack at hp
  refine lv_aload_n hx hb dX9_takeClockBack_0 rfl (lv_at hl 0 rfl) ?_
  refine o_get (ci := 9) (T := TX9) hx hb hts hinX9 hown ho 1 rfl rfl 2 (by decide) hf24 rfl dX9_takeClockBack_1 ?_
  refine o_get (ci := 6) (T := TX6) hx hb hts hinX6 hown ho 3 rfl rfl 2 (by decide) hf43 rfl dX9_takeClockBack_4 ?_
  refine lv_if_ne (tgt := 12) hx hb dX9_takeClockBack_7 (by decide) (fun c_7 => ?_) (fun c_7 => ?_)
  · replace hp := hp.2 c_7
    refine lv_aload_n hx hb dX9_takeClockBack_12 rfl (lv_at hl 0 rfl) ?_
    refine o_get (ci := 9) (T := TX9) hx hb hts hinX9 hown ho 1 rfl rfl 2 (by decide) hf24 rfl dX9_takeClockBack_13 ?_
    refine o_callVv (rest := []) (ci := 6) ⟨hx, hb, hml, hown, hts⟩ ho (c_Si_dropLast_c l D q c tnN ckN stN trN dsT dsC tpN lwN rdS rdM rdE rdD twN rsW rsE rwN suns ckT ckD shf lnT ways ups sts sty dly gAp gOp stp bst sgn lwT lwD rdT rdO lwK lwM twS twM twD rsO rsB rwA  _ hp) (cwV 0 hts gX9_takeClockBack_X6_dropLast rfl rfl rfl (by decide +kernel) ⟨(Nat.le_of_ble_eq_true rfl), (Nat.le_of_ble_eq_true rfl)⟩) 3 rfl rfl rfl hl.1 rfl (Nat.le_of_ble_eq_true rfl) dX9_takeClockBack_16 ⟨Nat.zero_le _, Nat.zero_le _⟩ (fun u H locs hp ho => ?_)
    obtain ⟨ckN_16, rfl⟩ : ∃ z, z = u := ⟨_, rfl⟩
    try dsimp only at hp
    replace ho : oW D (oT c) A s.heap s (wO q c tnN ckN_16 stN trN dsT dsC tpN lwN rdS rdM rdE rdD twN rsW rsE rwN suns ckT ckD shf lnT ways ups sts sty dly gAp gOp stp bst sgn lwT lwD rdT rdO lwK lwM twS twM twD rsO rsB rwA) H locs := ho
    refine lv_aload_n hx hb dX9_takeClockBack_19 rfl (lv_at hl 0 rfl) ?_
    refine o_get (ci := 9) (T := TX9) hx hb hts hinX9 hown ho 1 rfl rfl 2 (by decide) hf24 rfl dX9_takeClockBack_20 ?_
    refine o_get (ci := 6) (T := TX6) hx hb hts hinX6 hown ho 3 rfl rfl 2 (by decide) hf43 rfl dX9_takeClockBack_23 ?_
    exact hret ckN_16 ckN_16 _ _ _ _ dX9_takeClockBack_26 ho hp
  · replace hp := hp.1 c_7
    refine lv_iconst (v := (-1)) hx hb dX9_takeClockBack_10 (by decide) ?_
    exact hret (-1) ckN _ _ _ _ dX9_takeClockBack_11 ho hp
set_option maxHeartbeats 4000000 in
set_option maxRecDepth 100000 in
theorem c_Tn_shiftOn (l : Launch) (D : va_G) (q : Nat → Nat) (c : Nat → ClassId) (tnN : Int32) (ckN : Int32) (stN : Int32) (trN : Int32) (dsT : Int32) (dsC : Int32) (tpN : Int32) (lwN : Int32) (rdS : Int32) (rdM : Int32) (rdE : Int32) (rdD : Int32) (twN : Int32) (rsW : Int32) (rsE : Int32) (rwN : Int32) (suns : Nat → Int32) (ckT : Nat → Int32) (ckD : Nat → Int32) (shf : Nat → Int32) (lnT : Nat → Int32) (ways : Nat → Int32) (ups : Nat → Int32) (sts : Nat → Int32) (sty : Nat → Int32) (dly : Nat → Int32) (gAp : Nat → Nat → Int32) (gOp : Nat → Nat → Int32) (stp : Nat → Int32) (bst : Nat → Int32) (sgn : Nat → Int32) (lwT : Nat → Int32) (lwD : Nat → Int32) (rdT : Nat → Int32) (rdO : Nat → Int32) (lwK : Nat → Int32) (lwM : Nat → Int32) (twS : Nat → Int32) (twM : Nat → Int32) (twD : Nat → Int32) (rsO : Nat → Int32) (rsB : Nat → Int32) (rwA : Nat → Int32) (v1 : Int32) (v2 : Int32) (Q : Int32 → Prop) (hp : p_Tn_shiftOn tnN ckN suns ckT ckD shf v1 v2 Q) : oKi l yX9_shiftOn wsX9_shiftOn { frames := 2, cells := 0, slots := 0, locals := 42 } [.ref (q 1), .int v1, .int v2] D (oT c) (wO q c tnN ckN stN trN dsT dsC tpN lwN rdS rdM rdE rdD twN rsW rsE rwN suns ckT ckD shf lnT ways ups sts sty dly gAp gOp stp bst sgn lwT lwD rdT rdO lwK lwM twS twM twD rsO rsB rwA) (Unit) (fun r (_ : Unit) => Q r) (fun _ => wO q c tnN ckN stN trN dsT dsC tpN lwN rdS rdM rdE rdD twN rsW rsE rwN suns ckT ckD shf lnT ways ups sts sty dly gAp gOp stp bst sgn lwT lwD rdT rdO lwK lwM twS twM twD rsO rsB rwA) := by
  refine oKi.ofW (own := RX9) (cc := cX9_shiftOn) (maxL := 4) (plainFor_of_name (by decide +kernel)) rfl rfl (Nat.le_of_ble_eq_true rfl) (fun p e s m args below meth cd A ls Z hx hb hml hown hts hret ho hl => ?_)
  replace hl : lv_has ls 4 [(0, .ref (q 1)), (1, .int v1), (2, .int v2)] := hl
  have hinX9 : ∀ w ∈ u_ws RX9 TX9 4, w ∈ wsX9_shiftOn := by decide +kernel
  have hf24 := hts (.fieldLink RX9 24 "OneTime$Towns" "clocks" "LOneTime$Since;") (by decide +kernel)
  have hf28 := hts (.fieldLink RX9 28 "OneTime$Towns" "shifts" "[I") (by decide +kernel)
  unfold p_Tn_shiftOn at hp
  refine lv_aload_n hx hb dX9_shiftOn_0 rfl (lv_at hl 0 rfl) ?_
  refine o_get (ci := 9) (T := TX9) hx hb hts hinX9 hown ho 1 rfl rfl 2 (by decide) hf24 rfl dX9_shiftOn_1 ?_
  refine lv_iload_n hx hb dX9_shiftOn_4 rfl (lv_at hl 1 rfl) ?_
  refine lv_iload_n hx hb dX9_shiftOn_5 rfl (lv_at hl 2 rfl) ?_
  refine o_callVi (rest := []) (ci := 6) ⟨hx, hb, hml, hown, hts⟩ ho (c_Si_holding_c l D q c tnN ckN stN trN dsT dsC tpN lwN rdS rdM rdE rdD twN rsW rsE rwN suns ckT ckD shf lnT ways ups sts sty dly gAp gOp stp bst sgn lwT lwD rdT rdO lwK lwM twS twM twD rsO rsB rwA v1 v2 _ hp) (cwV 2 hts gX9_shiftOn_X6_holding rfl rfl rfl (by decide +kernel) ⟨(Nat.le_of_ble_eq_true rfl), (Nat.le_of_ble_eq_true rfl)⟩) 3 rfl rfl rfl hl.1 rfl (Nat.le_of_ble_eq_true rfl) dX9_shiftOn_6 ⟨Nat.zero_le _, Nat.zero_le _⟩ (fun r6 u H locs hp ho => ?_)
  try dsimp only at hp
  replace ho : oW D (oT c) A s.heap s (wO q c tnN ckN stN trN dsT dsC tpN lwN rdS rdM rdE rdD twN rsW rsE rwN suns ckT ckD shf lnT ways ups sts sty dly gAp gOp stp bst sgn lwT lwD rdT rdO lwK lwM twS twM twD rsO rsB rwA) H locs := ho
  refine lv_istore_n (lv' := [(3, .int r6), (0, .ref (q 1)), (1, .int v1), (2, .int v2)]) hx hb dX9_shiftOn_9 rfl hl (by decide) rfl (fun ls hl => ?_)
  refine lv_iload_n hx hb dX9_shiftOn_10 rfl (lv_at hl 0 rfl) ?_
  refine lv_iconst (v := (-1)) hx hb dX9_shiftOn_11 (by decide) ?_
  refine lv_icmp_ne (tgt := 23) hx hb dX9_shiftOn_12 (by decide) (fun c_12 => ?_) (fun c_12 => ?_)
  · replace hp := hp.2 c_12
    refine lv_aload_n hx hb dX9_shiftOn_23 rfl (lv_at hl 1 rfl) ?_
    refine o_get (ci := 9) (T := TX9) hx hb hts hinX9 hown ho 1 rfl rfl 3 (by decide) hf28 rfl dX9_shiftOn_24 ?_
    refine lv_iload_n hx hb dX9_shiftOn_27 rfl (lv_at hl 0 rfl) ?_
    refine o_ild hx hb ho 6 3 rfl rfl hp.1 dX9_shiftOn_28 ?_
    replace hp := hp.2
    exact hret (shf r6.toNatClampNeg) () _ _ _ _ dX9_shiftOn_29 ho hp
  · replace hp := hp.1 c_12
    refine lv_aload_n hx hb dX9_shiftOn_15 rfl (lv_at hl 1 rfl) ?_
    refine lv_iload_n hx hb dX9_shiftOn_16 rfl (lv_at hl 2 rfl) ?_
    refine o_callVi (rest := []) (ci := 9) ⟨hx, hb, hml, hown, hts⟩ ho (c_Tn_sunOf l D q c tnN ckN stN trN dsT dsC tpN lwN rdS rdM rdE rdD twN rsW rsE rwN suns ckT ckD shf lnT ways ups sts sty dly gAp gOp stp bst sgn lwT lwD rdT rdO lwK lwM twS twM twD rsO rsB rwA v1 _ hp) (cwV 1 hts gX9_shiftOn_X9_sunOf rfl rfl rfl (by decide +kernel) ⟨(Nat.le_of_ble_eq_true rfl), (Nat.le_of_ble_eq_true rfl)⟩) 1 rfl rfl rfl hl.1 rfl (Nat.le_of_ble_eq_true rfl) dX9_shiftOn_17 ⟨Nat.zero_le _, Nat.zero_le _⟩ (fun r17 u H locs hp ho => ?_)
    try dsimp only at hp
    replace ho : oW D (oT c) A s.heap s (wO q c tnN ckN stN trN dsT dsC tpN lwN rdS rdM rdE rdD twN rsW rsE rwN suns ckT ckD shf lnT ways ups sts sty dly gAp gOp stp bst sgn lwT lwD rdT rdO lwK lwM twS twM twD rsO rsB rwA) H locs := ho
    refine lv_goto (tgt := 29) hx hb dX9_shiftOn_20 (by decide) ?_
    exact hret r17 () _ _ _ _ dX9_shiftOn_29 ho hp
set_option maxHeartbeats 4000000 in
set_option maxRecDepth 100000 in
theorem c_Tn_readingAt (l : Launch) (D : va_G) (q : Nat → Nat) (c : Nat → ClassId) (tnN : Int32) (ckN : Int32) (stN : Int32) (trN : Int32) (dsT : Int32) (dsC : Int32) (tpN : Int32) (lwN : Int32) (rdS : Int32) (rdM : Int32) (rdE : Int32) (rdD : Int32) (twN : Int32) (rsW : Int32) (rsE : Int32) (rwN : Int32) (suns : Nat → Int32) (ckT : Nat → Int32) (ckD : Nat → Int32) (shf : Nat → Int32) (lnT : Nat → Int32) (ways : Nat → Int32) (ups : Nat → Int32) (sts : Nat → Int32) (sty : Nat → Int32) (dly : Nat → Int32) (gAp : Nat → Nat → Int32) (gOp : Nat → Nat → Int32) (stp : Nat → Int32) (bst : Nat → Int32) (sgn : Nat → Int32) (lwT : Nat → Int32) (lwD : Nat → Int32) (rdT : Nat → Int32) (rdO : Nat → Int32) (lwK : Nat → Int32) (lwM : Nat → Int32) (twS : Nat → Int32) (twM : Nat → Int32) (twD : Nat → Int32) (rsO : Nat → Int32) (rsB : Nat → Int32) (rwA : Nat → Int32) (v1 : Int32) (v2 : Int32) (Q : Int32 → Prop) (hp : p_Tn_readingAt tnN ckN suns ckT ckD shf v1 v2 Q) : oKi l yX9_readingAt wsX9_readingAt { frames := 3, cells := 0, slots := 0, locals := 65 } [.ref (q 1), .int v1, .int v2] D (oT c) (wO q c tnN ckN stN trN dsT dsC tpN lwN rdS rdM rdE rdD twN rsW rsE rwN suns ckT ckD shf lnT ways ups sts sty dly gAp gOp stp bst sgn lwT lwD rdT rdO lwK lwM twS twM twD rsO rsB rwA) (Unit) (fun r (_ : Unit) => Q r) (fun _ => wO q c tnN ckN stN trN dsT dsC tpN lwN rdS rdM rdE rdD twN rsW rsE rwN suns ckT ckD shf lnT ways ups sts sty dly gAp gOp stp bst sgn lwT lwD rdT rdO lwK lwM twS twM twD rsO rsB rwA) := by
  refine oKi.ofW (own := RX9) (cc := cX9_readingAt) (maxL := 3) (plainFor_of_name (by decide +kernel)) rfl rfl (Nat.le_of_ble_eq_true rfl) (fun p e s m args below meth cd A ls Z hx hb hml hown hts hret ho hl => ?_)
  replace hl : lv_has ls 3 [(0, .ref (q 1)), (1, .int v1), (2, .int v2)] := hl
  unfold p_Tn_readingAt at hp
  refine lv_iload_n hx hb dX9_readingAt_0 rfl (lv_at hl 2 rfl) ?_
  refine lv_aload_n hx hb dX9_readingAt_1 rfl (lv_at hl 0 rfl) ?_
  refine lv_iload_n hx hb dX9_readingAt_2 rfl (lv_at hl 1 rfl) ?_
  refine lv_iload_n hx hb dX9_readingAt_3 rfl (lv_at hl 2 rfl) ?_
  refine lv_sipush (v := 1440) hx hb dX9_readingAt_4 (by decide) ?_
  refine lv_idiv hx hb dX9_readingAt_7 (by decide) ?_
  refine o_callVi (rest := [.int v2]) (ci := 9) ⟨hx, hb, hml, hown, hts⟩ ho (c_Tn_shiftOn l D q c tnN ckN stN trN dsT dsC tpN lwN rdS rdM rdE rdD twN rsW rsE rwN suns ckT ckD shf lnT ways ups sts sty dly gAp gOp stp bst sgn lwT lwD rdT rdO lwK lwM twS twM twD rsO rsB rwA v1 (v2 / 1440) _ hp) (cwV 2 hts gX9_readingAt_X9_shiftOn rfl rfl rfl (by decide +kernel) ⟨(Nat.le_of_ble_eq_true rfl), (Nat.le_of_ble_eq_true rfl)⟩) 1 rfl rfl rfl hl.1 rfl (Nat.le_of_ble_eq_true rfl) dX9_readingAt_8 ⟨Nat.zero_le _, Nat.zero_le _⟩ (fun r8 u H locs hp ho => ?_)
  try dsimp only at hp
  replace ho : oW D (oT c) A s.heap s (wO q c tnN ckN stN trN dsT dsC tpN lwN rdS rdM rdE rdD twN rsW rsE rwN suns ckT ckD shf lnT ways ups sts sty dly gAp gOp stp bst sgn lwT lwD rdT rdO lwK lwM twS twM twD rsO rsB rwA) H locs := ho
  refine lv_iadd hx hb dX9_readingAt_11 ?_
  exact hret (v2 + r8) () _ _ _ _ dX9_readingAt_12 ho hp
set_option maxHeartbeats 4000000 in
set_option maxRecDepth 100000 in
theorem c_Tn_firstDayNear (l : Launch) (D : va_G) (tys : List (ClassId × FieldType)) (ws : va_W)  (v0 : Int32) (Q : Int32 → Prop) (hp : p_Tn_firstDayNear v0 Q) : oKi l yX9_firstDayNear wsX9_firstDayNear { frames := 1, cells := 0, slots := 0, locals := 22 } [.int v0] D tys ws (Unit) (fun r (_ : Unit) => Q r) (fun _ => ws) := by
  refine oKi.ofW (own := RX9) (cc := cX9_firstDayNear) (maxL := 1) (plainFor_of_name (by decide +kernel)) rfl rfl (Nat.le_of_ble_eq_true rfl) (fun p e s m args below meth cd A ls Z hx hb hml hown hts hret ho hl => ?_)
  replace hl : lv_has ls 1 [(0, .int v0)] := hl
  have hk63 := hts (.constant RX9 63 576720) (by decide +kernel)
  unfold p_Tn_firstDayNear at hp
  refine lv_iload_n hx hb dX9_firstDayNear_0 rfl (lv_at hl 0 rfl) ?_
  refine lv_sipush (v := (-720)) hx hb dX9_firstDayNear_1 (by decide) ?_
  refine lv_icmp_lt (tgt := 13) hx hb dX9_firstDayNear_4 (by decide) (fun c_4 => ?_) (fun c_4 => ?_)
  · replace hp := hp.1 c_4
    refine lv_sipush (v := 400) hx hb dX9_firstDayNear_13 (by decide) ?_
    exact hret 400 () _ _ _ _ dX9_firstDayNear_16 ho hp
  · replace hp := hp.2 c_4
    refine lv_iload_n hx hb dX9_firstDayNear_7 rfl (lv_at hl 0 rfl) ?_
    refine lv_ldc (v := 576720) hx hb hown hk63 dX9_firstDayNear_8 ?_
    refine lv_icmp_lt (tgt := 17) hx hb dX9_firstDayNear_10 (by decide) (fun c_10 => ?_) (fun c_10 => ?_)
    · replace hp := hp.1 c_10
      refine lv_iload_n hx hb dX9_firstDayNear_17 rfl (lv_at hl 0 rfl) ?_
      refine lv_sipush (v := 720) hx hb dX9_firstDayNear_18 (by decide) ?_
      refine lv_isub hx hb dX9_firstDayNear_21 ?_
      refine lv_sipush (v := 1440) hx hb dX9_firstDayNear_22 (by decide) ?_
      refine o_callSi (rest := []) ⟨hx, hb, hml, hown, hts⟩ ho (c_Jm_floorDiv l D tys ws (v0 - 720) 1440 _ hp) (va_cwS 2 hts gX9_firstDayNear_J9_floorDiv_7cf53 rfl rfl rfl (by decide +kernel) ⟨(Nat.le_of_ble_eq_true rfl), (Nat.le_of_ble_eq_true rfl)⟩) rfl hl.1 rfl (Nat.le_of_ble_eq_true rfl) dX9_firstDayNear_25 ⟨Nat.zero_le _, Nat.zero_le _⟩ (fun r25 u H locs hp ho => ?_)
      try dsimp only at hp
      replace ho : oW D tys A s.heap s ws H locs := ho
      exact hret r25 () _ _ _ _ dX9_firstDayNear_28 ho hp
    · replace hp := hp.2 c_10
      refine lv_sipush (v := 400) hx hb dX9_firstDayNear_13 (by decide) ?_
      exact hret 400 () _ _ _ _ dX9_firstDayNear_16 ho hp
set_option maxHeartbeats 4000000 in
set_option maxRecDepth 100000 in
theorem c_Tn_minuteShowing (l : Launch) (D : va_G) (q : Nat → Nat) (c : Nat → ClassId) (tnN : Int32) (ckN : Int32) (stN : Int32) (trN : Int32) (dsT : Int32) (dsC : Int32) (tpN : Int32) (lwN : Int32) (rdS : Int32) (rdM : Int32) (rdE : Int32) (rdD : Int32) (twN : Int32) (rsW : Int32) (rsE : Int32) (rwN : Int32) (suns : Nat → Int32) (ckT : Nat → Int32) (ckD : Nat → Int32) (shf : Nat → Int32) (lnT : Nat → Int32) (ways : Nat → Int32) (ups : Nat → Int32) (sts : Nat → Int32) (sty : Nat → Int32) (dly : Nat → Int32) (gAp : Nat → Nat → Int32) (gOp : Nat → Nat → Int32) (stp : Nat → Int32) (bst : Nat → Int32) (sgn : Nat → Int32) (lwT : Nat → Int32) (lwD : Nat → Int32) (rdT : Nat → Int32) (rdO : Nat → Int32) (lwK : Nat → Int32) (lwM : Nat → Int32) (twS : Nat → Int32) (twM : Nat → Int32) (twD : Nat → Int32) (rsO : Nat → Int32) (rsB : Nat → Int32) (rwA : Nat → Int32) (v1 : Int32) (v2 : Int32) (v3 : Int32) (Q : Int32 → Prop) (hp : p_Tn_minuteShowing tnN ckN suns ckT ckD shf v1 v2 v3 Q) : oKi l yX9_minuteShowing wsX9_minuteShowing { frames := 3, cells := 0, slots := 0, locals := 65 } [.ref (q 1), .int v1, .int v2, .int v3] D (oT c) (wO q c tnN ckN stN trN dsT dsC tpN lwN rdS rdM rdE rdD twN rsW rsE rwN suns ckT ckD shf lnT ways ups sts sty dly gAp gOp stp bst sgn lwT lwD rdT rdO lwK lwM twS twM twD rsO rsB rwA) (Unit) (fun r (_ : Unit) => Q r) (fun _ => wO q c tnN ckN stN trN dsT dsC tpN lwN rdS rdM rdE rdD twN rsW rsE rwN suns ckT ckD shf lnT ways ups sts sty dly gAp gOp stp bst sgn lwT lwD rdT rdO lwK lwM twS twM twD rsO rsB rwA) := by
  refine oKi.ofW (own := RX9) (cc := cX9_minuteShowing) (maxL := 5) (plainFor_of_name (by decide +kernel)) rfl rfl (Nat.le_of_ble_eq_true rfl) (fun p e s m args below meth cd A ls Z hx hb hml hown hts hret ho hl => ?_)
  replace hl : lv_has ls 5 [(0, .ref (q 1)), (1, .int v1), (2, .int v2), (3, .int v3)] := hl
  have hN := ho.2.1
  unfold p_Tn_minuteShowing at hp
  refine lv_iload_n hx hb dX9_minuteShowing_0 rfl (lv_at hl 2 rfl) ?_
  refine o_callSNi (rest := []) (host := RX10) ⟨hx, hb, hml, hown, hts⟩ ho (c_O_isDay l D (oT c) (wO q c tnN ckN stN trN dsT dsC tpN lwN rdS rdM rdE rdD twN rsW rsE rwN suns ckT ckD shf lnT ways ups sts sty dly gAp gOp stp bst sgn lwT lwD rdT rdO lwK lwM twS twM twD rsO rsB rwA) v2 _ hp) ⟨va_cnB 1 hts gX9_minuteShowing_X10_isDay_n64 rfl rfl rfl hN.1 (hts (.initialized RX10) (by decide +kernel)) (by decide +kernel) ⟨(Nat.le_of_ble_eq_true rfl), (Nat.le_of_ble_eq_true rfl)⟩, hts (.static yX10_isDay) (by decide +kernel), trivial⟩ rfl hl.1 rfl (Nat.le_of_ble_eq_true rfl) dX9_minuteShowing_1 ⟨Nat.zero_le _, Nat.zero_le _⟩ (fun r1 u H locs hp ho => ?_)
  try dsimp only at hp
  replace ho : oW D (oT c) A s.heap s (wO q c tnN ckN stN trN dsT dsC tpN lwN rdS rdM rdE rdD twN rsW rsE rwN suns ckT ckD shf lnT ways ups sts sty dly gAp gOp stp bst sgn lwT lwD rdT rdO lwK lwM twS twM twD rsO rsB rwA) H locs := ho
  refine lv_if_ne (tgt := 9) hx hb dX9_minuteShowing_4 (by decide) (fun c_4 => ?_) (fun c_4 => ?_)
  · replace hp := hp.2 c_4
    refine lv_iload_n hx hb dX9_minuteShowing_9 rfl (lv_at hl 3 rfl) ?_
    refine lv_aload_n hx hb dX9_minuteShowing_10 rfl (lv_at hl 0 rfl) ?_
    refine lv_iload_n hx hb dX9_minuteShowing_11 rfl (lv_at hl 1 rfl) ?_
    refine lv_iload_n hx hb dX9_minuteShowing_12 rfl (lv_at hl 2 rfl) ?_
    refine o_callVi (rest := [.int v3]) (ci := 9) ⟨hx, hb, hml, hown, hts⟩ ho (c_Tn_shiftOn l D q c tnN ckN stN trN dsT dsC tpN lwN rdS rdM rdE rdD twN rsW rsE rwN suns ckT ckD shf lnT ways ups sts sty dly gAp gOp stp bst sgn lwT lwD rdT rdO lwK lwM twS twM twD rsO rsB rwA v1 v2 _ hp) (cwV 2 hts gX9_minuteShowing_X9_shiftOn rfl rfl rfl (by decide +kernel) ⟨(Nat.le_of_ble_eq_true rfl), (Nat.le_of_ble_eq_true rfl)⟩) 1 rfl rfl rfl hl.1 rfl (Nat.le_of_ble_eq_true rfl) dX9_minuteShowing_13 ⟨Nat.zero_le _, Nat.zero_le _⟩ (fun r13 u H locs hp ho => ?_)
    try dsimp only at hp
    replace ho : oW D (oT c) A s.heap s (wO q c tnN ckN stN trN dsT dsC tpN lwN rdS rdM rdE rdD twN rsW rsE rwN suns ckT ckD shf lnT ways ups sts sty dly gAp gOp stp bst sgn lwT lwD rdT rdO lwK lwM twS twM twD rsO rsB rwA) H locs := ho
    refine lv_isub hx hb dX9_minuteShowing_16 ?_
    refine lv_topi (fun x17 e_x17 => ?_)
    replace hp := hp x17 e_x17
    refine lv_istore (lv' := [(4, .int x17), (0, .ref (q 1)), (1, .int v1), (2, .int v2), (3, .int v3)]) hx hb dX9_minuteShowing_17 hl (by decide) rfl (fun ls hl => ?_)
    refine lv_iload hx hb dX9_minuteShowing_19 (lv_at hl 0 rfl) ?_
    refine lv_sipush (v := 1440) hx hb dX9_minuteShowing_21 (by decide) ?_
    refine o_callSi (rest := []) ⟨hx, hb, hml, hown, hts⟩ ho (c_Jm_floorDiv l D (oT c) (wO q c tnN ckN stN trN dsT dsC tpN lwN rdS rdM rdE rdD twN rsW rsE rwN suns ckT ckD shf lnT ways ups sts sty dly gAp gOp stp bst sgn lwT lwD rdT rdO lwK lwM twS twM twD rsO rsB rwA) x17 1440 _ hp) (va_cwS 2 hts gX9_minuteShowing_J9_floorDiv_7cf53 rfl rfl rfl (by decide +kernel) ⟨(Nat.le_of_ble_eq_true rfl), (Nat.le_of_ble_eq_true rfl)⟩) rfl hl.1 rfl (Nat.le_of_ble_eq_true rfl) dX9_minuteShowing_24 ⟨Nat.zero_le _, Nat.zero_le _⟩ (fun r24 u H locs hp ho => ?_)
    try dsimp only at hp
    replace ho : oW D (oT c) A s.heap s (wO q c tnN ckN stN trN dsT dsC tpN lwN rdS rdM rdE rdD twN rsW rsE rwN suns ckT ckD shf lnT ways ups sts sty dly gAp gOp stp bst sgn lwT lwD rdT rdO lwK lwM twS twM twD rsO rsB rwA) H locs := ho
    refine lv_iload_n hx hb dX9_minuteShowing_27 rfl (lv_at hl 3 rfl) ?_
    refine lv_icmp_ne (tgt := 36) hx hb dX9_minuteShowing_28 (by decide) (fun c_28 => ?_) (fun c_28 => ?_)
    · replace hp := hp.2 c_28
      refine lv_iconst (v := (-1)) hx hb dX9_minuteShowing_36 (by decide) ?_
      exact hret (-1) () _ _ _ _ dX9_minuteShowing_37 ho hp
    · replace hp := hp.1 c_28
      refine lv_iload hx hb dX9_minuteShowing_31 (lv_at hl 0 rfl) ?_
      refine lv_goto (tgt := 37) hx hb dX9_minuteShowing_33 (by decide) ?_
      exact hret x17 () _ _ _ _ dX9_minuteShowing_37 ho hp
  · replace hp := hp.1 c_4
    refine lv_iconst (v := (-1)) hx hb dX9_minuteShowing_7 (by decide) ?_
    exact hret (-1) () _ _ _ _ dX9_minuteShowing_8 ho hp
set_option maxHeartbeats 4000000 in
set_option maxRecDepth 100000 in
theorem c_Tn_firstShowing (l : Launch) (D : va_G) (q : Nat → Nat) (c : Nat → ClassId) (tnN : Int32) (ckN : Int32) (stN : Int32) (trN : Int32) (dsT : Int32) (dsC : Int32) (tpN : Int32) (lwN : Int32) (rdS : Int32) (rdM : Int32) (rdE : Int32) (rdD : Int32) (twN : Int32) (rsW : Int32) (rsE : Int32) (rwN : Int32) (suns : Nat → Int32) (ckT : Nat → Int32) (ckD : Nat → Int32) (shf : Nat → Int32) (lnT : Nat → Int32) (ways : Nat → Int32) (ups : Nat → Int32) (sts : Nat → Int32) (sty : Nat → Int32) (dly : Nat → Int32) (gAp : Nat → Nat → Int32) (gOp : Nat → Nat → Int32) (stp : Nat → Int32) (bst : Nat → Int32) (sgn : Nat → Int32) (lwT : Nat → Int32) (lwD : Nat → Int32) (rdT : Nat → Int32) (rdO : Nat → Int32) (lwK : Nat → Int32) (lwM : Nat → Int32) (twS : Nat → Int32) (twM : Nat → Int32) (twD : Nat → Int32) (rsO : Nat → Int32) (rsB : Nat → Int32) (rwA : Nat → Int32) (v1 : Int32) (v2 : Int32) (Q : Int32 → Prop) (hp : p_Tn_firstShowing tnN ckN suns ckT ckD shf v1 v2 Q) : oKi l yX9_firstShowing wsX9_firstShowing { frames := 4, cells := 0, slots := 0, locals := 89 } [.ref (q 1), .int v1, .int v2] D (oT c) (wO q c tnN ckN stN trN dsT dsC tpN lwN rdS rdM rdE rdD twN rsW rsE rwN suns ckT ckD shf lnT ways ups sts sty dly gAp gOp stp bst sgn lwT lwD rdT rdO lwK lwM twS twM twD rsO rsB rwA) (Unit) (fun r (_ : Unit) => Q r) (fun _ => wO q c tnN ckN stN trN dsT dsC tpN lwN rdS rdM rdE rdD twN rsW rsE rwN suns ckT ckD shf lnT ways ups sts sty dly gAp gOp stp bst sgn lwT lwD rdT rdO lwK lwM twS twM twD rsO rsB rwA) := by
  refine oKi.ofW (own := RX9) (cc := cX9_firstShowing) (maxL := 5) (plainFor_of_name (by decide +kernel)) rfl rfl (Nat.le_of_ble_eq_true rfl) (fun p e s m args below meth cd A ls Z hx hb hml hown hts hret ho hl => ?_)
  replace hl : lv_has ls 5 [(0, .ref (q 1)), (1, .int v1), (2, .int v2)] := hl
  unfold p_Tn_firstShowing at hp
  refine lv_iload_n hx hb dX9_firstShowing_0 rfl (lv_at hl 2 rfl) ?_
  refine o_callSi (rest := []) ⟨hx, hb, hml, hown, hts⟩ ho (c_Tn_firstDayNear l D (oT c) (wO q c tnN ckN stN trN dsT dsC tpN lwN rdS rdM rdE rdD twN rsW rsE rwN suns ckT ckD shf lnT ways ups sts sty dly gAp gOp stp bst sgn lwT lwD rdT rdO lwK lwM twS twM twD rsO rsB rwA) v2 _ hp) (va_cwS 1 hts gX9_firstShowing_X9_firstDayNear rfl rfl rfl (by decide +kernel) ⟨(Nat.le_of_ble_eq_true rfl), (Nat.le_of_ble_eq_true rfl)⟩) rfl hl.1 rfl (Nat.le_of_ble_eq_true rfl) dX9_firstShowing_1 ⟨Nat.zero_le _, Nat.zero_le _⟩ (fun r1 u H locs hp ho => ?_)
  try dsimp only at hp
  replace ho : oW D (oT c) A s.heap s (wO q c tnN ckN stN trN dsT dsC tpN lwN rdS rdM rdE rdD twN rsW rsE rwN suns ckT ckD shf lnT ways ups sts sty dly gAp gOp stp bst sgn lwT lwD rdT rdO lwK lwM twS twM twD rsO rsB rwA) H locs := ho
  refine lv_istore_n (lv' := [(3, .int r1), (0, .ref (q 1)), (1, .int v1), (2, .int v2)]) hx hb dX9_firstShowing_4 rfl hl (by decide) rfl (fun ls hl => ?_)
  refine lv_aload_n hx hb dX9_firstShowing_5 rfl (lv_at hl 1 rfl) ?_
  refine lv_iload_n hx hb dX9_firstShowing_6 rfl (lv_at hl 2 rfl) ?_
  refine lv_iload_n hx hb dX9_firstShowing_7 rfl (lv_at hl 0 rfl) ?_
  refine lv_iload_n hx hb dX9_firstShowing_8 rfl (lv_at hl 3 rfl) ?_
  refine o_callVi (rest := []) (ci := 9) ⟨hx, hb, hml, hown, hts⟩ ho (c_Tn_minuteShowing l D q c tnN ckN stN trN dsT dsC tpN lwN rdS rdM rdE rdD twN rsW rsE rwN suns ckT ckD shf lnT ways ups sts sty dly gAp gOp stp bst sgn lwT lwD rdT rdO lwK lwM twS twM twD rsO rsB rwA v1 r1 v2 _ hp) (cwV 3 hts gX9_firstShowing_X9_minuteShowing rfl rfl rfl (by decide +kernel) ⟨(Nat.le_of_ble_eq_true rfl), (Nat.le_of_ble_eq_true rfl)⟩) 1 rfl rfl rfl hl.1 rfl (Nat.le_of_ble_eq_true rfl) dX9_firstShowing_9 ⟨Nat.zero_le _, Nat.zero_le _⟩ (fun r9 u H locs hp ho => ?_)
  try dsimp only at hp
  replace ho : oW D (oT c) A s.heap s (wO q c tnN ckN stN trN dsT dsC tpN lwN rdS rdM rdE rdD twN rsW rsE rwN suns ckT ckD shf lnT ways ups sts sty dly gAp gOp stp bst sgn lwT lwD rdT rdO lwK lwM twS twM twD rsO rsB rwA) H locs := ho
  refine lv_istore (lv' := [(4, .int r9), (3, .int r1), (0, .ref (q 1)), (1, .int v1), (2, .int v2)]) hx hb dX9_firstShowing_12 hl (by decide) rfl (fun ls hl => ?_)
  refine lv_iload hx hb dX9_firstShowing_14 (lv_at hl 0 rfl) ?_
  refine lv_iconst (v := (-1)) hx hb dX9_firstShowing_16 (by decide) ?_
  refine lv_icmp_eq (tgt := 25) hx hb dX9_firstShowing_17 (by decide) (fun c_17 => ?_) (fun c_17 => ?_)
  · replace hp := hp.1 c_17
    refine lv_aload_n hx hb dX9_firstShowing_25 rfl (lv_at hl 2 rfl) ?_
    refine lv_iload_n hx hb dX9_firstShowing_26 rfl (lv_at hl 3 rfl) ?_
    refine lv_iload_n hx hb dX9_firstShowing_27 rfl (lv_at hl 1 rfl) ?_
    refine lv_iconst (v := 1) hx hb dX9_firstShowing_28 (by decide) ?_
    refine lv_iadd hx hb dX9_firstShowing_29 ?_
    refine lv_iload_n hx hb dX9_firstShowing_30 rfl (lv_at hl 4 rfl) ?_
    refine o_callVi (rest := []) (ci := 9) ⟨hx, hb, hml, hown, hts⟩ ho (c_Tn_minuteShowing l D q c tnN ckN stN trN dsT dsC tpN lwN rdS rdM rdE rdD twN rsW rsE rwN suns ckT ckD shf lnT ways ups sts sty dly gAp gOp stp bst sgn lwT lwD rdT rdO lwK lwM twS twM twD rsO rsB rwA v1 (r1 + 1) v2 _ hp) (cwV 3 hts gX9_firstShowing_X9_minuteShowing rfl rfl rfl (by decide +kernel) ⟨(Nat.le_of_ble_eq_true rfl), (Nat.le_of_ble_eq_true rfl)⟩) 1 rfl rfl rfl hl.1 rfl (Nat.le_of_ble_eq_true rfl) dX9_firstShowing_31 ⟨Nat.zero_le _, Nat.zero_le _⟩ (fun r31 u H locs hp ho => ?_)
    try dsimp only at hp
    replace ho : oW D (oT c) A s.heap s (wO q c tnN ckN stN trN dsT dsC tpN lwN rdS rdM rdE rdD twN rsW rsE rwN suns ckT ckD shf lnT ways ups sts sty dly gAp gOp stp bst sgn lwT lwD rdT rdO lwK lwM twS twM twD rsO rsB rwA) H locs := ho
    exact hret r31 () _ _ _ _ dX9_firstShowing_34 ho hp
  · replace hp := hp.2 c_17
    refine lv_iload hx hb dX9_firstShowing_20 (lv_at hl 0 rfl) ?_
    refine lv_goto (tgt := 34) hx hb dX9_firstShowing_22 (by decide) ?_
    exact hret r9 () _ _ _ _ dX9_firstShowing_34 ho hp
set_option maxHeartbeats 4000000 in
set_option maxRecDepth 100000 in
theorem c_Tn_daysUnlike (l : Launch) (D : va_G) (q : Nat → Nat) (c : Nat → ClassId) (tnN : Int32) (ckN : Int32) (stN : Int32) (trN : Int32) (dsT : Int32) (dsC : Int32) (tpN : Int32) (lwN : Int32) (rdS : Int32) (rdM : Int32) (rdE : Int32) (rdD : Int32) (twN : Int32) (rsW : Int32) (rsE : Int32) (rwN : Int32) (suns : Nat → Int32) (ckT : Nat → Int32) (ckD : Nat → Int32) (shf : Nat → Int32) (lnT : Nat → Int32) (ways : Nat → Int32) (ups : Nat → Int32) (sts : Nat → Int32) (sty : Nat → Int32) (dly : Nat → Int32) (gAp : Nat → Nat → Int32) (gOp : Nat → Nat → Int32) (stp : Nat → Int32) (bst : Nat → Int32) (sgn : Nat → Int32) (lwT : Nat → Int32) (lwD : Nat → Int32) (rdT : Nat → Int32) (rdO : Nat → Int32) (lwK : Nat → Int32) (lwM : Nat → Int32) (twS : Nat → Int32) (twM : Nat → Int32) (twD : Nat → Int32) (rsO : Nat → Int32) (rsB : Nat → Int32) (rwA : Nat → Int32) (v1 : Int32) (v2 : Int32) (Q : Int32 → Prop) (hp : p_Tn_daysUnlike tnN ckN suns ckT ckD shf v1 v2 Q) : oKi l yX9_daysUnlike wsX9_daysUnlike { frames := 3, cells := 0, slots := 0, locals := 65 } [.ref (q 1), .int v1, .int v2] D (oT c) (wO q c tnN ckN stN trN dsT dsC tpN lwN rdS rdM rdE rdD twN rsW rsE rwN suns ckT ckD shf lnT ways ups sts sty dly gAp gOp stp bst sgn lwT lwD rdT rdO lwK lwM twS twM twD rsO rsB rwA) (Unit) (fun r (_ : Unit) => Q r) (fun _ => wO q c tnN ckN stN trN dsT dsC tpN lwN rdS rdM rdE rdD twN rsW rsE rwN suns ckT ckD shf lnT ways ups sts sty dly gAp gOp stp bst sgn lwT lwD rdT rdO lwK lwM twS twM twD rsO rsB rwA) := by
  refine oKi.ofW (own := RX9) (cc := cX9_daysUnlike) (maxL := 7) (plainFor_of_name (by decide +kernel)) rfl rfl (Nat.le_of_ble_eq_true rfl) (fun p e s m args below meth cd A ls Z hx hb hml hown hts hret ho hl => ?_)
  replace hl : lv_has ls 7 [(0, .ref (q 1)), (1, .int v1), (2, .int v2)] := hl
  have hinX9 : ∀ w ∈ u_ws RX9 TX9 4, w ∈ wsX9_daysUnlike := by decide +kernel
  have hf24 := hts (.fieldLink RX9 24 "OneTime$Towns" "clocks" "LOneTime$Since;") (by decide +kernel)
  unfold p_Tn_daysUnlike at hp
  have hL8 : ∀ (v1 : Int32) (v2 : Int32) (v3 : Int32) (v4 : Int32) (v5 : Int32), Lp3 (p_Tn_daysUnlike_L8 tnN ckN suns ckT ckD shf v1 v2 Q) v3 v4 v5 → ∀ (H : Heap) (locs : List Loc) (ls : Array Slot), oW D (oT c) A s.heap s (wO q c tnN ckN stN trN dsT dsC tpN lwN rdS rdM rdE rdD twN rsW rsE rwN suns ckT ckD shf lnT ways ups sts sty dly gAp gOp stp bst sgn lwT lwD rdT rdO lwK lwM twS twM twD rsO rsB rwA) H locs → lv_has ls 7 [(0, .ref (q 1)), (1, .int v1), (2, .int v2), (3, .int v3), (4, .int v4), (5, .int v5)] → W p l e { frames := 3, cells := 0, slots := 0, locals := 65 } s m args below meth cd H locs 0 0 Z (F0 m 8 ls []) := by
    intro v1 v2
    refine Lp3.ind (fun rec hrec v3 v4 v5 hp H locs ls ho hl => ?_)
    unfold p_Tn_daysUnlike_L8 at hp
    refine lv_iload hx hb dX9_daysUnlike_8 (lv_at hl 5 rfl) ?_
    refine lv_sipush (v := 400) hx hb dX9_daysUnlike_10 (by decide) ?_
    refine lv_icmp_ge (tgt := 84) hx hb dX9_daysUnlike_13 (by decide) (fun c_13 => ?_) (fun c_13 => ?_)
    · replace hp := hp.1 c_13
      refine lv_iload_n hx hb dX9_daysUnlike_84 rfl (lv_at hl 3 rfl) ?_
      exact hret v3 () _ _ _ _ dX9_daysUnlike_85 ho hp
    · replace hp := hp.2 c_13
      refine lv_iload hx hb dX9_daysUnlike_16 (lv_at hl 4 rfl) ?_
      refine lv_sipush (v := 400) hx hb dX9_daysUnlike_18 (by decide) ?_
      refine lv_icmp_ge (tgt := 84) hx hb dX9_daysUnlike_21 (by decide) (fun c_21 => ?_) (fun c_21 => ?_)
      · replace hp := hp.1 c_21
        refine lv_iload_n hx hb dX9_daysUnlike_84 rfl (lv_at hl 3 rfl) ?_
        exact hret v3 () _ _ _ _ dX9_daysUnlike_85 ho hp
      · replace hp := hp.2 c_21
        refine lv_aload_n hx hb dX9_daysUnlike_24 rfl (lv_at hl 0 rfl) ?_
        refine o_get (ci := 9) (T := TX9) hx hb hts hinX9 hown ho 1 rfl rfl 2 (by decide) hf24 rfl dX9_daysUnlike_25 ?_
        refine lv_iload_n hx hb dX9_daysUnlike_28 rfl (lv_at hl 1 rfl) ?_
        refine lv_iload hx hb dX9_daysUnlike_29 (lv_at hl 4 rfl) ?_
        refine o_callVi (rest := []) (ci := 6) ⟨hx, hb, hml, hown, hts⟩ ho (c_Si_nextDay_c l D q c tnN ckN stN trN dsT dsC tpN lwN rdS rdM rdE rdD twN rsW rsE rwN suns ckT ckD shf lnT ways ups sts sty dly gAp gOp stp bst sgn lwT lwD rdT rdO lwK lwM twS twM twD rsO rsB rwA v1 v4 _ hp) (cwV 2 hts gX9_daysUnlike_X6_nextDay rfl rfl rfl (by decide +kernel) ⟨(Nat.le_of_ble_eq_true rfl), (Nat.le_of_ble_eq_true rfl)⟩) 3 rfl rfl rfl hl.1 rfl (Nat.le_of_ble_eq_true rfl) dX9_daysUnlike_31 ⟨Nat.zero_le _, Nat.zero_le _⟩ (fun r31 u H locs hp ho => ?_)
        try dsimp only at hp
        replace ho : oW D (oT c) A s.heap s (wO q c tnN ckN stN trN dsT dsC tpN lwN rdS rdM rdE rdD twN rsW rsE rwN suns ckT ckD shf lnT ways ups sts sty dly gAp gOp stp bst sgn lwT lwD rdT rdO lwK lwM twS twM twD rsO rsB rwA) H locs := ho
        refine lv_aload_n hx hb dX9_daysUnlike_34 rfl (lv_at hl 0 rfl) ?_
        refine o_get (ci := 9) (T := TX9) hx hb hts hinX9 hown ho 1 rfl rfl 2 (by decide) hf24 rfl dX9_daysUnlike_35 ?_
        refine lv_iload_n hx hb dX9_daysUnlike_38 rfl (lv_at hl 2 rfl) ?_
        refine lv_iload hx hb dX9_daysUnlike_39 (lv_at hl 4 rfl) ?_
        refine o_callVi (rest := [.int r31]) (ci := 6) ⟨hx, hb, hml, hown, hts⟩ ho (c_Si_nextDay_c l D q c tnN ckN stN trN dsT dsC tpN lwN rdS rdM rdE rdD twN rsW rsE rwN suns ckT ckD shf lnT ways ups sts sty dly gAp gOp stp bst sgn lwT lwD rdT rdO lwK lwM twS twM twD rsO rsB rwA v2 v4 _ hp) (cwV 2 hts gX9_daysUnlike_X6_nextDay rfl rfl rfl (by decide +kernel) ⟨(Nat.le_of_ble_eq_true rfl), (Nat.le_of_ble_eq_true rfl)⟩) 3 rfl rfl rfl hl.1 rfl (Nat.le_of_ble_eq_true rfl) dX9_daysUnlike_41 ⟨Nat.zero_le _, Nat.zero_le _⟩ (fun r41 u H locs hp ho => ?_)
        try dsimp only at hp
        replace ho : oW D (oT c) A s.heap s (wO q c tnN ckN stN trN dsT dsC tpN lwN rdS rdM rdE rdD twN rsW rsE rwN suns ckT ckD shf lnT ways ups sts sty dly gAp gOp stp bst sgn lwT lwD rdT rdO lwK lwM twS twM twD rsO rsB rwA) H locs := ho
        refine va_mmin hx hb (hml.trans hl.1.symm) hown (hts (.methodLink RX9 77 Lib.Math.min.name) (by decide +kernel)) (hts (.static Lib.Math.min.name) (by decide +kernel)) (hts (.initialized "java/lang/Math") (by decide +kernel)) (hts (.code Lib.Math.min.name Lib.Math.min.code 2 (some .int)) (by decide +kernel)) (Nat.le_of_ble_eq_true rfl) (Nat.le_of_ble_eq_true rfl) (Nat.zero_le _) (Nat.zero_le _) dX9_daysUnlike_44 ?_
        refine lv_topi (fun x47 e_x47 => ?_)
        replace hp := hp x47 e_x47
        refine lv_istore (lv' := [(6, .int x47), (0, .ref (q 1)), (1, .int v1), (2, .int v2), (3, .int v3), (4, .int v4), (5, .int v5)]) hx hb dX9_daysUnlike_47 hl (by decide) rfl (fun ls hl => ?_)
        refine lv_aload_n hx hb dX9_daysUnlike_49 rfl (lv_at hl 1 rfl) ?_
        refine lv_iload_n hx hb dX9_daysUnlike_50 rfl (lv_at hl 2 rfl) ?_
        refine lv_iload hx hb dX9_daysUnlike_51 (lv_at hl 5 rfl) ?_
        refine o_callVi (rest := []) (ci := 9) ⟨hx, hb, hml, hown, hts⟩ ho (c_Tn_shiftOn l D q c tnN ckN stN trN dsT dsC tpN lwN rdS rdM rdE rdD twN rsW rsE rwN suns ckT ckD shf lnT ways ups sts sty dly gAp gOp stp bst sgn lwT lwD rdT rdO lwK lwM twS twM twD rsO rsB rwA v1 v4 _ hp) (cwV 2 hts gX9_daysUnlike_X9_shiftOn rfl rfl rfl (by decide +kernel) ⟨(Nat.le_of_ble_eq_true rfl), (Nat.le_of_ble_eq_true rfl)⟩) 1 rfl rfl rfl hl.1 rfl (Nat.le_of_ble_eq_true rfl) dX9_daysUnlike_53 ⟨Nat.zero_le _, Nat.zero_le _⟩ (fun r53 u H locs hp ho => ?_)
        try dsimp only at hp
        replace ho : oW D (oT c) A s.heap s (wO q c tnN ckN stN trN dsT dsC tpN lwN rdS rdM rdE rdD twN rsW rsE rwN suns ckT ckD shf lnT ways ups sts sty dly gAp gOp stp bst sgn lwT lwD rdT rdO lwK lwM twS twM twD rsO rsB rwA) H locs := ho
        refine lv_aload_n hx hb dX9_daysUnlike_56 rfl (lv_at hl 1 rfl) ?_
        refine lv_iload_n hx hb dX9_daysUnlike_57 rfl (lv_at hl 3 rfl) ?_
        refine lv_iload hx hb dX9_daysUnlike_58 (lv_at hl 5 rfl) ?_
        refine o_callVi (rest := [.int r53]) (ci := 9) ⟨hx, hb, hml, hown, hts⟩ ho (c_Tn_shiftOn l D q c tnN ckN stN trN dsT dsC tpN lwN rdS rdM rdE rdD twN rsW rsE rwN suns ckT ckD shf lnT ways ups sts sty dly gAp gOp stp bst sgn lwT lwD rdT rdO lwK lwM twS twM twD rsO rsB rwA v2 v4 _ hp) (cwV 2 hts gX9_daysUnlike_X9_shiftOn rfl rfl rfl (by decide +kernel) ⟨(Nat.le_of_ble_eq_true rfl), (Nat.le_of_ble_eq_true rfl)⟩) 1 rfl rfl rfl hl.1 rfl (Nat.le_of_ble_eq_true rfl) dX9_daysUnlike_60 ⟨Nat.zero_le _, Nat.zero_le _⟩ (fun r60 u H locs hp ho => ?_)
        try dsimp only at hp
        replace ho : oW D (oT c) A s.heap s (wO q c tnN ckN stN trN dsT dsC tpN lwN rdS rdM rdE rdD twN rsW rsE rwN suns ckT ckD shf lnT ways ups sts sty dly gAp gOp stp bst sgn lwT lwD rdT rdO lwK lwM twS twM twD rsO rsB rwA) H locs := ho
        refine lv_icmp_eq (tgt := 74) hx hb dX9_daysUnlike_63 (by decide) (fun c_63 => ?_) (fun c_63 => ?_)
        · replace hp := hp.1 c_63
          refine lv_iload hx hb dX9_daysUnlike_74 (lv_at hl 0 rfl) ?_
          refine lv_istore (lv' := [(4, .int x47), (6, .int x47), (0, .ref (q 1)), (1, .int v1), (2, .int v2), (3, .int v3), (5, .int v5)]) hx hb dX9_daysUnlike_76 hl (by decide) rfl (fun ls hl => ?_)
          obtain ⟨x78, e_x78⟩ : ∃ y : Int32, y = v5 + 1 := ⟨_, rfl⟩
          replace hp := hp x78 e_x78
          refine lv_iinc (v := x78) (lv' := [(5, .int x78), (4, .int x47), (6, .int x47), (0, .ref (q 1)), (1, .int v1), (2, .int v2), (3, .int v3)]) hx hb dX9_daysUnlike_78 hl (k := 6) rfl (by rw [e_x78]; rfl) (by decide) rfl (fun ls hl => ?_)
          refine lv_goto (tgt := 8) hx hb dX9_daysUnlike_81 (by decide) ?_
          exact hrec v3 x47 x78 hp _ _ _ ho (lv_sub hl [3, 4, 5, 6, 1, 0] rfl)
        · replace hp := hp.2 c_63
          refine lv_iload_n hx hb dX9_daysUnlike_66 rfl (lv_at hl 4 rfl) ?_
          refine lv_iload hx hb dX9_daysUnlike_67 (lv_at hl 0 rfl) ?_
          refine lv_iload hx hb dX9_daysUnlike_69 (lv_at hl 5 rfl) ?_
          refine lv_isub hx hb dX9_daysUnlike_71 ?_
          refine lv_iadd hx hb dX9_daysUnlike_72 ?_
          refine lv_topi (fun x73 e_x73 => ?_)
          replace hp := hp x73 e_x73
          refine lv_istore_n (lv' := [(3, .int x73), (6, .int x47), (0, .ref (q 1)), (1, .int v1), (2, .int v2), (4, .int v4), (5, .int v5)]) hx hb dX9_daysUnlike_73 rfl hl (by decide) rfl (fun ls hl => ?_)
          refine lv_iload hx hb dX9_daysUnlike_74 (lv_at hl 1 rfl) ?_
          refine lv_istore (lv' := [(4, .int x47), (3, .int x73), (6, .int x47), (0, .ref (q 1)), (1, .int v1), (2, .int v2), (5, .int v5)]) hx hb dX9_daysUnlike_76 hl (by decide) rfl (fun ls hl => ?_)
          obtain ⟨x78, e_x78⟩ : ∃ y : Int32, y = v5 + 1 := ⟨_, rfl⟩
          replace hp := hp x78 e_x78
          refine lv_iinc (v := x78) (lv' := [(5, .int x78), (4, .int x47), (3, .int x73), (6, .int x47), (0, .ref (q 1)), (1, .int v1), (2, .int v2)]) hx hb dX9_daysUnlike_78 hl (k := 6) rfl (by rw [e_x78]; rfl) (by decide) rfl (fun ls hl => ?_)
          refine lv_goto (tgt := 8) hx hb dX9_daysUnlike_81 (by decide) ?_
          exact hrec x73 x47 x78 hp _ _ _ ho (lv_sub hl [4, 5, 6, 2, 1, 0] rfl)
  refine lv_iconst (v := 0) hx hb dX9_daysUnlike_0 (by decide) ?_
  refine lv_istore_n (lv' := [(3, .int 0), (0, .ref (q 1)), (1, .int v1), (2, .int v2)]) hx hb dX9_daysUnlike_1 rfl hl (by decide) rfl (fun ls hl => ?_)
  refine lv_iconst (v := 0) hx hb dX9_daysUnlike_2 (by decide) ?_
  refine lv_istore (lv' := [(4, .int 0), (3, .int 0), (0, .ref (q 1)), (1, .int v1), (2, .int v2)]) hx hb dX9_daysUnlike_3 hl (by decide) rfl (fun ls hl => ?_)
  refine lv_iconst (v := 0) hx hb dX9_daysUnlike_5 (by decide) ?_
  refine lv_istore (lv' := [(5, .int 0), (4, .int 0), (3, .int 0), (0, .ref (q 1)), (1, .int v1), (2, .int v2)]) hx hb dX9_daysUnlike_6 hl (by decide) rfl (fun ls hl => ?_)
  exact hL8 v1 v2 0 0 0 hp _ _ _ ho (lv_sub hl [3, 4, 5, 2, 1, 0] rfl)
set_option maxHeartbeats 4000000 in
set_option maxRecDepth 100000 in
theorem c_Tn_areAlikeOn (l : Launch) (D : va_G) (q : Nat → Nat) (c : Nat → ClassId) (tnN : Int32) (ckN : Int32) (stN : Int32) (trN : Int32) (dsT : Int32) (dsC : Int32) (tpN : Int32) (lwN : Int32) (rdS : Int32) (rdM : Int32) (rdE : Int32) (rdD : Int32) (twN : Int32) (rsW : Int32) (rsE : Int32) (rwN : Int32) (suns : Nat → Int32) (ckT : Nat → Int32) (ckD : Nat → Int32) (shf : Nat → Int32) (lnT : Nat → Int32) (ways : Nat → Int32) (ups : Nat → Int32) (sts : Nat → Int32) (sty : Nat → Int32) (dly : Nat → Int32) (gAp : Nat → Nat → Int32) (gOp : Nat → Nat → Int32) (stp : Nat → Int32) (bst : Nat → Int32) (sgn : Nat → Int32) (lwT : Nat → Int32) (lwD : Nat → Int32) (rdT : Nat → Int32) (rdO : Nat → Int32) (lwK : Nat → Int32) (lwM : Nat → Int32) (twS : Nat → Int32) (twM : Nat → Int32) (twD : Nat → Int32) (rsO : Nat → Int32) (rsB : Nat → Int32) (rwA : Nat → Int32) (v1 : Int32) (Q : Int32 → Prop) (hp : p_Tn_areAlikeOn tnN ckN suns ckT ckD shf v1 Q) : oKi l yX9_areAlikeOn wsX9_areAlikeOn { frames := 3, cells := 0, slots := 0, locals := 65 } [.ref (q 1), .int v1] D (oT c) (wO q c tnN ckN stN trN dsT dsC tpN lwN rdS rdM rdE rdD twN rsW rsE rwN suns ckT ckD shf lnT ways ups sts sty dly gAp gOp stp bst sgn lwT lwD rdT rdO lwK lwM twS twM twD rsO rsB rwA) (Unit) (fun r (_ : Unit) => Q r) (fun _ => wO q c tnN ckN stN trN dsT dsC tpN lwN rdS rdM rdE rdD twN rsW rsE rwN suns ckT ckD shf lnT ways ups sts sty dly gAp gOp stp bst sgn lwT lwD rdT rdO lwK lwM twS twM twD rsO rsB rwA) := by
  refine oKi.ofWz (own := RX9) (cc := cX9_areAlikeOn) (maxL := 4) (plainFor_of_name (by decide +kernel)) rfl rfl (Nat.le_of_ble_eq_true rfl) (fun p e s m args below meth cd A ls Z hx hb hml hown hts hret ho hl => ?_)
  replace hl : lv_has ls 4 [(0, .ref (q 1)), (1, .int v1)] := hl
  have hinX9 : ∀ w ∈ u_ws RX9 TX9 4, w ∈ wsX9_areAlikeOn := by decide +kernel
  have hf15 := hts (.fieldLink RX9 15 "OneTime$Towns" "size" "I") (by decide +kernel)
  unfold p_Tn_areAlikeOn at hp
  have hL9 : ∀ (v1 : Int32) (v2 : Int32) (v3 : Int32), Lp1 (p_Tn_areAlikeOn_L9 tnN ckN suns ckT ckD shf v1 v2 Q) v3 → ∀ (H : Heap) (locs : List Loc) (ls : Array Slot), oW D (oT c) A s.heap s (wO q c tnN ckN stN trN dsT dsC tpN lwN rdS rdM rdE rdD twN rsW rsE rwN suns ckT ckD shf lnT ways ups sts sty dly gAp gOp stp bst sgn lwT lwD rdT rdO lwK lwM twS twM twD rsO rsB rwA) H locs → lv_has ls 4 [(0, .ref (q 1)), (1, .int v1), (2, .int v2), (3, .int v3)] → W p l e { frames := 3, cells := 0, slots := 0, locals := 65 } s m args below meth cd H locs 0 0 Z (F0 m 9 ls []) := by
    intro v1 v2
    refine Lp1.ind (fun rec hrec v3 hp H locs ls ho hl => ?_)
    unfold p_Tn_areAlikeOn_L9 at hp
    refine lv_iload_n hx hb dX9_areAlikeOn_9 rfl (lv_at hl 3 rfl) ?_
    refine lv_aload_n hx hb dX9_areAlikeOn_10 rfl (lv_at hl 0 rfl) ?_
    refine o_get (ci := 9) (T := TX9) hx hb hts hinX9 hown ho 1 rfl rfl 1 (by decide) hf15 rfl dX9_areAlikeOn_11 ?_
    refine lv_icmp_ge (tgt := 35) hx hb dX9_areAlikeOn_14 (by decide) (fun c_14 => ?_) (fun c_14 => ?_)
    · replace hp := hp.1 c_14
      refine lv_iconst (v := 1) hx hb dX9_areAlikeOn_35 (by decide) ?_
      exact hret 1 () _ _ _ _ dX9_areAlikeOn_36 (Or.inr rfl) ho hp
    · replace hp := hp.2 c_14
      refine lv_aload_n hx hb dX9_areAlikeOn_17 rfl (lv_at hl 0 rfl) ?_
      refine lv_iload_n hx hb dX9_areAlikeOn_18 rfl (lv_at hl 3 rfl) ?_
      refine lv_iload_n hx hb dX9_areAlikeOn_19 rfl (lv_at hl 1 rfl) ?_
      refine o_callVi (rest := []) (ci := 9) ⟨hx, hb, hml, hown, hts⟩ ho (c_Tn_shiftOn l D q c tnN ckN stN trN dsT dsC tpN lwN rdS rdM rdE rdD twN rsW rsE rwN suns ckT ckD shf lnT ways ups sts sty dly gAp gOp stp bst sgn lwT lwD rdT rdO lwK lwM twS twM twD rsO rsB rwA v3 v1 _ hp) (cwV 2 hts gX9_areAlikeOn_X9_shiftOn rfl rfl rfl (by decide +kernel) ⟨(Nat.le_of_ble_eq_true rfl), (Nat.le_of_ble_eq_true rfl)⟩) 1 rfl rfl rfl hl.1 rfl (Nat.le_of_ble_eq_true rfl) dX9_areAlikeOn_20 ⟨Nat.zero_le _, Nat.zero_le _⟩ (fun r20 u H locs hp ho => ?_)
      try dsimp only at hp
      replace ho : oW D (oT c) A s.heap s (wO q c tnN ckN stN trN dsT dsC tpN lwN rdS rdM rdE rdD twN rsW rsE rwN suns ckT ckD shf lnT ways ups sts sty dly gAp gOp stp bst sgn lwT lwD rdT rdO lwK lwM twS twM twD rsO rsB rwA) H locs := ho
      refine lv_iload_n hx hb dX9_areAlikeOn_23 rfl (lv_at hl 2 rfl) ?_
      refine lv_icmp_eq (tgt := 29) hx hb dX9_areAlikeOn_24 (by decide) (fun c_24 => ?_) (fun c_24 => ?_)
      · replace hp := hp.1 c_24
        obtain ⟨x29, e_x29⟩ : ∃ y : Int32, y = v3 + 1 := ⟨_, rfl⟩
        replace hp := hp x29 e_x29
        refine lv_iinc (v := x29) (lv' := [(3, .int x29), (0, .ref (q 1)), (1, .int v1), (2, .int v2)]) hx hb dX9_areAlikeOn_29 hl (k := 3) rfl (by rw [e_x29]; rfl) (by decide) rfl (fun ls hl => ?_)
        refine lv_goto (tgt := 9) hx hb dX9_areAlikeOn_32 (by decide) ?_
        exact hrec x29 hp _ _ _ ho (lv_sub hl [1, 2, 3, 0] rfl)
      · replace hp := hp.2 c_24
        refine lv_iconst (v := 0) hx hb dX9_areAlikeOn_27 (by decide) ?_
        exact hret 0 () _ _ _ _ dX9_areAlikeOn_28 (Or.inl rfl) ho hp
  refine lv_aload_n hx hb dX9_areAlikeOn_0 rfl (lv_at hl 0 rfl) ?_
  refine lv_iconst (v := 0) hx hb dX9_areAlikeOn_1 (by decide) ?_
  refine lv_iload_n hx hb dX9_areAlikeOn_2 rfl (lv_at hl 1 rfl) ?_
  refine o_callVi (rest := []) (ci := 9) ⟨hx, hb, hml, hown, hts⟩ ho (c_Tn_shiftOn l D q c tnN ckN stN trN dsT dsC tpN lwN rdS rdM rdE rdD twN rsW rsE rwN suns ckT ckD shf lnT ways ups sts sty dly gAp gOp stp bst sgn lwT lwD rdT rdO lwK lwM twS twM twD rsO rsB rwA 0 v1 _ hp) (cwV 2 hts gX9_areAlikeOn_X9_shiftOn rfl rfl rfl (by decide +kernel) ⟨(Nat.le_of_ble_eq_true rfl), (Nat.le_of_ble_eq_true rfl)⟩) 1 rfl rfl rfl hl.1 rfl (Nat.le_of_ble_eq_true rfl) dX9_areAlikeOn_3 ⟨Nat.zero_le _, Nat.zero_le _⟩ (fun r3 u H locs hp ho => ?_)
  try dsimp only at hp
  replace ho : oW D (oT c) A s.heap s (wO q c tnN ckN stN trN dsT dsC tpN lwN rdS rdM rdE rdD twN rsW rsE rwN suns ckT ckD shf lnT ways ups sts sty dly gAp gOp stp bst sgn lwT lwD rdT rdO lwK lwM twS twM twD rsO rsB rwA) H locs := ho
  refine lv_istore_n (lv' := [(2, .int r3), (0, .ref (q 1)), (1, .int v1)]) hx hb dX9_areAlikeOn_6 rfl hl (by decide) rfl (fun ls hl => ?_)
  refine lv_iconst (v := 1) hx hb dX9_areAlikeOn_7 (by decide) ?_
  refine lv_istore_n (lv' := [(3, .int 1), (2, .int r3), (0, .ref (q 1)), (1, .int v1)]) hx hb dX9_areAlikeOn_8 rfl hl (by decide) rfl (fun ls hl => ?_)
  exact hL9 v1 r3 1 hp _ _ _ ho (lv_sub hl [2, 3, 1, 0] rfl)
set_option maxHeartbeats 4000000 in
set_option maxRecDepth 100000 in
theorem c_Tn_firstDayAlike (l : Launch) (D : va_G) (q : Nat → Nat) (c : Nat → ClassId) (tnN : Int32) (ckN : Int32) (stN : Int32) (trN : Int32) (dsT : Int32) (dsC : Int32) (tpN : Int32) (lwN : Int32) (rdS : Int32) (rdM : Int32) (rdE : Int32) (rdD : Int32) (twN : Int32) (rsW : Int32) (rsE : Int32) (rwN : Int32) (suns : Nat → Int32) (ckT : Nat → Int32) (ckD : Nat → Int32) (shf : Nat → Int32) (lnT : Nat → Int32) (ways : Nat → Int32) (ups : Nat → Int32) (sts : Nat → Int32) (sty : Nat → Int32) (dly : Nat → Int32) (gAp : Nat → Nat → Int32) (gOp : Nat → Nat → Int32) (stp : Nat → Int32) (bst : Nat → Int32) (sgn : Nat → Int32) (lwT : Nat → Int32) (lwD : Nat → Int32) (rdT : Nat → Int32) (rdO : Nat → Int32) (lwK : Nat → Int32) (lwM : Nat → Int32) (twS : Nat → Int32) (twM : Nat → Int32) (twD : Nat → Int32) (rsO : Nat → Int32) (rsB : Nat → Int32) (rwA : Nat → Int32) (v1 : Int32) (Q : Int32 → Prop) (hp : p_Tn_firstDayAlike tnN ckN suns ckT ckD shf v1 Q) : oKi l yX9_firstDayAlike wsX9_firstDayAlike { frames := 4, cells := 0, slots := 0, locals := 88 } [.ref (q 1), .int v1] D (oT c) (wO q c tnN ckN stN trN dsT dsC tpN lwN rdS rdM rdE rdD twN rsW rsE rwN suns ckT ckD shf lnT ways ups sts sty dly gAp gOp stp bst sgn lwT lwD rdT rdO lwK lwM twS twM twD rsO rsB rwA) (Unit) (fun r (_ : Unit) => Q r) (fun _ => wO q c tnN ckN stN trN dsT dsC tpN lwN rdS rdM rdE rdD twN rsW rsE rwN suns ckT ckD shf lnT ways ups sts sty dly gAp gOp stp bst sgn lwT lwD rdT rdO lwK lwM twS twM twD rsO rsB rwA) := by
  refine oKi.ofW (own := RX9) (cc := cX9_firstDayAlike) (maxL := 4) (plainFor_of_name (by decide +kernel)) rfl rfl (Nat.le_of_ble_eq_true rfl) (fun p e s m args below meth cd A ls Z hx hb hml hown hts hret ho hl => ?_)
  replace hl : lv_has ls 4 [(0, .ref (q 1)), (1, .int v1)] := hl
  have hinX9 : ∀ w ∈ u_ws RX9 TX9 4, w ∈ wsX9_firstDayAlike := by decide +kernel
  have hf24 := hts (.fieldLink RX9 24 "OneTime$Towns" "clocks" "LOneTime$Since;") (by decide +kernel)
  unfold p_Tn_firstDayAlike at hp
  have hL4 : ∀ (v2 : Int32) (v3 : Int32), Lp2 (p_Tn_firstDayAlike_L4 tnN ckN suns ckT ckD shf Q) v2 v3 → ∀ (H : Heap) (locs : List Loc) (ls : Array Slot), oW D (oT c) A s.heap s (wO q c tnN ckN stN trN dsT dsC tpN lwN rdS rdM rdE rdD twN rsW rsE rwN suns ckT ckD shf lnT ways ups sts sty dly gAp gOp stp bst sgn lwT lwD rdT rdO lwK lwM twS twM twD rsO rsB rwA) H locs → lv_has ls 4 [(0, .ref (q 1)), (2, .int v2), (3, .int v3)] → W p l e { frames := 4, cells := 0, slots := 0, locals := 88 } s m args below meth cd H locs 0 0 Z (F0 m 4 ls []) := by
    refine Lp2.ind (fun rec hrec v2 v3 hp H locs ls ho hl => ?_)
    unfold p_Tn_firstDayAlike_L4 at hp
    refine lv_iload_n hx hb dX9_firstDayAlike_4 rfl (lv_at hl 2 rfl) ?_
    refine lv_sipush (v := 400) hx hb dX9_firstDayAlike_5 (by decide) ?_
    refine lv_icmp_ge (tgt := 43) hx hb dX9_firstDayAlike_8 (by decide) (fun c_8 => ?_) (fun c_8 => ?_)
    · replace hp := hp.1 c_8
      refine lv_iconst (v := (-1)) hx hb dX9_firstDayAlike_43 (by decide) ?_
      exact hret (-1) () _ _ _ _ dX9_firstDayAlike_44 ho hp
    · replace hp := hp.2 c_8
      refine lv_iload_n hx hb dX9_firstDayAlike_11 rfl (lv_at hl 1 rfl) ?_
      refine lv_sipush (v := 400) hx hb dX9_firstDayAlike_12 (by decide) ?_
      refine lv_icmp_ge (tgt := 43) hx hb dX9_firstDayAlike_15 (by decide) (fun c_15 => ?_) (fun c_15 => ?_)
      · replace hp := hp.1 c_15
        refine lv_iconst (v := (-1)) hx hb dX9_firstDayAlike_43 (by decide) ?_
        exact hret (-1) () _ _ _ _ dX9_firstDayAlike_44 ho hp
      · replace hp := hp.2 c_15
        refine lv_aload_n hx hb dX9_firstDayAlike_18 rfl (lv_at hl 0 rfl) ?_
        refine lv_iload_n hx hb dX9_firstDayAlike_19 rfl (lv_at hl 1 rfl) ?_
        refine o_callVi (rest := []) (ci := 9) ⟨hx, hb, hml, hown, hts⟩ ho (c_Tn_areAlikeOn l D q c tnN ckN stN trN dsT dsC tpN lwN rdS rdM rdE rdD twN rsW rsE rwN suns ckT ckD shf lnT ways ups sts sty dly gAp gOp stp bst sgn lwT lwD rdT rdO lwK lwM twS twM twD rsO rsB rwA v2 _ hp) (cwV 1 hts gX9_firstDayAlike_X9_areAlikeOn rfl rfl rfl (by decide +kernel) ⟨(Nat.le_of_ble_eq_true rfl), (Nat.le_of_ble_eq_true rfl)⟩) 1 rfl rfl rfl hl.1 rfl (Nat.le_of_ble_eq_true rfl) dX9_firstDayAlike_20 ⟨Nat.zero_le _, Nat.zero_le _⟩ (fun r20 u H locs hp ho => ?_)
        try dsimp only at hp
        replace ho : oW D (oT c) A s.heap s (wO q c tnN ckN stN trN dsT dsC tpN lwN rdS rdM rdE rdD twN rsW rsE rwN suns ckT ckD shf lnT ways ups sts sty dly gAp gOp stp bst sgn lwT lwD rdT rdO lwK lwM twS twM twD rsO rsB rwA) H locs := ho
        refine lv_if_eq (tgt := 28) hx hb dX9_firstDayAlike_23 (by decide) (fun c_23 => ?_) (fun c_23 => ?_)
        · replace hp := hp.1 c_23
          refine lv_aload_n hx hb dX9_firstDayAlike_28 rfl (lv_at hl 0 rfl) ?_
          refine o_get (ci := 9) (T := TX9) hx hb hts hinX9 hown ho 1 rfl rfl 2 (by decide) hf24 rfl dX9_firstDayAlike_29 ?_
          refine lv_iload_n hx hb dX9_firstDayAlike_32 rfl (lv_at hl 1 rfl) ?_
          refine o_callVi (rest := []) (ci := 6) ⟨hx, hb, hml, hown, hts⟩ ho (c_Si_nextDayOfAny_c l D q c tnN ckN stN trN dsT dsC tpN lwN rdS rdM rdE rdD twN rsW rsE rwN suns ckT ckD shf lnT ways ups sts sty dly gAp gOp stp bst sgn lwT lwD rdT rdO lwK lwM twS twM twD rsO rsB rwA v2 _ hp) (cwV 1 hts gX9_firstDayAlike_X6_nextDayOfAny rfl rfl rfl (by decide +kernel) ⟨(Nat.le_of_ble_eq_true rfl), (Nat.le_of_ble_eq_true rfl)⟩) 3 rfl rfl rfl hl.1 rfl (Nat.le_of_ble_eq_true rfl) dX9_firstDayAlike_33 ⟨Nat.zero_le _, Nat.zero_le _⟩ (fun r33 u H locs hp ho => ?_)
          try dsimp only at hp
          replace ho : oW D (oT c) A s.heap s (wO q c tnN ckN stN trN dsT dsC tpN lwN rdS rdM rdE rdD twN rsW rsE rwN suns ckT ckD shf lnT ways ups sts sty dly gAp gOp stp bst sgn lwT lwD rdT rdO lwK lwM twS twM twD rsO rsB rwA) H locs := ho
          refine lv_istore_n (lv' := [(2, .int r33), (0, .ref (q 1)), (3, .int v3)]) hx hb dX9_firstDayAlike_36 rfl hl (by decide) rfl (fun ls hl => ?_)
          obtain ⟨x37, e_x37⟩ : ∃ y : Int32, y = v3 + 1 := ⟨_, rfl⟩
          replace hp := hp x37 e_x37
          refine lv_iinc (v := x37) (lv' := [(3, .int x37), (2, .int r33), (0, .ref (q 1))]) hx hb dX9_firstDayAlike_37 hl (k := 2) rfl (by rw [e_x37]; rfl) (by decide) rfl (fun ls hl => ?_)
          refine lv_goto (tgt := 4) hx hb dX9_firstDayAlike_40 (by decide) ?_
          exact hrec r33 x37 hp _ _ _ ho (lv_sub hl [2, 1, 0] rfl)
        · replace hp := hp.2 c_23
          refine lv_iload_n hx hb dX9_firstDayAlike_26 rfl (lv_at hl 1 rfl) ?_
          exact hret v2 () _ _ _ _ dX9_firstDayAlike_27 ho hp
  refine lv_iload_n hx hb dX9_firstDayAlike_0 rfl (lv_at hl 1 rfl) ?_
  refine lv_istore_n (lv' := [(2, .int v1), (0, .ref (q 1)), (1, .int v1)]) hx hb dX9_firstDayAlike_1 rfl hl (by decide) rfl (fun ls hl => ?_)
  refine lv_iconst (v := 0) hx hb dX9_firstDayAlike_2 (by decide) ?_
  refine lv_istore_n (lv' := [(3, .int 0), (2, .int v1), (0, .ref (q 1)), (1, .int v1)]) hx hb dX9_firstDayAlike_3 rfl hl (by decide) rfl (fun ls hl => ?_)
  exact hL4 v1 0 hp _ _ _ ho (lv_sub hl [2, 1, 0] rfl)
set_option maxHeartbeats 4000000 in
set_option maxRecDepth 100000 in
theorem c_Tn_nearestZone (l : Launch) (D : va_G) (q : Nat → Nat) (c : Nat → ClassId) (tnN : Int32) (ckN : Int32) (stN : Int32) (trN : Int32) (dsT : Int32) (dsC : Int32) (tpN : Int32) (lwN : Int32) (rdS : Int32) (rdM : Int32) (rdE : Int32) (rdD : Int32) (twN : Int32) (rsW : Int32) (rsE : Int32) (rwN : Int32) (suns : Nat → Int32) (ckT : Nat → Int32) (ckD : Nat → Int32) (shf : Nat → Int32) (lnT : Nat → Int32) (ways : Nat → Int32) (ups : Nat → Int32) (sts : Nat → Int32) (sty : Nat → Int32) (dly : Nat → Int32) (gAp : Nat → Nat → Int32) (gOp : Nat → Nat → Int32) (stp : Nat → Int32) (bst : Nat → Int32) (sgn : Nat → Int32) (lwT : Nat → Int32) (lwD : Nat → Int32) (rdT : Nat → Int32) (rdO : Nat → Int32) (lwK : Nat → Int32) (lwM : Nat → Int32) (twS : Nat → Int32) (twM : Nat → Int32) (twD : Nat → Int32) (rsO : Nat → Int32) (rsB : Nat → Int32) (rwA : Nat → Int32) (v1 : Int32) (Q : Int32 → Prop) (hp : p_Tn_nearestZone tnN suns v1 Q) : oKi l yX9_nearestZone wsX9_nearestZone { frames := 2, cells := 0, slots := 0, locals := 42 } [.ref (q 1), .int v1] D (oT c) (wO q c tnN ckN stN trN dsT dsC tpN lwN rdS rdM rdE rdD twN rsW rsE rwN suns ckT ckD shf lnT ways ups sts sty dly gAp gOp stp bst sgn lwT lwD rdT rdO lwK lwM twS twM twD rsO rsB rwA) (Unit) (fun r (_ : Unit) => Q r) (fun _ => wO q c tnN ckN stN trN dsT dsC tpN lwN rdS rdM rdE rdD twN rsW rsE rwN suns ckT ckD shf lnT ways ups sts sty dly gAp gOp stp bst sgn lwT lwD rdT rdO lwK lwM twS twM twD rsO rsB rwA) := by
  refine oKi.ofW (own := RX9) (cc := cX9_nearestZone) (maxL := 2) (plainFor_of_name (by decide +kernel)) rfl rfl (Nat.le_of_ble_eq_true rfl) (fun p e s m args below meth cd A ls Z hx hb hml hown hts hret ho hl => ?_)
  replace hl : lv_has ls 2 [(0, .ref (q 1)), (1, .int v1)] := hl
  unfold p_Tn_nearestZone at hp
  refine lv_bipush (v := 60) hx hb dX9_nearestZone_0 (by decide) ?_
  refine lv_aload_n hx hb dX9_nearestZone_2 rfl (lv_at hl 0 rfl) ?_
  refine lv_iload_n hx hb dX9_nearestZone_3 rfl (lv_at hl 1 rfl) ?_
  refine o_callVi (rest := [.int 60]) (ci := 9) ⟨hx, hb, hml, hown, hts⟩ ho (c_Tn_sunOf l D q c tnN ckN stN trN dsT dsC tpN lwN rdS rdM rdE rdD twN rsW rsE rwN suns ckT ckD shf lnT ways ups sts sty dly gAp gOp stp bst sgn lwT lwD rdT rdO lwK lwM twS twM twD rsO rsB rwA v1 _ hp) (cwV 1 hts gX9_nearestZone_X9_sunOf rfl rfl rfl (by decide +kernel) ⟨(Nat.le_of_ble_eq_true rfl), (Nat.le_of_ble_eq_true rfl)⟩) 1 rfl rfl rfl hl.1 rfl (Nat.le_of_ble_eq_true rfl) dX9_nearestZone_4 ⟨Nat.zero_le _, Nat.zero_le _⟩ (fun r4 u H locs hp ho => ?_)
  try dsimp only at hp
  replace ho : oW D (oT c) A s.heap s (wO q c tnN ckN stN trN dsT dsC tpN lwN rdS rdM rdE rdD twN rsW rsE rwN suns ckT ckD shf lnT ways ups sts sty dly gAp gOp stp bst sgn lwT lwD rdT rdO lwK lwM twS twM twD rsO rsB rwA) H locs := ho
  refine lv_bipush (v := 30) hx hb dX9_nearestZone_7 (by decide) ?_
  refine lv_iadd hx hb dX9_nearestZone_9 ?_
  refine lv_bipush (v := 60) hx hb dX9_nearestZone_10 (by decide) ?_
  refine o_callSi (rest := [.int 60]) ⟨hx, hb, hml, hown, hts⟩ ho (c_Jm_floorDiv l D (oT c) (wO q c tnN ckN stN trN dsT dsC tpN lwN rdS rdM rdE rdD twN rsW rsE rwN suns ckT ckD shf lnT ways ups sts sty dly gAp gOp stp bst sgn lwT lwD rdT rdO lwK lwM twS twM twD rsO rsB rwA) (r4 + 30) 60 _ hp) (va_cwS 2 hts gX9_nearestZone_J9_floorDiv_7cf53 rfl rfl rfl (by decide +kernel) ⟨(Nat.le_of_ble_eq_true rfl), (Nat.le_of_ble_eq_true rfl)⟩) rfl hl.1 rfl (Nat.le_of_ble_eq_true rfl) dX9_nearestZone_12 ⟨Nat.zero_le _, Nat.zero_le _⟩ (fun r12 u H locs hp ho => ?_)
  try dsimp only at hp
  replace ho : oW D (oT c) A s.heap s (wO q c tnN ckN stN trN dsT dsC tpN lwN rdS rdM rdE rdD twN rsW rsE rwN suns ckT ckD shf lnT ways ups sts sty dly gAp gOp stp bst sgn lwT lwD rdT rdO lwK lwM twS twM twD rsO rsB rwA) H locs := ho
  refine lv_imul hx hb dX9_nearestZone_15 ?_
  exact hret (60 * r12) () _ _ _ _ dX9_nearestZone_16 ho hp
