set_option maxHeartbeats 4000000 in
set_option maxRecDepth 100000 in
theorem c_Tp_addFour (l : Launch) (D : va_G) (q : Nat → Nat) (c : Nat → ClassId) (tnN : Int32) (ckN : Int32) (stN : Int32) (trN : Int32) (dsT : Int32) (dsC : Int32) (tpN : Int32) (lwN : Int32) (rdS : Int32) (rdM : Int32) (rdE : Int32) (rdD : Int32) (twN : Int32) (rsW : Int32) (rsE : Int32) (rwN : Int32) (suns : Nat → Int32) (ckT : Nat → Int32) (ckD : Nat → Int32) (shf : Nat → Int32) (lnT : Nat → Int32) (ways : Nat → Int32) (ups : Nat → Int32) (sts : Nat → Int32) (sty : Nat → Int32) (dly : Nat → Int32) (gAp : Nat → Nat → Int32) (gOp : Nat → Nat → Int32) (stp : Nat → Int32) (bst : Nat → Int32) (sgn : Nat → Int32) (lwT : Nat → Int32) (lwD : Nat → Int32) (rdT : Nat → Int32) (rdO : Nat → Int32) (lwK : Nat → Int32) (lwM : Nat → Int32) (twS : Nat → Int32) (twM : Nat → Int32) (twD : Nat → Int32) (rsO : Nat → Int32) (rsB : Nat → Int32) (rwA : Nat → Int32) (v1 : Int32) (Q : Int32 → Int32 → (Nat → Int32) → Prop) (hp : p_Tp_addFour tpN sgn v1 Q) : oKi l yX7_addFour wsX7_addFour { frames := 0, cells := 0, slots := 0, locals := 0 } [.ref (q 32), .int v1] D (oT c) (wO q c tnN ckN stN trN dsT dsC tpN lwN rdS rdM rdE rdD twN rsW rsE rwN suns ckT ckD shf lnT ways ups sts sty dly gAp gOp stp bst sgn lwT lwD rdT rdO lwK lwM twS twM twD rsO rsB rwA) (Int32 × (Nat → Int32)) (fun r (u : Int32 × (Nat → Int32)) => Q r u.1 u.2) (fun u => wO q c tnN ckN stN trN dsT dsC u.1 lwN rdS rdM rdE rdD twN rsW rsE rwN suns ckT ckD shf lnT ways ups sts sty dly gAp gOp stp bst u.2 lwT lwD rdT rdO lwK lwM twS twM twD rsO rsB rwA) := by
  refine oKi.ofW (own := RX7) (cc := cX7_addFour) (maxL := 3) (plainFor_of_name (by decide +kernel)) rfl rfl (Nat.le_of_ble_eq_true rfl) (fun p e s m args below meth cd A ls Z hx hb hml hown hts hret ho hl => ?_)
  replace hl : lv_has ls 3 [(0, .ref (q 32)), (1, .int v1)] := hl
  have hinX7 : ∀ w ∈ u_ws RX7 TX7 2, w ∈ wsX7_addFour := by decide +kernel
  have hf9 := hts (.fieldLink RX7 9 "OneTime$Tape" "signs" "[I") (by decide +kernel)
  have hf15 := hts (.fieldLink RX7 15 "OneTime$Tape" "size" "I") (by decide +kernel)
  unfold p_Tp_addFour at hp
  have hL16 : ∀ (v1 : Int32) (v2 : Int32) (tpN : Int32) (sgn : Nat → Int32), Lp3 (p_Tp_addFour_L16 v1 Q) v2 tpN sgn → ∀ (H : Heap) (locs : List Loc) (ls : Array Slot), oW D (oT c) A s.heap s (wO q c tnN ckN stN trN dsT dsC tpN lwN rdS rdM rdE rdD twN rsW rsE rwN suns ckT ckD shf lnT ways ups sts sty dly gAp gOp stp bst sgn lwT lwD rdT rdO lwK lwM twS twM twD rsO rsB rwA) H locs → lv_has ls 3 [(0, .ref (q 32)), (1, .int v1), (2, .int v2)] → W p l e { frames := 0, cells := 0, slots := 0, locals := 0 } s m args below meth cd H locs 0 0 Z (F0 m 16 ls []) := by
    intro v1
    refine Lp3.ind (fun rec hrec v2 tpN sgn hp H locs ls ho hl => ?_)
    unfold p_Tp_addFour_L16 at hp
    refine lv_iload_n hx hb dX7_addFour_16 rfl (lv_at hl 2 rfl) ?_
    refine lv_if_lt (tgt := 52) hx hb dX7_addFour_17 (by decide) (fun c_17 => ?_) (fun c_17 => ?_)
    · replace hp := hp.1 c_17
      refine lv_aload_n hx hb dX7_addFour_52 rfl (lv_at hl 0 rfl) ?_
      refine o_get (ci := 7) (T := TX7) hx hb hts hinX7 hown ho 32 rfl rfl 1 (by decide) hf15 rfl dX7_addFour_53 ?_
      exact hret tpN (tpN, sgn) _ _ _ _ dX7_addFour_56 ho hp
    · replace hp := hp.2 c_17
      refine lv_aload_n hx hb dX7_addFour_20 rfl (lv_at hl 0 rfl) ?_
      refine o_get (ci := 7) (T := TX7) hx hb hts hinX7 hown ho 32 rfl rfl 0 (by decide) hf9 rfl dX7_addFour_21 ?_
      refine lv_aload_n hx hb dX7_addFour_24 rfl (lv_at hl 0 rfl) ?_
      refine o_get (ci := 7) (T := TX7) hx hb hts hinX7 hown ho 32 rfl rfl 1 (by decide) hf15 rfl dX7_addFour_25 ?_
      refine lv_iload_n hx hb dX7_addFour_28 rfl (lv_at hl 1 rfl) ?_
      refine lv_iload_n hx hb dX7_addFour_29 rfl (lv_at hl 2 rfl) ?_
      refine lv_iushr (v := (((v1).toUInt32 >>> ((v2 : Int32).toUInt32 &&& Int32.toUInt32 31)).toInt32)) hx hb dX7_addFour_30 rfl ?_
      refine lv_sipush (v := 255) hx hb dX7_addFour_31 (by decide) ?_
      refine lv_iand hx hb dX7_addFour_34 ?_
      refine o_ist hx hb ho 33 16 rfl rfl hp.1 dX7_addFour_35 (fun H locs ho => ?_)
      replace hp := hp.2
      replace ho : oW D (oT c) A s.heap s (wO q c tnN ckN stN trN dsT dsC tpN lwN rdS rdM rdE rdD twN rsW rsE rwN suns ckT ckD shf lnT ways ups sts sty dly gAp gOp stp bst (upd sgn tpN.toNatClampNeg ((((v1).toUInt32 >>> ((v2 : Int32).toUInt32 &&& Int32.toUInt32 31)).toInt32) &&& 255)) lwT lwD rdT rdO lwK lwM twS twM twD rsO rsB rwA) H locs := ho
      refine lv_aload_n hx hb dX7_addFour_36 rfl (lv_at hl 0 rfl) ?_
      refine lv_dup hx hb dX7_addFour_37 rfl ?_
      refine o_get (ci := 7) (T := TX7) hx hb hts hinX7 hown ho 32 rfl rfl 1 (by decide) hf15 rfl dX7_addFour_38 ?_
      refine lv_iconst (v := 1) hx hb dX7_addFour_41 (by decide) ?_
      refine lv_iadd hx hb dX7_addFour_42 ?_
      refine lv_topi (fun x43 e_x43 => ?_)
      replace hp := hp x43 e_x43
      refine o_put (ci := 7) (T := TX7) hx hb hts hinX7 tyX7_ok nmX7 hown ho 32 rfl rfl 1 (by decide) hf15 rfl (tyX7_ok 1 (by decide)) (Nat.le_of_ble_eq_true rfl) dX7_addFour_43 (fun H locs ho => ?_)
      replace ho : oW D (oT c) A s.heap s (wO q c tnN ckN stN trN dsT dsC x43 lwN rdS rdM rdE rdD twN rsW rsE rwN suns ckT ckD shf lnT ways ups sts sty dly gAp gOp stp bst (upd sgn tpN.toNatClampNeg ((((v1).toUInt32 >>> ((v2 : Int32).toUInt32 &&& Int32.toUInt32 31)).toInt32) &&& 255)) lwT lwD rdT rdO lwK lwM twS twM twD rsO rsB rwA) H locs := ho
      obtain ⟨x46, e_x46⟩ : ∃ y : Int32, y = v2 + (-8) := ⟨_, rfl⟩
      replace hp := hp x46 e_x46
      refine lv_iinc (v := x46) (lv' := [(2, .int x46), (0, .ref (q 32)), (1, .int v1)]) hx hb dX7_addFour_46 hl (k := 2) rfl (by rw [e_x46]; rfl) (by decide) rfl (fun ls hl => ?_)
      refine lv_goto (tgt := 16) hx hb dX7_addFour_49 (by decide) ?_
      exact hrec x46 x43 (upd sgn tpN.toNatClampNeg ((((v1).toUInt32 >>> ((v2 : Int32).toUInt32 &&& Int32.toUInt32 31)).toInt32) &&& 255)) hp _ _ _ ho (lv_sub hl [1, 2, 0] rfl)
  refine lv_aload_n hx hb dX7_addFour_0 rfl (lv_at hl 0 rfl) ?_
  refine o_get (ci := 7) (T := TX7) hx hb hts hinX7 hown ho 32 rfl rfl 1 (by decide) hf15 rfl dX7_addFour_1 ?_
  refine lv_iconst (v := 4) hx hb dX7_addFour_4 (by decide) ?_
  refine lv_iadd hx hb dX7_addFour_5 ?_
  refine lv_bipush (v := 100) hx hb dX7_addFour_6 (by decide) ?_
  refine lv_icmp_le (tgt := 13) hx hb dX7_addFour_8 (by decide) (fun c_8 => ?_) (fun c_8 => ?_)
  · replace hp := hp.1 c_8
    refine lv_bipush (v := 24) hx hb dX7_addFour_13 (by decide) ?_
    refine lv_istore_n (lv' := [(2, .int 24), (0, .ref (q 32)), (1, .int v1)]) hx hb dX7_addFour_15 rfl hl (by decide) rfl (fun ls hl => ?_)
    exact hL16 v1 24 tpN sgn hp _ _ _ ho (lv_sub hl [1, 2, 0] rfl)
  · replace hp := hp.2 c_8
    refine lv_iconst (v := (-1)) hx hb dX7_addFour_11 (by decide) ?_
    exact hret (-1) (tpN, sgn) _ _ _ _ dX7_addFour_12 ho hp
set_option maxHeartbeats 4000000 in
set_option maxRecDepth 100000 in
theorem c_Tp_cut (l : Launch) (D : va_G) (q : Nat → Nat) (c : Nat → ClassId) (tnN : Int32) (ckN : Int32) (stN : Int32) (trN : Int32) (dsT : Int32) (dsC : Int32) (tpN : Int32) (lwN : Int32) (rdS : Int32) (rdM : Int32) (rdE : Int32) (rdD : Int32) (twN : Int32) (rsW : Int32) (rsE : Int32) (rwN : Int32) (suns : Nat → Int32) (ckT : Nat → Int32) (ckD : Nat → Int32) (shf : Nat → Int32) (lnT : Nat → Int32) (ways : Nat → Int32) (ups : Nat → Int32) (sts : Nat → Int32) (sty : Nat → Int32) (dly : Nat → Int32) (gAp : Nat → Nat → Int32) (gOp : Nat → Nat → Int32) (stp : Nat → Int32) (bst : Nat → Int32) (sgn : Nat → Int32) (lwT : Nat → Int32) (lwD : Nat → Int32) (rdT : Nat → Int32) (rdO : Nat → Int32) (lwK : Nat → Int32) (lwM : Nat → Int32) (twS : Nat → Int32) (twM : Nat → Int32) (twD : Nat → Int32) (rsO : Nat → Int32) (rsB : Nat → Int32) (rwA : Nat → Int32) (v1 : Int32) (Q : Int32 → Int32 → Prop) (hp : p_Tp_cut tpN v1 Q) : oKi l yX7_cut wsX7_cut { frames := 0, cells := 0, slots := 0, locals := 0 } [.ref (q 32), .int v1] D (oT c) (wO q c tnN ckN stN trN dsT dsC tpN lwN rdS rdM rdE rdD twN rsW rsE rwN suns ckT ckD shf lnT ways ups sts sty dly gAp gOp stp bst sgn lwT lwD rdT rdO lwK lwM twS twM twD rsO rsB rwA) (Int32) (fun r (u : Int32) => Q r u) (fun u => wO q c tnN ckN stN trN dsT dsC u lwN rdS rdM rdE rdD twN rsW rsE rwN suns ckT ckD shf lnT ways ups sts sty dly gAp gOp stp bst sgn lwT lwD rdT rdO lwK lwM twS twM twD rsO rsB rwA) := by
  refine oKi.ofWz (own := RX7) (cc := cX7_cut) (maxL := 2) (plainFor_of_name (by decide +kernel)) rfl rfl (Nat.le_of_ble_eq_true rfl) (fun p e s m args below meth cd A ls Z hx hb hml hown hts hret ho hl => ?_)
  replace hl : lv_has ls 2 [(0, .ref (q 32)), (1, .int v1)] := hl
  have hinX7 : ∀ w ∈ u_ws RX7 TX7 2, w ∈ wsX7_cut := by decide +kernel
  have hf15 := hts (.fieldLink RX7 15 "OneTime$Tape" "size" "I") (by decide +kernel)
  unfold p_Tp_cut at hp
  refine lv_iload_n hx hb dX7_cut_0 rfl (lv_at hl 1 rfl) ?_
  refine lv_if_lt (tgt := 12) hx hb dX7_cut_1 (by decide) (fun c_1 => ?_) (fun c_1 => ?_)
  · replace hp := hp.1 c_1
    refine lv_iconst (v := 0) hx hb dX7_cut_12 (by decide) ?_
    exact hret 0 tpN _ _ _ _ dX7_cut_13 (Or.inl rfl) ho hp
  · replace hp := hp.2 c_1
    refine lv_iload_n hx hb dX7_cut_4 rfl (lv_at hl 1 rfl) ?_
    refine lv_aload_n hx hb dX7_cut_5 rfl (lv_at hl 0 rfl) ?_
    refine o_get (ci := 7) (T := TX7) hx hb hts hinX7 hown ho 32 rfl rfl 1 (by decide) hf15 rfl dX7_cut_6 ?_
    refine lv_icmp_le (tgt := 14) hx hb dX7_cut_9 (by decide) (fun c_9 => ?_) (fun c_9 => ?_)
    · replace hp := hp.1 c_9
      refine lv_aload_n hx hb dX7_cut_14 rfl (lv_at hl 0 rfl) ?_
      refine lv_iload_n hx hb dX7_cut_15 rfl (lv_at hl 1 rfl) ?_
      refine o_put (ci := 7) (T := TX7) hx hb hts hinX7 tyX7_ok nmX7 hown ho 32 rfl rfl 1 (by decide) hf15 rfl (tyX7_ok 1 (by decide)) (Nat.le_of_ble_eq_true rfl) dX7_cut_16 (fun H locs ho => ?_)
      replace ho : oW D (oT c) A s.heap s (wO q c tnN ckN stN trN dsT dsC v1 lwN rdS rdM rdE rdD twN rsW rsE rwN suns ckT ckD shf lnT ways ups sts sty dly gAp gOp stp bst sgn lwT lwD rdT rdO lwK lwM twS twM twD rsO rsB rwA) H locs := ho
      refine lv_iconst (v := 1) hx hb dX7_cut_19 (by decide) ?_
      exact hret 1 v1 _ _ _ _ dX7_cut_20 (Or.inr rfl) ho hp
    · replace hp := hp.2 c_9
      refine lv_iconst (v := 0) hx hb dX7_cut_12 (by decide) ?_
      exact hret 0 tpN _ _ _ _ dX7_cut_13 (Or.inl rfl) ho hp
set_option maxHeartbeats 4000000 in
set_option maxRecDepth 100000 in
theorem c_Lw_isFull (l : Launch) (D : va_G) (q : Nat → Nat) (c : Nat → ClassId) (tnN : Int32) (ckN : Int32) (stN : Int32) (trN : Int32) (dsT : Int32) (dsC : Int32) (tpN : Int32) (lwN : Int32) (rdS : Int32) (rdM : Int32) (rdE : Int32) (rdD : Int32) (twN : Int32) (rsW : Int32) (rsE : Int32) (rwN : Int32) (suns : Nat → Int32) (ckT : Nat → Int32) (ckD : Nat → Int32) (shf : Nat → Int32) (lnT : Nat → Int32) (ways : Nat → Int32) (ups : Nat → Int32) (sts : Nat → Int32) (sty : Nat → Int32) (dly : Nat → Int32) (gAp : Nat → Nat → Int32) (gOp : Nat → Nat → Int32) (stp : Nat → Int32) (bst : Nat → Int32) (sgn : Nat → Int32) (lwT : Nat → Int32) (lwD : Nat → Int32) (rdT : Nat → Int32) (rdO : Nat → Int32) (lwK : Nat → Int32) (lwM : Nat → Int32) (twS : Nat → Int32) (twM : Nat → Int32) (twD : Nat → Int32) (rsO : Nat → Int32) (rsB : Nat → Int32) (rwA : Nat → Int32)  (Q : Int32 → Prop) (hp : p_Lw_isFull lwN Q) : oKi l yX2_isFull wsX2_isFull { frames := 1, cells := 0, slots := 0, locals := 20 } [.ref (q 34)] D (oT c) (wO q c tnN ckN stN trN dsT dsC tpN lwN rdS rdM rdE rdD twN rsW rsE rwN suns ckT ckD shf lnT ways ups sts sty dly gAp gOp stp bst sgn lwT lwD rdT rdO lwK lwM twS twM twD rsO rsB rwA) (Unit) (fun r (_ : Unit) => Q r) (fun _ => wO q c tnN ckN stN trN dsT dsC tpN lwN rdS rdM rdE rdD twN rsW rsE rwN suns ckT ckD shf lnT ways ups sts sty dly gAp gOp stp bst sgn lwT lwD rdT rdO lwK lwM twS twM twD rsO rsB rwA) := by
  refine oKi.ofWz (own := RX2) (cc := cX2_isFull) (maxL := 1) (plainFor_of_name (by decide +kernel)) rfl rfl (Nat.le_of_ble_eq_true rfl) (fun p e s m args below meth cd A ls Z hx hb hml hown hts hret ho hl => ?_)
  replace hl : lv_has ls 1 [(0, .ref (q 34))] := hl
  have hinX2 : ∀ w ∈ u_ws RX2 TX2 4, w ∈ wsX2_isFull := by decide +kernel
  have hf14 := hts (.fieldLink RX2 14 "OneTime$Laws" "since" "LOneTime$Since;") (by decide +kernel)
  unfold p_Lw_isFull at hp
  refine lv_aload_n hx hb dX2_isFull_0 rfl (lv_at hl 0 rfl) ?_
  refine o_get (ci := 2) (T := TX2) hx hb hts hinX2 hown ho 34 rfl rfl 0 (by decide) hf14 rfl dX2_isFull_1 ?_
  refine o_callVi (rest := []) (ci := 6) ⟨hx, hb, hml, hown, hts⟩ ho (c_Si_isFull_l l D q c tnN ckN stN trN dsT dsC tpN lwN rdS rdM rdE rdD twN rsW rsE rwN suns ckT ckD shf lnT ways ups sts sty dly gAp gOp stp bst sgn lwT lwD rdT rdO lwK lwM twS twM twD rsO rsB rwA  _ hp) (cwV 0 hts gX2_isFull_X6_isFull rfl rfl rfl (by decide +kernel) ⟨(Nat.le_of_ble_eq_true rfl), (Nat.le_of_ble_eq_true rfl)⟩) 35 rfl rfl rfl hl.1 rfl (Nat.le_of_ble_eq_true rfl) dX2_isFull_4 ⟨Nat.zero_le _, Nat.zero_le _⟩ (fun r4 u H locs hp ho => ?_)
  try dsimp only at hp
  replace ho : oW D (oT c) A s.heap s (wO q c tnN ckN stN trN dsT dsC tpN lwN rdS rdM rdE rdD twN rsW rsE rwN suns ckT ckD shf lnT ways ups sts sty dly gAp gOp stp bst sgn lwT lwD rdT rdO lwK lwM twS twM twD rsO rsB rwA) H locs := ho
  exact hret r4 () _ _ _ _ dX2_isFull_7 hp.1 ho hp.2
set_option maxHeartbeats 4000000 in
set_option maxRecDepth 100000 in
theorem c_Tp_signAt (l : Launch) (D : va_G) (q : Nat → Nat) (c : Nat → ClassId) (tnN : Int32) (ckN : Int32) (stN : Int32) (trN : Int32) (dsT : Int32) (dsC : Int32) (tpN : Int32) (lwN : Int32) (rdS : Int32) (rdM : Int32) (rdE : Int32) (rdD : Int32) (twN : Int32) (rsW : Int32) (rsE : Int32) (rwN : Int32) (suns : Nat → Int32) (ckT : Nat → Int32) (ckD : Nat → Int32) (shf : Nat → Int32) (lnT : Nat → Int32) (ways : Nat → Int32) (ups : Nat → Int32) (sts : Nat → Int32) (sty : Nat → Int32) (dly : Nat → Int32) (gAp : Nat → Nat → Int32) (gOp : Nat → Nat → Int32) (stp : Nat → Int32) (bst : Nat → Int32) (sgn : Nat → Int32) (lwT : Nat → Int32) (lwD : Nat → Int32) (rdT : Nat → Int32) (rdO : Nat → Int32) (lwK : Nat → Int32) (lwM : Nat → Int32) (twS : Nat → Int32) (twM : Nat → Int32) (twD : Nat → Int32) (rsO : Nat → Int32) (rsB : Nat → Int32) (rwA : Nat → Int32) (v1 : Int32) (Q : Int32 → Prop) (hp : p_Tp_signAt tpN sgn v1 Q) : oKi l yX7_signAt wsX7_signAt { frames := 0, cells := 0, slots := 0, locals := 0 } [.ref (q 32), .int v1] D (oT c) (wO q c tnN ckN stN trN dsT dsC tpN lwN rdS rdM rdE rdD twN rsW rsE rwN suns ckT ckD shf lnT ways ups sts sty dly gAp gOp stp bst sgn lwT lwD rdT rdO lwK lwM twS twM twD rsO rsB rwA) (Unit) (fun r (_ : Unit) => Q r) (fun _ => wO q c tnN ckN stN trN dsT dsC tpN lwN rdS rdM rdE rdD twN rsW rsE rwN suns ckT ckD shf lnT ways ups sts sty dly gAp gOp stp bst sgn lwT lwD rdT rdO lwK lwM twS twM twD rsO rsB rwA) := by
  refine oKi.ofW (own := RX7) (cc := cX7_signAt) (maxL := 2) (plainFor_of_name (by decide +kernel)) rfl rfl (Nat.le_of_ble_eq_true rfl) (fun p e s m args below meth cd A ls Z hx hb hml hown hts hret ho hl => ?_)
  replace hl : lv_has ls 2 [(0, .ref (q 32)), (1, .int v1)] := hl
  have hinX7 : ∀ w ∈ u_ws RX7 TX7 2, w ∈ wsX7_signAt := by decide +kernel
  have hf9 := hts (.fieldLink RX7 9 "OneTime$Tape" "signs" "[I") (by decide +kernel)
  have hf15 := hts (.fieldLink RX7 15 "OneTime$Tape" "size" "I") (by decide +kernel)
  unfold p_Tp_signAt at hp
  refine lv_iload_n hx hb dX7_signAt_0 rfl (lv_at hl 1 rfl) ?_
  refine lv_if_lt (tgt := 21) hx hb dX7_signAt_1 (by decide) (fun c_1 => ?_) (fun c_1 => ?_)
  · replace hp := hp.1 c_1
    refine lv_iconst (v := (-1)) hx hb dX7_signAt_21 (by decide) ?_
    exact hret (-1) () _ _ _ _ dX7_signAt_22 ho hp
  · replace hp := hp.2 c_1
    refine lv_iload_n hx hb dX7_signAt_4 rfl (lv_at hl 1 rfl) ?_
    refine lv_aload_n hx hb dX7_signAt_5 rfl (lv_at hl 0 rfl) ?_
    refine o_get (ci := 7) (T := TX7) hx hb hts hinX7 hown ho 32 rfl rfl 1 (by decide) hf15 rfl dX7_signAt_6 ?_
    refine lv_icmp_ge (tgt := 21) hx hb dX7_signAt_9 (by decide) (fun c_9 => ?_) (fun c_9 => ?_)
    · replace hp := hp.1 c_9
      refine lv_iconst (v := (-1)) hx hb dX7_signAt_21 (by decide) ?_
      exact hret (-1) () _ _ _ _ dX7_signAt_22 ho hp
    · replace hp := hp.2 c_9
      refine lv_aload_n hx hb dX7_signAt_12 rfl (lv_at hl 0 rfl) ?_
      refine o_get (ci := 7) (T := TX7) hx hb hts hinX7 hown ho 32 rfl rfl 0 (by decide) hf9 rfl dX7_signAt_13 ?_
      refine lv_iload_n hx hb dX7_signAt_16 rfl (lv_at hl 1 rfl) ?_
      refine o_ild hx hb ho 33 16 rfl rfl hp.1 dX7_signAt_17 ?_
      replace hp := hp.2
      refine lv_goto (tgt := 22) hx hb dX7_signAt_18 (by decide) ?_
      exact hret (sgn v1.toNatClampNeg) () _ _ _ _ dX7_signAt_22 ho hp
set_option maxHeartbeats 4000000 in
set_option maxRecDepth 100000 in
theorem c_Rd_takeMatter (l : Launch) (D : va_G) (q : Nat → Nat) (c : Nat → ClassId) (tnN : Int32) (ckN : Int32) (stN : Int32) (trN : Int32) (dsT : Int32) (dsC : Int32) (tpN : Int32) (lwN : Int32) (rdS : Int32) (rdM : Int32) (rdE : Int32) (rdD : Int32) (twN : Int32) (rsW : Int32) (rsE : Int32) (rwN : Int32) (suns : Nat → Int32) (ckT : Nat → Int32) (ckD : Nat → Int32) (shf : Nat → Int32) (lnT : Nat → Int32) (ways : Nat → Int32) (ups : Nat → Int32) (sts : Nat → Int32) (sty : Nat → Int32) (dly : Nat → Int32) (gAp : Nat → Nat → Int32) (gOp : Nat → Nat → Int32) (stp : Nat → Int32) (bst : Nat → Int32) (sgn : Nat → Int32) (lwT : Nat → Int32) (lwD : Nat → Int32) (rdT : Nat → Int32) (rdO : Nat → Int32) (lwK : Nat → Int32) (lwM : Nat → Int32) (twS : Nat → Int32) (twM : Nat → Int32) (twD : Nat → Int32) (rsO : Nat → Int32) (rsB : Nat → Int32) (rwA : Nat → Int32) (v1 : Int32) (Q : Int32 → Int32 → Int32 → Prop) (hp : p_Rd_takeMatter rdS rdM v1 Q) : oKi l yX1_takeMatter wsX1_takeMatter { frames := 0, cells := 0, slots := 0, locals := 0 } [.ref (q 38), .int v1] D (oT c) (wO q c tnN ckN stN trN dsT dsC tpN lwN rdS rdM rdE rdD twN rsW rsE rwN suns ckT ckD shf lnT ways ups sts sty dly gAp gOp stp bst sgn lwT lwD rdT rdO lwK lwM twS twM twD rsO rsB rwA) (Int32 × Int32) (fun r (u : Int32 × Int32) => Q r u.1 u.2) (fun u => wO q c tnN ckN stN trN dsT dsC tpN lwN u.1 u.2 rdE rdD twN rsW rsE rwN suns ckT ckD shf lnT ways ups sts sty dly gAp gOp stp bst sgn lwT lwD rdT rdO lwK lwM twS twM twD rsO rsB rwA) := by
  refine oKi.ofWz (own := RX1) (cc := cX1_takeMatter) (maxL := 2) (plainFor_of_name (by decide +kernel)) rfl rfl (Nat.le_of_ble_eq_true rfl) (fun p e s m args below meth cd A ls Z hx hb hml hown hts hret ho hl => ?_)
  replace hl : lv_has ls 2 [(0, .ref (q 38)), (1, .int v1)] := hl
  have hinX1 : ∀ w ∈ u_ws RX1 TX1 6, w ∈ wsX1_takeMatter := by decide +kernel
  have hf18 := hts (.fieldLink RX1 18 "OneTime$LawReader" "state" "I") (by decide +kernel)
  have hf22 := hts (.fieldLink RX1 22 "OneTime$LawReader" "matter" "I") (by decide +kernel)
  unfold p_Rd_takeMatter at hp
  refine lv_iload_n hx hb dX1_takeMatter_0 rfl (lv_at hl 1 rfl) ?_
  refine lv_bipush (v := 97) hx hb dX1_takeMatter_1 (by decide) ?_
  refine lv_icmp_lt (tgt := 12) hx hb dX1_takeMatter_3 (by decide) (fun c_3 => ?_) (fun c_3 => ?_)
  · replace hp := hp.1 c_3
    refine lv_iconst (v := 0) hx hb dX1_takeMatter_12 (by decide) ?_
    exact hret 0 (rdS, rdM) _ _ _ _ dX1_takeMatter_13 (Or.inl rfl) ho hp
  · replace hp := hp.2 c_3
    refine lv_iload_n hx hb dX1_takeMatter_6 rfl (lv_at hl 1 rfl) ?_
    refine lv_bipush (v := 102) hx hb dX1_takeMatter_7 (by decide) ?_
    refine lv_icmp_le (tgt := 14) hx hb dX1_takeMatter_9 (by decide) (fun c_9 => ?_) (fun c_9 => ?_)
    · replace hp := hp.1 c_9
      refine lv_aload_n hx hb dX1_takeMatter_14 rfl (lv_at hl 0 rfl) ?_
      refine lv_iload_n hx hb dX1_takeMatter_15 rfl (lv_at hl 1 rfl) ?_
      refine lv_bipush (v := 97) hx hb dX1_takeMatter_16 (by decide) ?_
      refine lv_isub hx hb dX1_takeMatter_18 ?_
      refine lv_topi (fun x19 e_x19 => ?_)
      replace hp := hp x19 e_x19
      refine o_put (ci := 1) (T := TX1) hx hb hts hinX1 tyX1_ok nmX1 hown ho 38 rfl rfl 3 (by decide) hf22 rfl (tyX1_ok 3 (by decide)) (Nat.le_of_ble_eq_true rfl) dX1_takeMatter_19 (fun H locs ho => ?_)
      replace ho : oW D (oT c) A s.heap s (wO q c tnN ckN stN trN dsT dsC tpN lwN rdS x19 rdE rdD twN rsW rsE rwN suns ckT ckD shf lnT ways ups sts sty dly gAp gOp stp bst sgn lwT lwD rdT rdO lwK lwM twS twM twD rsO rsB rwA) H locs := ho
      refine lv_aload_n hx hb dX1_takeMatter_22 rfl (lv_at hl 0 rfl) ?_
      refine lv_iconst (v := 1) hx hb dX1_takeMatter_23 (by decide) ?_
      refine o_put (ci := 1) (T := TX1) hx hb hts hinX1 tyX1_ok nmX1 hown ho 38 rfl rfl 2 (by decide) hf18 rfl (tyX1_ok 2 (by decide)) (Nat.le_of_ble_eq_true rfl) dX1_takeMatter_24 (fun H locs ho => ?_)
      replace ho : oW D (oT c) A s.heap s (wO q c tnN ckN stN trN dsT dsC tpN lwN 1 x19 rdE rdD twN rsW rsE rwN suns ckT ckD shf lnT ways ups sts sty dly gAp gOp stp bst sgn lwT lwD rdT rdO lwK lwM twS twM twD rsO rsB rwA) H locs := ho
      refine lv_iconst (v := 1) hx hb dX1_takeMatter_27 (by decide) ?_
      exact hret 1 (1, x19) _ _ _ _ dX1_takeMatter_28 (Or.inr rfl) ho hp
    · replace hp := hp.2 c_9
      refine lv_iconst (v := 0) hx hb dX1_takeMatter_12 (by decide) ?_
      exact hret 0 (rdS, rdM) _ _ _ _ dX1_takeMatter_13 (Or.inl rfl) ho hp
set_option maxHeartbeats 4000000 in
set_option maxRecDepth 100000 in
theorem c_Rd_takeMark (l : Launch) (D : va_G) (q : Nat → Nat) (c : Nat → ClassId) (tnN : Int32) (ckN : Int32) (stN : Int32) (trN : Int32) (dsT : Int32) (dsC : Int32) (tpN : Int32) (lwN : Int32) (rdS : Int32) (rdM : Int32) (rdE : Int32) (rdD : Int32) (twN : Int32) (rsW : Int32) (rsE : Int32) (rwN : Int32) (suns : Nat → Int32) (ckT : Nat → Int32) (ckD : Nat → Int32) (shf : Nat → Int32) (lnT : Nat → Int32) (ways : Nat → Int32) (ups : Nat → Int32) (sts : Nat → Int32) (sty : Nat → Int32) (dly : Nat → Int32) (gAp : Nat → Nat → Int32) (gOp : Nat → Nat → Int32) (stp : Nat → Int32) (bst : Nat → Int32) (sgn : Nat → Int32) (lwT : Nat → Int32) (lwD : Nat → Int32) (rdT : Nat → Int32) (rdO : Nat → Int32) (lwK : Nat → Int32) (lwM : Nat → Int32) (twS : Nat → Int32) (twM : Nat → Int32) (twD : Nat → Int32) (rsO : Nat → Int32) (rsB : Nat → Int32) (rwA : Nat → Int32) (v1 : Int32) (v2 : Int32) (v3 : Int32) (Q : Int32 → Int32 → Prop) (hp : p_Rd_takeMark rdS v1 v2 v3 Q) : oKi l yX1_takeMark wsX1_takeMark { frames := 0, cells := 0, slots := 0, locals := 0 } [.ref (q 38), .int v1, .int v2, .int v3] D (oT c) (wO q c tnN ckN stN trN dsT dsC tpN lwN rdS rdM rdE rdD twN rsW rsE rwN suns ckT ckD shf lnT ways ups sts sty dly gAp gOp stp bst sgn lwT lwD rdT rdO lwK lwM twS twM twD rsO rsB rwA) (Int32) (fun r (u : Int32) => Q r u) (fun u => wO q c tnN ckN stN trN dsT dsC tpN lwN u rdM rdE rdD twN rsW rsE rwN suns ckT ckD shf lnT ways ups sts sty dly gAp gOp stp bst sgn lwT lwD rdT rdO lwK lwM twS twM twD rsO rsB rwA) := by
  refine oKi.ofWz (own := RX1) (cc := cX1_takeMark) (maxL := 4) (plainFor_of_name (by decide +kernel)) rfl rfl (Nat.le_of_ble_eq_true rfl) (fun p e s m args below meth cd A ls Z hx hb hml hown hts hret ho hl => ?_)
  replace hl : lv_has ls 4 [(0, .ref (q 38)), (1, .int v1), (2, .int v2), (3, .int v3)] := hl
  have hinX1 : ∀ w ∈ u_ws RX1 TX1 6, w ∈ wsX1_takeMark := by decide +kernel
  have hf18 := hts (.fieldLink RX1 18 "OneTime$LawReader" "state" "I") (by decide +kernel)
  unfold p_Rd_takeMark at hp
  refine lv_iload_n hx hb dX1_takeMark_0 rfl (lv_at hl 1 rfl) ?_
  refine lv_iload_n hx hb dX1_takeMark_1 rfl (lv_at hl 2 rfl) ?_
  refine lv_icmp_eq (tgt := 7) hx hb dX1_takeMark_2 (by decide) (fun c_2 => ?_) (fun c_2 => ?_)
  · replace hp := hp.1 c_2
    refine lv_aload_n hx hb dX1_takeMark_7 rfl (lv_at hl 0 rfl) ?_
    refine lv_iload_n hx hb dX1_takeMark_8 rfl (lv_at hl 3 rfl) ?_
    refine o_put (ci := 1) (T := TX1) hx hb hts hinX1 tyX1_ok nmX1 hown ho 38 rfl rfl 2 (by decide) hf18 rfl (tyX1_ok 2 (by decide)) (Nat.le_of_ble_eq_true rfl) dX1_takeMark_9 (fun H locs ho => ?_)
    replace ho : oW D (oT c) A s.heap s (wO q c tnN ckN stN trN dsT dsC tpN lwN v3 rdM rdE rdD twN rsW rsE rwN suns ckT ckD shf lnT ways ups sts sty dly gAp gOp stp bst sgn lwT lwD rdT rdO lwK lwM twS twM twD rsO rsB rwA) H locs := ho
    refine lv_iconst (v := 1) hx hb dX1_takeMark_12 (by decide) ?_
    exact hret 1 v3 _ _ _ _ dX1_takeMark_13 (Or.inr rfl) ho hp
  · replace hp := hp.2 c_2
    refine lv_iconst (v := 0) hx hb dX1_takeMark_5 (by decide) ?_
    exact hret 0 rdS _ _ _ _ dX1_takeMark_6 (Or.inl rfl) ho hp
set_option maxHeartbeats 4000000 in
set_option maxRecDepth 100000 in
theorem c_Rd_takeTime (l : Launch) (D : va_G) (q : Nat → Nat) (c : Nat → ClassId) (tnN : Int32) (ckN : Int32) (stN : Int32) (trN : Int32) (dsT : Int32) (dsC : Int32) (tpN : Int32) (lwN : Int32) (rdS : Int32) (rdM : Int32) (rdE : Int32) (rdD : Int32) (twN : Int32) (rsW : Int32) (rsE : Int32) (rwN : Int32) (suns : Nat → Int32) (ckT : Nat → Int32) (ckD : Nat → Int32) (shf : Nat → Int32) (lnT : Nat → Int32) (ways : Nat → Int32) (ups : Nat → Int32) (sts : Nat → Int32) (sty : Nat → Int32) (dly : Nat → Int32) (gAp : Nat → Nat → Int32) (gOp : Nat → Nat → Int32) (stp : Nat → Int32) (bst : Nat → Int32) (sgn : Nat → Int32) (lwT : Nat → Int32) (lwD : Nat → Int32) (rdT : Nat → Int32) (rdO : Nat → Int32) (lwK : Nat → Int32) (lwM : Nat → Int32) (twS : Nat → Int32) (twM : Nat → Int32) (twD : Nat → Int32) (rsO : Nat → Int32) (rsB : Nat → Int32) (rwA : Nat → Int32) (v1 : Int32) (Q : Int32 → Int32 → (Nat → Int32) → (Nat → Int32) → Prop) (hp : p_Rd_takeTime rdM rdS rdT rdO v1 Q) : oKi l yX1_takeTime wsX1_takeTime { frames := 1, cells := 0, slots := 0, locals := 20 } [.ref (q 38), .int v1] D (oT c) (wO q c tnN ckN stN trN dsT dsC tpN lwN rdS rdM rdE rdD twN rsW rsE rwN suns ckT ckD shf lnT ways ups sts sty dly gAp gOp stp bst sgn lwT lwD rdT rdO lwK lwM twS twM twD rsO rsB rwA) (Int32 × (Nat → Int32) × (Nat → Int32)) (fun r (u : Int32 × (Nat → Int32) × (Nat → Int32)) => Q r u.1 u.2.1 u.2.2) (fun u => wO q c tnN ckN stN trN dsT dsC tpN lwN u.1 rdM rdE rdD twN rsW rsE rwN suns ckT ckD shf lnT ways ups sts sty dly gAp gOp stp bst sgn lwT lwD u.2.1 u.2.2 lwK lwM twS twM twD rsO rsB rwA) := by
  refine oKi.ofWz (own := RX1) (cc := cX1_takeTime) (maxL := 2) (plainFor_of_name (by decide +kernel)) rfl rfl (Nat.le_of_ble_eq_true rfl) (fun p e s m args below meth cd A ls Z hx hb hml hown hts hret ho hl => ?_)
  replace hl : lv_has ls 2 [(0, .ref (q 38)), (1, .int v1)] := hl
  have hN := ho.2.1
  have hinX1 : ∀ w ∈ u_ws RX1 TX1 6, w ∈ wsX1_takeTime := by decide +kernel
  have hf9 := hts (.fieldLink RX1 9 "OneTime$LawReader" "times" "[I") (by decide +kernel)
  have hf15 := hts (.fieldLink RX1 15 "OneTime$LawReader" "mores" "[I") (by decide +kernel)
  have hf18 := hts (.fieldLink RX1 18 "OneTime$LawReader" "state" "I") (by decide +kernel)
  have hf22 := hts (.fieldLink RX1 22 "OneTime$LawReader" "matter" "I") (by decide +kernel)
  unfold p_Rd_takeTime at hp
  have hJ18 : ∀ (v1 : Int32) (rdS : Int32) (rdT : Nat → Int32) (rdO : Nat → Int32), p_Rd_takeTime_J18 rdM v1 rdS rdT rdO Q → ∀ (H : Heap) (locs : List Loc) (ls : Array Slot), oW D (oT c) A s.heap s (wO q c tnN ckN stN trN dsT dsC tpN lwN rdS rdM rdE rdD twN rsW rsE rwN suns ckT ckD shf lnT ways ups sts sty dly gAp gOp stp bst sgn lwT lwD rdT rdO lwK lwM twS twM twD rsO rsB rwA) H locs → lv_has ls 2 [(0, .ref (q 38)), (1, .int v1)] → W p l e { frames := 1, cells := 0, slots := 0, locals := 20 } s m args below meth cd H locs 0 0 Z (F0 m 18 ls []) := by
    intro v1 rdS rdT rdO
    intro hp H locs ls ho hl
    unfold p_Rd_takeTime_J18 at hp
    refine lv_aload_n hx hb dX1_takeTime_18 rfl (lv_at hl 0 rfl) ?_
    refine o_get (ci := 1) (T := TX1) hx hb hts hinX1 hown ho 38 rfl rfl 3 (by decide) hf22 rfl dX1_takeTime_19 ?_
    refine o_callSNi (rest := []) (host := RX10) ⟨hx, hb, hml, hown, hts⟩ ho (c_O_isMatter l D (oT c) (wO q c tnN ckN stN trN dsT dsC tpN lwN rdS rdM rdE rdD twN rsW rsE rwN suns ckT ckD shf lnT ways ups sts sty dly gAp gOp stp bst sgn lwT lwD rdT rdO lwK lwM twS twM twD rsO rsB rwA) rdM _ hp) ⟨va_cnB 1 hts gX1_takeTime_X10_isMatter_n66 rfl rfl rfl hN.2.1 (hts (.initialized RX10) (by decide +kernel)) (by decide +kernel) ⟨(Nat.le_of_ble_eq_true rfl), (Nat.le_of_ble_eq_true rfl)⟩, hts (.static yX10_isMatter) (by decide +kernel), trivial⟩ rfl hl.1 rfl (Nat.le_of_ble_eq_true rfl) dX1_takeTime_22 ⟨Nat.zero_le _, Nat.zero_le _⟩ (fun r22 u H locs hp ho => ?_)
    try dsimp only at hp
    replace ho : oW D (oT c) A s.heap s (wO q c tnN ckN stN trN dsT dsC tpN lwN rdS rdM rdE rdD twN rsW rsE rwN suns ckT ckD shf lnT ways ups sts sty dly gAp gOp stp bst sgn lwT lwD rdT rdO lwK lwM twS twM twD rsO rsB rwA) H locs := ho
    refine lv_if_ne (tgt := 30) hx hb dX1_takeTime_25 (by decide) (fun c_25 => ?_) (fun c_25 => ?_)
    · replace hp := hp.2 c_25
      refine lv_aload_n hx hb dX1_takeTime_30 rfl (lv_at hl 0 rfl) ?_
      refine o_get (ci := 1) (T := TX1) hx hb hts hinX1 hown ho 38 rfl rfl 0 (by decide) hf9 rfl dX1_takeTime_31 ?_
      refine lv_aload_n hx hb dX1_takeTime_34 rfl (lv_at hl 0 rfl) ?_
      refine o_get (ci := 1) (T := TX1) hx hb hts hinX1 hown ho 38 rfl rfl 3 (by decide) hf22 rfl dX1_takeTime_35 ?_
      refine lv_iload_n hx hb dX1_takeTime_38 rfl (lv_at hl 1 rfl) ?_
      refine o_ist hx hb ho 39 19 rfl rfl hp.1 dX1_takeTime_39 (fun H locs ho => ?_)
      replace hp := hp.2
      replace ho : oW D (oT c) A s.heap s (wO q c tnN ckN stN trN dsT dsC tpN lwN rdS rdM rdE rdD twN rsW rsE rwN suns ckT ckD shf lnT ways ups sts sty dly gAp gOp stp bst sgn lwT lwD (upd rdT rdM.toNatClampNeg v1) rdO lwK lwM twS twM twD rsO rsB rwA) H locs := ho
      refine lv_aload_n hx hb dX1_takeTime_40 rfl (lv_at hl 0 rfl) ?_
      refine o_get (ci := 1) (T := TX1) hx hb hts hinX1 hown ho 38 rfl rfl 1 (by decide) hf15 rfl dX1_takeTime_41 ?_
      refine lv_aload_n hx hb dX1_takeTime_44 rfl (lv_at hl 0 rfl) ?_
      refine o_get (ci := 1) (T := TX1) hx hb hts hinX1 hown ho 38 rfl rfl 3 (by decide) hf22 rfl dX1_takeTime_45 ?_
      refine lv_iconst (v := 0) hx hb dX1_takeTime_48 (by decide) ?_
      refine o_ist hx hb ho 40 20 rfl rfl hp.1 dX1_takeTime_49 (fun H locs ho => ?_)
      replace hp := hp.2
      replace ho : oW D (oT c) A s.heap s (wO q c tnN ckN stN trN dsT dsC tpN lwN rdS rdM rdE rdD twN rsW rsE rwN suns ckT ckD shf lnT ways ups sts sty dly gAp gOp stp bst sgn lwT lwD (upd rdT rdM.toNatClampNeg v1) (upd rdO rdM.toNatClampNeg 0) lwK lwM twS twM twD rsO rsB rwA) H locs := ho
      refine lv_aload_n hx hb dX1_takeTime_50 rfl (lv_at hl 0 rfl) ?_
      refine lv_iconst (v := 4) hx hb dX1_takeTime_51 (by decide) ?_
      refine o_put (ci := 1) (T := TX1) hx hb hts hinX1 tyX1_ok nmX1 hown ho 38 rfl rfl 2 (by decide) hf18 rfl (tyX1_ok 2 (by decide)) (Nat.le_of_ble_eq_true rfl) dX1_takeTime_52 (fun H locs ho => ?_)
      replace ho : oW D (oT c) A s.heap s (wO q c tnN ckN stN trN dsT dsC tpN lwN 4 rdM rdE rdD twN rsW rsE rwN suns ckT ckD shf lnT ways ups sts sty dly gAp gOp stp bst sgn lwT lwD (upd rdT rdM.toNatClampNeg v1) (upd rdO rdM.toNatClampNeg 0) lwK lwM twS twM twD rsO rsB rwA) H locs := ho
      refine lv_iconst (v := 1) hx hb dX1_takeTime_55 (by decide) ?_
      exact hret 1 (4, upd rdT rdM.toNatClampNeg v1, upd rdO rdM.toNatClampNeg 0) _ _ _ _ dX1_takeTime_56 (Or.inr rfl) ho hp
    · replace hp := hp.1 c_25
      refine lv_iconst (v := 0) hx hb dX1_takeTime_28 (by decide) ?_
      exact hret 0 (rdS, rdT, rdO) _ _ _ _ dX1_takeTime_29 (Or.inl rfl) ho hp
  refine lv_iload_n hx hb dX1_takeTime_0 rfl (lv_at hl 1 rfl) ?_
  refine lv_bipush (v := 108) hx hb dX1_takeTime_1 (by decide) ?_
  refine lv_icmp_eq (tgt := 18) hx hb dX1_takeTime_3 (by decide) (fun c_3 => ?_) (fun c_3 => ?_)
  · replace hp := hp.1 c_3
    exact hJ18 v1 rdS rdT rdO hp _ _ _ ho (lv_sub hl [0, 1] rfl)
  · replace hp := hp.2 c_3
    refine lv_iload_n hx hb dX1_takeTime_6 rfl (lv_at hl 1 rfl) ?_
    refine lv_bipush (v := 99) hx hb dX1_takeTime_7 (by decide) ?_
    refine lv_icmp_eq (tgt := 18) hx hb dX1_takeTime_9 (by decide) (fun c_9 => ?_) (fun c_9 => ?_)
    · replace hp := hp.1 c_9
      exact hJ18 v1 rdS rdT rdO hp _ _ _ ho (lv_sub hl [0, 1] rfl)
    · replace hp := hp.2 c_9
      refine lv_iload_n hx hb dX1_takeTime_12 rfl (lv_at hl 1 rfl) ?_
      refine lv_bipush (v := 122) hx hb dX1_takeTime_13 (by decide) ?_
      refine lv_icmp_ne (tgt := 28) hx hb dX1_takeTime_15 (by decide) (fun c_15 => ?_) (fun c_15 => ?_)
      · replace hp := hp.2 c_15
        refine lv_iconst (v := 0) hx hb dX1_takeTime_28 (by decide) ?_
        exact hret 0 (rdS, rdT, rdO) _ _ _ _ dX1_takeTime_29 (Or.inl rfl) ho hp
      · replace hp := hp.1 c_15
        exact hJ18 v1 rdS rdT rdO hp _ _ _ ho (lv_sub hl [0, 1] rfl)
set_option maxHeartbeats 4000000 in
set_option maxRecDepth 100000 in
theorem c_Rd_takeDigit (l : Launch) (D : va_G) (q : Nat → Nat) (c : Nat → ClassId) (tnN : Int32) (ckN : Int32) (stN : Int32) (trN : Int32) (dsT : Int32) (dsC : Int32) (tpN : Int32) (lwN : Int32) (rdS : Int32) (rdM : Int32) (rdE : Int32) (rdD : Int32) (twN : Int32) (rsW : Int32) (rsE : Int32) (rwN : Int32) (suns : Nat → Int32) (ckT : Nat → Int32) (ckD : Nat → Int32) (shf : Nat → Int32) (lnT : Nat → Int32) (ways : Nat → Int32) (ups : Nat → Int32) (sts : Nat → Int32) (sty : Nat → Int32) (dly : Nat → Int32) (gAp : Nat → Nat → Int32) (gOp : Nat → Nat → Int32) (stp : Nat → Int32) (bst : Nat → Int32) (sgn : Nat → Int32) (lwT : Nat → Int32) (lwD : Nat → Int32) (rdT : Nat → Int32) (rdO : Nat → Int32) (lwK : Nat → Int32) (lwM : Nat → Int32) (twS : Nat → Int32) (twM : Nat → Int32) (twD : Nat → Int32) (rsO : Nat → Int32) (rsB : Nat → Int32) (rwA : Nat → Int32) (v1 : Int32) (Q : Int32 → Int32 → Int32 → (Nat → Int32) → Prop) (hp : p_Rd_takeDigit rdM rdE rdS rdD rdO v1 Q) : oKi l yX1_takeDigit wsX1_takeDigit { frames := 1, cells := 0, slots := 0, locals := 20 } [.ref (q 38), .int v1] D (oT c) (wO q c tnN ckN stN trN dsT dsC tpN lwN rdS rdM rdE rdD twN rsW rsE rwN suns ckT ckD shf lnT ways ups sts sty dly gAp gOp stp bst sgn lwT lwD rdT rdO lwK lwM twS twM twD rsO rsB rwA) (Int32 × Int32 × (Nat → Int32)) (fun r (u : Int32 × Int32 × (Nat → Int32)) => Q r u.1 u.2.1 u.2.2) (fun u => wO q c tnN ckN stN trN dsT dsC tpN lwN u.1 rdM rdE u.2.1 twN rsW rsE rwN suns ckT ckD shf lnT ways ups sts sty dly gAp gOp stp bst sgn lwT lwD rdT u.2.2 lwK lwM twS twM twD rsO rsB rwA) := by
  refine oKi.ofWz (own := RX1) (cc := cX1_takeDigit) (maxL := 2) (plainFor_of_name (by decide +kernel)) rfl rfl (Nat.le_of_ble_eq_true rfl) (fun p e s m args below meth cd A ls Z hx hb hml hown hts hret ho hl => ?_)
  replace hl : lv_has ls 2 [(0, .ref (q 38)), (1, .int v1)] := hl
  have hN := ho.2.1
  have hinX1 : ∀ w ∈ u_ws RX1 TX1 6, w ∈ wsX1_takeDigit := by decide +kernel
  have hf15 := hts (.fieldLink RX1 15 "OneTime$LawReader" "mores" "[I") (by decide +kernel)
  have hf18 := hts (.fieldLink RX1 18 "OneTime$LawReader" "state" "I") (by decide +kernel)
  have hf22 := hts (.fieldLink RX1 22 "OneTime$LawReader" "matter" "I") (by decide +kernel)
  have hf25 := hts (.fieldLink RX1 25 "OneTime$LawReader" "sense" "I") (by decide +kernel)
  have hf28 := hts (.fieldLink RX1 28 "OneTime$LawReader" "digits" "I") (by decide +kernel)
  unfold p_Rd_takeDigit at hp
  refine lv_iload_n hx hb dX1_takeDigit_0 rfl (lv_at hl 1 rfl) ?_
  refine lv_bipush (v := 48) hx hb dX1_takeDigit_1 (by decide) ?_
  refine lv_icmp_lt (tgt := 30) hx hb dX1_takeDigit_3 (by decide) (fun c_3 => ?_) (fun c_3 => ?_)
  · replace hp := hp.1 c_3
    refine lv_iconst (v := 0) hx hb dX1_takeDigit_30 (by decide) ?_
    exact hret 0 (rdS, rdD, rdO) _ _ _ _ dX1_takeDigit_31 (Or.inl rfl) ho hp
  · replace hp := hp.2 c_3
    refine lv_iload_n hx hb dX1_takeDigit_6 rfl (lv_at hl 1 rfl) ?_
    refine lv_bipush (v := 57) hx hb dX1_takeDigit_7 (by decide) ?_
    refine lv_icmp_gt (tgt := 30) hx hb dX1_takeDigit_9 (by decide) (fun c_9 => ?_) (fun c_9 => ?_)
    · replace hp := hp.1 c_9
      refine lv_iconst (v := 0) hx hb dX1_takeDigit_30 (by decide) ?_
      exact hret 0 (rdS, rdD, rdO) _ _ _ _ dX1_takeDigit_31 (Or.inl rfl) ho hp
    · replace hp := hp.2 c_9
      refine lv_aload_n hx hb dX1_takeDigit_12 rfl (lv_at hl 0 rfl) ?_
      refine o_get (ci := 1) (T := TX1) hx hb hts hinX1 hown ho 38 rfl rfl 5 (by decide) hf28 rfl dX1_takeDigit_13 ?_
      refine lv_iconst (v := 3) hx hb dX1_takeDigit_16 (by decide) ?_
      refine lv_icmp_ge (tgt := 30) hx hb dX1_takeDigit_17 (by decide) (fun c_17 => ?_) (fun c_17 => ?_)
      · replace hp := hp.1 c_17
        refine lv_iconst (v := 0) hx hb dX1_takeDigit_30 (by decide) ?_
        exact hret 0 (rdS, rdD, rdO) _ _ _ _ dX1_takeDigit_31 (Or.inl rfl) ho hp
      · replace hp := hp.2 c_17
        refine lv_aload_n hx hb dX1_takeDigit_20 rfl (lv_at hl 0 rfl) ?_
        refine o_get (ci := 1) (T := TX1) hx hb hts hinX1 hown ho 38 rfl rfl 3 (by decide) hf22 rfl dX1_takeDigit_21 ?_
        refine o_callSNi (rest := []) (host := RX10) ⟨hx, hb, hml, hown, hts⟩ ho (c_O_isMatter l D (oT c) (wO q c tnN ckN stN trN dsT dsC tpN lwN rdS rdM rdE rdD twN rsW rsE rwN suns ckT ckD shf lnT ways ups sts sty dly gAp gOp stp bst sgn lwT lwD rdT rdO lwK lwM twS twM twD rsO rsB rwA) rdM _ hp) ⟨va_cnB 1 hts gX1_takeDigit_X10_isMatter_n66 rfl rfl rfl hN.2.1 (hts (.initialized RX10) (by decide +kernel)) (by decide +kernel) ⟨(Nat.le_of_ble_eq_true rfl), (Nat.le_of_ble_eq_true rfl)⟩, hts (.static yX10_isMatter) (by decide +kernel), trivial⟩ rfl hl.1 rfl (Nat.le_of_ble_eq_true rfl) dX1_takeDigit_24 ⟨Nat.zero_le _, Nat.zero_le _⟩ (fun r24 u H locs hp ho => ?_)
        try dsimp only at hp
        replace ho : oW D (oT c) A s.heap s (wO q c tnN ckN stN trN dsT dsC tpN lwN rdS rdM rdE rdD twN rsW rsE rwN suns ckT ckD shf lnT ways ups sts sty dly gAp gOp stp bst sgn lwT lwD rdT rdO lwK lwM twS twM twD rsO rsB rwA) H locs := ho
        refine lv_if_ne (tgt := 32) hx hb dX1_takeDigit_27 (by decide) (fun c_27 => ?_) (fun c_27 => ?_)
        · replace hp := hp.2 c_27
          refine lv_aload_n hx hb dX1_takeDigit_32 rfl (lv_at hl 0 rfl) ?_
          refine o_get (ci := 1) (T := TX1) hx hb hts hinX1 hown ho 38 rfl rfl 1 (by decide) hf15 rfl dX1_takeDigit_33 ?_
          refine lv_aload_n hx hb dX1_takeDigit_36 rfl (lv_at hl 0 rfl) ?_
          refine o_get (ci := 1) (T := TX1) hx hb hts hinX1 hown ho 38 rfl rfl 3 (by decide) hf22 rfl dX1_takeDigit_37 ?_
          refine lv_aload_n hx hb dX1_takeDigit_40 rfl (lv_at hl 0 rfl) ?_
          refine o_get (ci := 1) (T := TX1) hx hb hts hinX1 hown ho 38 rfl rfl 1 (by decide) hf15 rfl dX1_takeDigit_41 ?_
          refine lv_aload_n hx hb dX1_takeDigit_44 rfl (lv_at hl 0 rfl) ?_
          refine o_get (ci := 1) (T := TX1) hx hb hts hinX1 hown ho 38 rfl rfl 3 (by decide) hf22 rfl dX1_takeDigit_45 ?_
          refine o_ild hx hb ho 40 20 rfl rfl hp.1 dX1_takeDigit_48 ?_
          replace hp := hp.2
          refine lv_bipush (v := 10) hx hb dX1_takeDigit_49 (by decide) ?_
          refine lv_imul hx hb dX1_takeDigit_51 ?_
          refine lv_aload_n hx hb dX1_takeDigit_52 rfl (lv_at hl 0 rfl) ?_
          refine o_get (ci := 1) (T := TX1) hx hb hts hinX1 hown ho 38 rfl rfl 4 (by decide) hf25 rfl dX1_takeDigit_53 ?_
          refine lv_iload_n hx hb dX1_takeDigit_56 rfl (lv_at hl 1 rfl) ?_
          refine lv_bipush (v := 48) hx hb dX1_takeDigit_57 (by decide) ?_
          refine lv_isub hx hb dX1_takeDigit_59 ?_
          refine lv_imul hx hb dX1_takeDigit_60 ?_
          refine lv_iadd hx hb dX1_takeDigit_61 ?_
          refine o_ist hx hb ho 40 20 rfl rfl hp.1 dX1_takeDigit_62 (fun H locs ho => ?_)
          replace hp := hp.2
          replace ho : oW D (oT c) A s.heap s (wO q c tnN ckN stN trN dsT dsC tpN lwN rdS rdM rdE rdD twN rsW rsE rwN suns ckT ckD shf lnT ways ups sts sty dly gAp gOp stp bst sgn lwT lwD rdT (upd rdO rdM.toNatClampNeg (((rdO rdM.toNatClampNeg) * 10) + (rdE * (v1 - 48)))) lwK lwM twS twM twD rsO rsB rwA) H locs := ho
          refine lv_aload_n hx hb dX1_takeDigit_63 rfl (lv_at hl 0 rfl) ?_
          refine lv_dup hx hb dX1_takeDigit_64 rfl ?_
          refine o_get (ci := 1) (T := TX1) hx hb hts hinX1 hown ho 38 rfl rfl 5 (by decide) hf28 rfl dX1_takeDigit_65 ?_
          refine lv_iconst (v := 1) hx hb dX1_takeDigit_68 (by decide) ?_
          refine lv_iadd hx hb dX1_takeDigit_69 ?_
          refine lv_topi (fun x70 e_x70 => ?_)
          replace hp := hp x70 e_x70
          refine o_put (ci := 1) (T := TX1) hx hb hts hinX1 tyX1_ok nmX1 hown ho 38 rfl rfl 5 (by decide) hf28 rfl (tyX1_ok 5 (by decide)) (Nat.le_of_ble_eq_true rfl) dX1_takeDigit_70 (fun H locs ho => ?_)
          replace ho : oW D (oT c) A s.heap s (wO q c tnN ckN stN trN dsT dsC tpN lwN rdS rdM rdE x70 twN rsW rsE rwN suns ckT ckD shf lnT ways ups sts sty dly gAp gOp stp bst sgn lwT lwD rdT (upd rdO rdM.toNatClampNeg (((rdO rdM.toNatClampNeg) * 10) + (rdE * (v1 - 48)))) lwK lwM twS twM twD rsO rsB rwA) H locs := ho
          refine lv_aload_n hx hb dX1_takeDigit_73 rfl (lv_at hl 0 rfl) ?_
          refine lv_iconst (v := 5) hx hb dX1_takeDigit_74 (by decide) ?_
          refine o_put (ci := 1) (T := TX1) hx hb hts hinX1 tyX1_ok nmX1 hown ho 38 rfl rfl 2 (by decide) hf18 rfl (tyX1_ok 2 (by decide)) (Nat.le_of_ble_eq_true rfl) dX1_takeDigit_75 (fun H locs ho => ?_)
          replace ho : oW D (oT c) A s.heap s (wO q c tnN ckN stN trN dsT dsC tpN lwN 5 rdM rdE x70 twN rsW rsE rwN suns ckT ckD shf lnT ways ups sts sty dly gAp gOp stp bst sgn lwT lwD rdT (upd rdO rdM.toNatClampNeg (((rdO rdM.toNatClampNeg) * 10) + (rdE * (v1 - 48)))) lwK lwM twS twM twD rsO rsB rwA) H locs := ho
          refine lv_iconst (v := 1) hx hb dX1_takeDigit_78 (by decide) ?_
          exact hret 1 (5, x70, upd rdO rdM.toNatClampNeg (((rdO rdM.toNatClampNeg) * 10) + (rdE * (v1 - 48)))) _ _ _ _ dX1_takeDigit_79 (Or.inr rfl) ho hp
        · replace hp := hp.1 c_27
          refine lv_iconst (v := 0) hx hb dX1_takeDigit_30 (by decide) ?_
          exact hret 0 (rdS, rdD, rdO) _ _ _ _ dX1_takeDigit_31 (Or.inl rfl) ho hp
set_option maxHeartbeats 4000000 in
set_option maxRecDepth 100000 in
theorem c_Rd_takeSense (l : Launch) (D : va_G) (q : Nat → Nat) (c : Nat → ClassId) (tnN : Int32) (ckN : Int32) (stN : Int32) (trN : Int32) (dsT : Int32) (dsC : Int32) (tpN : Int32) (lwN : Int32) (rdS : Int32) (rdM : Int32) (rdE : Int32) (rdD : Int32) (twN : Int32) (rsW : Int32) (rsE : Int32) (rwN : Int32) (suns : Nat → Int32) (ckT : Nat → Int32) (ckD : Nat → Int32) (shf : Nat → Int32) (lnT : Nat → Int32) (ways : Nat → Int32) (ups : Nat → Int32) (sts : Nat → Int32) (sty : Nat → Int32) (dly : Nat → Int32) (gAp : Nat → Nat → Int32) (gOp : Nat → Nat → Int32) (stp : Nat → Int32) (bst : Nat → Int32) (sgn : Nat → Int32) (lwT : Nat → Int32) (lwD : Nat → Int32) (rdT : Nat → Int32) (rdO : Nat → Int32) (lwK : Nat → Int32) (lwM : Nat → Int32) (twS : Nat → Int32) (twM : Nat → Int32) (twD : Nat → Int32) (rsO : Nat → Int32) (rsB : Nat → Int32) (rwA : Nat → Int32) (v1 : Int32) (Q : Int32 → Int32 → Int32 → Int32 → Prop) (hp : p_Rd_takeSense rdS rdE rdD v1 Q) : oKi l yX1_takeSense wsX1_takeSense { frames := 0, cells := 0, slots := 0, locals := 0 } [.ref (q 38), .int v1] D (oT c) (wO q c tnN ckN stN trN dsT dsC tpN lwN rdS rdM rdE rdD twN rsW rsE rwN suns ckT ckD shf lnT ways ups sts sty dly gAp gOp stp bst sgn lwT lwD rdT rdO lwK lwM twS twM twD rsO rsB rwA) (Int32 × Int32 × Int32) (fun r (u : Int32 × Int32 × Int32) => Q r u.1 u.2.1 u.2.2) (fun u => wO q c tnN ckN stN trN dsT dsC tpN lwN u.1 rdM u.2.1 u.2.2 twN rsW rsE rwN suns ckT ckD shf lnT ways ups sts sty dly gAp gOp stp bst sgn lwT lwD rdT rdO lwK lwM twS twM twD rsO rsB rwA) := by
  refine oKi.ofWz (own := RX1) (cc := cX1_takeSense) (maxL := 2) (plainFor_of_name (by decide +kernel)) rfl rfl (Nat.le_of_ble_eq_true rfl) (fun p e s m args below meth cd A ls Z hx hb hml hown hts hret ho hl => ?_)
  replace hl : lv_has ls 2 [(0, .ref (q 38)), (1, .int v1)] := hl
  have hinX1 : ∀ w ∈ u_ws RX1 TX1 6, w ∈ wsX1_takeSense := by decide +kernel
  have hf18 := hts (.fieldLink RX1 18 "OneTime$LawReader" "state" "I") (by decide +kernel)
  have hf25 := hts (.fieldLink RX1 25 "OneTime$LawReader" "sense" "I") (by decide +kernel)
  have hf28 := hts (.fieldLink RX1 28 "OneTime$LawReader" "digits" "I") (by decide +kernel)
  unfold p_Rd_takeSense at hp
  have hJ26 : ∀ (rdS : Int32) (rdE : Int32) (rdD : Int32) (s1 : Int32), p_Rd_takeSense_J26 rdS rdE rdD s1 Q → ∀ (H : Heap) (locs : List Loc) (ls : Array Slot), oW D (oT c) A s.heap s (wO q c tnN ckN stN trN dsT dsC tpN lwN rdS rdM rdE rdD twN rsW rsE rwN suns ckT ckD shf lnT ways ups sts sty dly gAp gOp stp bst sgn lwT lwD rdT rdO lwK lwM twS twM twD rsO rsB rwA) H locs → lv_has ls 2 [(0, .ref (q 38))] → W p l e { frames := 0, cells := 0, slots := 0, locals := 0 } s m args below meth cd H locs 0 0 Z (F0 m 26 ls [.int s1, .ref (q 38)]) := by
    intro rdS rdE rdD s1
    intro hp H locs ls ho hl
    unfold p_Rd_takeSense_J26 at hp
    refine o_put (ci := 1) (T := TX1) hx hb hts hinX1 tyX1_ok nmX1 hown ho 38 rfl rfl 4 (by decide) hf25 rfl (tyX1_ok 4 (by decide)) (Nat.le_of_ble_eq_true rfl) dX1_takeSense_26 (fun H locs ho => ?_)
    replace ho : oW D (oT c) A s.heap s (wO q c tnN ckN stN trN dsT dsC tpN lwN rdS rdM s1 rdD twN rsW rsE rwN suns ckT ckD shf lnT ways ups sts sty dly gAp gOp stp bst sgn lwT lwD rdT rdO lwK lwM twS twM twD rsO rsB rwA) H locs := ho
    refine lv_aload_n hx hb dX1_takeSense_29 rfl (lv_at hl 0 rfl) ?_
    refine lv_iconst (v := 0) hx hb dX1_takeSense_30 (by decide) ?_
    refine o_put (ci := 1) (T := TX1) hx hb hts hinX1 tyX1_ok nmX1 hown ho 38 rfl rfl 5 (by decide) hf28 rfl (tyX1_ok 5 (by decide)) (Nat.le_of_ble_eq_true rfl) dX1_takeSense_31 (fun H locs ho => ?_)
    replace ho : oW D (oT c) A s.heap s (wO q c tnN ckN stN trN dsT dsC tpN lwN rdS rdM s1 0 twN rsW rsE rwN suns ckT ckD shf lnT ways ups sts sty dly gAp gOp stp bst sgn lwT lwD rdT rdO lwK lwM twS twM twD rsO rsB rwA) H locs := ho
    refine lv_aload_n hx hb dX1_takeSense_34 rfl (lv_at hl 0 rfl) ?_
    refine lv_iconst (v := 3) hx hb dX1_takeSense_35 (by decide) ?_
    refine o_put (ci := 1) (T := TX1) hx hb hts hinX1 tyX1_ok nmX1 hown ho 38 rfl rfl 2 (by decide) hf18 rfl (tyX1_ok 2 (by decide)) (Nat.le_of_ble_eq_true rfl) dX1_takeSense_36 (fun H locs ho => ?_)
    replace ho : oW D (oT c) A s.heap s (wO q c tnN ckN stN trN dsT dsC tpN lwN 3 rdM s1 0 twN rsW rsE rwN suns ckT ckD shf lnT ways ups sts sty dly gAp gOp stp bst sgn lwT lwD rdT rdO lwK lwM twS twM twD rsO rsB rwA) H locs := ho
    refine lv_iconst (v := 1) hx hb dX1_takeSense_39 (by decide) ?_
    exact hret 1 (3, s1, 0) _ _ _ _ dX1_takeSense_40 (Or.inr rfl) ho hp
  have hJ14 : ∀ (v1 : Int32) (rdS : Int32) (rdE : Int32) (rdD : Int32), p_Rd_takeSense_J14 v1 rdS rdE rdD Q → ∀ (H : Heap) (locs : List Loc) (ls : Array Slot), oW D (oT c) A s.heap s (wO q c tnN ckN stN trN dsT dsC tpN lwN rdS rdM rdE rdD twN rsW rsE rwN suns ckT ckD shf lnT ways ups sts sty dly gAp gOp stp bst sgn lwT lwD rdT rdO lwK lwM twS twM twD rsO rsB rwA) H locs → lv_has ls 2 [(0, .ref (q 38)), (1, .int v1)] → W p l e { frames := 0, cells := 0, slots := 0, locals := 0 } s m args below meth cd H locs 0 0 Z (F0 m 14 ls []) := by
    intro v1 rdS rdE rdD
    intro hp H locs ls ho hl
    unfold p_Rd_takeSense_J14 at hp
    refine lv_aload_n hx hb dX1_takeSense_14 rfl (lv_at hl 0 rfl) ?_
    refine lv_iload_n hx hb dX1_takeSense_15 rfl (lv_at hl 1 rfl) ?_
    refine lv_bipush (v := 43) hx hb dX1_takeSense_16 (by decide) ?_
    refine lv_icmp_ne (tgt := 25) hx hb dX1_takeSense_18 (by decide) (fun c_18 => ?_) (fun c_18 => ?_)
    · replace hp := hp.2 c_18
      refine lv_iconst (v := (-1)) hx hb dX1_takeSense_25 (by decide) ?_
      exact hJ26 rdS rdE rdD (-1) hp _ _ _ ho (lv_sub hl [0] rfl)
    · replace hp := hp.1 c_18
      refine lv_iconst (v := 1) hx hb dX1_takeSense_21 (by decide) ?_
      refine lv_goto (tgt := 26) hx hb dX1_takeSense_22 (by decide) ?_
      exact hJ26 rdS rdE rdD 1 hp _ _ _ ho (lv_sub hl [0] rfl)
  refine lv_iload_n hx hb dX1_takeSense_0 rfl (lv_at hl 1 rfl) ?_
  refine lv_bipush (v := 43) hx hb dX1_takeSense_1 (by decide) ?_
  refine lv_icmp_eq (tgt := 14) hx hb dX1_takeSense_3 (by decide) (fun c_3 => ?_) (fun c_3 => ?_)
  · replace hp := hp.1 c_3
    exact hJ14 v1 rdS rdE rdD hp _ _ _ ho (lv_sub hl [0, 1] rfl)
  · replace hp := hp.2 c_3
    refine lv_iload_n hx hb dX1_takeSense_6 rfl (lv_at hl 1 rfl) ?_
    refine lv_bipush (v := 45) hx hb dX1_takeSense_7 (by decide) ?_
    refine lv_icmp_eq (tgt := 14) hx hb dX1_takeSense_9 (by decide) (fun c_9 => ?_) (fun c_9 => ?_)
    · replace hp := hp.1 c_9
      exact hJ14 v1 rdS rdE rdD hp _ _ _ ho (lv_sub hl [0, 1] rfl)
    · replace hp := hp.2 c_9
      refine lv_iconst (v := 0) hx hb dX1_takeSense_12 (by decide) ?_
      exact hret 0 (rdS, rdE, rdD) _ _ _ _ dX1_takeSense_13 (Or.inl rfl) ho hp
set_option maxHeartbeats 4000000 in
set_option maxRecDepth 100000 in
theorem c_Rd_takeSign (l : Launch) (D : va_G) (q : Nat → Nat) (c : Nat → ClassId) (tnN : Int32) (ckN : Int32) (stN : Int32) (trN : Int32) (dsT : Int32) (dsC : Int32) (tpN : Int32) (lwN : Int32) (rdS : Int32) (rdM : Int32) (rdE : Int32) (rdD : Int32) (twN : Int32) (rsW : Int32) (rsE : Int32) (rwN : Int32) (suns : Nat → Int32) (ckT : Nat → Int32) (ckD : Nat → Int32) (shf : Nat → Int32) (lnT : Nat → Int32) (ways : Nat → Int32) (ups : Nat → Int32) (sts : Nat → Int32) (sty : Nat → Int32) (dly : Nat → Int32) (gAp : Nat → Nat → Int32) (gOp : Nat → Nat → Int32) (stp : Nat → Int32) (bst : Nat → Int32) (sgn : Nat → Int32) (lwT : Nat → Int32) (lwD : Nat → Int32) (rdT : Nat → Int32) (rdO : Nat → Int32) (lwK : Nat → Int32) (lwM : Nat → Int32) (twS : Nat → Int32) (twM : Nat → Int32) (twD : Nat → Int32) (rsO : Nat → Int32) (rsB : Nat → Int32) (rwA : Nat → Int32) (v1 : Int32) (Q : Int32 → Int32 → Int32 → Int32 → Int32 → (Nat → Int32) → (Nat → Int32) → Prop) (hp : p_Rd_takeSign rdS rdM rdE rdD rdT rdO v1 Q) : oKi l yX1_takeSign wsX1_takeSign { frames := 2, cells := 0, slots := 0, locals := 41 } [.ref (q 38), .int v1] D (oT c) (wO q c tnN ckN stN trN dsT dsC tpN lwN rdS rdM rdE rdD twN rsW rsE rwN suns ckT ckD shf lnT ways ups sts sty dly gAp gOp stp bst sgn lwT lwD rdT rdO lwK lwM twS twM twD rsO rsB rwA) (Int32 × Int32 × Int32 × Int32 × (Nat → Int32) × (Nat → Int32)) (fun r (u : Int32 × Int32 × Int32 × Int32 × (Nat → Int32) × (Nat → Int32)) => Q r u.1 u.2.1 u.2.2.1 u.2.2.2.1 u.2.2.2.2.1 u.2.2.2.2.2) (fun u => wO q c tnN ckN stN trN dsT dsC tpN lwN u.1 u.2.1 u.2.2.1 u.2.2.2.1 twN rsW rsE rwN suns ckT ckD shf lnT ways ups sts sty dly gAp gOp stp bst sgn lwT lwD u.2.2.2.2.1 u.2.2.2.2.2 lwK lwM twS twM twD rsO rsB rwA) := by
  refine oKi.ofWz (own := RX1) (cc := cX1_takeSign) (maxL := 2) (plainFor_of_name (by decide +kernel)) rfl rfl (Nat.le_of_ble_eq_true rfl) (fun p e s m args below meth cd A ls Z hx hb hml hown hts hret ho hl => ?_)
  replace hl : lv_has ls 2 [(0, .ref (q 38)), (1, .int v1)] := hl
  have hinX1 : ∀ w ∈ u_ws RX1 TX1 6, w ∈ wsX1_takeSign := by decide +kernel
  have hf18 := hts (.fieldLink RX1 18 "OneTime$LawReader" "state" "I") (by decide +kernel)
  unfold p_Rd_takeSign at hp
  refine lv_aload_n hx hb dX1_takeSign_0 rfl (lv_at hl 0 rfl) ?_
  refine o_get (ci := 1) (T := TX1) hx hb hts hinX1 hown ho 38 rfl rfl 2 (by decide) hf18 rfl dX1_takeSign_1 ?_
  by_cases c_4_0 : rdS = 0
  · replace hp := hp.1 c_4_0
    refine lv_tableIn (tgt := 40) (off := 36) hx hb dX1_takeSign_4 (by rw [c_4_0]; decide) (by rw [c_4_0]; decide) (by rw [c_4_0]; rfl) (by decide) ?_
    refine lv_aload_n hx hb dX1_takeSign_40 rfl (lv_at hl 0 rfl) ?_
    refine lv_iload_n hx hb dX1_takeSign_41 rfl (lv_at hl 1 rfl) ?_
    refine o_callVi (rest := []) (ci := 1) ⟨hx, hb, hml, hown, hts⟩ ho (c_Rd_takeMatter l D q c tnN ckN stN trN dsT dsC tpN lwN rdS rdM rdE rdD twN rsW rsE rwN suns ckT ckD shf lnT ways ups sts sty dly gAp gOp stp bst sgn lwT lwD rdT rdO lwK lwM twS twM twD rsO rsB rwA v1 _ hp) (cwV 1 hts gX1_takeSign_X1_takeMatter rfl rfl rfl (by decide +kernel) ⟨(Nat.le_of_ble_eq_true rfl), (Nat.le_of_ble_eq_true rfl)⟩) 38 rfl rfl rfl hl.1 rfl (Nat.le_of_ble_eq_true rfl) dX1_takeSign_42 ⟨Nat.zero_le _, Nat.zero_le _⟩ (fun r42 u H locs hp ho => ?_)
    obtain ⟨rdS_42, rdM_42⟩ := u
    try dsimp only at hp
    replace ho : oW D (oT c) A s.heap s (wO q c tnN ckN stN trN dsT dsC tpN lwN rdS_42 rdM_42 rdE rdD twN rsW rsE rwN suns ckT ckD shf lnT ways ups sts sty dly gAp gOp stp bst sgn lwT lwD rdT rdO lwK lwM twS twM twD rsO rsB rwA) H locs := ho
    exact hret r42 (rdS_42, rdM_42, rdE, rdD, rdT, rdO) _ _ _ _ dX1_takeSign_45 hp.1 ho hp.2
  replace hp := hp.2 c_4_0
  by_cases c_4_1 : rdS = 1
  · replace hp := hp.1 c_4_1
    refine lv_tableIn (tgt := 46) (off := 42) hx hb dX1_takeSign_4 (by rw [c_4_1]; decide) (by rw [c_4_1]; decide) (by rw [c_4_1]; rfl) (by decide) ?_
    refine lv_aload_n hx hb dX1_takeSign_46 rfl (lv_at hl 0 rfl) ?_
    refine lv_iload_n hx hb dX1_takeSign_47 rfl (lv_at hl 1 rfl) ?_
    refine lv_bipush (v := 61) hx hb dX1_takeSign_48 (by decide) ?_
    refine lv_iconst (v := 2) hx hb dX1_takeSign_50 (by decide) ?_
    refine o_callVi (rest := []) (ci := 1) ⟨hx, hb, hml, hown, hts⟩ ho (c_Rd_takeMark l D q c tnN ckN stN trN dsT dsC tpN lwN rdS rdM rdE rdD twN rsW rsE rwN suns ckT ckD shf lnT ways ups sts sty dly gAp gOp stp bst sgn lwT lwD rdT rdO lwK lwM twS twM twD rsO rsB rwA v1 61 2 _ hp) (cwV 3 hts gX1_takeSign_X1_takeMark rfl rfl rfl (by decide +kernel) ⟨(Nat.le_of_ble_eq_true rfl), (Nat.le_of_ble_eq_true rfl)⟩) 38 rfl rfl rfl hl.1 rfl (Nat.le_of_ble_eq_true rfl) dX1_takeSign_51 ⟨Nat.zero_le _, Nat.zero_le _⟩ (fun r51 u H locs hp ho => ?_)
    obtain ⟨rdS_51, rfl⟩ : ∃ z, z = u := ⟨_, rfl⟩
    try dsimp only at hp
    replace ho : oW D (oT c) A s.heap s (wO q c tnN ckN stN trN dsT dsC tpN lwN rdS_51 rdM rdE rdD twN rsW rsE rwN suns ckT ckD shf lnT ways ups sts sty dly gAp gOp stp bst sgn lwT lwD rdT rdO lwK lwM twS twM twD rsO rsB rwA) H locs := ho
    exact hret r51 (rdS_51, rdM, rdE, rdD, rdT, rdO) _ _ _ _ dX1_takeSign_54 hp.1 ho hp.2
  replace hp := hp.2 c_4_1
  by_cases c_4_2 : rdS = 2
  · replace hp := hp.1 c_4_2
    refine lv_tableIn (tgt := 55) (off := 51) hx hb dX1_takeSign_4 (by rw [c_4_2]; decide) (by rw [c_4_2]; decide) (by rw [c_4_2]; rfl) (by decide) ?_
    refine lv_aload_n hx hb dX1_takeSign_55 rfl (lv_at hl 0 rfl) ?_
    refine lv_iload_n hx hb dX1_takeSign_56 rfl (lv_at hl 1 rfl) ?_
    refine o_callVi (rest := []) (ci := 1) ⟨hx, hb, hml, hown, hts⟩ ho (c_Rd_takeTime l D q c tnN ckN stN trN dsT dsC tpN lwN rdS rdM rdE rdD twN rsW rsE rwN suns ckT ckD shf lnT ways ups sts sty dly gAp gOp stp bst sgn lwT lwD rdT rdO lwK lwM twS twM twD rsO rsB rwA v1 _ hp) (cwV 1 hts gX1_takeSign_X1_takeTime rfl rfl rfl (by decide +kernel) ⟨(Nat.le_of_ble_eq_true rfl), (Nat.le_of_ble_eq_true rfl)⟩) 38 rfl rfl rfl hl.1 rfl (Nat.le_of_ble_eq_true rfl) dX1_takeSign_57 ⟨Nat.zero_le _, Nat.zero_le _⟩ (fun r57 u H locs hp ho => ?_)
    obtain ⟨rdS_57, rdT_57, rdO_57⟩ := u
    try dsimp only at hp
    replace ho : oW D (oT c) A s.heap s (wO q c tnN ckN stN trN dsT dsC tpN lwN rdS_57 rdM rdE rdD twN rsW rsE rwN suns ckT ckD shf lnT ways ups sts sty dly gAp gOp stp bst sgn lwT lwD rdT_57 rdO_57 lwK lwM twS twM twD rsO rsB rwA) H locs := ho
    exact hret r57 (rdS_57, rdM, rdE, rdD, rdT_57, rdO_57) _ _ _ _ dX1_takeSign_60 hp.1 ho hp.2
  replace hp := hp.2 c_4_2
  by_cases c_4_3 : rdS = 3
  · replace hp := hp.1 c_4_3
    refine lv_tableIn (tgt := 61) (off := 57) hx hb dX1_takeSign_4 (by rw [c_4_3]; decide) (by rw [c_4_3]; decide) (by rw [c_4_3]; rfl) (by decide) ?_
    refine lv_aload_n hx hb dX1_takeSign_61 rfl (lv_at hl 0 rfl) ?_
    refine lv_iload_n hx hb dX1_takeSign_62 rfl (lv_at hl 1 rfl) ?_
    refine o_callVi (rest := []) (ci := 1) ⟨hx, hb, hml, hown, hts⟩ ho (c_Rd_takeDigit l D q c tnN ckN stN trN dsT dsC tpN lwN rdS rdM rdE rdD twN rsW rsE rwN suns ckT ckD shf lnT ways ups sts sty dly gAp gOp stp bst sgn lwT lwD rdT rdO lwK lwM twS twM twD rsO rsB rwA v1 _ hp) (cwV 1 hts gX1_takeSign_X1_takeDigit rfl rfl rfl (by decide +kernel) ⟨(Nat.le_of_ble_eq_true rfl), (Nat.le_of_ble_eq_true rfl)⟩) 38 rfl rfl rfl hl.1 rfl (Nat.le_of_ble_eq_true rfl) dX1_takeSign_63 ⟨Nat.zero_le _, Nat.zero_le _⟩ (fun r63 u H locs hp ho => ?_)
    obtain ⟨rdS_63, rdD_63, rdO_63⟩ := u
    try dsimp only at hp
    replace ho : oW D (oT c) A s.heap s (wO q c tnN ckN stN trN dsT dsC tpN lwN rdS_63 rdM rdE rdD_63 twN rsW rsE rwN suns ckT ckD shf lnT ways ups sts sty dly gAp gOp stp bst sgn lwT lwD rdT rdO_63 lwK lwM twS twM twD rsO rsB rwA) H locs := ho
    exact hret r63 (rdS_63, rdM, rdE, rdD_63, rdT, rdO_63) _ _ _ _ dX1_takeSign_66 hp.1 ho hp.2
  replace hp := hp.2 c_4_3
  by_cases c_4_4 : rdS = 4
  · replace hp := hp.1 c_4_4
    refine lv_tableIn (tgt := 67) (off := 63) hx hb dX1_takeSign_4 (by rw [c_4_4]; decide) (by rw [c_4_4]; decide) (by rw [c_4_4]; rfl) (by decide) ?_
    refine lv_aload_n hx hb dX1_takeSign_67 rfl (lv_at hl 0 rfl) ?_
    refine lv_iload_n hx hb dX1_takeSign_68 rfl (lv_at hl 1 rfl) ?_
    refine o_callVi (rest := []) (ci := 1) ⟨hx, hb, hml, hown, hts⟩ ho (c_Rd_takeSense l D q c tnN ckN stN trN dsT dsC tpN lwN rdS rdM rdE rdD twN rsW rsE rwN suns ckT ckD shf lnT ways ups sts sty dly gAp gOp stp bst sgn lwT lwD rdT rdO lwK lwM twS twM twD rsO rsB rwA v1 _ hp) (cwV 1 hts gX1_takeSign_X1_takeSense rfl rfl rfl (by decide +kernel) ⟨(Nat.le_of_ble_eq_true rfl), (Nat.le_of_ble_eq_true rfl)⟩) 38 rfl rfl rfl hl.1 rfl (Nat.le_of_ble_eq_true rfl) dX1_takeSign_69 ⟨Nat.zero_le _, Nat.zero_le _⟩ (fun r69 u H locs hp ho => ?_)
    obtain ⟨rdS_69, rdE_69, rdD_69⟩ := u
    try dsimp only at hp
    replace ho : oW D (oT c) A s.heap s (wO q c tnN ckN stN trN dsT dsC tpN lwN rdS_69 rdM rdE_69 rdD_69 twN rsW rsE rwN suns ckT ckD shf lnT ways ups sts sty dly gAp gOp stp bst sgn lwT lwD rdT rdO lwK lwM twS twM twD rsO rsB rwA) H locs := ho
    refine lv_if_ne (tgt := 86) hx hb dX1_takeSign_72 (by decide) (fun c_72 => ?_) (fun c_72 => ?_)
    · replace hp := hp.2 c_72
      refine lv_iconst (v := 1) hx hb dX1_takeSign_86 (by decide) ?_
      refine lv_goto (tgt := 91) hx hb dX1_takeSign_87 (by decide) ?_
      exact hret 1 (rdS_69, rdM, rdE_69, rdD_69, rdT, rdO) _ _ _ _ dX1_takeSign_91 (Or.inr rfl) ho hp
    · replace hp := hp.1 c_72
      refine lv_aload_n hx hb dX1_takeSign_75 rfl (lv_at hl 0 rfl) ?_
      refine lv_iload_n hx hb dX1_takeSign_76 rfl (lv_at hl 1 rfl) ?_
      refine lv_bipush (v := 59) hx hb dX1_takeSign_77 (by decide) ?_
      refine lv_iconst (v := 0) hx hb dX1_takeSign_79 (by decide) ?_
      refine o_callVi (rest := []) (ci := 1) ⟨hx, hb, hml, hown, hts⟩ ho (c_Rd_takeMark l D q c tnN ckN stN trN dsT dsC tpN lwN rdS_69 rdM rdE_69 rdD_69 twN rsW rsE rwN suns ckT ckD shf lnT ways ups sts sty dly gAp gOp stp bst sgn lwT lwD rdT rdO lwK lwM twS twM twD rsO rsB rwA v1 59 0 _ hp) (cwV 3 hts gX1_takeSign_X1_takeMark rfl rfl rfl (by decide +kernel) ⟨(Nat.le_of_ble_eq_true rfl), (Nat.le_of_ble_eq_true rfl)⟩) 38 rfl rfl rfl hl.1 rfl (Nat.le_of_ble_eq_true rfl) dX1_takeSign_80 ⟨Nat.zero_le _, Nat.zero_le _⟩ (fun r80 u H locs hp ho => ?_)
      obtain ⟨rdS_80, rfl⟩ : ∃ z, z = u := ⟨_, rfl⟩
      try dsimp only at hp
      replace ho : oW D (oT c) A s.heap s (wO q c tnN ckN stN trN dsT dsC tpN lwN rdS_80 rdM rdE_69 rdD_69 twN rsW rsE rwN suns ckT ckD shf lnT ways ups sts sty dly gAp gOp stp bst sgn lwT lwD rdT rdO lwK lwM twS twM twD rsO rsB rwA) H locs := ho
      refine lv_if_eq (tgt := 90) hx hb dX1_takeSign_83 (by decide) (fun c_83 => ?_) (fun c_83 => ?_)
      · replace hp := hp.1 c_83
        refine lv_iconst (v := 0) hx hb dX1_takeSign_90 (by decide) ?_
        exact hret 0 (rdS_80, rdM, rdE_69, rdD_69, rdT, rdO) _ _ _ _ dX1_takeSign_91 (Or.inl rfl) ho hp
      · replace hp := hp.2 c_83
        refine lv_iconst (v := 1) hx hb dX1_takeSign_86 (by decide) ?_
        refine lv_goto (tgt := 91) hx hb dX1_takeSign_87 (by decide) ?_
        exact hret 1 (rdS_80, rdM, rdE_69, rdD_69, rdT, rdO) _ _ _ _ dX1_takeSign_91 (Or.inr rfl) ho hp
  replace hp := hp.2 c_4_4
  have n_4_0 := ne_ti 0 (by decide : (0 : Int32).toInt = 0) c_4_0
  have n_4_1 := ne_ti 1 (by decide : (1 : Int32).toInt = 1) c_4_1
  have n_4_2 := ne_ti 2 (by decide : (2 : Int32).toInt = 2) c_4_2
  have n_4_3 := ne_ti 3 (by decide : (3 : Int32).toInt = 3) c_4_3
  have n_4_4 := ne_ti 4 (by decide : (4 : Int32).toInt = 4) c_4_4
  refine lv_tableOut (tgt := 92) hx hb dX1_takeSign_4 (by omega) (by decide) ?_
  refine lv_aload_n hx hb dX1_takeSign_92 rfl (lv_at hl 0 rfl) ?_
  refine lv_iload_n hx hb dX1_takeSign_93 rfl (lv_at hl 1 rfl) ?_
  refine o_callVi (rest := []) (ci := 1) ⟨hx, hb, hml, hown, hts⟩ ho (c_Rd_takeDigit l D q c tnN ckN stN trN dsT dsC tpN lwN rdS rdM rdE rdD twN rsW rsE rwN suns ckT ckD shf lnT ways ups sts sty dly gAp gOp stp bst sgn lwT lwD rdT rdO lwK lwM twS twM twD rsO rsB rwA v1 _ hp) (cwV 1 hts gX1_takeSign_X1_takeDigit rfl rfl rfl (by decide +kernel) ⟨(Nat.le_of_ble_eq_true rfl), (Nat.le_of_ble_eq_true rfl)⟩) 38 rfl rfl rfl hl.1 rfl (Nat.le_of_ble_eq_true rfl) dX1_takeSign_94 ⟨Nat.zero_le _, Nat.zero_le _⟩ (fun r94 u H locs hp ho => ?_)
  obtain ⟨rdS_94, rdD_94, rdO_94⟩ := u
  try dsimp only at hp
  replace ho : oW D (oT c) A s.heap s (wO q c tnN ckN stN trN dsT dsC tpN lwN rdS_94 rdM rdE rdD_94 twN rsW rsE rwN suns ckT ckD shf lnT ways ups sts sty dly gAp gOp stp bst sgn lwT lwD rdT rdO_94 lwK lwM twS twM twD rsO rsB rwA) H locs := ho
  refine lv_if_ne (tgt := 111) hx hb dX1_takeSign_97 (by decide) (fun c_97 => ?_) (fun c_97 => ?_)
  · replace hp := hp.2 c_97
    refine lv_iconst (v := 1) hx hb dX1_takeSign_111 (by decide) ?_
    refine lv_goto (tgt := 116) hx hb dX1_takeSign_112 (by decide) ?_
    exact hret 1 (rdS_94, rdM, rdE, rdD_94, rdT, rdO_94) _ _ _ _ dX1_takeSign_116 (Or.inr rfl) ho hp
  · replace hp := hp.1 c_97
    refine lv_aload_n hx hb dX1_takeSign_100 rfl (lv_at hl 0 rfl) ?_
    refine lv_iload_n hx hb dX1_takeSign_101 rfl (lv_at hl 1 rfl) ?_
    refine lv_bipush (v := 59) hx hb dX1_takeSign_102 (by decide) ?_
    refine lv_iconst (v := 0) hx hb dX1_takeSign_104 (by decide) ?_
    refine o_callVi (rest := []) (ci := 1) ⟨hx, hb, hml, hown, hts⟩ ho (c_Rd_takeMark l D q c tnN ckN stN trN dsT dsC tpN lwN rdS_94 rdM rdE rdD_94 twN rsW rsE rwN suns ckT ckD shf lnT ways ups sts sty dly gAp gOp stp bst sgn lwT lwD rdT rdO_94 lwK lwM twS twM twD rsO rsB rwA v1 59 0 _ hp) (cwV 3 hts gX1_takeSign_X1_takeMark rfl rfl rfl (by decide +kernel) ⟨(Nat.le_of_ble_eq_true rfl), (Nat.le_of_ble_eq_true rfl)⟩) 38 rfl rfl rfl hl.1 rfl (Nat.le_of_ble_eq_true rfl) dX1_takeSign_105 ⟨Nat.zero_le _, Nat.zero_le _⟩ (fun r105 u H locs hp ho => ?_)
    obtain ⟨rdS_105, rfl⟩ : ∃ z, z = u := ⟨_, rfl⟩
    try dsimp only at hp
    replace ho : oW D (oT c) A s.heap s (wO q c tnN ckN stN trN dsT dsC tpN lwN rdS_105 rdM rdE rdD_94 twN rsW rsE rwN suns ckT ckD shf lnT ways ups sts sty dly gAp gOp stp bst sgn lwT lwD rdT rdO_94 lwK lwM twS twM twD rsO rsB rwA) H locs := ho
    refine lv_if_eq (tgt := 115) hx hb dX1_takeSign_108 (by decide) (fun c_108 => ?_) (fun c_108 => ?_)
    · replace hp := hp.1 c_108
      refine lv_iconst (v := 0) hx hb dX1_takeSign_115 (by decide) ?_
      exact hret 0 (rdS_105, rdM, rdE, rdD_94, rdT, rdO_94) _ _ _ _ dX1_takeSign_116 (Or.inl rfl) ho hp
    · replace hp := hp.2 c_108
      refine lv_iconst (v := 1) hx hb dX1_takeSign_111 (by decide) ?_
      refine lv_goto (tgt := 116) hx hb dX1_takeSign_112 (by decide) ?_
      exact hret 1 (rdS_105, rdM, rdE, rdD_94, rdT, rdO_94) _ _ _ _ dX1_takeSign_116 (Or.inr rfl) ho hp
set_option maxHeartbeats 4000000 in
set_option maxRecDepth 100000 in
theorem c_Rd_take (l : Launch) (D : va_G) (q : Nat → Nat) (c : Nat → ClassId) (tnN : Int32) (ckN : Int32) (stN : Int32) (trN : Int32) (dsT : Int32) (dsC : Int32) (tpN : Int32) (lwN : Int32) (rdS : Int32) (rdM : Int32) (rdE : Int32) (rdD : Int32) (twN : Int32) (rsW : Int32) (rsE : Int32) (rwN : Int32) (suns : Nat → Int32) (ckT : Nat → Int32) (ckD : Nat → Int32) (shf : Nat → Int32) (lnT : Nat → Int32) (ways : Nat → Int32) (ups : Nat → Int32) (sts : Nat → Int32) (sty : Nat → Int32) (dly : Nat → Int32) (gAp : Nat → Nat → Int32) (gOp : Nat → Nat → Int32) (stp : Nat → Int32) (bst : Nat → Int32) (sgn : Nat → Int32) (lwT : Nat → Int32) (lwD : Nat → Int32) (rdT : Nat → Int32) (rdO : Nat → Int32) (lwK : Nat → Int32) (lwM : Nat → Int32) (twS : Nat → Int32) (twM : Nat → Int32) (twD : Nat → Int32) (rsO : Nat → Int32) (rsB : Nat → Int32) (rwA : Nat → Int32)  (Q : Int32 → Int32 → Int32 → Int32 → Int32 → (Nat → Int32) → (Nat → Int32) → Prop) (hp : p_Rd_take tpN sgn rdS rdM rdE rdD rdT rdO Q) : oKi l yX1_take wsX1_take { frames := 3, cells := 0, slots := 0, locals := 62 } [.ref (q 38), .ref (q 32)] D (oT c) (wO q c tnN ckN stN trN dsT dsC tpN lwN rdS rdM rdE rdD twN rsW rsE rwN suns ckT ckD shf lnT ways ups sts sty dly gAp gOp stp bst sgn lwT lwD rdT rdO lwK lwM twS twM twD rsO rsB rwA) (Int32 × Int32 × Int32 × Int32 × (Nat → Int32) × (Nat → Int32)) (fun r (u : Int32 × Int32 × Int32 × Int32 × (Nat → Int32) × (Nat → Int32)) => Q r u.1 u.2.1 u.2.2.1 u.2.2.2.1 u.2.2.2.2.1 u.2.2.2.2.2) (fun u => wO q c tnN ckN stN trN dsT dsC tpN lwN u.1 u.2.1 u.2.2.1 u.2.2.2.1 twN rsW rsE rwN suns ckT ckD shf lnT ways ups sts sty dly gAp gOp stp bst sgn lwT lwD u.2.2.2.2.1 u.2.2.2.2.2 lwK lwM twS twM twD rsO rsB rwA) := by
  refine oKi.ofW (own := RX1) (cc := cX1_take) (maxL := 4) (plainFor_of_name (by decide +kernel)) rfl rfl (Nat.le_of_ble_eq_true rfl) (fun p e s m args below meth cd A ls Z hx hb hml hown hts hret ho hl => ?_)
  replace hl : lv_has ls 4 [(0, .ref (q 38)), (1, .ref (q 32))] := hl
  have hinX1 : ∀ w ∈ u_ws RX1 TX1 6, w ∈ wsX1_take := by decide +kernel
  have hinX7 : ∀ w ∈ u_ws RX7 TX7 2, w ∈ wsX1_take := by decide +kernel
  have hf9 := hts (.fieldLink RX1 9 "OneTime$LawReader" "times" "[I") (by decide +kernel)
  have hf15 := hts (.fieldLink RX1 15 "OneTime$LawReader" "mores" "[I") (by decide +kernel)
  have hf18 := hts (.fieldLink RX1 18 "OneTime$LawReader" "state" "I") (by decide +kernel)
  have hf31 := hts (.fieldLink RX1 31 "OneTime$Tape" "size" "I") (by decide +kernel)
  unfold p_Rd_take at hp
  have hL46 : ∀ (v2 : Int32) (v3 : Int32) (rdS : Int32) (rdM : Int32) (rdE : Int32) (rdD : Int32) (rdT : Nat → Int32) (rdO : Nat → Int32), Lp7 (p_Rd_take_L46 tpN sgn v2 Q) v3 rdS rdM rdE rdD rdT rdO → ∀ (H : Heap) (locs : List Loc) (ls : Array Slot), oW D (oT c) A s.heap s (wO q c tnN ckN stN trN dsT dsC tpN lwN rdS rdM rdE rdD twN rsW rsE rwN suns ckT ckD shf lnT ways ups sts sty dly gAp gOp stp bst sgn lwT lwD rdT rdO lwK lwM twS twM twD rsO rsB rwA) H locs → lv_has ls 4 [(0, .ref (q 38)), (1, .ref (q 32)), (2, .int v2), (3, .int v3)] → W p l e { frames := 3, cells := 0, slots := 0, locals := 62 } s m args below meth cd H locs 0 0 Z (F0 m 46 ls []) := by
    intro v2
    refine Lp7.ind (fun rec hrec v3 rdS rdM rdE rdD rdT rdO hp H locs ls ho hl => ?_)
    unfold p_Rd_take_L46 at hp
    refine lv_iload_n hx hb dX1_take_46 rfl (lv_at hl 3 rfl) ?_
    refine lv_iload_n hx hb dX1_take_47 rfl (lv_at hl 2 rfl) ?_
    refine lv_icmp_ge (tgt := 71) hx hb dX1_take_48 (by decide) (fun c_48 => ?_) (fun c_48 => ?_)
    · replace hp := hp.1 c_48
      refine lv_aload_n hx hb dX1_take_71 rfl (lv_at hl 1 rfl) ?_
      refine o_get (ci := 7) (T := TX7) hx hb hts hinX7 hown ho 32 rfl rfl 1 (by decide) hf31 rfl dX1_take_72 ?_
      refine lv_bipush (v := 40) hx hb dX1_take_75 (by decide) ?_
      refine lv_icmp_gt (tgt := 88) hx hb dX1_take_77 (by decide) (fun c_77 => ?_) (fun c_77 => ?_)
      · replace hp := hp.1 c_77
        refine lv_iload_n hx hb dX1_take_88 rfl (lv_at hl 2 rfl) ?_
        refine lv_goto (tgt := 93) hx hb dX1_take_89 (by decide) ?_
        exact hret v2 (rdS, rdM, rdE, rdD, rdT, rdO) _ _ _ _ dX1_take_93 ho hp
      · replace hp := hp.2 c_77
        refine lv_aload_n hx hb dX1_take_80 rfl (lv_at hl 0 rfl) ?_
        refine o_get (ci := 1) (T := TX1) hx hb hts hinX1 hown ho 38 rfl rfl 2 (by decide) hf18 rfl dX1_take_81 ?_
        refine lv_iconst (v := 4) hx hb dX1_take_84 (by decide) ?_
        refine lv_icmp_ge (tgt := 92) hx hb dX1_take_85 (by decide) (fun c_85 => ?_) (fun c_85 => ?_)
        · replace hp := hp.1 c_85
          refine lv_iconst (v := (-1)) hx hb dX1_take_92 (by decide) ?_
          exact hret (-1) (rdS, rdM, rdE, rdD, rdT, rdO) _ _ _ _ dX1_take_93 ho hp
        · replace hp := hp.2 c_85
          refine lv_iload_n hx hb dX1_take_88 rfl (lv_at hl 2 rfl) ?_
          refine lv_goto (tgt := 93) hx hb dX1_take_89 (by decide) ?_
          exact hret v2 (rdS, rdM, rdE, rdD, rdT, rdO) _ _ _ _ dX1_take_93 ho hp
    · replace hp := hp.2 c_48
      refine lv_aload_n hx hb dX1_take_51 rfl (lv_at hl 0 rfl) ?_
      refine lv_aload_n hx hb dX1_take_52 rfl (lv_at hl 1 rfl) ?_
      refine lv_iload_n hx hb dX1_take_53 rfl (lv_at hl 3 rfl) ?_
      refine o_callVi (rest := [.ref (q 38)]) (ci := 7) ⟨hx, hb, hml, hown, hts⟩ ho (c_Tp_signAt l D q c tnN ckN stN trN dsT dsC tpN lwN rdS rdM rdE rdD twN rsW rsE rwN suns ckT ckD shf lnT ways ups sts sty dly gAp gOp stp bst sgn lwT lwD rdT rdO lwK lwM twS twM twD rsO rsB rwA v3 _ hp) (cwV 1 hts gX1_take_X7_signAt rfl rfl rfl (by decide +kernel) ⟨(Nat.le_of_ble_eq_true rfl), (Nat.le_of_ble_eq_true rfl)⟩) 32 rfl rfl rfl hl.1 rfl (Nat.le_of_ble_eq_true rfl) dX1_take_54 ⟨Nat.zero_le _, Nat.zero_le _⟩ (fun r54 u H locs hp ho => ?_)
      try dsimp only at hp
      replace ho : oW D (oT c) A s.heap s (wO q c tnN ckN stN trN dsT dsC tpN lwN rdS rdM rdE rdD twN rsW rsE rwN suns ckT ckD shf lnT ways ups sts sty dly gAp gOp stp bst sgn lwT lwD rdT rdO lwK lwM twS twM twD rsO rsB rwA) H locs := ho
      refine o_callVi (rest := []) (ci := 1) ⟨hx, hb, hml, hown, hts⟩ ho (c_Rd_takeSign l D q c tnN ckN stN trN dsT dsC tpN lwN rdS rdM rdE rdD twN rsW rsE rwN suns ckT ckD shf lnT ways ups sts sty dly gAp gOp stp bst sgn lwT lwD rdT rdO lwK lwM twS twM twD rsO rsB rwA r54 _ hp) (cwV 1 hts gX1_take_X1_takeSign rfl rfl rfl (by decide +kernel) ⟨(Nat.le_of_ble_eq_true rfl), (Nat.le_of_ble_eq_true rfl)⟩) 38 rfl rfl rfl hl.1 rfl (Nat.le_of_ble_eq_true rfl) dX1_take_57 ⟨Nat.zero_le _, Nat.zero_le _⟩ (fun r57 u H locs hp ho => ?_)
      obtain ⟨rdS_57, rdM_57, rdE_57, rdD_57, rdT_57, rdO_57⟩ := u
      try dsimp only at hp
      replace ho : oW D (oT c) A s.heap s (wO q c tnN ckN stN trN dsT dsC tpN lwN rdS_57 rdM_57 rdE_57 rdD_57 twN rsW rsE rwN suns ckT ckD shf lnT ways ups sts sty dly gAp gOp stp bst sgn lwT lwD rdT_57 rdO_57 lwK lwM twS twM twD rsO rsB rwA) H locs := ho
      refine lv_if_ne (tgt := 65) hx hb dX1_take_60 (by decide) (fun c_60 => ?_) (fun c_60 => ?_)
      · replace hp := hp.2 c_60
        obtain ⟨x65, e_x65⟩ : ∃ y : Int32, y = v3 + 1 := ⟨_, rfl⟩
        replace hp := hp x65 e_x65
        refine lv_iinc (v := x65) (lv' := [(3, .int x65), (0, .ref (q 38)), (1, .ref (q 32)), (2, .int v2)]) hx hb dX1_take_65 hl (k := 3) rfl (by rw [e_x65]; rfl) (by decide) rfl (fun ls hl => ?_)
        refine lv_goto (tgt := 46) hx hb dX1_take_68 (by decide) ?_
        exact hrec x65 rdS_57 rdM_57 rdE_57 rdD_57 rdT_57 rdO_57 hp _ _ _ ho (lv_sub hl [1, 2, 3, 0] rfl)
      · replace hp := hp.1 c_60
        refine lv_iload_n hx hb dX1_take_63 rfl (lv_at hl 3 rfl) ?_
        exact hret v3 (rdS_57, rdM_57, rdE_57, rdD_57, rdT_57, rdO_57) _ _ _ _ dX1_take_64 ho hp
  have hL7 : ∀ (rdS : Int32) (rdM : Int32) (rdE : Int32) (rdD : Int32) (v2 : Int32) (rdT : Nat → Int32) (rdO : Nat → Int32), Lp3 (p_Rd_take_L7 tpN sgn rdS rdM rdE rdD Q) v2 rdT rdO → ∀ (H : Heap) (locs : List Loc) (ls : Array Slot), oW D (oT c) A s.heap s (wO q c tnN ckN stN trN dsT dsC tpN lwN rdS rdM rdE rdD twN rsW rsE rwN suns ckT ckD shf lnT ways ups sts sty dly gAp gOp stp bst sgn lwT lwD rdT rdO lwK lwM twS twM twD rsO rsB rwA) H locs → lv_has ls 4 [(0, .ref (q 38)), (1, .ref (q 32)), (2, .int v2)] → W p l e { frames := 3, cells := 0, slots := 0, locals := 62 } s m args below meth cd H locs 0 0 Z (F0 m 7 ls []) := by
    intro rdS rdM rdE rdD
    refine Lp3.ind (fun rec hrec v2 rdT rdO hp H locs ls ho hl => ?_)
    unfold p_Rd_take_L7 at hp
    refine lv_iload_n hx hb dX1_take_7 rfl (lv_at hl 2 rfl) ?_
    refine lv_bipush (v := 6) hx hb dX1_take_8 (by decide) ?_
    refine lv_icmp_ge (tgt := 34) hx hb dX1_take_10 (by decide) (fun c_10 => ?_) (fun c_10 => ?_)
    · replace hp := hp.1 c_10
      refine lv_aload_n hx hb dX1_take_34 rfl (lv_at hl 1 rfl) ?_
      refine o_get (ci := 7) (T := TX7) hx hb hts hinX7 hown ho 32 rfl rfl 1 (by decide) hf31 rfl dX1_take_35 ?_
      refine lv_bipush (v := 40) hx hb dX1_take_38 (by decide) ?_
      refine va_mmin hx hb (hml.trans hl.1.symm) hown (hts (.methodLink RX1 36 Lib.Math.min.name) (by decide +kernel)) (hts (.static Lib.Math.min.name) (by decide +kernel)) (hts (.initialized "java/lang/Math") (by decide +kernel)) (hts (.code Lib.Math.min.name Lib.Math.min.code 2 (some .int)) (by decide +kernel)) (Nat.le_of_ble_eq_true rfl) (Nat.le_of_ble_eq_true rfl) (Nat.zero_le _) (Nat.zero_le _) dX1_take_40 ?_
      refine lv_topi (fun x43 e_x43 => ?_)
      replace hp := hp x43 e_x43
      refine lv_istore_n (lv' := [(2, .int x43), (0, .ref (q 38)), (1, .ref (q 32))]) hx hb dX1_take_43 rfl hl (by decide) rfl (fun ls hl => ?_)
      refine lv_iconst (v := 0) hx hb dX1_take_44 (by decide) ?_
      refine lv_istore_n (lv' := [(3, .int 0), (2, .int x43), (0, .ref (q 38)), (1, .ref (q 32))]) hx hb dX1_take_45 rfl hl (by decide) rfl (fun ls hl => ?_)
      exact hL46 x43 0 rdS rdM rdE rdD rdT rdO hp _ _ _ ho (lv_sub hl [2, 3, 1, 0] rfl)
    · replace hp := hp.2 c_10
      refine lv_aload_n hx hb dX1_take_13 rfl (lv_at hl 0 rfl) ?_
      refine o_get (ci := 1) (T := TX1) hx hb hts hinX1 hown ho 38 rfl rfl 0 (by decide) hf9 rfl dX1_take_14 ?_
      refine lv_iload_n hx hb dX1_take_17 rfl (lv_at hl 2 rfl) ?_
      refine lv_bipush (v := 99) hx hb dX1_take_18 (by decide) ?_
      refine o_ist hx hb ho 39 19 rfl rfl hp.1 dX1_take_20 (fun H locs ho => ?_)
      replace hp := hp.2
      replace ho : oW D (oT c) A s.heap s (wO q c tnN ckN stN trN dsT dsC tpN lwN rdS rdM rdE rdD twN rsW rsE rwN suns ckT ckD shf lnT ways ups sts sty dly gAp gOp stp bst sgn lwT lwD (upd rdT v2.toNatClampNeg 99) rdO lwK lwM twS twM twD rsO rsB rwA) H locs := ho
      refine lv_aload_n hx hb dX1_take_21 rfl (lv_at hl 0 rfl) ?_
      refine o_get (ci := 1) (T := TX1) hx hb hts hinX1 hown ho 38 rfl rfl 1 (by decide) hf15 rfl dX1_take_22 ?_
      refine lv_iload_n hx hb dX1_take_25 rfl (lv_at hl 2 rfl) ?_
      refine lv_iconst (v := 0) hx hb dX1_take_26 (by decide) ?_
      refine o_ist hx hb ho 40 20 rfl rfl hp.1 dX1_take_27 (fun H locs ho => ?_)
      replace hp := hp.2
      replace ho : oW D (oT c) A s.heap s (wO q c tnN ckN stN trN dsT dsC tpN lwN rdS rdM rdE rdD twN rsW rsE rwN suns ckT ckD shf lnT ways ups sts sty dly gAp gOp stp bst sgn lwT lwD (upd rdT v2.toNatClampNeg 99) (upd rdO v2.toNatClampNeg 0) lwK lwM twS twM twD rsO rsB rwA) H locs := ho
      obtain ⟨x28, e_x28⟩ : ∃ y : Int32, y = v2 + 1 := ⟨_, rfl⟩
      replace hp := hp x28 e_x28
      refine lv_iinc (v := x28) (lv' := [(2, .int x28), (0, .ref (q 38)), (1, .ref (q 32))]) hx hb dX1_take_28 hl (k := 2) rfl (by rw [e_x28]; rfl) (by decide) rfl (fun ls hl => ?_)
      refine lv_goto (tgt := 7) hx hb dX1_take_31 (by decide) ?_
      exact hrec x28 (upd rdT v2.toNatClampNeg 99) (upd rdO v2.toNatClampNeg 0) hp _ _ _ ho (lv_sub hl [1, 2, 0] rfl)
  refine lv_aload_n hx hb dX1_take_0 rfl (lv_at hl 0 rfl) ?_
  refine lv_iconst (v := 0) hx hb dX1_take_1 (by decide) ?_
  refine o_put (ci := 1) (T := TX1) hx hb hts hinX1 tyX1_ok nmX1 hown ho 38 rfl rfl 2 (by decide) hf18 rfl (tyX1_ok 2 (by decide)) (Nat.le_of_ble_eq_true rfl) dX1_take_2 (fun H locs ho => ?_)
  replace ho : oW D (oT c) A s.heap s (wO q c tnN ckN stN trN dsT dsC tpN lwN 0 rdM rdE rdD twN rsW rsE rwN suns ckT ckD shf lnT ways ups sts sty dly gAp gOp stp bst sgn lwT lwD rdT rdO lwK lwM twS twM twD rsO rsB rwA) H locs := ho
  refine lv_iconst (v := 0) hx hb dX1_take_5 (by decide) ?_
  refine lv_istore_n (lv' := [(2, .int 0), (0, .ref (q 38)), (1, .ref (q 32))]) hx hb dX1_take_6 rfl hl (by decide) rfl (fun ls hl => ?_)
  exact hL7 0 rdM rdE rdD 0 rdT rdO hp _ _ _ ho (lv_sub hl [1, 2, 0] rfl)
set_option maxHeartbeats 4000000 in
set_option maxRecDepth 100000 in
theorem c_Lw_tell (l : Launch) (D : va_G) (q : Nat → Nat) (c : Nat → ClassId) (tnN : Int32) (ckN : Int32) (stN : Int32) (trN : Int32) (dsT : Int32) (dsC : Int32) (tpN : Int32) (lwN : Int32) (rdS : Int32) (rdM : Int32) (rdE : Int32) (rdD : Int32) (twN : Int32) (rsW : Int32) (rsE : Int32) (rwN : Int32) (suns : Nat → Int32) (ckT : Nat → Int32) (ckD : Nat → Int32) (shf : Nat → Int32) (lnT : Nat → Int32) (ways : Nat → Int32) (ups : Nat → Int32) (sts : Nat → Int32) (sty : Nat → Int32) (dly : Nat → Int32) (gAp : Nat → Nat → Int32) (gOp : Nat → Nat → Int32) (stp : Nat → Int32) (bst : Nat → Int32) (sgn : Nat → Int32) (lwT : Nat → Int32) (lwD : Nat → Int32) (rdT : Nat → Int32) (rdO : Nat → Int32) (lwK : Nat → Int32) (lwM : Nat → Int32) (twS : Nat → Int32) (twM : Nat → Int32) (twD : Nat → Int32) (rsO : Nat → Int32) (rsB : Nat → Int32) (rwA : Nat → Int32) (v1 : Int32) (v2 : Int32) (Q : Int32 → Int32 → Int32 → Int32 → Int32 → Int32 → (Nat → Int32) → (Nat → Int32) → (Nat → Int32) → (Nat → Int32) → (Nat → Int32) → (Nat → Int32) → Prop) (hp : p_Lw_tell tpN sgn lwN rdS rdM rdE rdD lwT lwD rdT rdO lwK lwM v1 v2 Q) : oKi l yX2_tell wsX2_tell { frames := 4, cells := 0, slots := 0, locals := 85 } [.ref (q 34), .int v1, .int v2, .ref (q 32)] D (oT c) (wO q c tnN ckN stN trN dsT dsC tpN lwN rdS rdM rdE rdD twN rsW rsE rwN suns ckT ckD shf lnT ways ups sts sty dly gAp gOp stp bst sgn lwT lwD rdT rdO lwK lwM twS twM twD rsO rsB rwA) (Int32 × Int32 × Int32 × Int32 × Int32 × (Nat → Int32) × (Nat → Int32) × (Nat → Int32) × (Nat → Int32) × (Nat → Int32) × (Nat → Int32)) (fun r (u : Int32 × Int32 × Int32 × Int32 × Int32 × (Nat → Int32) × (Nat → Int32) × (Nat → Int32) × (Nat → Int32) × (Nat → Int32) × (Nat → Int32)) => Q r u.1 u.2.1 u.2.2.1 u.2.2.2.1 u.2.2.2.2.1 u.2.2.2.2.2.1 u.2.2.2.2.2.2.1 u.2.2.2.2.2.2.2.1 u.2.2.2.2.2.2.2.2.1 u.2.2.2.2.2.2.2.2.2.1 u.2.2.2.2.2.2.2.2.2.2) (fun u => wO q c tnN ckN stN trN dsT dsC tpN u.1 u.2.1 u.2.2.1 u.2.2.2.1 u.2.2.2.2.1 twN rsW rsE rwN suns ckT ckD shf lnT ways ups sts sty dly gAp gOp stp bst sgn u.2.2.2.2.2.1 u.2.2.2.2.2.2.1 u.2.2.2.2.2.2.2.1 u.2.2.2.2.2.2.2.2.1 u.2.2.2.2.2.2.2.2.2.1 u.2.2.2.2.2.2.2.2.2.2 twS twM twD rsO rsB rwA) := by
  refine oKi.ofW (own := RX2) (cc := cX2_tell) (maxL := 7) (plainFor_of_name (by decide +kernel)) rfl rfl (Nat.le_of_ble_eq_true rfl) (fun p e s m args below meth cd A ls Z hx hb hml hown hts hret ho hl => ?_)
  replace hl : lv_has ls 7 [(0, .ref (q 34)), (1, .int v1), (2, .int v2), (3, .ref (q 32))] := hl
  have hinX1 : ∀ w ∈ u_ws RX1 TX1 6, w ∈ wsX2_tell := by decide +kernel
  have hinX2 : ∀ w ∈ u_ws RX2 TX2 4, w ∈ wsX2_tell := by decide +kernel
  have hinX6 : ∀ w ∈ u_ws RX6 TX6 3, w ∈ wsX2_tell := by decide +kernel
  have hf14 := hts (.fieldLink RX2 14 "OneTime$Laws" "since" "LOneTime$Since;") (by decide +kernel)
  have hf23 := hts (.fieldLink RX2 23 "OneTime$Laws" "reader" "LOneTime$LawReader;") (by decide +kernel)
  have hf27 := hts (.fieldLink RX2 27 "OneTime$Laws" "times" "[I") (by decide +kernel)
  have hf31 := hts (.fieldLink RX2 31 "OneTime$Laws" "mores" "[I") (by decide +kernel)
  have hf43 := hts (.fieldLink RX2 43 "OneTime$Since" "size" "I") (by decide +kernel)
  have hf47 := hts (.fieldLink RX2 47 "OneTime$LawReader" "times" "[I") (by decide +kernel)
  have hf48 := hts (.fieldLink RX2 48 "OneTime$LawReader" "mores" "[I") (by decide +kernel)
  unfold p_Lw_tell at hp
  have hL46 : ∀ (v1 : Int32) (v2 : Int32) (v5 : Int32) (lwN : Int32) (rdS : Int32) (rdM : Int32) (rdE : Int32) (rdD : Int32) (lwT : Nat → Int32) (lwD : Nat → Int32) (rdT : Nat → Int32) (rdO : Nat → Int32) (v6 : Int32) (lwK : Nat → Int32) (lwM : Nat → Int32), Lp3 (p_Lw_tell_L46 tpN sgn v1 v2 v5 lwN rdS rdM rdE rdD lwT lwD rdT rdO Q) v6 lwK lwM → ∀ (H : Heap) (locs : List Loc) (ls : Array Slot), oW D (oT c) A s.heap s (wO q c tnN ckN stN trN dsT dsC tpN lwN rdS rdM rdE rdD twN rsW rsE rwN suns ckT ckD shf lnT ways ups sts sty dly gAp gOp stp bst sgn lwT lwD rdT rdO lwK lwM twS twM twD rsO rsB rwA) H locs → lv_has ls 7 [(0, .ref (q 34)), (1, .int v1), (2, .int v2), (5, .int v5), (6, .int v6)] → W p l e { frames := 4, cells := 0, slots := 0, locals := 85 } s m args below meth cd H locs 0 0 Z (F0 m 46 ls []) := by
    intro v1 v2 v5 lwN rdS rdM rdE rdD lwT lwD rdT rdO
    refine Lp3.ind (fun rec hrec v6 lwK lwM hp H locs ls ho hl => ?_)
    unfold p_Lw_tell_L46 at hp
    refine lv_iload hx hb dX2_tell_46 (lv_at hl 4 rfl) ?_
    refine lv_bipush (v := 6) hx hb dX2_tell_48 (by decide) ?_
    refine lv_icmp_ge (tgt := 99) hx hb dX2_tell_50 (by decide) (fun c_50 => ?_) (fun c_50 => ?_)
    · replace hp := hp.1 c_50
      refine lv_aload_n hx hb dX2_tell_99 rfl (lv_at hl 0 rfl) ?_
      refine o_get (ci := 2) (T := TX2) hx hb hts hinX2 hown ho 34 rfl rfl 0 (by decide) hf14 rfl dX2_tell_100 ?_
      refine lv_iload_n hx hb dX2_tell_103 rfl (lv_at hl 1 rfl) ?_
      refine lv_iload_n hx hb dX2_tell_104 rfl (lv_at hl 2 rfl) ?_
      refine o_callVv (rest := []) (ci := 6) ⟨hx, hb, hml, hown, hts⟩ ho (c_Si_add_l l D q c tnN ckN stN trN dsT dsC tpN lwN rdS rdM rdE rdD twN rsW rsE rwN suns ckT ckD shf lnT ways ups sts sty dly gAp gOp stp bst sgn lwT lwD rdT rdO lwK lwM twS twM twD rsO rsB rwA v1 v2 _ hp) (cwV 2 hts gX2_tell_X6_add rfl rfl rfl (by decide +kernel) ⟨(Nat.le_of_ble_eq_true rfl), (Nat.le_of_ble_eq_true rfl)⟩) 35 rfl rfl rfl hl.1 rfl (Nat.le_of_ble_eq_true rfl) dX2_tell_105 ⟨Nat.zero_le _, Nat.zero_le _⟩ (fun u H locs hp ho => ?_)
      obtain ⟨lwN_105, lwT_105, lwD_105⟩ := u
      try dsimp only at hp
      replace ho : oW D (oT c) A s.heap s (wO q c tnN ckN stN trN dsT dsC tpN lwN_105 rdS rdM rdE rdD twN rsW rsE rwN suns ckT ckD shf lnT ways ups sts sty dly gAp gOp stp bst sgn lwT_105 lwD_105 rdT rdO lwK lwM twS twM twD rsO rsB rwA) H locs := ho
      refine lv_aload_n hx hb dX2_tell_108 rfl (lv_at hl 0 rfl) ?_
      refine o_get (ci := 2) (T := TX2) hx hb hts hinX2 hown ho 34 rfl rfl 0 (by decide) hf14 rfl dX2_tell_109 ?_
      refine o_get (ci := 6) (T := TX6) hx hb hts hinX6 hown ho 35 rfl rfl 2 (by decide) hf43 rfl dX2_tell_112 ?_
      exact hret lwN_105 (lwN_105, rdS, rdM, rdE, rdD, lwT_105, lwD_105, rdT, rdO, lwK, lwM) _ _ _ _ dX2_tell_115 ho hp
    · replace hp := hp.2 c_50
      refine lv_aload_n hx hb dX2_tell_53 rfl (lv_at hl 0 rfl) ?_
      refine o_get (ci := 2) (T := TX2) hx hb hts hinX2 hown ho 34 rfl rfl 2 (by decide) hf27 rfl dX2_tell_54 ?_
      refine lv_iload hx hb dX2_tell_57 (lv_at hl 3 rfl) ?_
      refine lv_iload hx hb dX2_tell_59 (lv_at hl 4 rfl) ?_
      refine lv_iadd hx hb dX2_tell_61 ?_
      refine lv_aload_n hx hb dX2_tell_62 rfl (lv_at hl 0 rfl) ?_
      refine o_get (ci := 2) (T := TX2) hx hb hts hinX2 hown ho 34 rfl rfl 1 (by decide) hf23 rfl dX2_tell_63 ?_
      refine o_get (ci := 1) (T := TX1) hx hb hts hinX1 hown ho 38 rfl rfl 0 (by decide) hf47 rfl dX2_tell_66 ?_
      refine lv_iload hx hb dX2_tell_69 (lv_at hl 4 rfl) ?_
      refine o_ild hx hb ho 39 19 rfl rfl hp.1 dX2_tell_71 ?_
      replace hp := hp.2
      refine o_ist hx hb ho 41 21 rfl rfl hp.1 dX2_tell_72 (fun H locs ho => ?_)
      replace hp := hp.2
      replace ho : oW D (oT c) A s.heap s (wO q c tnN ckN stN trN dsT dsC tpN lwN rdS rdM rdE rdD twN rsW rsE rwN suns ckT ckD shf lnT ways ups sts sty dly gAp gOp stp bst sgn lwT lwD rdT rdO (upd lwK (v5 + v6).toNatClampNeg (rdT v6.toNatClampNeg)) lwM twS twM twD rsO rsB rwA) H locs := ho
      refine lv_aload_n hx hb dX2_tell_73 rfl (lv_at hl 0 rfl) ?_
      refine o_get (ci := 2) (T := TX2) hx hb hts hinX2 hown ho 34 rfl rfl 3 (by decide) hf31 rfl dX2_tell_74 ?_
      refine lv_iload hx hb dX2_tell_77 (lv_at hl 3 rfl) ?_
      refine lv_iload hx hb dX2_tell_79 (lv_at hl 4 rfl) ?_
      refine lv_iadd hx hb dX2_tell_81 ?_
      refine lv_aload_n hx hb dX2_tell_82 rfl (lv_at hl 0 rfl) ?_
      refine o_get (ci := 2) (T := TX2) hx hb hts hinX2 hown ho 34 rfl rfl 1 (by decide) hf23 rfl dX2_tell_83 ?_
      refine o_get (ci := 1) (T := TX1) hx hb hts hinX1 hown ho 38 rfl rfl 1 (by decide) hf48 rfl dX2_tell_86 ?_
      refine lv_iload hx hb dX2_tell_89 (lv_at hl 4 rfl) ?_
      refine o_ild hx hb ho 40 20 rfl rfl hp.1 dX2_tell_91 ?_
      replace hp := hp.2
      refine o_ist hx hb ho 42 22 rfl rfl hp.1 dX2_tell_92 (fun H locs ho => ?_)
      replace hp := hp.2
      replace ho : oW D (oT c) A s.heap s (wO q c tnN ckN stN trN dsT dsC tpN lwN rdS rdM rdE rdD twN rsW rsE rwN suns ckT ckD shf lnT ways ups sts sty dly gAp gOp stp bst sgn lwT lwD rdT rdO (upd lwK (v5 + v6).toNatClampNeg (rdT v6.toNatClampNeg)) (upd lwM (v5 + v6).toNatClampNeg (rdO v6.toNatClampNeg)) twS twM twD rsO rsB rwA) H locs := ho
      obtain ⟨x93, e_x93⟩ : ∃ y : Int32, y = v6 + 1 := ⟨_, rfl⟩
      replace hp := hp x93 e_x93
      refine lv_iinc (v := x93) (lv' := [(6, .int x93), (0, .ref (q 34)), (1, .int v1), (2, .int v2), (5, .int v5)]) hx hb dX2_tell_93 hl (k := 4) rfl (by rw [e_x93]; rfl) (by decide) rfl (fun ls hl => ?_)
      refine lv_goto (tgt := 46) hx hb dX2_tell_96 (by decide) ?_
      exact hrec x93 (upd lwK (v5 + v6).toNatClampNeg (rdT v6.toNatClampNeg)) (upd lwM (v5 + v6).toNatClampNeg (rdO v6.toNatClampNeg)) hp _ _ _ ho (lv_sub hl [1, 2, 3, 4, 0] rfl)
  refine lv_aload_n hx hb dX2_tell_0 rfl (lv_at hl 0 rfl) ?_
  refine o_callVi (rest := []) (ci := 2) ⟨hx, hb, hml, hown, hts⟩ ho (c_Lw_isFull l D q c tnN ckN stN trN dsT dsC tpN lwN rdS rdM rdE rdD twN rsW rsE rwN suns ckT ckD shf lnT ways ups sts sty dly gAp gOp stp bst sgn lwT lwD rdT rdO lwK lwM twS twM twD rsO rsB rwA  _ hp) (cwV 0 hts gX2_tell_X2_isFull rfl rfl rfl (by decide +kernel) ⟨(Nat.le_of_ble_eq_true rfl), (Nat.le_of_ble_eq_true rfl)⟩) 34 rfl rfl rfl hl.1 rfl (Nat.le_of_ble_eq_true rfl) dX2_tell_1 ⟨Nat.zero_le _, Nat.zero_le _⟩ (fun r1 u H locs hp ho => ?_)
  try dsimp only at hp
  replace ho : oW D (oT c) A s.heap s (wO q c tnN ckN stN trN dsT dsC tpN lwN rdS rdM rdE rdD twN rsW rsE rwN suns ckT ckD shf lnT ways ups sts sty dly gAp gOp stp bst sgn lwT lwD rdT rdO lwK lwM twS twM twD rsO rsB rwA) H locs := ho
  refine lv_if_eq (tgt := 10) hx hb dX2_tell_4 (by decide) (fun c_4 => ?_) (fun c_4 => ?_)
  · replace hp := hp.1 c_4
    refine lv_aload_n hx hb dX2_tell_10 rfl (lv_at hl 0 rfl) ?_
    refine o_get (ci := 2) (T := TX2) hx hb hts hinX2 hown ho 34 rfl rfl 1 (by decide) hf23 rfl dX2_tell_11 ?_
    refine lv_aload_n hx hb dX2_tell_14 rfl (lv_at hl 3 rfl) ?_
    refine o_callVi (rest := []) (ci := 1) ⟨hx, hb, hml, hown, hts⟩ ho (c_Rd_take l D q c tnN ckN stN trN dsT dsC tpN lwN rdS rdM rdE rdD twN rsW rsE rwN suns ckT ckD shf lnT ways ups sts sty dly gAp gOp stp bst sgn lwT lwD rdT rdO lwK lwM twS twM twD rsO rsB rwA  _ hp) (cwV 1 hts gX2_tell_X1_take rfl rfl rfl (by decide +kernel) ⟨(Nat.le_of_ble_eq_true rfl), (Nat.le_of_ble_eq_true rfl)⟩) 38 rfl rfl rfl hl.1 rfl (Nat.le_of_ble_eq_true rfl) dX2_tell_15 ⟨Nat.zero_le _, Nat.zero_le _⟩ (fun r15 u H locs hp ho => ?_)
    obtain ⟨rdS_15, rdM_15, rdE_15, rdD_15, rdT_15, rdO_15⟩ := u
    try dsimp only at hp
    replace ho : oW D (oT c) A s.heap s (wO q c tnN ckN stN trN dsT dsC tpN lwN rdS_15 rdM_15 rdE_15 rdD_15 twN rsW rsE rwN suns ckT ckD shf lnT ways ups sts sty dly gAp gOp stp bst sgn lwT lwD rdT_15 rdO_15 lwK lwM twS twM twD rsO rsB rwA) H locs := ho
    refine lv_istore (lv' := [(4, .int r15), (0, .ref (q 34)), (1, .int v1), (2, .int v2), (3, .ref (q 32))]) hx hb dX2_tell_18 hl (by decide) rfl (fun ls hl => ?_)
    refine lv_iload hx hb dX2_tell_20 (lv_at hl 0 rfl) ?_
    refine lv_iconst (v := (-1)) hx hb dX2_tell_22 (by decide) ?_
    refine lv_icmp_eq (tgt := 31) hx hb dX2_tell_23 (by decide) (fun c_23 => ?_) (fun c_23 => ?_)
    · replace hp := hp.1 c_23
      refine lv_aload_n hx hb dX2_tell_31 rfl (lv_at hl 1 rfl) ?_
      refine o_get (ci := 2) (T := TX2) hx hb hts hinX2 hown ho 34 rfl rfl 0 (by decide) hf14 rfl dX2_tell_32 ?_
      refine o_get (ci := 6) (T := TX6) hx hb hts hinX6 hown ho 35 rfl rfl 2 (by decide) hf43 rfl dX2_tell_35 ?_
      refine lv_bipush (v := 6) hx hb dX2_tell_38 (by decide) ?_
      refine lv_imul hx hb dX2_tell_40 ?_
      refine lv_topi (fun x41 e_x41 => ?_)
      replace hp := hp x41 e_x41
      refine lv_istore (lv' := [(5, .int x41), (4, .int r15), (0, .ref (q 34)), (1, .int v1), (2, .int v2), (3, .ref (q 32))]) hx hb dX2_tell_41 hl (by decide) rfl (fun ls hl => ?_)
      refine lv_iconst (v := 0) hx hb dX2_tell_43 (by decide) ?_
      refine lv_istore (lv' := [(6, .int 0), (5, .int x41), (4, .int r15), (0, .ref (q 34)), (1, .int v1), (2, .int v2), (3, .ref (q 32))]) hx hb dX2_tell_44 hl (by decide) rfl (fun ls hl => ?_)
      exact hL46 v1 v2 x41 lwN rdS_15 rdM_15 rdE_15 rdD_15 lwT lwD rdT_15 rdO_15 0 lwK lwM hp _ _ _ ho (lv_sub hl [3, 4, 5, 1, 0] rfl)
    · replace hp := hp.2 c_23
      refine lv_iconst (v := (-1)) hx hb dX2_tell_26 (by decide) ?_
      refine lv_iload hx hb dX2_tell_27 (lv_at hl 0 rfl) ?_
      refine lv_isub hx hb dX2_tell_29 ?_
      exact hret ((-1) - r15) (lwN, rdS_15, rdM_15, rdE_15, rdD_15, lwT, lwD, rdT_15, rdO_15, lwK, lwM) _ _ _ _ dX2_tell_30 ho hp
  · replace hp := hp.2 c_4
    refine lv_bipush (v := (-100)) hx hb dX2_tell_7 (by decide) ?_
    exact hret (-100) (lwN, rdS, rdM, rdE, rdD, lwT, lwD, rdT, rdO, lwK, lwM) _ _ _ _ dX2_tell_9 ho hp
set_option maxHeartbeats 4000000 in
set_option maxRecDepth 100000 in
theorem c_Tp_clear (l : Launch) (D : va_G) (q : Nat → Nat) (c : Nat → ClassId) (tnN : Int32) (ckN : Int32) (stN : Int32) (trN : Int32) (dsT : Int32) (dsC : Int32) (tpN : Int32) (lwN : Int32) (rdS : Int32) (rdM : Int32) (rdE : Int32) (rdD : Int32) (twN : Int32) (rsW : Int32) (rsE : Int32) (rwN : Int32) (suns : Nat → Int32) (ckT : Nat → Int32) (ckD : Nat → Int32) (shf : Nat → Int32) (lnT : Nat → Int32) (ways : Nat → Int32) (ups : Nat → Int32) (sts : Nat → Int32) (sty : Nat → Int32) (dly : Nat → Int32) (gAp : Nat → Nat → Int32) (gOp : Nat → Nat → Int32) (stp : Nat → Int32) (bst : Nat → Int32) (sgn : Nat → Int32) (lwT : Nat → Int32) (lwD : Nat → Int32) (rdT : Nat → Int32) (rdO : Nat → Int32) (lwK : Nat → Int32) (lwM : Nat → Int32) (twS : Nat → Int32) (twM : Nat → Int32) (twD : Nat → Int32) (rsO : Nat → Int32) (rsB : Nat → Int32) (rwA : Nat → Int32)  (Q : Int32 → Prop) (hp : p_Tp_clear tpN Q) : oKv l yX7_clear wsX7_clear { frames := 0, cells := 0, slots := 0, locals := 0 } [.ref (q 32)] D (oT c) (wO q c tnN ckN stN trN dsT dsC tpN lwN rdS rdM rdE rdD twN rsW rsE rwN suns ckT ckD shf lnT ways ups sts sty dly gAp gOp stp bst sgn lwT lwD rdT rdO lwK lwM twS twM twD rsO rsB rwA) (Int32) (fun (u : Int32) => Q u) (fun u => wO q c tnN ckN stN trN dsT dsC u lwN rdS rdM rdE rdD twN rsW rsE rwN suns ckT ckD shf lnT ways ups sts sty dly gAp gOp stp bst sgn lwT lwD rdT rdO lwK lwM twS twM twD rsO rsB rwA) := by
  refine oKv.ofW (own := RX7) (cc := cX7_clear) (maxL := 1) (plainFor_of_name (by decide +kernel)) rfl rfl (Nat.le_of_ble_eq_true rfl) (fun p e s m args below meth cd A ls Z hx hb hml hown hts hret ho hl => ?_)
  replace hl : lv_has ls 1 [(0, .ref (q 32))] := hl
  have hinX7 : ∀ w ∈ u_ws RX7 TX7 2, w ∈ wsX7_clear := by decide +kernel
  have hf15 := hts (.fieldLink RX7 15 "OneTime$Tape" "size" "I") (by decide +kernel)
  unfold p_Tp_clear at hp
  refine lv_aload_n hx hb dX7_clear_0 rfl (lv_at hl 0 rfl) ?_
  refine lv_iconst (v := 0) hx hb dX7_clear_1 (by decide) ?_
  refine o_put (ci := 7) (T := TX7) hx hb hts hinX7 tyX7_ok nmX7 hown ho 32 rfl rfl 1 (by decide) hf15 rfl (tyX7_ok 1 (by decide)) (Nat.le_of_ble_eq_true rfl) dX7_clear_2 (fun H locs ho => ?_)
  replace ho : oW D (oT c) A s.heap s (wO q c tnN ckN stN trN dsT dsC 0 lwN rdS rdM rdE rdD twN rsW rsE rwN suns ckT ckD shf lnT ways ups sts sty dly gAp gOp stp bst sgn lwT lwD rdT rdO lwK lwM twS twM twD rsO rsB rwA) H locs := ho
  exact hret 0 _ _ _ _ dX7_clear_5 ho hp
set_option maxHeartbeats 4000000 in
set_option maxRecDepth 100000 in
theorem c_Lw_has (l : Launch) (D : va_G) (q : Nat → Nat) (c : Nat → ClassId) (tnN : Int32) (ckN : Int32) (stN : Int32) (trN : Int32) (dsT : Int32) (dsC : Int32) (tpN : Int32) (lwN : Int32) (rdS : Int32) (rdM : Int32) (rdE : Int32) (rdD : Int32) (twN : Int32) (rsW : Int32) (rsE : Int32) (rwN : Int32) (suns : Nat → Int32) (ckT : Nat → Int32) (ckD : Nat → Int32) (shf : Nat → Int32) (lnT : Nat → Int32) (ways : Nat → Int32) (ups : Nat → Int32) (sts : Nat → Int32) (sty : Nat → Int32) (dly : Nat → Int32) (gAp : Nat → Nat → Int32) (gOp : Nat → Nat → Int32) (stp : Nat → Int32) (bst : Nat → Int32) (sgn : Nat → Int32) (lwT : Nat → Int32) (lwD : Nat → Int32) (rdT : Nat → Int32) (rdO : Nat → Int32) (lwK : Nat → Int32) (lwM : Nat → Int32) (twS : Nat → Int32) (twM : Nat → Int32) (twD : Nat → Int32) (rsO : Nat → Int32) (rsB : Nat → Int32) (rwA : Nat → Int32) (v1 : Int32) (v2 : Int32) (Q : Int32 → Prop) (hp : p_Lw_has lwN v1 v2 Q) : oKi l yX2_has wsX2_has { frames := 1, cells := 0, slots := 0, locals := 20 } [.ref (q 34), .int v1, .int v2] D (oT c) (wO q c tnN ckN stN trN dsT dsC tpN lwN rdS rdM rdE rdD twN rsW rsE rwN suns ckT ckD shf lnT ways ups sts sty dly gAp gOp stp bst sgn lwT lwD rdT rdO lwK lwM twS twM twD rsO rsB rwA) (Unit) (fun r (_ : Unit) => Q r) (fun _ => wO q c tnN ckN stN trN dsT dsC tpN lwN rdS rdM rdE rdD twN rsW rsE rwN suns ckT ckD shf lnT ways ups sts sty dly gAp gOp stp bst sgn lwT lwD rdT rdO lwK lwM twS twM twD rsO rsB rwA) := by
  refine oKi.ofWz (own := RX2) (cc := cX2_has) (maxL := 3) (plainFor_of_name (by decide +kernel)) rfl rfl (Nat.le_of_ble_eq_true rfl) (fun p e s m args below meth cd A ls Z hx hb hml hown hts hret ho hl => ?_)
  replace hl : lv_has ls 3 [(0, .ref (q 34)), (1, .int v1), (2, .int v2)] := hl
  have hN := ho.2.1
  have hinX2 : ∀ w ∈ u_ws RX2 TX2 4, w ∈ wsX2_has := by decide +kernel
  have hinX6 : ∀ w ∈ u_ws RX6 TX6 3, w ∈ wsX2_has := by decide +kernel
  have hf14 := hts (.fieldLink RX2 14 "OneTime$Laws" "since" "LOneTime$Since;") (by decide +kernel)
  have hf43 := hts (.fieldLink RX2 43 "OneTime$Since" "size" "I") (by decide +kernel)
  unfold p_Lw_has at hp
  refine lv_iload_n hx hb dX2_has_0 rfl (lv_at hl 1 rfl) ?_
  refine lv_if_lt (tgt := 26) hx hb dX2_has_1 (by decide) (fun c_1 => ?_) (fun c_1 => ?_)
  · replace hp := hp.1 c_1
    refine lv_iconst (v := 0) hx hb dX2_has_26 (by decide) ?_
    exact hret 0 () _ _ _ _ dX2_has_27 (Or.inl rfl) ho hp
  · replace hp := hp.2 c_1
    refine lv_iload_n hx hb dX2_has_4 rfl (lv_at hl 1 rfl) ?_
    refine lv_aload_n hx hb dX2_has_5 rfl (lv_at hl 0 rfl) ?_
    refine o_get (ci := 2) (T := TX2) hx hb hts hinX2 hown ho 34 rfl rfl 0 (by decide) hf14 rfl dX2_has_6 ?_
    refine o_get (ci := 6) (T := TX6) hx hb hts hinX6 hown ho 35 rfl rfl 2 (by decide) hf43 rfl dX2_has_9 ?_
    refine lv_icmp_ge (tgt := 26) hx hb dX2_has_12 (by decide) (fun c_12 => ?_) (fun c_12 => ?_)
    · replace hp := hp.1 c_12
      refine lv_iconst (v := 0) hx hb dX2_has_26 (by decide) ?_
      exact hret 0 () _ _ _ _ dX2_has_27 (Or.inl rfl) ho hp
    · replace hp := hp.2 c_12
      refine lv_iload_n hx hb dX2_has_15 rfl (lv_at hl 2 rfl) ?_
      refine o_callSNi (rest := []) (host := RX10) ⟨hx, hb, hml, hown, hts⟩ ho (c_O_isMatter l D (oT c) (wO q c tnN ckN stN trN dsT dsC tpN lwN rdS rdM rdE rdD twN rsW rsE rwN suns ckT ckD shf lnT ways ups sts sty dly gAp gOp stp bst sgn lwT lwD rdT rdO lwK lwM twS twM twD rsO rsB rwA) v2 _ hp) ⟨va_cnB 1 hts gX2_has_X10_isMatter_n53 rfl rfl rfl hN.2.2.1 (hts (.initialized RX10) (by decide +kernel)) (by decide +kernel) ⟨(Nat.le_of_ble_eq_true rfl), (Nat.le_of_ble_eq_true rfl)⟩, hts (.static yX10_isMatter) (by decide +kernel), trivial⟩ rfl hl.1 rfl (Nat.le_of_ble_eq_true rfl) dX2_has_16 ⟨Nat.zero_le _, Nat.zero_le _⟩ (fun r16 u H locs hp ho => ?_)
      try dsimp only at hp
      replace ho : oW D (oT c) A s.heap s (wO q c tnN ckN stN trN dsT dsC tpN lwN rdS rdM rdE rdD twN rsW rsE rwN suns ckT ckD shf lnT ways ups sts sty dly gAp gOp stp bst sgn lwT lwD rdT rdO lwK lwM twS twM twD rsO rsB rwA) H locs := ho
      refine lv_if_eq (tgt := 26) hx hb dX2_has_19 (by decide) (fun c_19 => ?_) (fun c_19 => ?_)
      · replace hp := hp.1 c_19
        refine lv_iconst (v := 0) hx hb dX2_has_26 (by decide) ?_
        exact hret 0 () _ _ _ _ dX2_has_27 (Or.inl rfl) ho hp
      · replace hp := hp.2 c_19
        refine lv_iconst (v := 1) hx hb dX2_has_22 (by decide) ?_
        refine lv_goto (tgt := 27) hx hb dX2_has_23 (by decide) ?_
        exact hret 1 () _ _ _ _ dX2_has_27 (Or.inr rfl) ho hp
set_option maxHeartbeats 4000000 in
set_option maxRecDepth 100000 in
theorem c_Lw_moreOf (l : Launch) (D : va_G) (q : Nat → Nat) (c : Nat → ClassId) (tnN : Int32) (ckN : Int32) (stN : Int32) (trN : Int32) (dsT : Int32) (dsC : Int32) (tpN : Int32) (lwN : Int32) (rdS : Int32) (rdM : Int32) (rdE : Int32) (rdD : Int32) (twN : Int32) (rsW : Int32) (rsE : Int32) (rwN : Int32) (suns : Nat → Int32) (ckT : Nat → Int32) (ckD : Nat → Int32) (shf : Nat → Int32) (lnT : Nat → Int32) (ways : Nat → Int32) (ups : Nat → Int32) (sts : Nat → Int32) (sty : Nat → Int32) (dly : Nat → Int32) (gAp : Nat → Nat → Int32) (gOp : Nat → Nat → Int32) (stp : Nat → Int32) (bst : Nat → Int32) (sgn : Nat → Int32) (lwT : Nat → Int32) (lwD : Nat → Int32) (rdT : Nat → Int32) (rdO : Nat → Int32) (lwK : Nat → Int32) (lwM : Nat → Int32) (twS : Nat → Int32) (twM : Nat → Int32) (twD : Nat → Int32) (rsO : Nat → Int32) (rsB : Nat → Int32) (rwA : Nat → Int32) (v1 : Int32) (v2 : Int32) (Q : Int32 → Prop) (hp : p_Lw_moreOf lwN lwM v1 v2 Q) : oKi l yX2_moreOf wsX2_moreOf { frames := 2, cells := 0, slots := 0, locals := 42 } [.ref (q 34), .int v1, .int v2] D (oT c) (wO q c tnN ckN stN trN dsT dsC tpN lwN rdS rdM rdE rdD twN rsW rsE rwN suns ckT ckD shf lnT ways ups sts sty dly gAp gOp stp bst sgn lwT lwD rdT rdO lwK lwM twS twM twD rsO rsB rwA) (Unit) (fun r (_ : Unit) => Q r) (fun _ => wO q c tnN ckN stN trN dsT dsC tpN lwN rdS rdM rdE rdD twN rsW rsE rwN suns ckT ckD shf lnT ways ups sts sty dly gAp gOp stp bst sgn lwT lwD rdT rdO lwK lwM twS twM twD rsO rsB rwA) := by
  refine oKi.ofW (own := RX2) (cc := cX2_moreOf) (maxL := 3) (plainFor_of_name (by decide +kernel)) rfl rfl (Nat.le_of_ble_eq_true rfl) (fun p e s m args below meth cd A ls Z hx hb hml hown hts hret ho hl => ?_)
  replace hl : lv_has ls 3 [(0, .ref (q 34)), (1, .int v1), (2, .int v2)] := hl
  have hinX2 : ∀ w ∈ u_ws RX2 TX2 4, w ∈ wsX2_moreOf := by decide +kernel
  have hf31 := hts (.fieldLink RX2 31 "OneTime$Laws" "mores" "[I") (by decide +kernel)
  unfold p_Lw_moreOf at hp
  refine lv_aload_n hx hb dX2_moreOf_0 rfl (lv_at hl 0 rfl) ?_
  refine lv_iload_n hx hb dX2_moreOf_1 rfl (lv_at hl 1 rfl) ?_
  refine lv_iload_n hx hb dX2_moreOf_2 rfl (lv_at hl 2 rfl) ?_
  refine o_callVi (rest := []) (ci := 2) ⟨hx, hb, hml, hown, hts⟩ ho (c_Lw_has l D q c tnN ckN stN trN dsT dsC tpN lwN rdS rdM rdE rdD twN rsW rsE rwN suns ckT ckD shf lnT ways ups sts sty dly gAp gOp stp bst sgn lwT lwD rdT rdO lwK lwM twS twM twD rsO rsB rwA v1 v2 _ hp) (cwV 2 hts gX2_moreOf_X2_has rfl rfl rfl (by decide +kernel) ⟨(Nat.le_of_ble_eq_true rfl), (Nat.le_of_ble_eq_true rfl)⟩) 34 rfl rfl rfl hl.1 rfl (Nat.le_of_ble_eq_true rfl) dX2_moreOf_3 ⟨Nat.zero_le _, Nat.zero_le _⟩ (fun r3 u H locs hp ho => ?_)
  try dsimp only at hp
  replace ho : oW D (oT c) A s.heap s (wO q c tnN ckN stN trN dsT dsC tpN lwN rdS rdM rdE rdD twN rsW rsE rwN suns ckT ckD shf lnT ways ups sts sty dly gAp gOp stp bst sgn lwT lwD rdT rdO lwK lwM twS twM twD rsO rsB rwA) H locs := ho
  refine lv_if_eq (tgt := 23) hx hb dX2_moreOf_6 (by decide) (fun c_6 => ?_) (fun c_6 => ?_)
  · replace hp := hp.1 c_6
    refine lv_iconst (v := 0) hx hb dX2_moreOf_23 (by decide) ?_
    exact hret 0 () _ _ _ _ dX2_moreOf_24 ho hp
  · replace hp := hp.2 c_6
    refine lv_aload_n hx hb dX2_moreOf_9 rfl (lv_at hl 0 rfl) ?_
    refine o_get (ci := 2) (T := TX2) hx hb hts hinX2 hown ho 34 rfl rfl 3 (by decide) hf31 rfl dX2_moreOf_10 ?_
    refine lv_iload_n hx hb dX2_moreOf_13 rfl (lv_at hl 1 rfl) ?_
    refine lv_bipush (v := 6) hx hb dX2_moreOf_14 (by decide) ?_
    refine lv_imul hx hb dX2_moreOf_16 ?_
    refine lv_iload_n hx hb dX2_moreOf_17 rfl (lv_at hl 2 rfl) ?_
    refine lv_iadd hx hb dX2_moreOf_18 ?_
    refine o_ild hx hb ho 42 22 rfl rfl hp.1 dX2_moreOf_19 ?_
    replace hp := hp.2
    refine lv_goto (tgt := 24) hx hb dX2_moreOf_20 (by decide) ?_
    exact hret (lwM ((v1 * 6) + v2).toNatClampNeg) () _ _ _ _ dX2_moreOf_24 ho hp
set_option maxHeartbeats 4000000 in
set_option maxRecDepth 100000 in
theorem c_Lw_timeOf (l : Launch) (D : va_G) (q : Nat → Nat) (c : Nat → ClassId) (tnN : Int32) (ckN : Int32) (stN : Int32) (trN : Int32) (dsT : Int32) (dsC : Int32) (tpN : Int32) (lwN : Int32) (rdS : Int32) (rdM : Int32) (rdE : Int32) (rdD : Int32) (twN : Int32) (rsW : Int32) (rsE : Int32) (rwN : Int32) (suns : Nat → Int32) (ckT : Nat → Int32) (ckD : Nat → Int32) (shf : Nat → Int32) (lnT : Nat → Int32) (ways : Nat → Int32) (ups : Nat → Int32) (sts : Nat → Int32) (sty : Nat → Int32) (dly : Nat → Int32) (gAp : Nat → Nat → Int32) (gOp : Nat → Nat → Int32) (stp : Nat → Int32) (bst : Nat → Int32) (sgn : Nat → Int32) (lwT : Nat → Int32) (lwD : Nat → Int32) (rdT : Nat → Int32) (rdO : Nat → Int32) (lwK : Nat → Int32) (lwM : Nat → Int32) (twS : Nat → Int32) (twM : Nat → Int32) (twD : Nat → Int32) (rsO : Nat → Int32) (rsB : Nat → Int32) (rwA : Nat → Int32) (v1 : Int32) (v2 : Int32) (Q : Int32 → Prop) (hp : p_Lw_timeOf lwN lwK v1 v2 Q) : oKi l yX2_timeOf wsX2_timeOf { frames := 2, cells := 0, slots := 0, locals := 42 } [.ref (q 34), .int v1, .int v2] D (oT c) (wO q c tnN ckN stN trN dsT dsC tpN lwN rdS rdM rdE rdD twN rsW rsE rwN suns ckT ckD shf lnT ways ups sts sty dly gAp gOp stp bst sgn lwT lwD rdT rdO lwK lwM twS twM twD rsO rsB rwA) (Unit) (fun r (_ : Unit) => Q r) (fun _ => wO q c tnN ckN stN trN dsT dsC tpN lwN rdS rdM rdE rdD twN rsW rsE rwN suns ckT ckD shf lnT ways ups sts sty dly gAp gOp stp bst sgn lwT lwD rdT rdO lwK lwM twS twM twD rsO rsB rwA) := by
  refine oKi.ofW (own := RX2) (cc := cX2_timeOf) (maxL := 3) (plainFor_of_name (by decide +kernel)) rfl rfl (Nat.le_of_ble_eq_true rfl) (fun p e s m args below meth cd A ls Z hx hb hml hown hts hret ho hl => ?_)
  replace hl : lv_has ls 3 [(0, .ref (q 34)), (1, .int v1), (2, .int v2)] := hl
  have hinX2 : ∀ w ∈ u_ws RX2 TX2 4, w ∈ wsX2_timeOf := by decide +kernel
  have hf27 := hts (.fieldLink RX2 27 "OneTime$Laws" "times" "[I") (by decide +kernel)
  unfold p_Lw_timeOf at hp
  refine lv_aload_n hx hb dX2_timeOf_0 rfl (lv_at hl 0 rfl) ?_
  refine lv_iload_n hx hb dX2_timeOf_1 rfl (lv_at hl 1 rfl) ?_
  refine lv_iload_n hx hb dX2_timeOf_2 rfl (lv_at hl 2 rfl) ?_
  refine o_callVi (rest := []) (ci := 2) ⟨hx, hb, hml, hown, hts⟩ ho (c_Lw_has l D q c tnN ckN stN trN dsT dsC tpN lwN rdS rdM rdE rdD twN rsW rsE rwN suns ckT ckD shf lnT ways ups sts sty dly gAp gOp stp bst sgn lwT lwD rdT rdO lwK lwM twS twM twD rsO rsB rwA v1 v2 _ hp) (cwV 2 hts gX2_timeOf_X2_has rfl rfl rfl (by decide +kernel) ⟨(Nat.le_of_ble_eq_true rfl), (Nat.le_of_ble_eq_true rfl)⟩) 34 rfl rfl rfl hl.1 rfl (Nat.le_of_ble_eq_true rfl) dX2_timeOf_3 ⟨Nat.zero_le _, Nat.zero_le _⟩ (fun r3 u H locs hp ho => ?_)
  try dsimp only at hp
  replace ho : oW D (oT c) A s.heap s (wO q c tnN ckN stN trN dsT dsC tpN lwN rdS rdM rdE rdD twN rsW rsE rwN suns ckT ckD shf lnT ways ups sts sty dly gAp gOp stp bst sgn lwT lwD rdT rdO lwK lwM twS twM twD rsO rsB rwA) H locs := ho
  refine lv_if_eq (tgt := 23) hx hb dX2_timeOf_6 (by decide) (fun c_6 => ?_) (fun c_6 => ?_)
  · replace hp := hp.1 c_6
    refine lv_bipush (v := 99) hx hb dX2_timeOf_23 (by decide) ?_
    exact hret 99 () _ _ _ _ dX2_timeOf_25 ho hp
  · replace hp := hp.2 c_6
    refine lv_aload_n hx hb dX2_timeOf_9 rfl (lv_at hl 0 rfl) ?_
    refine o_get (ci := 2) (T := TX2) hx hb hts hinX2 hown ho 34 rfl rfl 2 (by decide) hf27 rfl dX2_timeOf_10 ?_
    refine lv_iload_n hx hb dX2_timeOf_13 rfl (lv_at hl 1 rfl) ?_
    refine lv_bipush (v := 6) hx hb dX2_timeOf_14 (by decide) ?_
    refine lv_imul hx hb dX2_timeOf_16 ?_
    refine lv_iload_n hx hb dX2_timeOf_17 rfl (lv_at hl 2 rfl) ?_
    refine lv_iadd hx hb dX2_timeOf_18 ?_
    refine o_ild hx hb ho 41 21 rfl rfl hp.1 dX2_timeOf_19 ?_
    replace hp := hp.2
    refine lv_goto (tgt := 25) hx hb dX2_timeOf_20 (by decide) ?_
    exact hret (lwK ((v1 * 6) + v2).toNatClampNeg) () _ _ _ _ dX2_timeOf_25 ho hp
