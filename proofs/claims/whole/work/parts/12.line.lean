set_option maxHeartbeats 4000000 in
set_option maxRecDepth 100000 in
theorem c_Ln_build (l : Launch) (D : va_G) (q : Nat → Nat) (c : Nat → ClassId) (tnN : Int32) (ckN : Int32) (stN : Int32) (trN : Int32) (dsT : Int32) (dsC : Int32) (tpN : Int32) (lwN : Int32) (rdS : Int32) (rdM : Int32) (rdE : Int32) (rdD : Int32) (twN : Int32) (rsW : Int32) (rsE : Int32) (rwN : Int32) (suns : Nat → Int32) (ckT : Nat → Int32) (ckD : Nat → Int32) (shf : Nat → Int32) (lnT : Nat → Int32) (ways : Nat → Int32) (ups : Nat → Int32) (sts : Nat → Int32) (sty : Nat → Int32) (dly : Nat → Int32) (gAp : Nat → Nat → Int32) (gOp : Nat → Nat → Int32) (stp : Nat → Int32) (bst : Nat → Int32) (sgn : Nat → Int32) (lwT : Nat → Int32) (lwD : Nat → Int32) (rdT : Nat → Int32) (rdO : Nat → Int32) (lwK : Nat → Int32) (lwM : Nat → Int32) (twS : Nat → Int32) (twM : Nat → Int32) (twD : Nat → Int32) (rsO : Nat → Int32) (rsB : Nat → Int32) (rwA : Nat → Int32) (v1 : Int32) (v2 : Int32) (Q : Int32 → Int32 → (Nat → Int32) → (Nat → Int32) → Prop) (hp : p_Ln_build trN stN lnT ways v1 v2 Q) : oKi l yX3_build wsX3_build { frames := 0, cells := 0, slots := 0, locals := 0 } [.ref (q 7), .int v1, .int v2] D (oT c) (wO q c tnN ckN stN trN dsT dsC tpN lwN rdS rdM rdE rdD twN rsW rsE rwN suns ckT ckD shf lnT ways ups sts sty dly gAp gOp stp bst sgn lwT lwD rdT rdO lwK lwM twS twM twD rsO rsB rwA) (Int32 × (Nat → Int32) × (Nat → Int32)) (fun r (u : Int32 × (Nat → Int32) × (Nat → Int32)) => Q r u.1 u.2.1 u.2.2) (fun u => wO q c tnN ckN u.1 trN dsT dsC tpN lwN rdS rdM rdE rdD twN rsW rsE rwN suns ckT ckD shf u.2.1 u.2.2 ups sts sty dly gAp gOp stp bst sgn lwT lwD rdT rdO lwK lwM twS twM twD rsO rsB rwA) := by
  refine oKi.ofW (own := RX3) (cc := cX3_build) (maxL := 3) (plainFor_of_name (by decide +kernel)) rfl rfl (Nat.le_of_ble_eq_true rfl) (fun p e s m args below meth cd A ls Z hx hb hml hown hts hret ho hl => ?_)
  replace hl : lv_has ls 3 [(0, .ref (q 7)), (1, .int v1), (2, .int v2)] := hl
  have hinX3 : ∀ w ∈ u_ws RX3 TX3 8, w ∈ wsX3_build := by decide +kernel
  have hf9 := hts (.fieldLink RX3 9 "OneTime$Line" "stations" "I") (by decide +kernel)
  have hf15 := hts (.fieldLink RX3 15 "OneTime$Line" "ofTowns" "[I") (by decide +kernel)
  have hf19 := hts (.fieldLink RX3 19 "OneTime$Line" "ways" "[I") (by decide +kernel)
  have hf22 := hts (.fieldLink RX3 22 "OneTime$Line" "trains" "I") (by decide +kernel)
  unfold p_Ln_build at hp
  have hJ61 : ∀ (v1 : Int32) (stN : Int32) (lnT : Nat → Int32) (ways : Nat → Int32), p_Ln_build_J61 trN v1 stN lnT ways Q → ∀ (H : Heap) (locs : List Loc) (ls : Array Slot), oW D (oT c) A s.heap s (wO q c tnN ckN stN trN dsT dsC tpN lwN rdS rdM rdE rdD twN rsW rsE rwN suns ckT ckD shf lnT ways ups sts sty dly gAp gOp stp bst sgn lwT lwD rdT rdO lwK lwM twS twM twD rsO rsB rwA) H locs → lv_has ls 3 [(0, .ref (q 7)), (1, .int v1)] → W p l e { frames := 0, cells := 0, slots := 0, locals := 0 } s m args below meth cd H locs 0 0 Z (F0 m 61 ls []) := by
    intro v1 stN lnT ways
    intro hp H locs ls ho hl
    unfold p_Ln_build_J61 at hp
    refine lv_aload_n hx hb dX3_build_61 rfl (lv_at hl 0 rfl) ?_
    refine o_get (ci := 3) (T := TX3) hx hb hts hinX3 hown ho 7 rfl rfl 1 (by decide) hf15 rfl dX3_build_62 ?_
    refine lv_aload_n hx hb dX3_build_65 rfl (lv_at hl 0 rfl) ?_
    refine o_get (ci := 3) (T := TX3) hx hb hts hinX3 hown ho 7 rfl rfl 0 (by decide) hf9 rfl dX3_build_66 ?_
    refine lv_iload_n hx hb dX3_build_69 rfl (lv_at hl 1 rfl) ?_
    refine o_ist hx hb ho 8 4 rfl rfl hp.1 dX3_build_70 (fun H locs ho => ?_)
    replace hp := hp.2
    replace ho : oW D (oT c) A s.heap s (wO q c tnN ckN stN trN dsT dsC tpN lwN rdS rdM rdE rdD twN rsW rsE rwN suns ckT ckD shf (upd lnT stN.toNatClampNeg v1) ways ups sts sty dly gAp gOp stp bst sgn lwT lwD rdT rdO lwK lwM twS twM twD rsO rsB rwA) H locs := ho
    refine lv_aload_n hx hb dX3_build_71 rfl (lv_at hl 0 rfl) ?_
    refine lv_dup hx hb dX3_build_72 rfl ?_
    refine o_get (ci := 3) (T := TX3) hx hb hts hinX3 hown ho 7 rfl rfl 0 (by decide) hf9 rfl dX3_build_73 ?_
    refine lv_iconst (v := 1) hx hb dX3_build_76 (by decide) ?_
    refine lv_iadd hx hb dX3_build_77 ?_
    refine lv_topi (fun x78 e_x78 => ?_)
    replace hp := hp x78 e_x78
    refine o_put (ci := 3) (T := TX3) hx hb hts hinX3 tyX3_ok nmX3 hown ho 7 rfl rfl 0 (by decide) hf9 rfl (tyX3_ok 0 (by decide)) (Nat.le_of_ble_eq_true rfl) dX3_build_78 (fun H locs ho => ?_)
    replace ho : oW D (oT c) A s.heap s (wO q c tnN ckN x78 trN dsT dsC tpN lwN rdS rdM rdE rdD twN rsW rsE rwN suns ckT ckD shf (upd lnT stN.toNatClampNeg v1) ways ups sts sty dly gAp gOp stp bst sgn lwT lwD rdT rdO lwK lwM twS twM twD rsO rsB rwA) H locs := ho
    refine lv_aload_n hx hb dX3_build_81 rfl (lv_at hl 0 rfl) ?_
    refine o_get (ci := 3) (T := TX3) hx hb hts hinX3 hown ho 7 rfl rfl 0 (by decide) hf9 rfl dX3_build_82 ?_
    refine lv_iconst (v := 1) hx hb dX3_build_85 (by decide) ?_
    refine lv_isub hx hb dX3_build_86 ?_
    exact hret (x78 - 1) (x78, upd lnT stN.toNatClampNeg v1, ways) _ _ _ _ dX3_build_87 ho hp
  refine lv_aload_n hx hb dX3_build_0 rfl (lv_at hl 0 rfl) ?_
  refine o_get (ci := 3) (T := TX3) hx hb hts hinX3 hown ho 7 rfl rfl 0 (by decide) hf9 rfl dX3_build_1 ?_
  refine lv_bipush (v := 6) hx hb dX3_build_4 (by decide) ?_
  refine lv_icmp_ge (tgt := 16) hx hb dX3_build_6 (by decide) (fun c_6 => ?_) (fun c_6 => ?_)
  · replace hp := hp.1 c_6
    refine lv_iconst (v := (-1)) hx hb dX3_build_16 (by decide) ?_
    exact hret (-1) (stN, lnT, ways) _ _ _ _ dX3_build_17 ho hp
  · replace hp := hp.2 c_6
    refine lv_aload_n hx hb dX3_build_9 rfl (lv_at hl 0 rfl) ?_
    refine o_get (ci := 3) (T := TX3) hx hb hts hinX3 hown ho 7 rfl rfl 3 (by decide) hf22 rfl dX3_build_10 ?_
    refine lv_if_le (tgt := 18) hx hb dX3_build_13 (by decide) (fun c_13 => ?_) (fun c_13 => ?_)
    · replace hp := hp.1 c_13
      refine lv_aload_n hx hb dX3_build_18 rfl (lv_at hl 0 rfl) ?_
      refine o_get (ci := 3) (T := TX3) hx hb hts hinX3 hown ho 7 rfl rfl 0 (by decide) hf9 rfl dX3_build_19 ?_
      refine lv_if_le (tgt := 61) hx hb dX3_build_22 (by decide) (fun c_22 => ?_) (fun c_22 => ?_)
      · replace hp := hp.1 c_22
        exact hJ61 v1 stN lnT ways hp _ _ _ ho (lv_sub hl [0, 1] rfl)
      · replace hp := hp.2 c_22
        refine lv_iload_n hx hb dX3_build_25 rfl (lv_at hl 2 rfl) ?_
        refine lv_iconst (v := 1) hx hb dX3_build_26 (by decide) ?_
        refine lv_icmp_lt (tgt := 37) hx hb dX3_build_27 (by decide) (fun c_27 => ?_) (fun c_27 => ?_)
        · replace hp := hp.1 c_27
          refine lv_iconst (v := (-1)) hx hb dX3_build_37 (by decide) ?_
          exact hret (-1) (stN, lnT, ways) _ _ _ _ dX3_build_38 ho hp
        · replace hp := hp.2 c_27
          refine lv_iload_n hx hb dX3_build_30 rfl (lv_at hl 2 rfl) ?_
          refine lv_sipush (v := 600) hx hb dX3_build_31 (by decide) ?_
          refine lv_icmp_le (tgt := 39) hx hb dX3_build_34 (by decide) (fun c_34 => ?_) (fun c_34 => ?_)
          · replace hp := hp.1 c_34
            refine lv_aload_n hx hb dX3_build_39 rfl (lv_at hl 0 rfl) ?_
            refine o_get (ci := 3) (T := TX3) hx hb hts hinX3 hown ho 7 rfl rfl 2 (by decide) hf19 rfl dX3_build_40 ?_
            refine lv_aload_n hx hb dX3_build_43 rfl (lv_at hl 0 rfl) ?_
            refine o_get (ci := 3) (T := TX3) hx hb hts hinX3 hown ho 7 rfl rfl 0 (by decide) hf9 rfl dX3_build_44 ?_
            refine lv_aload_n hx hb dX3_build_47 rfl (lv_at hl 0 rfl) ?_
            refine o_get (ci := 3) (T := TX3) hx hb hts hinX3 hown ho 7 rfl rfl 2 (by decide) hf19 rfl dX3_build_48 ?_
            refine lv_aload_n hx hb dX3_build_51 rfl (lv_at hl 0 rfl) ?_
            refine o_get (ci := 3) (T := TX3) hx hb hts hinX3 hown ho 7 rfl rfl 0 (by decide) hf9 rfl dX3_build_52 ?_
            refine lv_iconst (v := 1) hx hb dX3_build_55 (by decide) ?_
            refine lv_isub hx hb dX3_build_56 ?_
            refine o_ild hx hb ho 9 5 rfl rfl hp.1 dX3_build_57 ?_
            replace hp := hp.2
            refine lv_iload_n hx hb dX3_build_58 rfl (lv_at hl 2 rfl) ?_
            refine lv_iadd hx hb dX3_build_59 ?_
            refine o_ist hx hb ho 9 5 rfl rfl hp.1 dX3_build_60 (fun H locs ho => ?_)
            replace hp := hp.2
            replace ho : oW D (oT c) A s.heap s (wO q c tnN ckN stN trN dsT dsC tpN lwN rdS rdM rdE rdD twN rsW rsE rwN suns ckT ckD shf lnT (upd ways stN.toNatClampNeg ((ways (stN - 1).toNatClampNeg) + v2)) ups sts sty dly gAp gOp stp bst sgn lwT lwD rdT rdO lwK lwM twS twM twD rsO rsB rwA) H locs := ho
            exact hJ61 v1 stN lnT (upd ways stN.toNatClampNeg ((ways (stN - 1).toNatClampNeg) + v2)) hp _ _ _ ho (lv_sub hl [0, 1] rfl)
          · replace hp := hp.2 c_34
            refine lv_iconst (v := (-1)) hx hb dX3_build_37 (by decide) ?_
            exact hret (-1) (stN, lnT, ways) _ _ _ _ dX3_build_38 ho hp
    · replace hp := hp.2 c_13
      refine lv_iconst (v := (-1)) hx hb dX3_build_16 (by decide) ?_
      exact hret (-1) (stN, lnT, ways) _ _ _ _ dX3_build_17 ho hp
set_option maxHeartbeats 4000000 in
set_option maxRecDepth 100000 in
theorem c_Ln_takesTrains (l : Launch) (D : va_G) (q : Nat → Nat) (c : Nat → ClassId) (tnN : Int32) (ckN : Int32) (stN : Int32) (trN : Int32) (dsT : Int32) (dsC : Int32) (tpN : Int32) (lwN : Int32) (rdS : Int32) (rdM : Int32) (rdE : Int32) (rdD : Int32) (twN : Int32) (rsW : Int32) (rsE : Int32) (rwN : Int32) (suns : Nat → Int32) (ckT : Nat → Int32) (ckD : Nat → Int32) (shf : Nat → Int32) (lnT : Nat → Int32) (ways : Nat → Int32) (ups : Nat → Int32) (sts : Nat → Int32) (sty : Nat → Int32) (dly : Nat → Int32) (gAp : Nat → Nat → Int32) (gOp : Nat → Nat → Int32) (stp : Nat → Int32) (bst : Nat → Int32) (sgn : Nat → Int32) (lwT : Nat → Int32) (lwD : Nat → Int32) (rdT : Nat → Int32) (rdO : Nat → Int32) (lwK : Nat → Int32) (lwM : Nat → Int32) (twS : Nat → Int32) (twM : Nat → Int32) (twD : Nat → Int32) (rsO : Nat → Int32) (rsB : Nat → Int32) (rwA : Nat → Int32)  (Q : Int32 → Prop) (hp : p_Ln_takesTrains stN trN Q) : oKi l yX3_takesTrains wsX3_takesTrains { frames := 0, cells := 0, slots := 0, locals := 0 } [.ref (q 7)] D (oT c) (wO q c tnN ckN stN trN dsT dsC tpN lwN rdS rdM rdE rdD twN rsW rsE rwN suns ckT ckD shf lnT ways ups sts sty dly gAp gOp stp bst sgn lwT lwD rdT rdO lwK lwM twS twM twD rsO rsB rwA) (Unit) (fun r (_ : Unit) => Q r) (fun _ => wO q c tnN ckN stN trN dsT dsC tpN lwN rdS rdM rdE rdD twN rsW rsE rwN suns ckT ckD shf lnT ways ups sts sty dly gAp gOp stp bst sgn lwT lwD rdT rdO lwK lwM twS twM twD rsO rsB rwA) := by
  refine oKi.ofWz (own := RX3) (cc := cX3_takesTrains) (maxL := 1) (plainFor_of_name (by decide +kernel)) rfl rfl (Nat.le_of_ble_eq_true rfl) (fun p e s m args below meth cd A ls Z hx hb hml hown hts hret ho hl => ?_)
  replace hl : lv_has ls 1 [(0, .ref (q 7))] := hl
  have hinX3 : ∀ w ∈ u_ws RX3 TX3 8, w ∈ wsX3_takesTrains := by decide +kernel
  have hf9 := hts (.fieldLink RX3 9 "OneTime$Line" "stations" "I") (by decide +kernel)
  have hf22 := hts (.fieldLink RX3 22 "OneTime$Line" "trains" "I") (by decide +kernel)
  unfold p_Ln_takesTrains at hp
  refine lv_aload_n hx hb dX3_takesTrains_0 rfl (lv_at hl 0 rfl) ?_
  refine o_get (ci := 3) (T := TX3) hx hb hts hinX3 hown ho 7 rfl rfl 0 (by decide) hf9 rfl dX3_takesTrains_1 ?_
  refine lv_iconst (v := 2) hx hb dX3_takesTrains_4 (by decide) ?_
  refine lv_icmp_lt (tgt := 21) hx hb dX3_takesTrains_5 (by decide) (fun c_5 => ?_) (fun c_5 => ?_)
  · replace hp := hp.1 c_5
    refine lv_iconst (v := 0) hx hb dX3_takesTrains_21 (by decide) ?_
    exact hret 0 () _ _ _ _ dX3_takesTrains_22 (Or.inl rfl) ho hp
  · replace hp := hp.2 c_5
    refine lv_aload_n hx hb dX3_takesTrains_8 rfl (lv_at hl 0 rfl) ?_
    refine o_get (ci := 3) (T := TX3) hx hb hts hinX3 hown ho 7 rfl rfl 3 (by decide) hf22 rfl dX3_takesTrains_9 ?_
    refine lv_bipush (v := 6) hx hb dX3_takesTrains_12 (by decide) ?_
    refine lv_icmp_ge (tgt := 21) hx hb dX3_takesTrains_14 (by decide) (fun c_14 => ?_) (fun c_14 => ?_)
    · replace hp := hp.1 c_14
      refine lv_iconst (v := 0) hx hb dX3_takesTrains_21 (by decide) ?_
      exact hret 0 () _ _ _ _ dX3_takesTrains_22 (Or.inl rfl) ho hp
    · replace hp := hp.2 c_14
      refine lv_iconst (v := 1) hx hb dX3_takesTrains_17 (by decide) ?_
      refine lv_goto (tgt := 22) hx hb dX3_takesTrains_18 (by decide) ?_
      exact hret 1 () _ _ _ _ dX3_takesTrains_22 (Or.inr rfl) ho hp
set_option maxHeartbeats 4000000 in
set_option maxRecDepth 100000 in
theorem c_Ln_hasStation (l : Launch) (D : va_G) (q : Nat → Nat) (c : Nat → ClassId) (tnN : Int32) (ckN : Int32) (stN : Int32) (trN : Int32) (dsT : Int32) (dsC : Int32) (tpN : Int32) (lwN : Int32) (rdS : Int32) (rdM : Int32) (rdE : Int32) (rdD : Int32) (twN : Int32) (rsW : Int32) (rsE : Int32) (rwN : Int32) (suns : Nat → Int32) (ckT : Nat → Int32) (ckD : Nat → Int32) (shf : Nat → Int32) (lnT : Nat → Int32) (ways : Nat → Int32) (ups : Nat → Int32) (sts : Nat → Int32) (sty : Nat → Int32) (dly : Nat → Int32) (gAp : Nat → Nat → Int32) (gOp : Nat → Nat → Int32) (stp : Nat → Int32) (bst : Nat → Int32) (sgn : Nat → Int32) (lwT : Nat → Int32) (lwD : Nat → Int32) (rdT : Nat → Int32) (rdO : Nat → Int32) (lwK : Nat → Int32) (lwM : Nat → Int32) (twS : Nat → Int32) (twM : Nat → Int32) (twD : Nat → Int32) (rsO : Nat → Int32) (rsB : Nat → Int32) (rwA : Nat → Int32) (v1 : Int32) (Q : Int32 → Prop) (hp : p_Ln_hasStation stN v1 Q) : oKi l yX3_hasStation wsX3_hasStation { frames := 0, cells := 0, slots := 0, locals := 0 } [.ref (q 7), .int v1] D (oT c) (wO q c tnN ckN stN trN dsT dsC tpN lwN rdS rdM rdE rdD twN rsW rsE rwN suns ckT ckD shf lnT ways ups sts sty dly gAp gOp stp bst sgn lwT lwD rdT rdO lwK lwM twS twM twD rsO rsB rwA) (Unit) (fun r (_ : Unit) => Q r) (fun _ => wO q c tnN ckN stN trN dsT dsC tpN lwN rdS rdM rdE rdD twN rsW rsE rwN suns ckT ckD shf lnT ways ups sts sty dly gAp gOp stp bst sgn lwT lwD rdT rdO lwK lwM twS twM twD rsO rsB rwA) := by
  refine oKi.ofWz (own := RX3) (cc := cX3_hasStation) (maxL := 2) (plainFor_of_name (by decide +kernel)) rfl rfl (Nat.le_of_ble_eq_true rfl) (fun p e s m args below meth cd A ls Z hx hb hml hown hts hret ho hl => ?_)
  replace hl : lv_has ls 2 [(0, .ref (q 7)), (1, .int v1)] := hl
  have hinX3 : ∀ w ∈ u_ws RX3 TX3 8, w ∈ wsX3_hasStation := by decide +kernel
  have hf9 := hts (.fieldLink RX3 9 "OneTime$Line" "stations" "I") (by decide +kernel)
  unfold p_Ln_hasStation at hp
  refine lv_iload_n hx hb dX3_hasStation_0 rfl (lv_at hl 1 rfl) ?_
  refine lv_if_lt (tgt := 16) hx hb dX3_hasStation_1 (by decide) (fun c_1 => ?_) (fun c_1 => ?_)
  · replace hp := hp.1 c_1
    refine lv_iconst (v := 0) hx hb dX3_hasStation_16 (by decide) ?_
    exact hret 0 () _ _ _ _ dX3_hasStation_17 (Or.inl rfl) ho hp
  · replace hp := hp.2 c_1
    refine lv_iload_n hx hb dX3_hasStation_4 rfl (lv_at hl 1 rfl) ?_
    refine lv_aload_n hx hb dX3_hasStation_5 rfl (lv_at hl 0 rfl) ?_
    refine o_get (ci := 3) (T := TX3) hx hb hts hinX3 hown ho 7 rfl rfl 0 (by decide) hf9 rfl dX3_hasStation_6 ?_
    refine lv_icmp_ge (tgt := 16) hx hb dX3_hasStation_9 (by decide) (fun c_9 => ?_) (fun c_9 => ?_)
    · replace hp := hp.1 c_9
      refine lv_iconst (v := 0) hx hb dX3_hasStation_16 (by decide) ?_
      exact hret 0 () _ _ _ _ dX3_hasStation_17 (Or.inl rfl) ho hp
    · replace hp := hp.2 c_9
      refine lv_iconst (v := 1) hx hb dX3_hasStation_12 (by decide) ?_
      refine lv_goto (tgt := 17) hx hb dX3_hasStation_13 (by decide) ?_
      exact hret 1 () _ _ _ _ dX3_hasStation_17 (Or.inr rfl) ho hp
set_option maxHeartbeats 4000000 in
set_option maxRecDepth 100000 in
theorem c_Ln_firstTown (l : Launch) (D : va_G) (q : Nat → Nat) (c : Nat → ClassId) (tnN : Int32) (ckN : Int32) (stN : Int32) (trN : Int32) (dsT : Int32) (dsC : Int32) (tpN : Int32) (lwN : Int32) (rdS : Int32) (rdM : Int32) (rdE : Int32) (rdD : Int32) (twN : Int32) (rsW : Int32) (rsE : Int32) (rwN : Int32) (suns : Nat → Int32) (ckT : Nat → Int32) (ckD : Nat → Int32) (shf : Nat → Int32) (lnT : Nat → Int32) (ways : Nat → Int32) (ups : Nat → Int32) (sts : Nat → Int32) (sty : Nat → Int32) (dly : Nat → Int32) (gAp : Nat → Nat → Int32) (gOp : Nat → Nat → Int32) (stp : Nat → Int32) (bst : Nat → Int32) (sgn : Nat → Int32) (lwT : Nat → Int32) (lwD : Nat → Int32) (rdT : Nat → Int32) (rdO : Nat → Int32) (lwK : Nat → Int32) (lwM : Nat → Int32) (twS : Nat → Int32) (twM : Nat → Int32) (twD : Nat → Int32) (rsO : Nat → Int32) (rsB : Nat → Int32) (rwA : Nat → Int32) (v1 : Int32) (Q : Int32 → Prop) (hp : p_Ln_firstTown stN lnT v1 Q) : oKi l yX3_firstTown wsX3_firstTown { frames := 1, cells := 0, slots := 0, locals := 21 } [.ref (q 7), .int v1] D (oT c) (wO q c tnN ckN stN trN dsT dsC tpN lwN rdS rdM rdE rdD twN rsW rsE rwN suns ckT ckD shf lnT ways ups sts sty dly gAp gOp stp bst sgn lwT lwD rdT rdO lwK lwM twS twM twD rsO rsB rwA) (Unit) (fun r (_ : Unit) => Q r) (fun _ => wO q c tnN ckN stN trN dsT dsC tpN lwN rdS rdM rdE rdD twN rsW rsE rwN suns ckT ckD shf lnT ways ups sts sty dly gAp gOp stp bst sgn lwT lwD rdT rdO lwK lwM twS twM twD rsO rsB rwA) := by
  refine oKi.ofW (own := RX3) (cc := cX3_firstTown) (maxL := 3) (plainFor_of_name (by decide +kernel)) rfl rfl (Nat.le_of_ble_eq_true rfl) (fun p e s m args below meth cd A ls Z hx hb hml hown hts hret ho hl => ?_)
  replace hl : lv_has ls 3 [(0, .ref (q 7)), (1, .int v1)] := hl
  have hinX3 : ∀ w ∈ u_ws RX3 TX3 8, w ∈ wsX3_firstTown := by decide +kernel
  have hf9 := hts (.fieldLink RX3 9 "OneTime$Line" "stations" "I") (by decide +kernel)
  have hf15 := hts (.fieldLink RX3 15 "OneTime$Line" "ofTowns" "[I") (by decide +kernel)
  unfold p_Ln_firstTown at hp
  have hJ14 : ∀ (s0 : Int32), p_Ln_firstTown_J14 stN lnT s0 Q → ∀ (H : Heap) (locs : List Loc) (ls : Array Slot), oW D (oT c) A s.heap s (wO q c tnN ckN stN trN dsT dsC tpN lwN rdS rdM rdE rdD twN rsW rsE rwN suns ckT ckD shf lnT ways ups sts sty dly gAp gOp stp bst sgn lwT lwD rdT rdO lwK lwM twS twM twD rsO rsB rwA) H locs → lv_has ls 3 [(0, .ref (q 7))] → W p l e { frames := 1, cells := 0, slots := 0, locals := 21 } s m args below meth cd H locs 0 0 Z (F0 m 14 ls [.int s0]) := by
    intro s0
    intro hp H locs ls ho hl
    unfold p_Ln_firstTown_J14 at hp
    refine lv_istore_n (lv' := [(2, .int s0), (0, .ref (q 7))]) hx hb dX3_firstTown_14 rfl hl (by decide) rfl (fun ls hl => ?_)
    refine lv_aload_n hx hb dX3_firstTown_15 rfl (lv_at hl 1 rfl) ?_
    refine lv_iload_n hx hb dX3_firstTown_16 rfl (lv_at hl 0 rfl) ?_
    refine o_callVi (rest := []) (ci := 3) ⟨hx, hb, hml, hown, hts⟩ ho (c_Ln_hasStation l D q c tnN ckN stN trN dsT dsC tpN lwN rdS rdM rdE rdD twN rsW rsE rwN suns ckT ckD shf lnT ways ups sts sty dly gAp gOp stp bst sgn lwT lwD rdT rdO lwK lwM twS twM twD rsO rsB rwA s0 _ hp) (cwV 1 hts gX3_firstTown_X3_hasStation rfl rfl rfl (by decide +kernel) ⟨(Nat.le_of_ble_eq_true rfl), (Nat.le_of_ble_eq_true rfl)⟩) 7 rfl rfl rfl hl.1 rfl (Nat.le_of_ble_eq_true rfl) dX3_firstTown_17 ⟨Nat.zero_le _, Nat.zero_le _⟩ (fun r17 u H locs hp ho => ?_)
    try dsimp only at hp
    replace ho : oW D (oT c) A s.heap s (wO q c tnN ckN stN trN dsT dsC tpN lwN rdS rdM rdE rdD twN rsW rsE rwN suns ckT ckD shf lnT ways ups sts sty dly gAp gOp stp bst sgn lwT lwD rdT rdO lwK lwM twS twM twD rsO rsB rwA) H locs := ho
    refine lv_if_eq (tgt := 32) hx hb dX3_firstTown_20 (by decide) (fun c_20 => ?_) (fun c_20 => ?_)
    · replace hp := hp.1 c_20
      refine lv_iconst (v := (-1)) hx hb dX3_firstTown_32 (by decide) ?_
      exact hret (-1) () _ _ _ _ dX3_firstTown_33 ho hp
    · replace hp := hp.2 c_20
      refine lv_aload_n hx hb dX3_firstTown_23 rfl (lv_at hl 1 rfl) ?_
      refine o_get (ci := 3) (T := TX3) hx hb hts hinX3 hown ho 7 rfl rfl 1 (by decide) hf15 rfl dX3_firstTown_24 ?_
      refine lv_iload_n hx hb dX3_firstTown_27 rfl (lv_at hl 0 rfl) ?_
      refine o_ild hx hb ho 8 4 rfl rfl hp.1 dX3_firstTown_28 ?_
      replace hp := hp.2
      refine lv_goto (tgt := 33) hx hb dX3_firstTown_29 (by decide) ?_
      exact hret (lnT s0.toNatClampNeg) () _ _ _ _ dX3_firstTown_33 ho hp
  refine lv_iload_n hx hb dX3_firstTown_0 rfl (lv_at hl 1 rfl) ?_
  refine lv_if_eq (tgt := 8) hx hb dX3_firstTown_1 (by decide) (fun c_1 => ?_) (fun c_1 => ?_)
  · replace hp := hp.1 c_1
    refine lv_aload_n hx hb dX3_firstTown_8 rfl (lv_at hl 0 rfl) ?_
    refine o_get (ci := 3) (T := TX3) hx hb hts hinX3 hown ho 7 rfl rfl 0 (by decide) hf9 rfl dX3_firstTown_9 ?_
    refine lv_iconst (v := 1) hx hb dX3_firstTown_12 (by decide) ?_
    refine lv_isub hx hb dX3_firstTown_13 ?_
    exact hJ14 (stN - 1) hp _ _ _ ho (lv_sub hl [0] rfl)
  · replace hp := hp.2 c_1
    refine lv_iconst (v := 0) hx hb dX3_firstTown_4 (by decide) ?_
    refine lv_goto (tgt := 14) hx hb dX3_firstTown_5 (by decide) ?_
    exact hJ14 0 hp _ _ _ ho (lv_sub hl [0] rfl)
set_option maxHeartbeats 4000000 in
set_option maxRecDepth 100000 in
theorem c_Ln_addTrain (l : Launch) (D : va_G) (q : Nat → Nat) (c : Nat → ClassId) (tnN : Int32) (ckN : Int32) (stN : Int32) (trN : Int32) (dsT : Int32) (dsC : Int32) (tpN : Int32) (lwN : Int32) (rdS : Int32) (rdM : Int32) (rdE : Int32) (rdD : Int32) (twN : Int32) (rsW : Int32) (rsE : Int32) (rwN : Int32) (suns : Nat → Int32) (ckT : Nat → Int32) (ckD : Nat → Int32) (shf : Nat → Int32) (lnT : Nat → Int32) (ways : Nat → Int32) (ups : Nat → Int32) (sts : Nat → Int32) (sty : Nat → Int32) (dly : Nat → Int32) (gAp : Nat → Nat → Int32) (gOp : Nat → Nat → Int32) (stp : Nat → Int32) (bst : Nat → Int32) (sgn : Nat → Int32) (lwT : Nat → Int32) (lwD : Nat → Int32) (rdT : Nat → Int32) (rdO : Nat → Int32) (lwK : Nat → Int32) (lwM : Nat → Int32) (twS : Nat → Int32) (twM : Nat → Int32) (twD : Nat → Int32) (rsO : Nat → Int32) (rsB : Nat → Int32) (rwA : Nat → Int32) (v1 : Int32) (v2 : Int32) (v3 : Int32) (Q : Int32 → Int32 → (Nat → Int32) → (Nat → Int32) → (Nat → Int32) → (Nat → Int32) → Prop) (hp : p_Ln_addTrain trN ups sts sty dly v1 v2 v3 Q) : oKi l yX3_addTrain wsX3_addTrain { frames := 0, cells := 0, slots := 0, locals := 0 } [.ref (q 7), .int v1, .int v2, .int v3] D (oT c) (wO q c tnN ckN stN trN dsT dsC tpN lwN rdS rdM rdE rdD twN rsW rsE rwN suns ckT ckD shf lnT ways ups sts sty dly gAp gOp stp bst sgn lwT lwD rdT rdO lwK lwM twS twM twD rsO rsB rwA) (Int32 × (Nat → Int32) × (Nat → Int32) × (Nat → Int32) × (Nat → Int32)) (fun r (u : Int32 × (Nat → Int32) × (Nat → Int32) × (Nat → Int32) × (Nat → Int32)) => Q r u.1 u.2.1 u.2.2.1 u.2.2.2.1 u.2.2.2.2) (fun u => wO q c tnN ckN stN u.1 dsT dsC tpN lwN rdS rdM rdE rdD twN rsW rsE rwN suns ckT ckD shf lnT ways u.2.1 u.2.2.1 u.2.2.2.1 u.2.2.2.2 gAp gOp stp bst sgn lwT lwD rdT rdO lwK lwM twS twM twD rsO rsB rwA) := by
  refine oKi.ofW (own := RX3) (cc := cX3_addTrain) (maxL := 4) (plainFor_of_name (by decide +kernel)) rfl rfl (Nat.le_of_ble_eq_true rfl) (fun p e s m args below meth cd A ls Z hx hb hml hown hts hret ho hl => ?_)
  replace hl : lv_has ls 4 [(0, .ref (q 7)), (1, .int v1), (2, .int v2), (3, .int v3)] := hl
  have hinX3 : ∀ w ∈ u_ws RX3 TX3 8, w ∈ wsX3_addTrain := by decide +kernel
  have hf22 := hts (.fieldLink RX3 22 "OneTime$Line" "trains" "I") (by decide +kernel)
  have hf25 := hts (.fieldLink RX3 25 "OneTime$Line" "ups" "[Z") (by decide +kernel)
  have hf29 := hts (.fieldLink RX3 29 "OneTime$Line" "starts" "[I") (by decide +kernel)
  have hf32 := hts (.fieldLink RX3 32 "OneTime$Line" "stays" "[I") (by decide +kernel)
  have hf35 := hts (.fieldLink RX3 35 "OneTime$Line" "delays" "[I") (by decide +kernel)
  unfold p_Ln_addTrain at hp
  refine lv_aload_n hx hb dX3_addTrain_0 rfl (lv_at hl 0 rfl) ?_
  refine o_get (ci := 3) (T := TX3) hx hb hts hinX3 hown ho 7 rfl rfl 3 (by decide) hf22 rfl dX3_addTrain_1 ?_
  refine lv_bipush (v := 6) hx hb dX3_addTrain_4 (by decide) ?_
  refine lv_icmp_lt (tgt := 11) hx hb dX3_addTrain_6 (by decide) (fun c_6 => ?_) (fun c_6 => ?_)
  · replace hp := hp.1 c_6
    refine lv_aload_n hx hb dX3_addTrain_11 rfl (lv_at hl 0 rfl) ?_
    refine o_get (ci := 3) (T := TX3) hx hb hts hinX3 hown ho 7 rfl rfl 4 (by decide) hf25 rfl dX3_addTrain_12 ?_
    refine lv_aload_n hx hb dX3_addTrain_15 rfl (lv_at hl 0 rfl) ?_
    refine o_get (ci := 3) (T := TX3) hx hb hts hinX3 hown ho 7 rfl rfl 3 (by decide) hf22 rfl dX3_addTrain_16 ?_
    refine lv_iload_n hx hb dX3_addTrain_19 rfl (lv_at hl 1 rfl) ?_
    refine o_zst hx hb ho 10 6 rfl rfl hp.1 dX3_addTrain_20 (fun H locs ho => ?_)
    replace hp := hp.2
    replace ho : oW D (oT c) A s.heap s (wO q c tnN ckN stN trN dsT dsC tpN lwN rdS rdM rdE rdD twN rsW rsE rwN suns ckT ckD shf lnT ways (upd ups trN.toNatClampNeg (vp_nar .boolean v1)) sts sty dly gAp gOp stp bst sgn lwT lwD rdT rdO lwK lwM twS twM twD rsO rsB rwA) H locs := ho
    refine lv_aload_n hx hb dX3_addTrain_21 rfl (lv_at hl 0 rfl) ?_
    refine o_get (ci := 3) (T := TX3) hx hb hts hinX3 hown ho 7 rfl rfl 5 (by decide) hf29 rfl dX3_addTrain_22 ?_
    refine lv_aload_n hx hb dX3_addTrain_25 rfl (lv_at hl 0 rfl) ?_
    refine o_get (ci := 3) (T := TX3) hx hb hts hinX3 hown ho 7 rfl rfl 3 (by decide) hf22 rfl dX3_addTrain_26 ?_
    refine lv_iload_n hx hb dX3_addTrain_29 rfl (lv_at hl 2 rfl) ?_
    refine o_ist hx hb ho 11 7 rfl rfl hp.1 dX3_addTrain_30 (fun H locs ho => ?_)
    replace hp := hp.2
    replace ho : oW D (oT c) A s.heap s (wO q c tnN ckN stN trN dsT dsC tpN lwN rdS rdM rdE rdD twN rsW rsE rwN suns ckT ckD shf lnT ways (upd ups trN.toNatClampNeg (vp_nar .boolean v1)) (upd sts trN.toNatClampNeg v2) sty dly gAp gOp stp bst sgn lwT lwD rdT rdO lwK lwM twS twM twD rsO rsB rwA) H locs := ho
    refine lv_aload_n hx hb dX3_addTrain_31 rfl (lv_at hl 0 rfl) ?_
    refine o_get (ci := 3) (T := TX3) hx hb hts hinX3 hown ho 7 rfl rfl 6 (by decide) hf32 rfl dX3_addTrain_32 ?_
    refine lv_aload_n hx hb dX3_addTrain_35 rfl (lv_at hl 0 rfl) ?_
    refine o_get (ci := 3) (T := TX3) hx hb hts hinX3 hown ho 7 rfl rfl 3 (by decide) hf22 rfl dX3_addTrain_36 ?_
    refine lv_iload_n hx hb dX3_addTrain_39 rfl (lv_at hl 3 rfl) ?_
    refine o_ist hx hb ho 12 8 rfl rfl hp.1 dX3_addTrain_40 (fun H locs ho => ?_)
    replace hp := hp.2
    replace ho : oW D (oT c) A s.heap s (wO q c tnN ckN stN trN dsT dsC tpN lwN rdS rdM rdE rdD twN rsW rsE rwN suns ckT ckD shf lnT ways (upd ups trN.toNatClampNeg (vp_nar .boolean v1)) (upd sts trN.toNatClampNeg v2) (upd sty trN.toNatClampNeg v3) dly gAp gOp stp bst sgn lwT lwD rdT rdO lwK lwM twS twM twD rsO rsB rwA) H locs := ho
    refine lv_aload_n hx hb dX3_addTrain_41 rfl (lv_at hl 0 rfl) ?_
    refine o_get (ci := 3) (T := TX3) hx hb hts hinX3 hown ho 7 rfl rfl 7 (by decide) hf35 rfl dX3_addTrain_42 ?_
    refine lv_aload_n hx hb dX3_addTrain_45 rfl (lv_at hl 0 rfl) ?_
    refine o_get (ci := 3) (T := TX3) hx hb hts hinX3 hown ho 7 rfl rfl 3 (by decide) hf22 rfl dX3_addTrain_46 ?_
    refine lv_iconst (v := 0) hx hb dX3_addTrain_49 (by decide) ?_
    refine o_ist hx hb ho 13 9 rfl rfl hp.1 dX3_addTrain_50 (fun H locs ho => ?_)
    replace hp := hp.2
    replace ho : oW D (oT c) A s.heap s (wO q c tnN ckN stN trN dsT dsC tpN lwN rdS rdM rdE rdD twN rsW rsE rwN suns ckT ckD shf lnT ways (upd ups trN.toNatClampNeg (vp_nar .boolean v1)) (upd sts trN.toNatClampNeg v2) (upd sty trN.toNatClampNeg v3) (upd dly trN.toNatClampNeg 0) gAp gOp stp bst sgn lwT lwD rdT rdO lwK lwM twS twM twD rsO rsB rwA) H locs := ho
    refine lv_aload_n hx hb dX3_addTrain_51 rfl (lv_at hl 0 rfl) ?_
    refine lv_dup hx hb dX3_addTrain_52 rfl ?_
    refine o_get (ci := 3) (T := TX3) hx hb hts hinX3 hown ho 7 rfl rfl 3 (by decide) hf22 rfl dX3_addTrain_53 ?_
    refine lv_iconst (v := 1) hx hb dX3_addTrain_56 (by decide) ?_
    refine lv_iadd hx hb dX3_addTrain_57 ?_
    refine lv_topi (fun x58 e_x58 => ?_)
    replace hp := hp x58 e_x58
    refine o_put (ci := 3) (T := TX3) hx hb hts hinX3 tyX3_ok nmX3 hown ho 7 rfl rfl 3 (by decide) hf22 rfl (tyX3_ok 3 (by decide)) (Nat.le_of_ble_eq_true rfl) dX3_addTrain_58 (fun H locs ho => ?_)
    replace ho : oW D (oT c) A s.heap s (wO q c tnN ckN stN x58 dsT dsC tpN lwN rdS rdM rdE rdD twN rsW rsE rwN suns ckT ckD shf lnT ways (upd ups trN.toNatClampNeg (vp_nar .boolean v1)) (upd sts trN.toNatClampNeg v2) (upd sty trN.toNatClampNeg v3) (upd dly trN.toNatClampNeg 0) gAp gOp stp bst sgn lwT lwD rdT rdO lwK lwM twS twM twD rsO rsB rwA) H locs := ho
    refine lv_aload_n hx hb dX3_addTrain_61 rfl (lv_at hl 0 rfl) ?_
    refine o_get (ci := 3) (T := TX3) hx hb hts hinX3 hown ho 7 rfl rfl 3 (by decide) hf22 rfl dX3_addTrain_62 ?_
    refine lv_iconst (v := 1) hx hb dX3_addTrain_65 (by decide) ?_
    refine lv_isub hx hb dX3_addTrain_66 ?_
    exact hret (x58 - 1) (x58, upd ups trN.toNatClampNeg (vp_nar .boolean v1), upd sts trN.toNatClampNeg v2, upd sty trN.toNatClampNeg v3, upd dly trN.toNatClampNeg 0) _ _ _ _ dX3_addTrain_67 ho hp
  · replace hp := hp.2 c_6
    refine lv_iconst (v := (-1)) hx hb dX3_addTrain_9 (by decide) ?_
    exact hret (-1) (trN, ups, sts, sty, dly) _ _ _ _ dX3_addTrain_10 ho hp
set_option maxHeartbeats 4000000 in
set_option maxRecDepth 100000 in
theorem c_Ln_hasTrain (l : Launch) (D : va_G) (q : Nat → Nat) (c : Nat → ClassId) (tnN : Int32) (ckN : Int32) (stN : Int32) (trN : Int32) (dsT : Int32) (dsC : Int32) (tpN : Int32) (lwN : Int32) (rdS : Int32) (rdM : Int32) (rdE : Int32) (rdD : Int32) (twN : Int32) (rsW : Int32) (rsE : Int32) (rwN : Int32) (suns : Nat → Int32) (ckT : Nat → Int32) (ckD : Nat → Int32) (shf : Nat → Int32) (lnT : Nat → Int32) (ways : Nat → Int32) (ups : Nat → Int32) (sts : Nat → Int32) (sty : Nat → Int32) (dly : Nat → Int32) (gAp : Nat → Nat → Int32) (gOp : Nat → Nat → Int32) (stp : Nat → Int32) (bst : Nat → Int32) (sgn : Nat → Int32) (lwT : Nat → Int32) (lwD : Nat → Int32) (rdT : Nat → Int32) (rdO : Nat → Int32) (lwK : Nat → Int32) (lwM : Nat → Int32) (twS : Nat → Int32) (twM : Nat → Int32) (twD : Nat → Int32) (rsO : Nat → Int32) (rsB : Nat → Int32) (rwA : Nat → Int32) (v1 : Int32) (Q : Int32 → Prop) (hp : p_Ln_hasTrain trN v1 Q) : oKi l yX3_hasTrain wsX3_hasTrain { frames := 0, cells := 0, slots := 0, locals := 0 } [.ref (q 7), .int v1] D (oT c) (wO q c tnN ckN stN trN dsT dsC tpN lwN rdS rdM rdE rdD twN rsW rsE rwN suns ckT ckD shf lnT ways ups sts sty dly gAp gOp stp bst sgn lwT lwD rdT rdO lwK lwM twS twM twD rsO rsB rwA) (Unit) (fun r (_ : Unit) => Q r) (fun _ => wO q c tnN ckN stN trN dsT dsC tpN lwN rdS rdM rdE rdD twN rsW rsE rwN suns ckT ckD shf lnT ways ups sts sty dly gAp gOp stp bst sgn lwT lwD rdT rdO lwK lwM twS twM twD rsO rsB rwA) := by
  refine oKi.ofWz (own := RX3) (cc := cX3_hasTrain) (maxL := 2) (plainFor_of_name (by decide +kernel)) rfl rfl (Nat.le_of_ble_eq_true rfl) (fun p e s m args below meth cd A ls Z hx hb hml hown hts hret ho hl => ?_)
  replace hl : lv_has ls 2 [(0, .ref (q 7)), (1, .int v1)] := hl
  have hinX3 : ∀ w ∈ u_ws RX3 TX3 8, w ∈ wsX3_hasTrain := by decide +kernel
  have hf22 := hts (.fieldLink RX3 22 "OneTime$Line" "trains" "I") (by decide +kernel)
  unfold p_Ln_hasTrain at hp
  refine lv_iload_n hx hb dX3_hasTrain_0 rfl (lv_at hl 1 rfl) ?_
  refine lv_if_lt (tgt := 16) hx hb dX3_hasTrain_1 (by decide) (fun c_1 => ?_) (fun c_1 => ?_)
  · replace hp := hp.1 c_1
    refine lv_iconst (v := 0) hx hb dX3_hasTrain_16 (by decide) ?_
    exact hret 0 () _ _ _ _ dX3_hasTrain_17 (Or.inl rfl) ho hp
  · replace hp := hp.2 c_1
    refine lv_iload_n hx hb dX3_hasTrain_4 rfl (lv_at hl 1 rfl) ?_
    refine lv_aload_n hx hb dX3_hasTrain_5 rfl (lv_at hl 0 rfl) ?_
    refine o_get (ci := 3) (T := TX3) hx hb hts hinX3 hown ho 7 rfl rfl 3 (by decide) hf22 rfl dX3_hasTrain_6 ?_
    refine lv_icmp_ge (tgt := 16) hx hb dX3_hasTrain_9 (by decide) (fun c_9 => ?_) (fun c_9 => ?_)
    · replace hp := hp.1 c_9
      refine lv_iconst (v := 0) hx hb dX3_hasTrain_16 (by decide) ?_
      exact hret 0 () _ _ _ _ dX3_hasTrain_17 (Or.inl rfl) ho hp
    · replace hp := hp.2 c_9
      refine lv_iconst (v := 1) hx hb dX3_hasTrain_12 (by decide) ?_
      refine lv_goto (tgt := 17) hx hb dX3_hasTrain_13 (by decide) ?_
      exact hret 1 () _ _ _ _ dX3_hasTrain_17 (Or.inr rfl) ho hp
set_option maxHeartbeats 4000000 in
set_option maxRecDepth 100000 in
theorem c_Ln_plannedAt (l : Launch) (D : va_G) (q : Nat → Nat) (c : Nat → ClassId) (tnN : Int32) (ckN : Int32) (stN : Int32) (trN : Int32) (dsT : Int32) (dsC : Int32) (tpN : Int32) (lwN : Int32) (rdS : Int32) (rdM : Int32) (rdE : Int32) (rdD : Int32) (twN : Int32) (rsW : Int32) (rsE : Int32) (rwN : Int32) (suns : Nat → Int32) (ckT : Nat → Int32) (ckD : Nat → Int32) (shf : Nat → Int32) (lnT : Nat → Int32) (ways : Nat → Int32) (ups : Nat → Int32) (sts : Nat → Int32) (sty : Nat → Int32) (dly : Nat → Int32) (gAp : Nat → Nat → Int32) (gOp : Nat → Nat → Int32) (stp : Nat → Int32) (bst : Nat → Int32) (sgn : Nat → Int32) (lwT : Nat → Int32) (lwD : Nat → Int32) (rdT : Nat → Int32) (rdO : Nat → Int32) (lwK : Nat → Int32) (lwM : Nat → Int32) (twS : Nat → Int32) (twM : Nat → Int32) (twD : Nat → Int32) (rsO : Nat → Int32) (rsB : Nat → Int32) (rwA : Nat → Int32) (v1 : Int32) (v2 : Int32) (Q : Int32 → Prop) (hp : p_Ln_plannedAt stN trN ways ups sts sty v1 v2 Q) : oKi l yX3_plannedAt wsX3_plannedAt { frames := 1, cells := 0, slots := 0, locals := 21 } [.ref (q 7), .int v1, .int v2] D (oT c) (wO q c tnN ckN stN trN dsT dsC tpN lwN rdS rdM rdE rdD twN rsW rsE rwN suns ckT ckD shf lnT ways ups sts sty dly gAp gOp stp bst sgn lwT lwD rdT rdO lwK lwM twS twM twD rsO rsB rwA) (Unit) (fun r (_ : Unit) => Q r) (fun _ => wO q c tnN ckN stN trN dsT dsC tpN lwN rdS rdM rdE rdD twN rsW rsE rwN suns ckT ckD shf lnT ways ups sts sty dly gAp gOp stp bst sgn lwT lwD rdT rdO lwK lwM twS twM twD rsO rsB rwA) := by
  refine oKi.ofW (own := RX3) (cc := cX3_plannedAt) (maxL := 7) (plainFor_of_name (by decide +kernel)) rfl rfl (Nat.le_of_ble_eq_true rfl) (fun p e s m args below meth cd A ls Z hx hb hml hown hts hret ho hl => ?_)
  replace hl : lv_has ls 7 [(0, .ref (q 7)), (1, .int v1), (2, .int v2)] := hl
  have hinX3 : ∀ w ∈ u_ws RX3 TX3 8, w ∈ wsX3_plannedAt := by decide +kernel
  have hf9 := hts (.fieldLink RX3 9 "OneTime$Line" "stations" "I") (by decide +kernel)
  have hf19 := hts (.fieldLink RX3 19 "OneTime$Line" "ways" "[I") (by decide +kernel)
  have hf25 := hts (.fieldLink RX3 25 "OneTime$Line" "ups" "[Z") (by decide +kernel)
  have hf29 := hts (.fieldLink RX3 29 "OneTime$Line" "starts" "[I") (by decide +kernel)
  have hf32 := hts (.fieldLink RX3 32 "OneTime$Line" "stays" "[I") (by decide +kernel)
  unfold p_Ln_plannedAt at hp
  have hJ91 : ∀ (v1 : Int32) (v5 : Int32) (s0 : Int32), p_Ln_plannedAt_J91 stN trN ways ups sts sty v1 v5 s0 Q → ∀ (H : Heap) (locs : List Loc) (ls : Array Slot), oW D (oT c) A s.heap s (wO q c tnN ckN stN trN dsT dsC tpN lwN rdS rdM rdE rdD twN rsW rsE rwN suns ckT ckD shf lnT ways ups sts sty dly gAp gOp stp bst sgn lwT lwD rdT rdO lwK lwM twS twM twD rsO rsB rwA) H locs → lv_has ls 7 [(0, .ref (q 7)), (1, .int v1), (5, .int v5)] → W p l e { frames := 1, cells := 0, slots := 0, locals := 21 } s m args below meth cd H locs 0 0 Z (F0 m 91 ls [.int s0]) := by
    intro v1 v5 s0
    intro hp H locs ls ho hl
    unfold p_Ln_plannedAt_J91 at hp
    refine lv_istore (lv' := [(6, .int s0), (0, .ref (q 7)), (1, .int v1), (5, .int v5)]) hx hb dX3_plannedAt_91 hl (by decide) rfl (fun ls hl => ?_)
    refine lv_aload_n hx hb dX3_plannedAt_93 rfl (lv_at hl 1 rfl) ?_
    refine o_get (ci := 3) (T := TX3) hx hb hts hinX3 hown ho 7 rfl rfl 5 (by decide) hf29 rfl dX3_plannedAt_94 ?_
    refine lv_iload_n hx hb dX3_plannedAt_97 rfl (lv_at hl 2 rfl) ?_
    refine o_ild hx hb ho 11 7 rfl rfl hp.1 dX3_plannedAt_98 ?_
    replace hp := hp.2
    refine lv_iload hx hb dX3_plannedAt_99 (lv_at hl 3 rfl) ?_
    refine lv_iadd hx hb dX3_plannedAt_101 ?_
    refine lv_aload_n hx hb dX3_plannedAt_102 rfl (lv_at hl 1 rfl) ?_
    refine o_get (ci := 3) (T := TX3) hx hb hts hinX3 hown ho 7 rfl rfl 6 (by decide) hf32 rfl dX3_plannedAt_103 ?_
    refine lv_iload_n hx hb dX3_plannedAt_106 rfl (lv_at hl 2 rfl) ?_
    refine o_ild hx hb ho 12 8 rfl rfl hp.1 dX3_plannedAt_107 ?_
    replace hp := hp.2
    refine lv_iload hx hb dX3_plannedAt_108 (lv_at hl 0 rfl) ?_
    refine lv_imul hx hb dX3_plannedAt_110 ?_
    refine lv_iadd hx hb dX3_plannedAt_111 ?_
    exact hret (((sts v1.toNatClampNeg) + v5) + ((sty v1.toNatClampNeg) * s0)) () _ _ _ _ dX3_plannedAt_112 ho hp
  have hJ74 : ∀ (v1 : Int32) (v3 : Int32) (v4 : Int32) (s0 : Int32), p_Ln_plannedAt_J74 stN trN ways ups sts sty v1 v3 v4 s0 Q → ∀ (H : Heap) (locs : List Loc) (ls : Array Slot), oW D (oT c) A s.heap s (wO q c tnN ckN stN trN dsT dsC tpN lwN rdS rdM rdE rdD twN rsW rsE rwN suns ckT ckD shf lnT ways ups sts sty dly gAp gOp stp bst sgn lwT lwD rdT rdO lwK lwM twS twM twD rsO rsB rwA) H locs → lv_has ls 7 [(0, .ref (q 7)), (1, .int v1), (3, .int v3), (4, .int v4)] → W p l e { frames := 1, cells := 0, slots := 0, locals := 21 } s m args below meth cd H locs 0 0 Z (F0 m 74 ls [.int s0]) := by
    intro v1 v3 v4 s0
    intro hp H locs ls ho hl
    unfold p_Ln_plannedAt_J74 at hp
    refine lv_istore (lv' := [(5, .int s0), (0, .ref (q 7)), (1, .int v1), (3, .int v3), (4, .int v4)]) hx hb dX3_plannedAt_74 hl (by decide) rfl (fun ls hl => ?_)
    refine lv_iload hx hb dX3_plannedAt_76 (lv_at hl 4 rfl) ?_
    refine lv_iload_n hx hb dX3_plannedAt_78 rfl (lv_at hl 3 rfl) ?_
    refine lv_icmp_ne (tgt := 89) hx hb dX3_plannedAt_79 (by decide) (fun c_79 => ?_) (fun c_79 => ?_)
    · replace hp := hp.2 c_79
      refine lv_iload hx hb dX3_plannedAt_89 (lv_at hl 4 rfl) ?_
      exact hJ91 v1 s0 v4 hp _ _ _ ho (lv_sub hl [1, 2, 0] rfl)
    · replace hp := hp.1 c_79
      refine lv_iload hx hb dX3_plannedAt_82 (lv_at hl 4 rfl) ?_
      refine lv_iconst (v := 1) hx hb dX3_plannedAt_84 (by decide) ?_
      refine lv_isub hx hb dX3_plannedAt_85 ?_
      refine lv_goto (tgt := 91) hx hb dX3_plannedAt_86 (by decide) ?_
      exact hJ91 v1 s0 (v4 - 1) hp _ _ _ ho (lv_sub hl [1, 2, 0] rfl)
  have hJ41 : ∀ (v1 : Int32) (v2 : Int32) (v3 : Int32) (s0 : Int32), p_Ln_plannedAt_J41 stN trN ways ups sts sty v1 v2 v3 s0 Q → ∀ (H : Heap) (locs : List Loc) (ls : Array Slot), oW D (oT c) A s.heap s (wO q c tnN ckN stN trN dsT dsC tpN lwN rdS rdM rdE rdD twN rsW rsE rwN suns ckT ckD shf lnT ways ups sts sty dly gAp gOp stp bst sgn lwT lwD rdT rdO lwK lwM twS twM twD rsO rsB rwA) H locs → lv_has ls 7 [(0, .ref (q 7)), (1, .int v1), (2, .int v2), (3, .int v3)] → W p l e { frames := 1, cells := 0, slots := 0, locals := 21 } s m args below meth cd H locs 0 0 Z (F0 m 41 ls [.int s0]) := by
    intro v1 v2 v3 s0
    intro hp H locs ls ho hl
    unfold p_Ln_plannedAt_J41 at hp
    refine lv_istore (lv' := [(4, .int s0), (0, .ref (q 7)), (1, .int v1), (2, .int v2), (3, .int v3)]) hx hb dX3_plannedAt_41 hl (by decide) rfl (fun ls hl => ?_)
    refine lv_aload_n hx hb dX3_plannedAt_43 rfl (lv_at hl 1 rfl) ?_
    refine o_get (ci := 3) (T := TX3) hx hb hts hinX3 hown ho 7 rfl rfl 4 (by decide) hf25 rfl dX3_plannedAt_44 ?_
    refine lv_iload_n hx hb dX3_plannedAt_47 rfl (lv_at hl 2 rfl) ?_
    refine o_zld hx hb ho 10 6 rfl rfl hp.1 dX3_plannedAt_48 ?_
    replace hp := hp.2
    refine lv_if_eq (tgt := 61) hx hb dX3_plannedAt_49 (by decide) (fun c_49 => ?_) (fun c_49 => ?_)
    · replace hp := hp.1 c_49
      refine lv_aload_n hx hb dX3_plannedAt_61 rfl (lv_at hl 1 rfl) ?_
      refine o_get (ci := 3) (T := TX3) hx hb hts hinX3 hown ho 7 rfl rfl 2 (by decide) hf19 rfl dX3_plannedAt_62 ?_
      refine lv_iload_n hx hb dX3_plannedAt_65 rfl (lv_at hl 4 rfl) ?_
      refine o_ild hx hb ho 9 5 rfl rfl hp.1 dX3_plannedAt_66 ?_
      replace hp := hp.2
      refine lv_aload_n hx hb dX3_plannedAt_67 rfl (lv_at hl 1 rfl) ?_
      refine o_get (ci := 3) (T := TX3) hx hb hts hinX3 hown ho 7 rfl rfl 2 (by decide) hf19 rfl dX3_plannedAt_68 ?_
      refine lv_iload_n hx hb dX3_plannedAt_71 rfl (lv_at hl 3 rfl) ?_
      refine o_ild hx hb ho 9 5 rfl rfl hp.1 dX3_plannedAt_72 ?_
      replace hp := hp.2
      refine lv_isub hx hb dX3_plannedAt_73 ?_
      exact hJ74 v1 v3 s0 ((ways v3.toNatClampNeg) - (ways v2.toNatClampNeg)) hp _ _ _ ho (lv_sub hl [1, 2, 4, 0] rfl)
    · replace hp := hp.2 c_49
      refine lv_aload_n hx hb dX3_plannedAt_52 rfl (lv_at hl 1 rfl) ?_
      refine o_get (ci := 3) (T := TX3) hx hb hts hinX3 hown ho 7 rfl rfl 2 (by decide) hf19 rfl dX3_plannedAt_53 ?_
      refine lv_iload_n hx hb dX3_plannedAt_56 rfl (lv_at hl 3 rfl) ?_
      refine o_ild hx hb ho 9 5 rfl rfl hp.1 dX3_plannedAt_57 ?_
      replace hp := hp.2
      refine lv_goto (tgt := 74) hx hb dX3_plannedAt_58 (by decide) ?_
      exact hJ74 v1 v3 s0 (ways v2.toNatClampNeg) hp _ _ _ ho (lv_sub hl [1, 2, 4, 0] rfl)
  refine lv_aload_n hx hb dX3_plannedAt_0 rfl (lv_at hl 0 rfl) ?_
  refine lv_iload_n hx hb dX3_plannedAt_1 rfl (lv_at hl 1 rfl) ?_
  refine o_callVi (rest := []) (ci := 3) ⟨hx, hb, hml, hown, hts⟩ ho (c_Ln_hasTrain l D q c tnN ckN stN trN dsT dsC tpN lwN rdS rdM rdE rdD twN rsW rsE rwN suns ckT ckD shf lnT ways ups sts sty dly gAp gOp stp bst sgn lwT lwD rdT rdO lwK lwM twS twM twD rsO rsB rwA v1 _ hp) (cwV 1 hts gX3_plannedAt_X3_hasTrain rfl rfl rfl (by decide +kernel) ⟨(Nat.le_of_ble_eq_true rfl), (Nat.le_of_ble_eq_true rfl)⟩) 7 rfl rfl rfl hl.1 rfl (Nat.le_of_ble_eq_true rfl) dX3_plannedAt_2 ⟨Nat.zero_le _, Nat.zero_le _⟩ (fun r2 u H locs hp ho => ?_)
  try dsimp only at hp
  replace ho : oW D (oT c) A s.heap s (wO q c tnN ckN stN trN dsT dsC tpN lwN rdS rdM rdE rdD twN rsW rsE rwN suns ckT ckD shf lnT ways ups sts sty dly gAp gOp stp bst sgn lwT lwD rdT rdO lwK lwM twS twM twD rsO rsB rwA) H locs := ho
  refine lv_if_eq (tgt := 16) hx hb dX3_plannedAt_5 (by decide) (fun c_5 => ?_) (fun c_5 => ?_)
  · replace hp := hp.1 c_5
    refine lv_iconst (v := (-1)) hx hb dX3_plannedAt_16 (by decide) ?_
    exact hret (-1) () _ _ _ _ dX3_plannedAt_17 ho hp
  · replace hp := hp.2 c_5
    refine lv_aload_n hx hb dX3_plannedAt_8 rfl (lv_at hl 0 rfl) ?_
    refine lv_iload_n hx hb dX3_plannedAt_9 rfl (lv_at hl 2 rfl) ?_
    refine o_callVi (rest := []) (ci := 3) ⟨hx, hb, hml, hown, hts⟩ ho (c_Ln_hasStation l D q c tnN ckN stN trN dsT dsC tpN lwN rdS rdM rdE rdD twN rsW rsE rwN suns ckT ckD shf lnT ways ups sts sty dly gAp gOp stp bst sgn lwT lwD rdT rdO lwK lwM twS twM twD rsO rsB rwA v2 _ hp) (cwV 1 hts gX3_plannedAt_X3_hasStation rfl rfl rfl (by decide +kernel) ⟨(Nat.le_of_ble_eq_true rfl), (Nat.le_of_ble_eq_true rfl)⟩) 7 rfl rfl rfl hl.1 rfl (Nat.le_of_ble_eq_true rfl) dX3_plannedAt_10 ⟨Nat.zero_le _, Nat.zero_le _⟩ (fun r10 u H locs hp ho => ?_)
    try dsimp only at hp
    replace ho : oW D (oT c) A s.heap s (wO q c tnN ckN stN trN dsT dsC tpN lwN rdS rdM rdE rdD twN rsW rsE rwN suns ckT ckD shf lnT ways ups sts sty dly gAp gOp stp bst sgn lwT lwD rdT rdO lwK lwM twS twM twD rsO rsB rwA) H locs := ho
    refine lv_if_ne (tgt := 18) hx hb dX3_plannedAt_13 (by decide) (fun c_13 => ?_) (fun c_13 => ?_)
    · replace hp := hp.2 c_13
      refine lv_aload_n hx hb dX3_plannedAt_18 rfl (lv_at hl 0 rfl) ?_
      refine o_get (ci := 3) (T := TX3) hx hb hts hinX3 hown ho 7 rfl rfl 0 (by decide) hf9 rfl dX3_plannedAt_19 ?_
      refine lv_iconst (v := 1) hx hb dX3_plannedAt_22 (by decide) ?_
      refine lv_isub hx hb dX3_plannedAt_23 ?_
      refine lv_topi (fun x24 e_x24 => ?_)
      replace hp := hp x24 e_x24
      refine lv_istore_n (lv' := [(3, .int x24), (0, .ref (q 7)), (1, .int v1), (2, .int v2)]) hx hb dX3_plannedAt_24 rfl hl (by decide) rfl (fun ls hl => ?_)
      refine lv_aload_n hx hb dX3_plannedAt_25 rfl (lv_at hl 1 rfl) ?_
      refine o_get (ci := 3) (T := TX3) hx hb hts hinX3 hown ho 7 rfl rfl 4 (by decide) hf25 rfl dX3_plannedAt_26 ?_
      refine lv_iload_n hx hb dX3_plannedAt_29 rfl (lv_at hl 2 rfl) ?_
      refine o_zld hx hb ho 10 6 rfl rfl hp.1 dX3_plannedAt_30 ?_
      replace hp := hp.2
      refine lv_if_eq (tgt := 38) hx hb dX3_plannedAt_31 (by decide) (fun c_31 => ?_) (fun c_31 => ?_)
      · replace hp := hp.1 c_31
        refine lv_iload_n hx hb dX3_plannedAt_38 rfl (lv_at hl 0 rfl) ?_
        refine lv_iload_n hx hb dX3_plannedAt_39 rfl (lv_at hl 3 rfl) ?_
        refine lv_isub hx hb dX3_plannedAt_40 ?_
        exact hJ41 v1 v2 x24 (x24 - v2) hp _ _ _ ho (lv_sub hl [1, 2, 3, 0] rfl)
      · replace hp := hp.2 c_31
        refine lv_iload_n hx hb dX3_plannedAt_34 rfl (lv_at hl 3 rfl) ?_
        refine lv_goto (tgt := 41) hx hb dX3_plannedAt_35 (by decide) ?_
        exact hJ41 v1 v2 x24 v2 hp _ _ _ ho (lv_sub hl [1, 2, 3, 0] rfl)
    · replace hp := hp.1 c_13
      refine lv_iconst (v := (-1)) hx hb dX3_plannedAt_16 (by decide) ?_
      exact hret (-1) () _ _ _ _ dX3_plannedAt_17 ho hp
set_option maxHeartbeats 4000000 in
set_option maxRecDepth 100000 in
theorem c_Ln_plannedOnRun (l : Launch) (D : va_G) (q : Nat → Nat) (c : Nat → ClassId) (tnN : Int32) (ckN : Int32) (stN : Int32) (trN : Int32) (dsT : Int32) (dsC : Int32) (tpN : Int32) (lwN : Int32) (rdS : Int32) (rdM : Int32) (rdE : Int32) (rdD : Int32) (twN : Int32) (rsW : Int32) (rsE : Int32) (rwN : Int32) (suns : Nat → Int32) (ckT : Nat → Int32) (ckD : Nat → Int32) (shf : Nat → Int32) (lnT : Nat → Int32) (ways : Nat → Int32) (ups : Nat → Int32) (sts : Nat → Int32) (sty : Nat → Int32) (dly : Nat → Int32) (gAp : Nat → Nat → Int32) (gOp : Nat → Nat → Int32) (stp : Nat → Int32) (bst : Nat → Int32) (sgn : Nat → Int32) (lwT : Nat → Int32) (lwD : Nat → Int32) (rdT : Nat → Int32) (rdO : Nat → Int32) (lwK : Nat → Int32) (lwM : Nat → Int32) (twS : Nat → Int32) (twM : Nat → Int32) (twD : Nat → Int32) (rsO : Nat → Int32) (rsB : Nat → Int32) (rwA : Nat → Int32) (v1 : Int32) (v2 : Int32) (Q : Int32 → Prop) (hp : p_Ln_plannedOnRun stN trN ways ups sts sty v1 v2 Q) : oKi l yX3_plannedOnRun wsX3_plannedOnRun { frames := 2, cells := 0, slots := 0, locals := 47 } [.ref (q 7), .int v1, .int v2] D (oT c) (wO q c tnN ckN stN trN dsT dsC tpN lwN rdS rdM rdE rdD twN rsW rsE rwN suns ckT ckD shf lnT ways ups sts sty dly gAp gOp stp bst sgn lwT lwD rdT rdO lwK lwM twS twM twD rsO rsB rwA) (Unit) (fun r (_ : Unit) => Q r) (fun _ => wO q c tnN ckN stN trN dsT dsC tpN lwN rdS rdM rdE rdD twN rsW rsE rwN suns ckT ckD shf lnT ways ups sts sty dly gAp gOp stp bst sgn lwT lwD rdT rdO lwK lwM twS twM twD rsO rsB rwA) := by
  refine oKi.ofW (own := RX3) (cc := cX3_plannedOnRun) (maxL := 3) (plainFor_of_name (by decide +kernel)) rfl rfl (Nat.le_of_ble_eq_true rfl) (fun p e s m args below meth cd A ls Z hx hb hml hown hts hret ho hl => ?_)
  replace hl : lv_has ls 3 [(0, .ref (q 7)), (1, .int v1), (2, .int v2)] := hl
  have hinX3 : ∀ w ∈ u_ws RX3 TX3 8, w ∈ wsX3_plannedOnRun := by decide +kernel
  have hf25 := hts (.fieldLink RX3 25 "OneTime$Line" "ups" "[Z") (by decide +kernel)
  unfold p_Ln_plannedOnRun at hp
  have hJ26 : ∀ (s1 : Int32) (s2 : Int32), p_Ln_plannedOnRun_J26 stN trN ways ups sts sty s1 s2 Q → ∀ (H : Heap) (locs : List Loc) (ls : Array Slot), oW D (oT c) A s.heap s (wO q c tnN ckN stN trN dsT dsC tpN lwN rdS rdM rdE rdD twN rsW rsE rwN suns ckT ckD shf lnT ways ups sts sty dly gAp gOp stp bst sgn lwT lwD rdT rdO lwK lwM twS twM twD rsO rsB rwA) H locs → lv_has ls 3 [] → W p l e { frames := 2, cells := 0, slots := 0, locals := 47 } s m args below meth cd H locs 0 0 Z (F0 m 26 ls [.int s2, .int s1, .ref (q 7)]) := by
    intro s1 s2
    intro hp H locs ls ho hl
    unfold p_Ln_plannedOnRun_J26 at hp
    refine o_callVi (rest := []) (ci := 3) ⟨hx, hb, hml, hown, hts⟩ ho (c_Ln_plannedAt l D q c tnN ckN stN trN dsT dsC tpN lwN rdS rdM rdE rdD twN rsW rsE rwN suns ckT ckD shf lnT ways ups sts sty dly gAp gOp stp bst sgn lwT lwD rdT rdO lwK lwM twS twM twD rsO rsB rwA s1 s2 _ hp) (cwV 2 hts gX3_plannedOnRun_X3_plannedAt rfl rfl rfl (by decide +kernel) ⟨(Nat.le_of_ble_eq_true rfl), (Nat.le_of_ble_eq_true rfl)⟩) 7 rfl rfl rfl hl.1 rfl (Nat.le_of_ble_eq_true rfl) dX3_plannedOnRun_26 ⟨Nat.zero_le _, Nat.zero_le _⟩ (fun r26 u H locs hp ho => ?_)
    try dsimp only at hp
    replace ho : oW D (oT c) A s.heap s (wO q c tnN ckN stN trN dsT dsC tpN lwN rdS rdM rdE rdD twN rsW rsE rwN suns ckT ckD shf lnT ways ups sts sty dly gAp gOp stp bst sgn lwT lwD rdT rdO lwK lwM twS twM twD rsO rsB rwA) H locs := ho
    exact hret r26 () _ _ _ _ dX3_plannedOnRun_29 ho hp
  refine lv_aload_n hx hb dX3_plannedOnRun_0 rfl (lv_at hl 0 rfl) ?_
  refine lv_iload_n hx hb dX3_plannedOnRun_1 rfl (lv_at hl 1 rfl) ?_
  refine lv_aload_n hx hb dX3_plannedOnRun_2 rfl (lv_at hl 0 rfl) ?_
  refine lv_iload_n hx hb dX3_plannedOnRun_3 rfl (lv_at hl 1 rfl) ?_
  refine o_callVi (rest := [.int v1, .ref (q 7)]) (ci := 3) ⟨hx, hb, hml, hown, hts⟩ ho (c_Ln_hasTrain l D q c tnN ckN stN trN dsT dsC tpN lwN rdS rdM rdE rdD twN rsW rsE rwN suns ckT ckD shf lnT ways ups sts sty dly gAp gOp stp bst sgn lwT lwD rdT rdO lwK lwM twS twM twD rsO rsB rwA v1 _ hp) (cwV 1 hts gX3_plannedOnRun_X3_hasTrain rfl rfl rfl (by decide +kernel) ⟨(Nat.le_of_ble_eq_true rfl), (Nat.le_of_ble_eq_true rfl)⟩) 7 rfl rfl rfl hl.1 rfl (Nat.le_of_ble_eq_true rfl) dX3_plannedOnRun_4 ⟨Nat.zero_le _, Nat.zero_le _⟩ (fun r4 u H locs hp ho => ?_)
  try dsimp only at hp
  replace ho : oW D (oT c) A s.heap s (wO q c tnN ckN stN trN dsT dsC tpN lwN rdS rdM rdE rdD twN rsW rsE rwN suns ckT ckD shf lnT ways ups sts sty dly gAp gOp stp bst sgn lwT lwD rdT rdO lwK lwM twS twM twD rsO rsB rwA) H locs := ho
  refine lv_if_eq (tgt := 23) hx hb dX3_plannedOnRun_7 (by decide) (fun c_7 => ?_) (fun c_7 => ?_)
  · replace hp := hp.1 c_7
    refine lv_iload_n hx hb dX3_plannedOnRun_23 rfl (lv_at hl 2 rfl) ?_
    refine lv_iconst (v := 1) hx hb dX3_plannedOnRun_24 (by decide) ?_
    refine lv_iadd hx hb dX3_plannedOnRun_25 ?_
    exact hJ26 v1 (v2 + 1) hp _ _ _ ho (lv_sub hl [] rfl)
  · replace hp := hp.2 c_7
    refine lv_aload_n hx hb dX3_plannedOnRun_10 rfl (lv_at hl 0 rfl) ?_
    refine o_get (ci := 3) (T := TX3) hx hb hts hinX3 hown ho 7 rfl rfl 4 (by decide) hf25 rfl dX3_plannedOnRun_11 ?_
    refine lv_iload_n hx hb dX3_plannedOnRun_14 rfl (lv_at hl 1 rfl) ?_
    refine o_zld hx hb ho 10 6 rfl rfl hp.1 dX3_plannedOnRun_15 ?_
    replace hp := hp.2
    refine lv_if_eq (tgt := 23) hx hb dX3_plannedOnRun_16 (by decide) (fun c_16 => ?_) (fun c_16 => ?_)
    · replace hp := hp.1 c_16
      refine lv_iload_n hx hb dX3_plannedOnRun_23 rfl (lv_at hl 2 rfl) ?_
      refine lv_iconst (v := 1) hx hb dX3_plannedOnRun_24 (by decide) ?_
      refine lv_iadd hx hb dX3_plannedOnRun_25 ?_
      exact hJ26 v1 (v2 + 1) hp _ _ _ ho (lv_sub hl [] rfl)
    · replace hp := hp.2 c_16
      refine lv_iload_n hx hb dX3_plannedOnRun_19 rfl (lv_at hl 2 rfl) ?_
      refine lv_goto (tgt := 26) hx hb dX3_plannedOnRun_20 (by decide) ?_
      exact hJ26 v1 v2 hp _ _ _ ho (lv_sub hl [] rfl)
set_option maxHeartbeats 4000000 in
set_option maxRecDepth 100000 in
theorem c_Ln_lengthOf (l : Launch) (D : va_G) (q : Nat → Nat) (c : Nat → ClassId) (tnN : Int32) (ckN : Int32) (stN : Int32) (trN : Int32) (dsT : Int32) (dsC : Int32) (tpN : Int32) (lwN : Int32) (rdS : Int32) (rdM : Int32) (rdE : Int32) (rdD : Int32) (twN : Int32) (rsW : Int32) (rsE : Int32) (rwN : Int32) (suns : Nat → Int32) (ckT : Nat → Int32) (ckD : Nat → Int32) (shf : Nat → Int32) (lnT : Nat → Int32) (ways : Nat → Int32) (ups : Nat → Int32) (sts : Nat → Int32) (sty : Nat → Int32) (dly : Nat → Int32) (gAp : Nat → Nat → Int32) (gOp : Nat → Nat → Int32) (stp : Nat → Int32) (bst : Nat → Int32) (sgn : Nat → Int32) (lwT : Nat → Int32) (lwD : Nat → Int32) (rdT : Nat → Int32) (rdO : Nat → Int32) (lwK : Nat → Int32) (lwM : Nat → Int32) (twS : Nat → Int32) (twM : Nat → Int32) (twD : Nat → Int32) (rsO : Nat → Int32) (rsB : Nat → Int32) (rwA : Nat → Int32) (v1 : Int32) (Q : Int32 → Prop) (hp : p_Ln_lengthOf stN ways v1 Q) : oKi l yX3_lengthOf wsX3_lengthOf { frames := 1, cells := 0, slots := 0, locals := 21 } [.ref (q 7), .int v1] D (oT c) (wO q c tnN ckN stN trN dsT dsC tpN lwN rdS rdM rdE rdD twN rsW rsE rwN suns ckT ckD shf lnT ways ups sts sty dly gAp gOp stp bst sgn lwT lwD rdT rdO lwK lwM twS twM twD rsO rsB rwA) (Unit) (fun r (_ : Unit) => Q r) (fun _ => wO q c tnN ckN stN trN dsT dsC tpN lwN rdS rdM rdE rdD twN rsW rsE rwN suns ckT ckD shf lnT ways ups sts sty dly gAp gOp stp bst sgn lwT lwD rdT rdO lwK lwM twS twM twD rsO rsB rwA) := by
  refine oKi.ofW (own := RX3) (cc := cX3_lengthOf) (maxL := 2) (plainFor_of_name (by decide +kernel)) rfl rfl (Nat.le_of_ble_eq_true rfl) (fun p e s m args below meth cd A ls Z hx hb hml hown hts hret ho hl => ?_)
  replace hl : lv_has ls 2 [(0, .ref (q 7)), (1, .int v1)] := hl
  have hinX3 : ∀ w ∈ u_ws RX3 TX3 8, w ∈ wsX3_lengthOf := by decide +kernel
  have hf19 := hts (.fieldLink RX3 19 "OneTime$Line" "ways" "[I") (by decide +kernel)
  unfold p_Ln_lengthOf at hp
  refine lv_aload_n hx hb dX3_lengthOf_0 rfl (lv_at hl 0 rfl) ?_
  refine lv_iload_n hx hb dX3_lengthOf_1 rfl (lv_at hl 1 rfl) ?_
  refine o_callVi (rest := []) (ci := 3) ⟨hx, hb, hml, hown, hts⟩ ho (c_Ln_hasStation l D q c tnN ckN stN trN dsT dsC tpN lwN rdS rdM rdE rdD twN rsW rsE rwN suns ckT ckD shf lnT ways ups sts sty dly gAp gOp stp bst sgn lwT lwD rdT rdO lwK lwM twS twM twD rsO rsB rwA v1 _ hp) (cwV 1 hts gX3_lengthOf_X3_hasStation rfl rfl rfl (by decide +kernel) ⟨(Nat.le_of_ble_eq_true rfl), (Nat.le_of_ble_eq_true rfl)⟩) 7 rfl rfl rfl hl.1 rfl (Nat.le_of_ble_eq_true rfl) dX3_lengthOf_2 ⟨Nat.zero_le _, Nat.zero_le _⟩ (fun r2 u H locs hp ho => ?_)
  try dsimp only at hp
  replace ho : oW D (oT c) A s.heap s (wO q c tnN ckN stN trN dsT dsC tpN lwN rdS rdM rdE rdD twN rsW rsE rwN suns ckT ckD shf lnT ways ups sts sty dly gAp gOp stp bst sgn lwT lwD rdT rdO lwK lwM twS twM twD rsO rsB rwA) H locs := ho
  refine lv_if_eq (tgt := 36) hx hb dX3_lengthOf_5 (by decide) (fun c_5 => ?_) (fun c_5 => ?_)
  · replace hp := hp.1 c_5
    refine lv_iconst (v := 0) hx hb dX3_lengthOf_36 (by decide) ?_
    exact hret 0 () _ _ _ _ dX3_lengthOf_37 ho hp
  · replace hp := hp.2 c_5
    refine lv_aload_n hx hb dX3_lengthOf_8 rfl (lv_at hl 0 rfl) ?_
    refine lv_iload_n hx hb dX3_lengthOf_9 rfl (lv_at hl 1 rfl) ?_
    refine lv_iconst (v := 1) hx hb dX3_lengthOf_10 (by decide) ?_
    refine lv_iadd hx hb dX3_lengthOf_11 ?_
    refine o_callVi (rest := []) (ci := 3) ⟨hx, hb, hml, hown, hts⟩ ho (c_Ln_hasStation l D q c tnN ckN stN trN dsT dsC tpN lwN rdS rdM rdE rdD twN rsW rsE rwN suns ckT ckD shf lnT ways ups sts sty dly gAp gOp stp bst sgn lwT lwD rdT rdO lwK lwM twS twM twD rsO rsB rwA (v1 + 1) _ hp) (cwV 1 hts gX3_lengthOf_X3_hasStation rfl rfl rfl (by decide +kernel) ⟨(Nat.le_of_ble_eq_true rfl), (Nat.le_of_ble_eq_true rfl)⟩) 7 rfl rfl rfl hl.1 rfl (Nat.le_of_ble_eq_true rfl) dX3_lengthOf_12 ⟨Nat.zero_le _, Nat.zero_le _⟩ (fun r12 u H locs hp ho => ?_)
    try dsimp only at hp
    replace ho : oW D (oT c) A s.heap s (wO q c tnN ckN stN trN dsT dsC tpN lwN rdS rdM rdE rdD twN rsW rsE rwN suns ckT ckD shf lnT ways ups sts sty dly gAp gOp stp bst sgn lwT lwD rdT rdO lwK lwM twS twM twD rsO rsB rwA) H locs := ho
    refine lv_if_eq (tgt := 36) hx hb dX3_lengthOf_15 (by decide) (fun c_15 => ?_) (fun c_15 => ?_)
    · replace hp := hp.1 c_15
      refine lv_iconst (v := 0) hx hb dX3_lengthOf_36 (by decide) ?_
      exact hret 0 () _ _ _ _ dX3_lengthOf_37 ho hp
    · replace hp := hp.2 c_15
      refine lv_aload_n hx hb dX3_lengthOf_18 rfl (lv_at hl 0 rfl) ?_
      refine o_get (ci := 3) (T := TX3) hx hb hts hinX3 hown ho 7 rfl rfl 2 (by decide) hf19 rfl dX3_lengthOf_19 ?_
      refine lv_iload_n hx hb dX3_lengthOf_22 rfl (lv_at hl 1 rfl) ?_
      refine lv_iconst (v := 1) hx hb dX3_lengthOf_23 (by decide) ?_
      refine lv_iadd hx hb dX3_lengthOf_24 ?_
      refine o_ild hx hb ho 9 5 rfl rfl hp.1 dX3_lengthOf_25 ?_
      replace hp := hp.2
      refine lv_aload_n hx hb dX3_lengthOf_26 rfl (lv_at hl 0 rfl) ?_
      refine o_get (ci := 3) (T := TX3) hx hb hts hinX3 hown ho 7 rfl rfl 2 (by decide) hf19 rfl dX3_lengthOf_27 ?_
      refine lv_iload_n hx hb dX3_lengthOf_30 rfl (lv_at hl 1 rfl) ?_
      refine o_ild hx hb ho 9 5 rfl rfl hp.1 dX3_lengthOf_31 ?_
      replace hp := hp.2
      refine lv_isub hx hb dX3_lengthOf_32 ?_
      refine lv_goto (tgt := 37) hx hb dX3_lengthOf_33 (by decide) ?_
      exact hret ((ways (v1 + 1).toNatClampNeg) - (ways v1.toNatClampNeg)) () _ _ _ _ dX3_lengthOf_37 ho hp
set_option maxHeartbeats 4000000 in
set_option maxRecDepth 100000 in
theorem c_Ln_firstRunMeetingWith (l : Launch) (D : va_G) (q : Nat → Nat) (c : Nat → ClassId) (tnN : Int32) (ckN : Int32) (stN : Int32) (trN : Int32) (dsT : Int32) (dsC : Int32) (tpN : Int32) (lwN : Int32) (rdS : Int32) (rdM : Int32) (rdE : Int32) (rdD : Int32) (twN : Int32) (rsW : Int32) (rsE : Int32) (rwN : Int32) (suns : Nat → Int32) (ckT : Nat → Int32) (ckD : Nat → Int32) (shf : Nat → Int32) (lnT : Nat → Int32) (ways : Nat → Int32) (ups : Nat → Int32) (sts : Nat → Int32) (sty : Nat → Int32) (dly : Nat → Int32) (gAp : Nat → Nat → Int32) (gOp : Nat → Nat → Int32) (stp : Nat → Int32) (bst : Nat → Int32) (sgn : Nat → Int32) (lwT : Nat → Int32) (lwD : Nat → Int32) (rdT : Nat → Int32) (rdO : Nat → Int32) (lwK : Nat → Int32) (lwM : Nat → Int32) (twS : Nat → Int32) (twM : Nat → Int32) (twD : Nat → Int32) (rsO : Nat → Int32) (rsB : Nat → Int32) (rwA : Nat → Int32) (v1 : Int32) (v2 : Int32) (v3 : Int32) (Q : Int32 → Prop) (hp : p_Ln_firstRunMeetingWith stN trN ways ups sts sty v1 v2 v3 Q) : oKi l yX3_firstRunMeetingWith wsX3_firstRunMeetingWith { frames := 3, cells := 0, slots := 0, locals := 69 } [.ref (q 7), .int v1, .int v2, .int v3] D (oT c) (wO q c tnN ckN stN trN dsT dsC tpN lwN rdS rdM rdE rdD twN rsW rsE rwN suns ckT ckD shf lnT ways ups sts sty dly gAp gOp stp bst sgn lwT lwD rdT rdO lwK lwM twS twM twD rsO rsB rwA) (Unit) (fun r (_ : Unit) => Q r) (fun _ => wO q c tnN ckN stN trN dsT dsC tpN lwN rdS rdM rdE rdD twN rsW rsE rwN suns ckT ckD shf lnT ways ups sts sty dly gAp gOp stp bst sgn lwT lwD rdT rdO lwK lwM twS twM twD rsO rsB rwA) := by
  refine oKi.ofW (own := RX3) (cc := cX3_firstRunMeetingWith) (maxL := 6) (plainFor_of_name (by decide +kernel)) rfl rfl (Nat.le_of_ble_eq_true rfl) (fun p e s m args below meth cd A ls Z hx hb hml hown hts hret ho hl => ?_)
  replace hl : lv_has ls 6 [(0, .ref (q 7)), (1, .int v1), (2, .int v2), (3, .int v3)] := hl
  have hinX3 : ∀ w ∈ u_ws RX3 TX3 8, w ∈ wsX3_firstRunMeetingWith := by decide +kernel
  have hf9 := hts (.fieldLink RX3 9 "OneTime$Line" "stations" "I") (by decide +kernel)
  unfold p_Ln_firstRunMeetingWith at hp
  have hL3 : ∀ (v1 : Int32) (v2 : Int32) (v3 : Int32) (v4 : Int32), Lp1 (p_Ln_firstRunMeetingWith_L3 stN trN ways ups sts sty v1 v2 v3 Q) v4 → ∀ (H : Heap) (locs : List Loc) (ls : Array Slot), oW D (oT c) A s.heap s (wO q c tnN ckN stN trN dsT dsC tpN lwN rdS rdM rdE rdD twN rsW rsE rwN suns ckT ckD shf lnT ways ups sts sty dly gAp gOp stp bst sgn lwT lwD rdT rdO lwK lwM twS twM twD rsO rsB rwA) H locs → lv_has ls 6 [(0, .ref (q 7)), (1, .int v1), (2, .int v2), (3, .int v3), (4, .int v4)] → W p l e { frames := 3, cells := 0, slots := 0, locals := 69 } s m args below meth cd H locs 0 0 Z (F0 m 3 ls []) := by
    intro v1 v2 v3
    refine Lp1.ind (fun rec hrec v4 hp H locs ls ho hl => ?_)
    unfold p_Ln_firstRunMeetingWith_L3 at hp
    refine lv_iload hx hb dX3_firstRunMeetingWith_3 (lv_at hl 4 rfl) ?_
    refine lv_aload_n hx hb dX3_firstRunMeetingWith_5 rfl (lv_at hl 0 rfl) ?_
    refine o_get (ci := 3) (T := TX3) hx hb hts hinX3 hown ho 7 rfl rfl 0 (by decide) hf9 rfl dX3_firstRunMeetingWith_6 ?_
    refine lv_iconst (v := 1) hx hb dX3_firstRunMeetingWith_9 (by decide) ?_
    refine lv_isub hx hb dX3_firstRunMeetingWith_10 ?_
    refine lv_icmp_ge (tgt := 56) hx hb dX3_firstRunMeetingWith_11 (by decide) (fun c_11 => ?_) (fun c_11 => ?_)
    · replace hp := hp.1 c_11
      refine lv_iconst (v := (-1)) hx hb dX3_firstRunMeetingWith_56 (by decide) ?_
      exact hret (-1) () _ _ _ _ dX3_firstRunMeetingWith_57 ho hp
    · replace hp := hp.2 c_11
      refine lv_aload_n hx hb dX3_firstRunMeetingWith_14 rfl (lv_at hl 0 rfl) ?_
      refine lv_iload_n hx hb dX3_firstRunMeetingWith_15 rfl (lv_at hl 2 rfl) ?_
      refine lv_iload hx hb dX3_firstRunMeetingWith_16 (lv_at hl 4 rfl) ?_
      refine o_callVi (rest := []) (ci := 3) ⟨hx, hb, hml, hown, hts⟩ ho (c_Ln_plannedOnRun l D q c tnN ckN stN trN dsT dsC tpN lwN rdS rdM rdE rdD twN rsW rsE rwN suns ckT ckD shf lnT ways ups sts sty dly gAp gOp stp bst sgn lwT lwD rdT rdO lwK lwM twS twM twD rsO rsB rwA v2 v4 _ hp) (cwV 2 hts gX3_firstRunMeetingWith_X3_plannedOnRun rfl rfl rfl (by decide +kernel) ⟨(Nat.le_of_ble_eq_true rfl), (Nat.le_of_ble_eq_true rfl)⟩) 7 rfl rfl rfl hl.1 rfl (Nat.le_of_ble_eq_true rfl) dX3_firstRunMeetingWith_18 ⟨Nat.zero_le _, Nat.zero_le _⟩ (fun r18 u H locs hp ho => ?_)
      try dsimp only at hp
      replace ho : oW D (oT c) A s.heap s (wO q c tnN ckN stN trN dsT dsC tpN lwN rdS rdM rdE rdD twN rsW rsE rwN suns ckT ckD shf lnT ways ups sts sty dly gAp gOp stp bst sgn lwT lwD rdT rdO lwK lwM twS twM twD rsO rsB rwA) H locs := ho
      refine lv_aload_n hx hb dX3_firstRunMeetingWith_21 rfl (lv_at hl 0 rfl) ?_
      refine lv_iload_n hx hb dX3_firstRunMeetingWith_22 rfl (lv_at hl 1 rfl) ?_
      refine lv_iload hx hb dX3_firstRunMeetingWith_23 (lv_at hl 4 rfl) ?_
      refine o_callVi (rest := [.int r18]) (ci := 3) ⟨hx, hb, hml, hown, hts⟩ ho (c_Ln_plannedOnRun l D q c tnN ckN stN trN dsT dsC tpN lwN rdS rdM rdE rdD twN rsW rsE rwN suns ckT ckD shf lnT ways ups sts sty dly gAp gOp stp bst sgn lwT lwD rdT rdO lwK lwM twS twM twD rsO rsB rwA v1 v4 _ hp) (cwV 2 hts gX3_firstRunMeetingWith_X3_plannedOnRun rfl rfl rfl (by decide +kernel) ⟨(Nat.le_of_ble_eq_true rfl), (Nat.le_of_ble_eq_true rfl)⟩) 7 rfl rfl rfl hl.1 rfl (Nat.le_of_ble_eq_true rfl) dX3_firstRunMeetingWith_25 ⟨Nat.zero_le _, Nat.zero_le _⟩ (fun r25 u H locs hp ho => ?_)
      try dsimp only at hp
      replace ho : oW D (oT c) A s.heap s (wO q c tnN ckN stN trN dsT dsC tpN lwN rdS rdM rdE rdD twN rsW rsE rwN suns ckT ckD shf lnT ways ups sts sty dly gAp gOp stp bst sgn lwT lwD rdT rdO lwK lwM twS twM twD rsO rsB rwA) H locs := ho
      refine lv_isub hx hb dX3_firstRunMeetingWith_28 ?_
      refine lv_iload_n hx hb dX3_firstRunMeetingWith_29 rfl (lv_at hl 3 rfl) ?_
      refine lv_iadd hx hb dX3_firstRunMeetingWith_30 ?_
      refine lv_topi (fun x31 e_x31 => ?_)
      replace hp := hp x31 e_x31
      refine lv_istore (lv' := [(5, .int x31), (0, .ref (q 7)), (1, .int v1), (2, .int v2), (3, .int v3), (4, .int v4)]) hx hb dX3_firstRunMeetingWith_31 hl (by decide) rfl (fun ls hl => ?_)
      refine lv_iload hx hb dX3_firstRunMeetingWith_33 (lv_at hl 0 rfl) ?_
      refine va_mabs hx hb (hml.trans hl.1.symm) hown (hts (.methodLink RX3 56 Lib.Math.abs.name) (by decide +kernel)) (hts (.static Lib.Math.abs.name) (by decide +kernel)) (hts (.initialized "java/lang/Math") (by decide +kernel)) (hts (.code Lib.Math.abs.name Lib.Math.abs.code 1 (some .int)) (by decide +kernel)) (Nat.le_of_ble_eq_true rfl) (Nat.le_of_ble_eq_true rfl) (Nat.zero_le _) (Nat.zero_le _) dX3_firstRunMeetingWith_35 ?_
      refine lv_aload_n hx hb dX3_firstRunMeetingWith_38 rfl (lv_at hl 1 rfl) ?_
      refine lv_iload hx hb dX3_firstRunMeetingWith_39 (lv_at hl 5 rfl) ?_
      refine o_callVi (rest := [.int (jabs x31)]) (ci := 3) ⟨hx, hb, hml, hown, hts⟩ ho (c_Ln_lengthOf l D q c tnN ckN stN trN dsT dsC tpN lwN rdS rdM rdE rdD twN rsW rsE rwN suns ckT ckD shf lnT ways ups sts sty dly gAp gOp stp bst sgn lwT lwD rdT rdO lwK lwM twS twM twD rsO rsB rwA v4 _ hp) (cwV 1 hts gX3_firstRunMeetingWith_X3_lengthOf rfl rfl rfl (by decide +kernel) ⟨(Nat.le_of_ble_eq_true rfl), (Nat.le_of_ble_eq_true rfl)⟩) 7 rfl rfl rfl hl.1 rfl (Nat.le_of_ble_eq_true rfl) dX3_firstRunMeetingWith_41 ⟨Nat.zero_le _, Nat.zero_le _⟩ (fun r41 u H locs hp ho => ?_)
      try dsimp only at hp
      replace ho : oW D (oT c) A s.heap s (wO q c tnN ckN stN trN dsT dsC tpN lwN rdS rdM rdE rdD twN rsW rsE rwN suns ckT ckD shf lnT ways ups sts sty dly gAp gOp stp bst sgn lwT lwD rdT rdO lwK lwM twS twM twD rsO rsB rwA) H locs := ho
      refine lv_icmp_ge (tgt := 50) hx hb dX3_firstRunMeetingWith_44 (by decide) (fun c_44 => ?_) (fun c_44 => ?_)
      · replace hp := hp.1 c_44
        obtain ⟨x50, e_x50⟩ : ∃ y : Int32, y = v4 + 1 := ⟨_, rfl⟩
        replace hp := hp x50 e_x50
        refine lv_iinc (v := x50) (lv' := [(4, .int x50), (5, .int x31), (0, .ref (q 7)), (1, .int v1), (2, .int v2), (3, .int v3)]) hx hb dX3_firstRunMeetingWith_50 hl (k := 5) rfl (by rw [e_x50]; rfl) (by decide) rfl (fun ls hl => ?_)
        refine lv_goto (tgt := 3) hx hb dX3_firstRunMeetingWith_53 (by decide) ?_
        exact hrec x50 hp _ _ _ ho (lv_sub hl [2, 3, 4, 5, 0] rfl)
      · replace hp := hp.2 c_44
        refine lv_iload hx hb dX3_firstRunMeetingWith_47 (lv_at hl 5 rfl) ?_
        exact hret v4 () _ _ _ _ dX3_firstRunMeetingWith_49 ho hp
  refine lv_iconst (v := 0) hx hb dX3_firstRunMeetingWith_0 (by decide) ?_
  refine lv_istore (lv' := [(4, .int 0), (0, .ref (q 7)), (1, .int v1), (2, .int v2), (3, .int v3)]) hx hb dX3_firstRunMeetingWith_1 hl (by decide) rfl (fun ls hl => ?_)
  exact hL3 v1 v2 v3 0 hp _ _ _ ho (lv_sub hl [1, 2, 3, 4, 0] rfl)
set_option maxHeartbeats 4000000 in
set_option maxRecDepth 100000 in
theorem c_Ln_firstRunMeeting (l : Launch) (D : va_G) (q : Nat → Nat) (c : Nat → ClassId) (tnN : Int32) (ckN : Int32) (stN : Int32) (trN : Int32) (dsT : Int32) (dsC : Int32) (tpN : Int32) (lwN : Int32) (rdS : Int32) (rdM : Int32) (rdE : Int32) (rdD : Int32) (twN : Int32) (rsW : Int32) (rsE : Int32) (rwN : Int32) (suns : Nat → Int32) (ckT : Nat → Int32) (ckD : Nat → Int32) (shf : Nat → Int32) (lnT : Nat → Int32) (ways : Nat → Int32) (ups : Nat → Int32) (sts : Nat → Int32) (sty : Nat → Int32) (dly : Nat → Int32) (gAp : Nat → Nat → Int32) (gOp : Nat → Nat → Int32) (stp : Nat → Int32) (bst : Nat → Int32) (sgn : Nat → Int32) (lwT : Nat → Int32) (lwD : Nat → Int32) (rdT : Nat → Int32) (rdO : Nat → Int32) (lwK : Nat → Int32) (lwM : Nat → Int32) (twS : Nat → Int32) (twM : Nat → Int32) (twD : Nat → Int32) (rsO : Nat → Int32) (rsB : Nat → Int32) (rwA : Nat → Int32) (v1 : Int32) (v2 : Int32) (Q : Int32 → Prop) (hp : p_Ln_firstRunMeeting stN trN ways ups sts sty dly v1 v2 Q) : oKi l yX3_firstRunMeeting wsX3_firstRunMeeting { frames := 4, cells := 0, slots := 0, locals := 94 } [.ref (q 7), .int v1, .int v2] D (oT c) (wO q c tnN ckN stN trN dsT dsC tpN lwN rdS rdM rdE rdD twN rsW rsE rwN suns ckT ckD shf lnT ways ups sts sty dly gAp gOp stp bst sgn lwT lwD rdT rdO lwK lwM twS twM twD rsO rsB rwA) (Unit) (fun r (_ : Unit) => Q r) (fun _ => wO q c tnN ckN stN trN dsT dsC tpN lwN rdS rdM rdE rdD twN rsW rsE rwN suns ckT ckD shf lnT ways ups sts sty dly gAp gOp stp bst sgn lwT lwD rdT rdO lwK lwM twS twM twD rsO rsB rwA) := by
  refine oKi.ofW (own := RX3) (cc := cX3_firstRunMeeting) (maxL := 3) (plainFor_of_name (by decide +kernel)) rfl rfl (Nat.le_of_ble_eq_true rfl) (fun p e s m args below meth cd A ls Z hx hb hml hown hts hret ho hl => ?_)
  replace hl : lv_has ls 3 [(0, .ref (q 7)), (1, .int v1), (2, .int v2)] := hl
  have hinX3 : ∀ w ∈ u_ws RX3 TX3 8, w ∈ wsX3_firstRunMeeting := by decide +kernel
  have hf35 := hts (.fieldLink RX3 35 "OneTime$Line" "delays" "[I") (by decide +kernel)
  unfold p_Ln_firstRunMeeting at hp
  refine lv_aload_n hx hb dX3_firstRunMeeting_0 rfl (lv_at hl 0 rfl) ?_
  refine lv_iload_n hx hb dX3_firstRunMeeting_1 rfl (lv_at hl 1 rfl) ?_
  refine o_callVi (rest := []) (ci := 3) ⟨hx, hb, hml, hown, hts⟩ ho (c_Ln_hasTrain l D q c tnN ckN stN trN dsT dsC tpN lwN rdS rdM rdE rdD twN rsW rsE rwN suns ckT ckD shf lnT ways ups sts sty dly gAp gOp stp bst sgn lwT lwD rdT rdO lwK lwM twS twM twD rsO rsB rwA v1 _ hp) (cwV 1 hts gX3_firstRunMeeting_X3_hasTrain rfl rfl rfl (by decide +kernel) ⟨(Nat.le_of_ble_eq_true rfl), (Nat.le_of_ble_eq_true rfl)⟩) 7 rfl rfl rfl hl.1 rfl (Nat.le_of_ble_eq_true rfl) dX3_firstRunMeeting_2 ⟨Nat.zero_le _, Nat.zero_le _⟩ (fun r2 u H locs hp ho => ?_)
  try dsimp only at hp
  replace ho : oW D (oT c) A s.heap s (wO q c tnN ckN stN trN dsT dsC tpN lwN rdS rdM rdE rdD twN rsW rsE rwN suns ckT ckD shf lnT ways ups sts sty dly gAp gOp stp bst sgn lwT lwD rdT rdO lwK lwM twS twM twD rsO rsB rwA) H locs := ho
  refine lv_if_eq (tgt := 16) hx hb dX3_firstRunMeeting_5 (by decide) (fun c_5 => ?_) (fun c_5 => ?_)
  · replace hp := hp.1 c_5
    refine lv_iconst (v := (-1)) hx hb dX3_firstRunMeeting_16 (by decide) ?_
    exact hret (-1) () _ _ _ _ dX3_firstRunMeeting_17 ho hp
  · replace hp := hp.2 c_5
    refine lv_aload_n hx hb dX3_firstRunMeeting_8 rfl (lv_at hl 0 rfl) ?_
    refine lv_iload_n hx hb dX3_firstRunMeeting_9 rfl (lv_at hl 2 rfl) ?_
    refine o_callVi (rest := []) (ci := 3) ⟨hx, hb, hml, hown, hts⟩ ho (c_Ln_hasTrain l D q c tnN ckN stN trN dsT dsC tpN lwN rdS rdM rdE rdD twN rsW rsE rwN suns ckT ckD shf lnT ways ups sts sty dly gAp gOp stp bst sgn lwT lwD rdT rdO lwK lwM twS twM twD rsO rsB rwA v2 _ hp) (cwV 1 hts gX3_firstRunMeeting_X3_hasTrain rfl rfl rfl (by decide +kernel) ⟨(Nat.le_of_ble_eq_true rfl), (Nat.le_of_ble_eq_true rfl)⟩) 7 rfl rfl rfl hl.1 rfl (Nat.le_of_ble_eq_true rfl) dX3_firstRunMeeting_10 ⟨Nat.zero_le _, Nat.zero_le _⟩ (fun r10 u H locs hp ho => ?_)
    try dsimp only at hp
    replace ho : oW D (oT c) A s.heap s (wO q c tnN ckN stN trN dsT dsC tpN lwN rdS rdM rdE rdD twN rsW rsE rwN suns ckT ckD shf lnT ways ups sts sty dly gAp gOp stp bst sgn lwT lwD rdT rdO lwK lwM twS twM twD rsO rsB rwA) H locs := ho
    refine lv_if_ne (tgt := 18) hx hb dX3_firstRunMeeting_13 (by decide) (fun c_13 => ?_) (fun c_13 => ?_)
    · replace hp := hp.2 c_13
      refine lv_aload_n hx hb dX3_firstRunMeeting_18 rfl (lv_at hl 0 rfl) ?_
      refine lv_iload_n hx hb dX3_firstRunMeeting_19 rfl (lv_at hl 1 rfl) ?_
      refine lv_iload_n hx hb dX3_firstRunMeeting_20 rfl (lv_at hl 2 rfl) ?_
      refine lv_aload_n hx hb dX3_firstRunMeeting_21 rfl (lv_at hl 0 rfl) ?_
      refine o_get (ci := 3) (T := TX3) hx hb hts hinX3 hown ho 7 rfl rfl 7 (by decide) hf35 rfl dX3_firstRunMeeting_22 ?_
      refine lv_iload_n hx hb dX3_firstRunMeeting_25 rfl (lv_at hl 2 rfl) ?_
      refine o_ild hx hb ho 13 9 rfl rfl hp.1 dX3_firstRunMeeting_26 ?_
      replace hp := hp.2
      refine lv_aload_n hx hb dX3_firstRunMeeting_27 rfl (lv_at hl 0 rfl) ?_
      refine o_get (ci := 3) (T := TX3) hx hb hts hinX3 hown ho 7 rfl rfl 7 (by decide) hf35 rfl dX3_firstRunMeeting_28 ?_
      refine lv_iload_n hx hb dX3_firstRunMeeting_31 rfl (lv_at hl 1 rfl) ?_
      refine o_ild hx hb ho 13 9 rfl rfl hp.1 dX3_firstRunMeeting_32 ?_
      replace hp := hp.2
      refine lv_isub hx hb dX3_firstRunMeeting_33 ?_
      refine o_callVi (rest := []) (ci := 3) ⟨hx, hb, hml, hown, hts⟩ ho (c_Ln_firstRunMeetingWith l D q c tnN ckN stN trN dsT dsC tpN lwN rdS rdM rdE rdD twN rsW rsE rwN suns ckT ckD shf lnT ways ups sts sty dly gAp gOp stp bst sgn lwT lwD rdT rdO lwK lwM twS twM twD rsO rsB rwA v1 v2 ((dly v2.toNatClampNeg) - (dly v1.toNatClampNeg)) _ hp) (cwV 3 hts gX3_firstRunMeeting_X3_firstRunMeetingWith rfl rfl rfl (by decide +kernel) ⟨(Nat.le_of_ble_eq_true rfl), (Nat.le_of_ble_eq_true rfl)⟩) 7 rfl rfl rfl hl.1 rfl (Nat.le_of_ble_eq_true rfl) dX3_firstRunMeeting_34 ⟨Nat.zero_le _, Nat.zero_le _⟩ (fun r34 u H locs hp ho => ?_)
      try dsimp only at hp
      replace ho : oW D (oT c) A s.heap s (wO q c tnN ckN stN trN dsT dsC tpN lwN rdS rdM rdE rdD twN rsW rsE rwN suns ckT ckD shf lnT ways ups sts sty dly gAp gOp stp bst sgn lwT lwD rdT rdO lwK lwM twS twM twD rsO rsB rwA) H locs := ho
      exact hret r34 () _ _ _ _ dX3_firstRunMeeting_37 ho hp
    · replace hp := hp.1 c_13
      refine lv_iconst (v := (-1)) hx hb dX3_firstRunMeeting_16 (by decide) ?_
      exact hret (-1) () _ _ _ _ dX3_firstRunMeeting_17 ho hp
set_option maxHeartbeats 4000000 in
set_option maxRecDepth 100000 in
theorem c_Ln_clear (l : Launch) (D : va_G) (q : Nat → Nat) (c : Nat → ClassId) (tnN : Int32) (ckN : Int32) (stN : Int32) (trN : Int32) (dsT : Int32) (dsC : Int32) (tpN : Int32) (lwN : Int32) (rdS : Int32) (rdM : Int32) (rdE : Int32) (rdD : Int32) (twN : Int32) (rsW : Int32) (rsE : Int32) (rwN : Int32) (suns : Nat → Int32) (ckT : Nat → Int32) (ckD : Nat → Int32) (shf : Nat → Int32) (lnT : Nat → Int32) (ways : Nat → Int32) (ups : Nat → Int32) (sts : Nat → Int32) (sty : Nat → Int32) (dly : Nat → Int32) (gAp : Nat → Nat → Int32) (gOp : Nat → Nat → Int32) (stp : Nat → Int32) (bst : Nat → Int32) (sgn : Nat → Int32) (lwT : Nat → Int32) (lwD : Nat → Int32) (rdT : Nat → Int32) (rdO : Nat → Int32) (lwK : Nat → Int32) (lwM : Nat → Int32) (twS : Nat → Int32) (twM : Nat → Int32) (twD : Nat → Int32) (rsO : Nat → Int32) (rsB : Nat → Int32) (rwA : Nat → Int32)  (Q : Int32 → Int32 → Int32 → Prop) (hp : p_Ln_clear stN trN Q) : oKi l yX3_clear wsX3_clear { frames := 0, cells := 0, slots := 0, locals := 0 } [.ref (q 7)] D (oT c) (wO q c tnN ckN stN trN dsT dsC tpN lwN rdS rdM rdE rdD twN rsW rsE rwN suns ckT ckD shf lnT ways ups sts sty dly gAp gOp stp bst sgn lwT lwD rdT rdO lwK lwM twS twM twD rsO rsB rwA) (Int32 × Int32) (fun r (u : Int32 × Int32) => Q r u.1 u.2) (fun u => wO q c tnN ckN u.1 u.2 dsT dsC tpN lwN rdS rdM rdE rdD twN rsW rsE rwN suns ckT ckD shf lnT ways ups sts sty dly gAp gOp stp bst sgn lwT lwD rdT rdO lwK lwM twS twM twD rsO rsB rwA) := by
  refine oKi.ofW (own := RX3) (cc := cX3_clear) (maxL := 2) (plainFor_of_name (by decide +kernel)) rfl rfl (Nat.le_of_ble_eq_true rfl) (fun p e s m args below meth cd A ls Z hx hb hml hown hts hret ho hl => ?_)
  replace hl : lv_has ls 2 [(0, .ref (q 7))] := hl
  have hinX3 : ∀ w ∈ u_ws RX3 TX3 8, w ∈ wsX3_clear := by decide +kernel
  have hf9 := hts (.fieldLink RX3 9 "OneTime$Line" "stations" "I") (by decide +kernel)
  have hf22 := hts (.fieldLink RX3 22 "OneTime$Line" "trains" "I") (by decide +kernel)
  unfold p_Ln_clear at hp
  refine lv_aload_n hx hb dX3_clear_0 rfl (lv_at hl 0 rfl) ?_
  refine o_get (ci := 3) (T := TX3) hx hb hts hinX3 hown ho 7 rfl rfl 3 (by decide) hf22 rfl dX3_clear_1 ?_
  refine lv_istore_n (lv' := [(1, .int trN), (0, .ref (q 7))]) hx hb dX3_clear_4 rfl hl (by decide) rfl (fun ls hl => ?_)
  refine lv_aload_n hx hb dX3_clear_5 rfl (lv_at hl 1 rfl) ?_
  refine lv_iconst (v := 0) hx hb dX3_clear_6 (by decide) ?_
  refine o_put (ci := 3) (T := TX3) hx hb hts hinX3 tyX3_ok nmX3 hown ho 7 rfl rfl 3 (by decide) hf22 rfl (tyX3_ok 3 (by decide)) (Nat.le_of_ble_eq_true rfl) dX3_clear_7 (fun H locs ho => ?_)
  replace ho : oW D (oT c) A s.heap s (wO q c tnN ckN stN 0 dsT dsC tpN lwN rdS rdM rdE rdD twN rsW rsE rwN suns ckT ckD shf lnT ways ups sts sty dly gAp gOp stp bst sgn lwT lwD rdT rdO lwK lwM twS twM twD rsO rsB rwA) H locs := ho
  refine lv_aload_n hx hb dX3_clear_10 rfl (lv_at hl 1 rfl) ?_
  refine lv_iconst (v := 0) hx hb dX3_clear_11 (by decide) ?_
  refine o_put (ci := 3) (T := TX3) hx hb hts hinX3 tyX3_ok nmX3 hown ho 7 rfl rfl 0 (by decide) hf9 rfl (tyX3_ok 0 (by decide)) (Nat.le_of_ble_eq_true rfl) dX3_clear_12 (fun H locs ho => ?_)
  replace ho : oW D (oT c) A s.heap s (wO q c tnN ckN 0 0 dsT dsC tpN lwN rdS rdM rdE rdD twN rsW rsE rwN suns ckT ckD shf lnT ways ups sts sty dly gAp gOp stp bst sgn lwT lwD rdT rdO lwK lwM twS twM twD rsO rsB rwA) H locs := ho
  refine lv_iload_n hx hb dX3_clear_15 rfl (lv_at hl 0 rfl) ?_
  exact hret trN (0, 0) _ _ _ _ dX3_clear_16 ho hp
