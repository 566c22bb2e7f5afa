set_option maxHeartbeats 4000000 in
set_option maxRecDepth 100000 in
theorem c_O_isDay (l : Launch) (D : va_G) (tys : List (ClassId × FieldType)) (ws : va_W)  (v0 : Int32) (Q : Int32 → Prop) (hp : p_O_isDay v0 Q) : oKi l yX10_isDay wsX10_isDay { frames := 0, cells := 0, slots := 0, locals := 0 } [.int v0] D tys ws (Unit) (fun r (_ : Unit) => Q r) (fun _ => ws) := by
  refine oKi.ofWz (own := RX10) (cc := cX10_isDay) (maxL := 1) (plainFor_of_name (by decide +kernel)) rfl rfl (Nat.le_of_ble_eq_true rfl) (fun p e s m args below meth cd A ls Z hx hb hml hown hts hret ho hl => ?_)
  replace hl : lv_has ls 1 [(0, .int v0)] := hl
  unfold p_O_isDay at hp
  refine lv_iload_n hx hb dX10_isDay_0 rfl (lv_at hl 0 rfl) ?_
  refine lv_if_lt (tgt := 15) hx hb dX10_isDay_1 (by decide) (fun c_1 => ?_) (fun c_1 => ?_)
  · replace hp := hp.1 c_1
    refine lv_iconst (v := 0) hx hb dX10_isDay_15 (by decide) ?_
    exact hret 0 () _ _ _ _ dX10_isDay_16 (Or.inl rfl) ho hp
  · replace hp := hp.2 c_1
    refine lv_iload_n hx hb dX10_isDay_4 rfl (lv_at hl 0 rfl) ?_
    refine lv_sipush (v := 400) hx hb dX10_isDay_5 (by decide) ?_
    refine lv_icmp_ge (tgt := 15) hx hb dX10_isDay_8 (by decide) (fun c_8 => ?_) (fun c_8 => ?_)
    · replace hp := hp.1 c_8
      refine lv_iconst (v := 0) hx hb dX10_isDay_15 (by decide) ?_
      exact hret 0 () _ _ _ _ dX10_isDay_16 (Or.inl rfl) ho hp
    · replace hp := hp.2 c_8
      refine lv_iconst (v := 1) hx hb dX10_isDay_11 (by decide) ?_
      refine lv_goto (tgt := 16) hx hb dX10_isDay_12 (by decide) ?_
      exact hret 1 () _ _ _ _ dX10_isDay_16 (Or.inr rfl) ho hp
set_option maxHeartbeats 4000000 in
set_option maxRecDepth 100000 in
theorem c_Si_isFull_c (l : Launch) (D : va_G) (q : Nat → Nat) (c : Nat → ClassId) (tnN : Int32) (ckN : Int32) (stN : Int32) (trN : Int32) (dsT : Int32) (dsC : Int32) (tpN : Int32) (lwN : Int32) (rdS : Int32) (rdM : Int32) (rdE : Int32) (rdD : Int32) (twN : Int32) (rsW : Int32) (rsE : Int32) (rwN : Int32) (suns : Nat → Int32) (ckT : Nat → Int32) (ckD : Nat → Int32) (shf : Nat → Int32) (lnT : Nat → Int32) (ways : Nat → Int32) (ups : Nat → Int32) (sts : Nat → Int32) (sty : Nat → Int32) (dly : Nat → Int32) (gAp : Nat → Nat → Int32) (gOp : Nat → Nat → Int32) (stp : Nat → Int32) (bst : Nat → Int32) (sgn : Nat → Int32) (lwT : Nat → Int32) (lwD : Nat → Int32) (rdT : Nat → Int32) (rdO : Nat → Int32) (lwK : Nat → Int32) (lwM : Nat → Int32) (twS : Nat → Int32) (twM : Nat → Int32) (twD : Nat → Int32) (rsO : Nat → Int32) (rsB : Nat → Int32) (rwA : Nat → Int32)  (Q : Int32 → Prop) (hp : p_Si_isFull 60 ckN Q) : oKi l yX6_isFull wsX6_isFull { frames := 0, cells := 0, slots := 0, locals := 0 } [.ref (q 3)] D (oT c) (wO q c tnN ckN stN trN dsT dsC tpN lwN rdS rdM rdE rdD twN rsW rsE rwN suns ckT ckD shf lnT ways ups sts sty dly gAp gOp stp bst sgn lwT lwD rdT rdO lwK lwM twS twM twD rsO rsB rwA) (Unit) (fun r (_ : Unit) => Q r) (fun _ => wO q c tnN ckN stN trN dsT dsC tpN lwN rdS rdM rdE rdD twN rsW rsE rwN suns ckT ckD shf lnT ways ups sts sty dly gAp gOp stp bst sgn lwT lwD rdT rdO lwK lwM twS twM twD rsO rsB rwA) := by
  refine oKi.ofWz (own := RX6) (cc := cX6_isFull) (maxL := 1) (plainFor_of_name (by decide +kernel)) rfl rfl (Nat.le_of_ble_eq_true rfl) (fun p e s m args below meth cd A ls Z hx hb hml hown hts hret ho hl => ?_)
  replace hl : lv_has ls 1 [(0, .ref (q 3))] := hl
  have hinX6 : ∀ w ∈ u_ws RX6 TX6 3, w ∈ wsX6_isFull := by decide +kernel
  have hf9 := hts (.fieldLink RX6 9 "OneTime$Since" "size" "I") (by decide +kernel)
  have hf21 := hts (.fieldLink RX6 21 "OneTime$Since" "ofTowns" "[I") (by decide +kernel)
  unfold p_Si_isFull at hp
  refine lv_aload_n hx hb dX6_isFull_0 rfl (lv_at hl 0 rfl) ?_
  refine o_get (ci := 6) (T := TX6) hx hb hts hinX6 hown ho 3 rfl rfl 2 (by decide) hf9 rfl dX6_isFull_1 ?_
  refine lv_aload_n hx hb dX6_isFull_4 rfl (lv_at hl 0 rfl) ?_
  refine o_get (ci := 6) (T := TX6) hx hb hts hinX6 hown ho 3 rfl rfl 0 (by decide) hf21 rfl dX6_isFull_5 ?_
  refine o_len (v := (Int32.ofNat 60)) hx hb ho 4 1 rfl rfl rfl dX6_isFull_8 ?_
  refine lv_icmp_lt (tgt := 16) hx hb dX6_isFull_9 (by decide) (fun c_9 => ?_) (fun c_9 => ?_)
  · replace hp := hp.1 c_9
    refine lv_iconst (v := 0) hx hb dX6_isFull_16 (by decide) ?_
    exact hret 0 () _ _ _ _ dX6_isFull_17 (Or.inl rfl) ho hp
  · replace hp := hp.2 c_9
    refine lv_iconst (v := 1) hx hb dX6_isFull_12 (by decide) ?_
    refine lv_goto (tgt := 17) hx hb dX6_isFull_13 (by decide) ?_
    exact hret 1 () _ _ _ _ dX6_isFull_17 (Or.inr rfl) ho hp
set_option maxHeartbeats 4000000 in
set_option maxRecDepth 100000 in
theorem c_Si_add_c (l : Launch) (D : va_G) (q : Nat → Nat) (c : Nat → ClassId) (tnN : Int32) (ckN : Int32) (stN : Int32) (trN : Int32) (dsT : Int32) (dsC : Int32) (tpN : Int32) (lwN : Int32) (rdS : Int32) (rdM : Int32) (rdE : Int32) (rdD : Int32) (twN : Int32) (rsW : Int32) (rsE : Int32) (rwN : Int32) (suns : Nat → Int32) (ckT : Nat → Int32) (ckD : Nat → Int32) (shf : Nat → Int32) (lnT : Nat → Int32) (ways : Nat → Int32) (ups : Nat → Int32) (sts : Nat → Int32) (sty : Nat → Int32) (dly : Nat → Int32) (gAp : Nat → Nat → Int32) (gOp : Nat → Nat → Int32) (stp : Nat → Int32) (bst : Nat → Int32) (sgn : Nat → Int32) (lwT : Nat → Int32) (lwD : Nat → Int32) (rdT : Nat → Int32) (rdO : Nat → Int32) (lwK : Nat → Int32) (lwM : Nat → Int32) (twS : Nat → Int32) (twM : Nat → Int32) (twD : Nat → Int32) (rsO : Nat → Int32) (rsB : Nat → Int32) (rwA : Nat → Int32) (v1 : Int32) (v2 : Int32) (Q : Int32 → (Nat → Int32) → (Nat → Int32) → Prop) (hp : p_Si_add 60 ckN ckT ckD v1 v2 Q) : oKv l yX6_add wsX6_add { frames := 0, cells := 0, slots := 0, locals := 0 } [.ref (q 3), .int v1, .int v2] D (oT c) (wO q c tnN ckN stN trN dsT dsC tpN lwN rdS rdM rdE rdD twN rsW rsE rwN suns ckT ckD shf lnT ways ups sts sty dly gAp gOp stp bst sgn lwT lwD rdT rdO lwK lwM twS twM twD rsO rsB rwA) (Int32 × (Nat → Int32) × (Nat → Int32)) (fun (u : Int32 × (Nat → Int32) × (Nat → Int32)) => Q u.1 u.2.1 u.2.2) (fun u => wO q c tnN u.1 stN trN dsT dsC tpN lwN rdS rdM rdE rdD twN rsW rsE rwN suns u.2.1 u.2.2 shf lnT ways ups sts sty dly gAp gOp stp bst sgn lwT lwD rdT rdO lwK lwM twS twM twD rsO rsB rwA) := by
  refine oKv.ofW (own := RX6) (cc := cX6_add) (maxL := 3) (plainFor_of_name (by decide +kernel)) rfl rfl (Nat.le_of_ble_eq_true rfl) (fun p e s m args below meth cd A ls Z hx hb hml hown hts hret ho hl => ?_)
  replace hl : lv_has ls 3 [(0, .ref (q 3)), (1, .int v1), (2, .int v2)] := hl
  have hinX6 : ∀ w ∈ u_ws RX6 TX6 3, w ∈ wsX6_add := by decide +kernel
  have hf9 := hts (.fieldLink RX6 9 "OneTime$Since" "size" "I") (by decide +kernel)
  have hf21 := hts (.fieldLink RX6 21 "OneTime$Since" "ofTowns" "[I") (by decide +kernel)
  have hf25 := hts (.fieldLink RX6 25 "OneTime$Since" "fromDays" "[I") (by decide +kernel)
  unfold p_Si_add at hp
  refine lv_aload_n hx hb dX6_add_0 rfl (lv_at hl 0 rfl) ?_
  refine o_get (ci := 6) (T := TX6) hx hb hts hinX6 hown ho 3 rfl rfl 2 (by decide) hf9 rfl dX6_add_1 ?_
  refine lv_aload_n hx hb dX6_add_4 rfl (lv_at hl 0 rfl) ?_
  refine o_get (ci := 6) (T := TX6) hx hb hts hinX6 hown ho 3 rfl rfl 0 (by decide) hf21 rfl dX6_add_5 ?_
  refine o_len (v := (Int32.ofNat 60)) hx hb ho 4 1 rfl rfl rfl dX6_add_8 ?_
  refine lv_icmp_ge (tgt := 54) hx hb dX6_add_9 (by decide) (fun c_9 => ?_) (fun c_9 => ?_)
  · replace hp := hp.1 c_9
    exact hret (ckN, ckT, ckD) _ _ _ _ dX6_add_54 ho hp
  · replace hp := hp.2 c_9
    refine lv_aload_n hx hb dX6_add_12 rfl (lv_at hl 0 rfl) ?_
    refine o_get (ci := 6) (T := TX6) hx hb hts hinX6 hown ho 3 rfl rfl 2 (by decide) hf9 rfl dX6_add_13 ?_
    refine lv_aload_n hx hb dX6_add_16 rfl (lv_at hl 0 rfl) ?_
    refine o_get (ci := 6) (T := TX6) hx hb hts hinX6 hown ho 3 rfl rfl 1 (by decide) hf25 rfl dX6_add_17 ?_
    refine o_len (v := (Int32.ofNat 60)) hx hb ho 5 2 rfl rfl rfl dX6_add_20 ?_
    refine lv_icmp_ge (tgt := 54) hx hb dX6_add_21 (by decide) (fun c_21 => ?_) (fun c_21 => ?_)
    · replace hp := hp.1 c_21
      exact hret (ckN, ckT, ckD) _ _ _ _ dX6_add_54 ho hp
    · replace hp := hp.2 c_21
      refine lv_aload_n hx hb dX6_add_24 rfl (lv_at hl 0 rfl) ?_
      refine o_get (ci := 6) (T := TX6) hx hb hts hinX6 hown ho 3 rfl rfl 0 (by decide) hf21 rfl dX6_add_25 ?_
      refine lv_aload_n hx hb dX6_add_28 rfl (lv_at hl 0 rfl) ?_
      refine o_get (ci := 6) (T := TX6) hx hb hts hinX6 hown ho 3 rfl rfl 2 (by decide) hf9 rfl dX6_add_29 ?_
      refine lv_iload_n hx hb dX6_add_32 rfl (lv_at hl 1 rfl) ?_
      refine o_ist hx hb ho 4 1 rfl rfl hp.1 dX6_add_33 (fun H locs ho => ?_)
      replace hp := hp.2
      replace ho : oW D (oT c) A s.heap s (wO q c tnN ckN stN trN dsT dsC tpN lwN rdS rdM rdE rdD twN rsW rsE rwN suns (upd ckT ckN.toNatClampNeg v1) ckD shf lnT ways ups sts sty dly gAp gOp stp bst sgn lwT lwD rdT rdO lwK lwM twS twM twD rsO rsB rwA) H locs := ho
      refine lv_aload_n hx hb dX6_add_34 rfl (lv_at hl 0 rfl) ?_
      refine o_get (ci := 6) (T := TX6) hx hb hts hinX6 hown ho 3 rfl rfl 1 (by decide) hf25 rfl dX6_add_35 ?_
      refine lv_aload_n hx hb dX6_add_38 rfl (lv_at hl 0 rfl) ?_
      refine o_get (ci := 6) (T := TX6) hx hb hts hinX6 hown ho 3 rfl rfl 2 (by decide) hf9 rfl dX6_add_39 ?_
      refine lv_iload_n hx hb dX6_add_42 rfl (lv_at hl 2 rfl) ?_
      refine o_ist hx hb ho 5 2 rfl rfl hp.1 dX6_add_43 (fun H locs ho => ?_)
      replace hp := hp.2
      replace ho : oW D (oT c) A s.heap s (wO q c tnN ckN stN trN dsT dsC tpN lwN rdS rdM rdE rdD twN rsW rsE rwN suns (upd ckT ckN.toNatClampNeg v1) (upd ckD ckN.toNatClampNeg v2) shf lnT ways ups sts sty dly gAp gOp stp bst sgn lwT lwD rdT rdO lwK lwM twS twM twD rsO rsB rwA) H locs := ho
      refine lv_aload_n hx hb dX6_add_44 rfl (lv_at hl 0 rfl) ?_
      refine lv_dup hx hb dX6_add_45 rfl ?_
      refine o_get (ci := 6) (T := TX6) hx hb hts hinX6 hown ho 3 rfl rfl 2 (by decide) hf9 rfl dX6_add_46 ?_
      refine lv_iconst (v := 1) hx hb dX6_add_49 (by decide) ?_
      refine lv_iadd hx hb dX6_add_50 ?_
      refine lv_topi (fun x51 e_x51 => ?_)
      replace hp := hp x51 e_x51
      refine o_put (ci := 6) (T := TX6) hx hb hts hinX6 tyX6_ok nmX6 hown ho 3 rfl rfl 2 (by decide) hf9 rfl (tyX6_ok 2 (by decide)) (Nat.le_of_ble_eq_true rfl) dX6_add_51 (fun H locs ho => ?_)
      replace ho : oW D (oT c) A s.heap s (wO q c tnN x51 stN trN dsT dsC tpN lwN rdS rdM rdE rdD twN rsW rsE rwN suns (upd ckT ckN.toNatClampNeg v1) (upd ckD ckN.toNatClampNeg v2) shf lnT ways ups sts sty dly gAp gOp stp bst sgn lwT lwD rdT rdO lwK lwM twS twM twD rsO rsB rwA) H locs := ho
      exact hret (x51, upd ckT ckN.toNatClampNeg v1, upd ckD ckN.toNatClampNeg v2) _ _ _ _ dX6_add_54 ho hp
set_option maxHeartbeats 4000000 in
set_option maxRecDepth 100000 in
theorem c_Si_dropLast_c (l : Launch) (D : va_G) (q : Nat → Nat) (c : Nat → ClassId) (tnN : Int32) (ckN : Int32) (stN : Int32) (trN : Int32) (dsT : Int32) (dsC : Int32) (tpN : Int32) (lwN : Int32) (rdS : Int32) (rdM : Int32) (rdE : Int32) (rdD : Int32) (twN : Int32) (rsW : Int32) (rsE : Int32) (rwN : Int32) (suns : Nat → Int32) (ckT : Nat → Int32) (ckD : Nat → Int32) (shf : Nat → Int32) (lnT : Nat → Int32) (ways : Nat → Int32) (ups : Nat → Int32) (sts : Nat → Int32) (sty : Nat → Int32) (dly : Nat → Int32) (gAp : Nat → Nat → Int32) (gOp : Nat → Nat → Int32) (stp : Nat → Int32) (bst : Nat → Int32) (sgn : Nat → Int32) (lwT : Nat → Int32) (lwD : Nat → Int32) (rdT : Nat → Int32) (rdO : Nat → Int32) (lwK : Nat → Int32) (lwM : Nat → Int32) (twS : Nat → Int32) (twM : Nat → Int32) (twD : Nat → Int32) (rsO : Nat → Int32) (rsB : Nat → Int32) (rwA : Nat → Int32)  (Q : Int32 → Prop) (hp : p_Si_dropLast 60 ckN Q) : oKv l yX6_dropLast wsX6_dropLast { frames := 0, cells := 0, slots := 0, locals := 0 } [.ref (q 3)] D (oT c) (wO q c tnN ckN stN trN dsT dsC tpN lwN rdS rdM rdE rdD twN rsW rsE rwN suns ckT ckD shf lnT ways ups sts sty dly gAp gOp stp bst sgn lwT lwD rdT rdO lwK lwM twS twM twD rsO rsB rwA) (Int32) (fun (u : Int32) => Q u) (fun u => wO q c tnN u stN trN dsT dsC tpN lwN rdS rdM rdE rdD twN rsW rsE rwN suns ckT ckD shf lnT ways ups sts sty dly gAp gOp stp bst sgn lwT lwD rdT rdO lwK lwM twS twM twD rsO rsB rwA) := by
  refine oKv.ofW (own := RX6) (cc := cX6_dropLast) (maxL := 1) (plainFor_of_name (by decide +kernel)) rfl rfl (Nat.le_of_ble_eq_true rfl) (fun p e s m args below meth cd A ls Z hx hb hml hown hts hret ho hl => ?_)
  replace hl : lv_has ls 1 [(0, .ref (q 3))] := hl
  have hinX6 : ∀ w ∈ u_ws RX6 TX6 3, w ∈ wsX6_dropLast := by decide +kernel
  have hf9 := hts (.fieldLink RX6 9 "OneTime$Since" "size" "I") (by decide +kernel)
  unfold p_Si_dropLast at hp
  refine lv_aload_n hx hb dX6_dropLast_0 rfl (lv_at hl 0 rfl) ?_
  refine o_get (ci := 6) (T := TX6) hx hb hts hinX6 hown ho 3 rfl rfl 2 (by decide) hf9 rfl dX6_dropLast_1 ?_
  refine lv_if_le (tgt := 17) hx hb dX6_dropLast_4 (by decide) (fun c_4 => ?_) (fun c_4 => ?_)
  · replace hp := hp.1 c_4
    exact hret ckN _ _ _ _ dX6_dropLast_17 ho hp
  · replace hp := hp.2 c_4
    refine lv_aload_n hx hb dX6_dropLast_7 rfl (lv_at hl 0 rfl) ?_
    refine lv_dup hx hb dX6_dropLast_8 rfl ?_
    refine o_get (ci := 6) (T := TX6) hx hb hts hinX6 hown ho 3 rfl rfl 2 (by decide) hf9 rfl dX6_dropLast_9 ?_
    refine lv_iconst (v := 1) hx hb dX6_dropLast_12 (by decide) ?_
    refine lv_isub hx hb dX6_dropLast_13 ?_
    refine lv_topi (fun x14 e_x14 => ?_)
    replace hp := hp x14 e_x14
    refine o_put (ci := 6) (T := TX6) hx hb hts hinX6 tyX6_ok nmX6 hown ho 3 rfl rfl 2 (by decide) hf9 rfl (tyX6_ok 2 (by decide)) (Nat.le_of_ble_eq_true rfl) dX6_dropLast_14 (fun H locs ho => ?_)
    replace ho : oW D (oT c) A s.heap s (wO q c tnN x14 stN trN dsT dsC tpN lwN rdS rdM rdE rdD twN rsW rsE rwN suns ckT ckD shf lnT ways ups sts sty dly gAp gOp stp bst sgn lwT lwD rdT rdO lwK lwM twS twM twD rsO rsB rwA) H locs := ho
    exact hret x14 _ _ _ _ dX6_dropLast_17 ho hp
set_option maxHeartbeats 4000000 in
set_option maxRecDepth 100000 in
theorem c_O_isMinute (l : Launch) (D : va_G) (tys : List (ClassId × FieldType)) (ws : va_W)  (v0 : Int32) (Q : Int32 → Prop) (hp : p_O_isMinute v0 Q) : oKi l yX10_isMinute wsX10_isMinute { frames := 0, cells := 0, slots := 0, locals := 0 } [.int v0] D tys ws (Unit) (fun r (_ : Unit) => Q r) (fun _ => ws) := by
  refine oKi.ofWz (own := RX10) (cc := cX10_isMinute) (maxL := 1) (plainFor_of_name (by decide +kernel)) rfl rfl (Nat.le_of_ble_eq_true rfl) (fun p e s m args below meth cd A ls Z hx hb hml hown hts hret ho hl => ?_)
  replace hl : lv_has ls 1 [(0, .int v0)] := hl
  have hk257 := hts (.constant RX10 257 576000) (by decide +kernel)
  unfold p_O_isMinute at hp
  refine lv_iload_n hx hb dX10_isMinute_0 rfl (lv_at hl 0 rfl) ?_
  refine lv_if_lt (tgt := 15) hx hb dX10_isMinute_1 (by decide) (fun c_1 => ?_) (fun c_1 => ?_)
  · replace hp := hp.1 c_1
    refine lv_iconst (v := 0) hx hb dX10_isMinute_15 (by decide) ?_
    exact hret 0 () _ _ _ _ dX10_isMinute_16 (Or.inl rfl) ho hp
  · replace hp := hp.2 c_1
    refine lv_iload_n hx hb dX10_isMinute_4 rfl (lv_at hl 0 rfl) ?_
    refine lv_ldcw (v := 576000) hx hb hown hk257 dX10_isMinute_5 ?_
    refine lv_icmp_ge (tgt := 15) hx hb dX10_isMinute_8 (by decide) (fun c_8 => ?_) (fun c_8 => ?_)
    · replace hp := hp.1 c_8
      refine lv_iconst (v := 0) hx hb dX10_isMinute_15 (by decide) ?_
      exact hret 0 () _ _ _ _ dX10_isMinute_16 (Or.inl rfl) ho hp
    · replace hp := hp.2 c_8
      refine lv_iconst (v := 1) hx hb dX10_isMinute_11 (by decide) ?_
      refine lv_goto (tgt := 16) hx hb dX10_isMinute_12 (by decide) ?_
      exact hret 1 () _ _ _ _ dX10_isMinute_16 (Or.inr rfl) ho hp
set_option maxHeartbeats 4000000 in
set_option maxRecDepth 100000 in
theorem c_Si_holding_c (l : Launch) (D : va_G) (q : Nat → Nat) (c : Nat → ClassId) (tnN : Int32) (ckN : Int32) (stN : Int32) (trN : Int32) (dsT : Int32) (dsC : Int32) (tpN : Int32) (lwN : Int32) (rdS : Int32) (rdM : Int32) (rdE : Int32) (rdD : Int32) (twN : Int32) (rsW : Int32) (rsE : Int32) (rwN : Int32) (suns : Nat → Int32) (ckT : Nat → Int32) (ckD : Nat → Int32) (shf : Nat → Int32) (lnT : Nat → Int32) (ways : Nat → Int32) (ups : Nat → Int32) (sts : Nat → Int32) (sty : Nat → Int32) (dly : Nat → Int32) (gAp : Nat → Nat → Int32) (gOp : Nat → Nat → Int32) (stp : Nat → Int32) (bst : Nat → Int32) (sgn : Nat → Int32) (lwT : Nat → Int32) (lwD : Nat → Int32) (rdT : Nat → Int32) (rdO : Nat → Int32) (lwK : Nat → Int32) (lwM : Nat → Int32) (twS : Nat → Int32) (twM : Nat → Int32) (twD : Nat → Int32) (rsO : Nat → Int32) (rsB : Nat → Int32) (rwA : Nat → Int32) (v1 : Int32) (v2 : Int32) (Q : Int32 → Prop) (hp : p_Si_holding 60 ckN ckT ckD v1 v2 Q) : oKi l yX6_holding wsX6_holding { frames := 0, cells := 0, slots := 0, locals := 0 } [.ref (q 3), .int v1, .int v2] D (oT c) (wO q c tnN ckN stN trN dsT dsC tpN lwN rdS rdM rdE rdD twN rsW rsE rwN suns ckT ckD shf lnT ways ups sts sty dly gAp gOp stp bst sgn lwT lwD rdT rdO lwK lwM twS twM twD rsO rsB rwA) (Unit) (fun r (_ : Unit) => Q r) (fun _ => wO q c tnN ckN stN trN dsT dsC tpN lwN rdS rdM rdE rdD twN rsW rsE rwN suns ckT ckD shf lnT ways ups sts sty dly gAp gOp stp bst sgn lwT lwD rdT rdO lwK lwM twS twM twD rsO rsB rwA) := by
  refine oKi.ofW (own := RX6) (cc := cX6_holding) (maxL := 6) (plainFor_of_name (by decide +kernel)) rfl rfl (Nat.le_of_ble_eq_true rfl) (fun p e s m args below meth cd A ls Z hx hb hml hown hts hret ho hl => ?_)
  replace hl : lv_has ls 6 [(0, .ref (q 3)), (1, .int v1), (2, .int v2)] := hl
  have hinX6 : ∀ w ∈ u_ws RX6 TX6 3, w ∈ wsX6_holding := by decide +kernel
  have hf9 := hts (.fieldLink RX6 9 "OneTime$Since" "size" "I") (by decide +kernel)
  have hf21 := hts (.fieldLink RX6 21 "OneTime$Since" "ofTowns" "[I") (by decide +kernel)
  have hf25 := hts (.fieldLink RX6 25 "OneTime$Since" "fromDays" "[I") (by decide +kernel)
  unfold p_Si_holding at hp
  have hL8 : ∀ (v1 : Int32) (v2 : Int32) (v3 : Int32) (v4 : Int32) (v5 : Int32), Lp3 (p_Si_holding_L8 60 ckN ckT ckD v1 v2 Q) v3 v4 v5 → ∀ (H : Heap) (locs : List Loc) (ls : Array Slot), oW D (oT c) A s.heap s (wO q c tnN ckN stN trN dsT dsC tpN lwN rdS rdM rdE rdD twN rsW rsE rwN suns ckT ckD shf lnT ways ups sts sty dly gAp gOp stp bst sgn lwT lwD rdT rdO lwK lwM twS twM twD rsO rsB rwA) H locs → lv_has ls 6 [(0, .ref (q 3)), (1, .int v1), (2, .int v2), (3, .int v3), (4, .int v4), (5, .int v5)] → W p l e { frames := 0, cells := 0, slots := 0, locals := 0 } s m args below meth cd H locs 0 0 Z (F0 m 8 ls []) := by
    intro v1 v2
    refine Lp3.ind (fun rec hrec v3 v4 v5 hp H locs ls ho hl => ?_)
    unfold p_Si_holding_L8 at hp
    refine lv_iload hx hb dX6_holding_8 (lv_at hl 5 rfl) ?_
    refine lv_aload_n hx hb dX6_holding_10 rfl (lv_at hl 0 rfl) ?_
    refine o_get (ci := 6) (T := TX6) hx hb hts hinX6 hown ho 3 rfl rfl 2 (by decide) hf9 rfl dX6_holding_11 ?_
    refine lv_icmp_ge (tgt := 69) hx hb dX6_holding_14 (by decide) (fun c_14 => ?_) (fun c_14 => ?_)
    · replace hp := hp.1 c_14
      refine lv_iload_n hx hb dX6_holding_69 rfl (lv_at hl 3 rfl) ?_
      exact hret v3 () _ _ _ _ dX6_holding_70 ho hp
    · replace hp := hp.2 c_14
      refine lv_aload_n hx hb dX6_holding_17 rfl (lv_at hl 0 rfl) ?_
      refine o_get (ci := 6) (T := TX6) hx hb hts hinX6 hown ho 3 rfl rfl 0 (by decide) hf21 rfl dX6_holding_18 ?_
      refine lv_iload hx hb dX6_holding_21 (lv_at hl 5 rfl) ?_
      refine o_ild hx hb ho 4 1 rfl rfl hp.1 dX6_holding_23 ?_
      replace hp := hp.2
      refine lv_iload_n hx hb dX6_holding_24 rfl (lv_at hl 1 rfl) ?_
      refine lv_icmp_ne (tgt := 63) hx hb dX6_holding_25 (by decide) (fun c_25 => ?_) (fun c_25 => ?_)
      · replace hp := hp.2 c_25
        obtain ⟨x63, e_x63⟩ : ∃ y : Int32, y = v5 + 1 := ⟨_, rfl⟩
        replace hp := hp x63 e_x63
        refine lv_iinc (v := x63) (lv' := [(5, .int x63), (0, .ref (q 3)), (1, .int v1), (2, .int v2), (3, .int v3), (4, .int v4)]) hx hb dX6_holding_63 hl (k := 5) rfl (by rw [e_x63]; rfl) (by decide) rfl (fun ls hl => ?_)
        refine lv_goto (tgt := 8) hx hb dX6_holding_66 (by decide) ?_
        exact hrec v3 v4 x63 hp _ _ _ ho (lv_sub hl [1, 2, 3, 4, 5, 0] rfl)
      · replace hp := hp.1 c_25
        refine lv_aload_n hx hb dX6_holding_28 rfl (lv_at hl 0 rfl) ?_
        refine o_get (ci := 6) (T := TX6) hx hb hts hinX6 hown ho 3 rfl rfl 1 (by decide) hf25 rfl dX6_holding_29 ?_
        refine lv_iload hx hb dX6_holding_32 (lv_at hl 5 rfl) ?_
        refine o_ild hx hb ho 5 2 rfl rfl hp.1 dX6_holding_34 ?_
        replace hp := hp.2
        refine lv_iload_n hx hb dX6_holding_35 rfl (lv_at hl 2 rfl) ?_
        refine lv_icmp_gt (tgt := 63) hx hb dX6_holding_36 (by decide) (fun c_36 => ?_) (fun c_36 => ?_)
        · replace hp := hp.1 c_36
          obtain ⟨x63, e_x63⟩ : ∃ y : Int32, y = v5 + 1 := ⟨_, rfl⟩
          replace hp := hp x63 e_x63
          refine lv_iinc (v := x63) (lv' := [(5, .int x63), (0, .ref (q 3)), (1, .int v1), (2, .int v2), (3, .int v3), (4, .int v4)]) hx hb dX6_holding_63 hl (k := 5) rfl (by rw [e_x63]; rfl) (by decide) rfl (fun ls hl => ?_)
          refine lv_goto (tgt := 8) hx hb dX6_holding_66 (by decide) ?_
          exact hrec v3 v4 x63 hp _ _ _ ho (lv_sub hl [1, 2, 3, 4, 5, 0] rfl)
        · replace hp := hp.2 c_36
          refine lv_aload_n hx hb dX6_holding_39 rfl (lv_at hl 0 rfl) ?_
          refine o_get (ci := 6) (T := TX6) hx hb hts hinX6 hown ho 3 rfl rfl 1 (by decide) hf25 rfl dX6_holding_40 ?_
          refine lv_iload hx hb dX6_holding_43 (lv_at hl 5 rfl) ?_
          refine o_ild hx hb ho 5 2 rfl rfl hp.1 dX6_holding_45 ?_
          replace hp := hp.2
          refine lv_iload hx hb dX6_holding_46 (lv_at hl 4 rfl) ?_
          refine lv_icmp_lt (tgt := 63) hx hb dX6_holding_48 (by decide) (fun c_48 => ?_) (fun c_48 => ?_)
          · replace hp := hp.1 c_48
            obtain ⟨x63, e_x63⟩ : ∃ y : Int32, y = v5 + 1 := ⟨_, rfl⟩
            replace hp := hp x63 e_x63
            refine lv_iinc (v := x63) (lv' := [(5, .int x63), (0, .ref (q 3)), (1, .int v1), (2, .int v2), (3, .int v3), (4, .int v4)]) hx hb dX6_holding_63 hl (k := 5) rfl (by rw [e_x63]; rfl) (by decide) rfl (fun ls hl => ?_)
            refine lv_goto (tgt := 8) hx hb dX6_holding_66 (by decide) ?_
            exact hrec v3 v4 x63 hp _ _ _ ho (lv_sub hl [1, 2, 3, 4, 5, 0] rfl)
          · replace hp := hp.2 c_48
            refine lv_iload hx hb dX6_holding_51 (lv_at hl 5 rfl) ?_
            refine lv_istore_n (lv' := [(3, .int v5), (0, .ref (q 3)), (1, .int v1), (2, .int v2), (4, .int v4), (5, .int v5)]) hx hb dX6_holding_53 rfl hl (by decide) rfl (fun ls hl => ?_)
            refine lv_aload_n hx hb dX6_holding_54 rfl (lv_at hl 1 rfl) ?_
            refine o_get (ci := 6) (T := TX6) hx hb hts hinX6 hown ho 3 rfl rfl 1 (by decide) hf25 rfl dX6_holding_55 ?_
            refine lv_iload hx hb dX6_holding_58 (lv_at hl 5 rfl) ?_
            refine o_ild hx hb ho 5 2 rfl rfl hp.1 dX6_holding_60 ?_
            replace hp := hp.2
            refine lv_topi (fun x61 e_x61 => ?_)
            replace hp := hp x61 e_x61
            refine lv_istore (lv' := [(4, .int x61), (3, .int v5), (0, .ref (q 3)), (1, .int v1), (2, .int v2), (5, .int v5)]) hx hb dX6_holding_61 hl (by decide) rfl (fun ls hl => ?_)
            obtain ⟨x63, e_x63⟩ : ∃ y : Int32, y = v5 + 1 := ⟨_, rfl⟩
            replace hp := hp x63 e_x63
            refine lv_iinc (v := x63) (lv' := [(5, .int x63), (4, .int x61), (3, .int v5), (0, .ref (q 3)), (1, .int v1), (2, .int v2)]) hx hb dX6_holding_63 hl (k := 5) rfl (by rw [e_x63]; rfl) (by decide) rfl (fun ls hl => ?_)
            refine lv_goto (tgt := 8) hx hb dX6_holding_66 (by decide) ?_
            exact hrec v5 x61 x63 hp _ _ _ ho (lv_sub hl [3, 4, 5, 2, 1, 0] rfl)
  refine lv_iconst (v := (-1)) hx hb dX6_holding_0 (by decide) ?_
  refine lv_istore_n (lv' := [(3, .int (-1)), (0, .ref (q 3)), (1, .int v1), (2, .int v2)]) hx hb dX6_holding_1 rfl hl (by decide) rfl (fun ls hl => ?_)
  refine lv_iconst (v := 0) hx hb dX6_holding_2 (by decide) ?_
  refine lv_istore (lv' := [(4, .int 0), (3, .int (-1)), (0, .ref (q 3)), (1, .int v1), (2, .int v2)]) hx hb dX6_holding_3 hl (by decide) rfl (fun ls hl => ?_)
  refine lv_iconst (v := 0) hx hb dX6_holding_5 (by decide) ?_
  refine lv_istore (lv' := [(5, .int 0), (4, .int 0), (3, .int (-1)), (0, .ref (q 3)), (1, .int v1), (2, .int v2)]) hx hb dX6_holding_6 hl (by decide) rfl (fun ls hl => ?_)
  exact hL8 v1 v2 (-1) 0 0 hp _ _ _ ho (lv_sub hl [3, 4, 5, 2, 1, 0] rfl)
set_option maxHeartbeats 4000000 in
set_option maxRecDepth 100000 in
theorem c_Rw_clear (l : Launch) (D : va_G) (q : Nat → Nat) (c : Nat → ClassId) (tnN : Int32) (ckN : Int32) (stN : Int32) (trN : Int32) (dsT : Int32) (dsC : Int32) (tpN : Int32) (lwN : Int32) (rdS : Int32) (rdM : Int32) (rdE : Int32) (rdD : Int32) (twN : Int32) (rsW : Int32) (rsE : Int32) (rwN : Int32) (suns : Nat → Int32) (ckT : Nat → Int32) (ckD : Nat → Int32) (shf : Nat → Int32) (lnT : Nat → Int32) (ways : Nat → Int32) (ups : Nat → Int32) (sts : Nat → Int32) (sty : Nat → Int32) (dly : Nat → Int32) (gAp : Nat → Nat → Int32) (gOp : Nat → Nat → Int32) (stp : Nat → Int32) (bst : Nat → Int32) (sgn : Nat → Int32) (lwT : Nat → Int32) (lwD : Nat → Int32) (rdT : Nat → Int32) (rdO : Nat → Int32) (lwK : Nat → Int32) (lwM : Nat → Int32) (twS : Nat → Int32) (twM : Nat → Int32) (twD : Nat → Int32) (rsO : Nat → Int32) (rsB : Nat → Int32) (rwA : Nat → Int32)  (Q : Int32 → Prop) (hp : p_Rw_clear rwN Q) : oKv l yX5_clear wsX5_clear { frames := 0, cells := 0, slots := 0, locals := 0 } [.ref (q 50)] D (oT c) (wO q c tnN ckN stN trN dsT dsC tpN lwN rdS rdM rdE rdD twN rsW rsE rwN suns ckT ckD shf lnT ways ups sts sty dly gAp gOp stp bst sgn lwT lwD rdT rdO lwK lwM twS twM twD rsO rsB rwA) (Int32) (fun (u : Int32) => Q u) (fun u => wO q c tnN ckN stN trN dsT dsC tpN lwN rdS rdM rdE rdD twN rsW rsE u suns ckT ckD shf lnT ways ups sts sty dly gAp gOp stp bst sgn lwT lwD rdT rdO lwK lwM twS twM twD rsO rsB rwA) := by
  refine oKv.ofW (own := RX5) (cc := cX5_clear) (maxL := 1) (plainFor_of_name (by decide +kernel)) rfl rfl (Nat.le_of_ble_eq_true rfl) (fun p e s m args below meth cd A ls Z hx hb hml hown hts hret ho hl => ?_)
  replace hl : lv_has ls 1 [(0, .ref (q 50))] := hl
  have hinX5 : ∀ w ∈ u_ws RX5 TX5 2, w ∈ wsX5_clear := by decide +kernel
  have hf15 := hts (.fieldLink RX5 15 "OneTime$Row" "size" "I") (by decide +kernel)
  unfold p_Rw_clear at hp
  refine lv_aload_n hx hb dX5_clear_0 rfl (lv_at hl 0 rfl) ?_
  refine lv_iconst (v := 0) hx hb dX5_clear_1 (by decide) ?_
  refine o_put (ci := 5) (T := TX5) hx hb hts hinX5 tyX5_ok nmX5 hown ho 50 rfl rfl 1 (by decide) hf15 rfl (tyX5_ok 1 (by decide)) (Nat.le_of_ble_eq_true rfl) dX5_clear_2 (fun H locs ho => ?_)
  replace ho : oW D (oT c) A s.heap s (wO q c tnN ckN stN trN dsT dsC tpN lwN rdS rdM rdE rdD twN rsW rsE 0 suns ckT ckD shf lnT ways ups sts sty dly gAp gOp stp bst sgn lwT lwD rdT rdO lwK lwM twS twM twD rsO rsB rwA) H locs := ho
  exact hret 0 _ _ _ _ dX5_clear_5 ho hp
set_option maxHeartbeats 4000000 in
set_option maxRecDepth 100000 in
theorem c_Jm_floorDiv (l : Launch) (D : va_G) (tys : List (ClassId × FieldType)) (ws : va_W)  (v0 : Int32) (v1 : Int32) (Q : Int32 → Prop) (hp : p_Jm_floorDiv v0 v1 Q) : oKi l yJ9_floorDiv_7cf53 wsJ9_floorDiv_7cf53 { frames := 0, cells := 0, slots := 0, locals := 0 } [.int v0, .int v1] D tys ws (Unit) (fun r (_ : Unit) => Q r) (fun _ => ws) := by
  refine oKi.ofW (own := RJ9) (cc := cJ9_floorDiv_7cf53) (maxL := 3) (by decide +kernel) rfl rfl (Nat.le_of_ble_eq_true rfl) (fun p e s m args below meth cd A ls Z hx hb hml hown hts hret ho hl => ?_)
  replace hl : lv_has ls 3 [(0, .int v0), (1, .int v1)] := hl
  unfold p_Jm_floorDiv at hp
  refine lv_iload_n hx hb dJ9_floorDiv_7cf53_0 rfl (lv_at hl 0 rfl) ?_
  refine lv_iload_n hx hb dJ9_floorDiv_7cf53_1 rfl (lv_at hl 1 rfl) ?_
  refine lv_idiv hx hb dJ9_floorDiv_7cf53_2 hp.1 ?_
  replace hp := hp.2
  refine lv_topi (fun x3 e_x3 => ?_)
  replace hp := hp x3 e_x3
  refine lv_istore_n (lv' := [(2, .int x3), (0, .int v0), (1, .int v1)]) hx hb dJ9_floorDiv_7cf53_3 rfl hl (by decide) rfl (fun ls hl => ?_)
  refine lv_iload_n hx hb dJ9_floorDiv_7cf53_4 rfl (lv_at hl 1 rfl) ?_
  refine lv_iload_n hx hb dJ9_floorDiv_7cf53_5 rfl (lv_at hl 2 rfl) ?_
  refine lv_ixor hx hb dJ9_floorDiv_7cf53_6 ?_
  refine lv_if_ge (tgt := 21) hx hb dJ9_floorDiv_7cf53_7 (by decide) (fun c_7 => ?_) (fun c_7 => ?_)
  · replace hp := hp.1 c_7
    refine lv_iload_n hx hb dJ9_floorDiv_7cf53_21 rfl (lv_at hl 0 rfl) ?_
    exact hret x3 () _ _ _ _ dJ9_floorDiv_7cf53_22 ho hp
  · replace hp := hp.2 c_7
    refine lv_iload_n hx hb dJ9_floorDiv_7cf53_10 rfl (lv_at hl 0 rfl) ?_
    refine lv_iload_n hx hb dJ9_floorDiv_7cf53_11 rfl (lv_at hl 2 rfl) ?_
    refine lv_imul hx hb dJ9_floorDiv_7cf53_12 ?_
    refine lv_iload_n hx hb dJ9_floorDiv_7cf53_13 rfl (lv_at hl 1 rfl) ?_
    refine lv_icmp_eq (tgt := 21) hx hb dJ9_floorDiv_7cf53_14 (by decide) (fun c_14 => ?_) (fun c_14 => ?_)
    · replace hp := hp.1 c_14
      refine lv_iload_n hx hb dJ9_floorDiv_7cf53_21 rfl (lv_at hl 0 rfl) ?_
      exact hret x3 () _ _ _ _ dJ9_floorDiv_7cf53_22 ho hp
    · replace hp := hp.2 c_14
      refine lv_iload_n hx hb dJ9_floorDiv_7cf53_17 rfl (lv_at hl 0 rfl) ?_
      refine lv_iconst (v := 1) hx hb dJ9_floorDiv_7cf53_18 (by decide) ?_
      refine lv_isub hx hb dJ9_floorDiv_7cf53_19 ?_
      exact hret (x3 - 1) () _ _ _ _ dJ9_floorDiv_7cf53_20 ho hp
set_option maxHeartbeats 4000000 in
set_option maxRecDepth 100000 in
theorem c_Rw_add (l : Launch) (D : va_G) (q : Nat → Nat) (c : Nat → ClassId) (tnN : Int32) (ckN : Int32) (stN : Int32) (trN : Int32) (dsT : Int32) (dsC : Int32) (tpN : Int32) (lwN : Int32) (rdS : Int32) (rdM : Int32) (rdE : Int32) (rdD : Int32) (twN : Int32) (rsW : Int32) (rsE : Int32) (rwN : Int32) (suns : Nat → Int32) (ckT : Nat → Int32) (ckD : Nat → Int32) (shf : Nat → Int32) (lnT : Nat → Int32) (ways : Nat → Int32) (ups : Nat → Int32) (sts : Nat → Int32) (sty : Nat → Int32) (dly : Nat → Int32) (gAp : Nat → Nat → Int32) (gOp : Nat → Nat → Int32) (stp : Nat → Int32) (bst : Nat → Int32) (sgn : Nat → Int32) (lwT : Nat → Int32) (lwD : Nat → Int32) (rdT : Nat → Int32) (rdO : Nat → Int32) (lwK : Nat → Int32) (lwM : Nat → Int32) (twS : Nat → Int32) (twM : Nat → Int32) (twD : Nat → Int32) (rsO : Nat → Int32) (rsB : Nat → Int32) (rwA : Nat → Int32) (v1 : Int32) (Q : Int32 → (Nat → Int32) → Prop) (hp : p_Rw_add rwN rwA v1 Q) : oKv l yX5_add wsX5_add { frames := 0, cells := 0, slots := 0, locals := 0 } [.ref (q 50), .int v1] D (oT c) (wO q c tnN ckN stN trN dsT dsC tpN lwN rdS rdM rdE rdD twN rsW rsE rwN suns ckT ckD shf lnT ways ups sts sty dly gAp gOp stp bst sgn lwT lwD rdT rdO lwK lwM twS twM twD rsO rsB rwA) (Int32 × (Nat → Int32)) (fun (u : Int32 × (Nat → Int32)) => Q u.1 u.2) (fun u => wO q c tnN ckN stN trN dsT dsC tpN lwN rdS rdM rdE rdD twN rsW rsE u.1 suns ckT ckD shf lnT ways ups sts sty dly gAp gOp stp bst sgn lwT lwD rdT rdO lwK lwM twS twM twD rsO rsB u.2) := by
  refine oKv.ofW (own := RX5) (cc := cX5_add) (maxL := 2) (plainFor_of_name (by decide +kernel)) rfl rfl (Nat.le_of_ble_eq_true rfl) (fun p e s m args below meth cd A ls Z hx hb hml hown hts hret ho hl => ?_)
  replace hl : lv_has ls 2 [(0, .ref (q 50)), (1, .int v1)] := hl
  have hinX5 : ∀ w ∈ u_ws RX5 TX5 2, w ∈ wsX5_add := by decide +kernel
  have hf9 := hts (.fieldLink RX5 9 "OneTime$Row" "numbers" "[I") (by decide +kernel)
  have hf15 := hts (.fieldLink RX5 15 "OneTime$Row" "size" "I") (by decide +kernel)
  unfold p_Rw_add at hp
  refine lv_aload_n hx hb dX5_add_0 rfl (lv_at hl 0 rfl) ?_
  refine o_get (ci := 5) (T := TX5) hx hb hts hinX5 hown ho 50 rfl rfl 1 (by decide) hf15 rfl dX5_add_1 ?_
  refine lv_aload_n hx hb dX5_add_4 rfl (lv_at hl 0 rfl) ?_
  refine o_get (ci := 5) (T := TX5) hx hb hts hinX5 hown ho 50 rfl rfl 0 (by decide) hf9 rfl dX5_add_5 ?_
  refine o_len (v := 8) hx hb ho 51 28 rfl rfl rfl dX5_add_8 ?_
  refine lv_icmp_ge (tgt := 32) hx hb dX5_add_9 (by decide) (fun c_9 => ?_) (fun c_9 => ?_)
  · replace hp := hp.1 c_9
    exact hret (rwN, rwA) _ _ _ _ dX5_add_32 ho hp
  · replace hp := hp.2 c_9
    refine lv_aload_n hx hb dX5_add_12 rfl (lv_at hl 0 rfl) ?_
    refine o_get (ci := 5) (T := TX5) hx hb hts hinX5 hown ho 50 rfl rfl 0 (by decide) hf9 rfl dX5_add_13 ?_
    refine lv_aload_n hx hb dX5_add_16 rfl (lv_at hl 0 rfl) ?_
    refine o_get (ci := 5) (T := TX5) hx hb hts hinX5 hown ho 50 rfl rfl 1 (by decide) hf15 rfl dX5_add_17 ?_
    refine lv_iload_n hx hb dX5_add_20 rfl (lv_at hl 1 rfl) ?_
    refine o_ist hx hb ho 51 28 rfl rfl hp.1 dX5_add_21 (fun H locs ho => ?_)
    replace hp := hp.2
    replace ho : oW D (oT c) A s.heap s (wO q c tnN ckN stN trN dsT dsC tpN lwN rdS rdM rdE rdD twN rsW rsE rwN suns ckT ckD shf lnT ways ups sts sty dly gAp gOp stp bst sgn lwT lwD rdT rdO lwK lwM twS twM twD rsO rsB (upd rwA rwN.toNatClampNeg v1)) H locs := ho
    refine lv_aload_n hx hb dX5_add_22 rfl (lv_at hl 0 rfl) ?_
    refine lv_dup hx hb dX5_add_23 rfl ?_
    refine o_get (ci := 5) (T := TX5) hx hb hts hinX5 hown ho 50 rfl rfl 1 (by decide) hf15 rfl dX5_add_24 ?_
    refine lv_iconst (v := 1) hx hb dX5_add_27 (by decide) ?_
    refine lv_iadd hx hb dX5_add_28 ?_
    refine lv_topi (fun x29 e_x29 => ?_)
    replace hp := hp x29 e_x29
    refine o_put (ci := 5) (T := TX5) hx hb hts hinX5 tyX5_ok nmX5 hown ho 50 rfl rfl 1 (by decide) hf15 rfl (tyX5_ok 1 (by decide)) (Nat.le_of_ble_eq_true rfl) dX5_add_29 (fun H locs ho => ?_)
    replace ho : oW D (oT c) A s.heap s (wO q c tnN ckN stN trN dsT dsC tpN lwN rdS rdM rdE rdD twN rsW rsE x29 suns ckT ckD shf lnT ways ups sts sty dly gAp gOp stp bst sgn lwT lwD rdT rdO lwK lwM twS twM twD rsO rsB (upd rwA rwN.toNatClampNeg v1)) H locs := ho
    exact hret (x29, upd rwA rwN.toNatClampNeg v1) _ _ _ _ dX5_add_32 ho hp
set_option maxHeartbeats 4000000 in
set_option maxRecDepth 100000 in
theorem c_Rw_addMinute (l : Launch) (D : va_G) (q : Nat → Nat) (c : Nat → ClassId) (tnN : Int32) (ckN : Int32) (stN : Int32) (trN : Int32) (dsT : Int32) (dsC : Int32) (tpN : Int32) (lwN : Int32) (rdS : Int32) (rdM : Int32) (rdE : Int32) (rdD : Int32) (twN : Int32) (rsW : Int32) (rsE : Int32) (rwN : Int32) (suns : Nat → Int32) (ckT : Nat → Int32) (ckD : Nat → Int32) (shf : Nat → Int32) (lnT : Nat → Int32) (ways : Nat → Int32) (ups : Nat → Int32) (sts : Nat → Int32) (sty : Nat → Int32) (dly : Nat → Int32) (gAp : Nat → Nat → Int32) (gOp : Nat → Nat → Int32) (stp : Nat → Int32) (bst : Nat → Int32) (sgn : Nat → Int32) (lwT : Nat → Int32) (lwD : Nat → Int32) (rdT : Nat → Int32) (rdO : Nat → Int32) (lwK : Nat → Int32) (lwM : Nat → Int32) (twS : Nat → Int32) (twM : Nat → Int32) (twD : Nat → Int32) (rsO : Nat → Int32) (rsB : Nat → Int32) (rwA : Nat → Int32) (v1 : Int32) (Q : Int32 → (Nat → Int32) → Prop) (hp : p_Rw_addMinute rwN rwA v1 Q) : oKv l yX5_addMinute wsX5_addMinute { frames := 1, cells := 0, slots := 0, locals := 21 } [.ref (q 50), .int v1] D (oT c) (wO q c tnN ckN stN trN dsT dsC tpN lwN rdS rdM rdE rdD twN rsW rsE rwN suns ckT ckD shf lnT ways ups sts sty dly gAp gOp stp bst sgn lwT lwD rdT rdO lwK lwM twS twM twD rsO rsB rwA) (Int32 × (Nat → Int32)) (fun (u : Int32 × (Nat → Int32)) => Q u.1 u.2) (fun u => wO q c tnN ckN stN trN dsT dsC tpN lwN rdS rdM rdE rdD twN rsW rsE u.1 suns ckT ckD shf lnT ways ups sts sty dly gAp gOp stp bst sgn lwT lwD rdT rdO lwK lwM twS twM twD rsO rsB u.2) := by
  refine oKv.ofW (own := RX5) (cc := cX5_addMinute) (maxL := 2) (plainFor_of_name (by decide +kernel)) rfl rfl (Nat.le_of_ble_eq_true rfl) (fun p e s m args below meth cd A ls Z hx hb hml hown hts hret ho hl => ?_)
  replace hl : lv_has ls 2 [(0, .ref (q 50)), (1, .int v1)] := hl
  unfold p_Rw_addMinute at hp
  refine lv_iload_n hx hb dX5_addMinute_0 rfl (lv_at hl 1 rfl) ?_
  refine lv_iconst (v := (-1)) hx hb dX5_addMinute_1 (by decide) ?_
  refine lv_icmp_eq (tgt := 10) hx hb dX5_addMinute_2 (by decide) (fun c_2 => ?_) (fun c_2 => ?_)
  · replace hp := hp.1 c_2
    exact hret (rwN, rwA) _ _ _ _ dX5_addMinute_10 ho hp
  · replace hp := hp.2 c_2
    refine lv_aload_n hx hb dX5_addMinute_5 rfl (lv_at hl 0 rfl) ?_
    refine lv_iload_n hx hb dX5_addMinute_6 rfl (lv_at hl 1 rfl) ?_
    refine o_callVv (rest := []) (ci := 5) ⟨hx, hb, hml, hown, hts⟩ ho (c_Rw_add l D q c tnN ckN stN trN dsT dsC tpN lwN rdS rdM rdE rdD twN rsW rsE rwN suns ckT ckD shf lnT ways ups sts sty dly gAp gOp stp bst sgn lwT lwD rdT rdO lwK lwM twS twM twD rsO rsB rwA v1 _ hp) (cwV 1 hts gX5_addMinute_X5_add rfl rfl rfl (by decide +kernel) ⟨(Nat.le_of_ble_eq_true rfl), (Nat.le_of_ble_eq_true rfl)⟩) 50 rfl rfl rfl hl.1 rfl (Nat.le_of_ble_eq_true rfl) dX5_addMinute_7 ⟨Nat.zero_le _, Nat.zero_le _⟩ (fun u H locs hp ho => ?_)
    obtain ⟨rwN_7, rwA_7⟩ := u
    try dsimp only at hp
    replace ho : oW D (oT c) A s.heap s (wO q c tnN ckN stN trN dsT dsC tpN lwN rdS rdM rdE rdD twN rsW rsE rwN_7 suns ckT ckD shf lnT ways ups sts sty dly gAp gOp stp bst sgn lwT lwD rdT rdO lwK lwM twS twM twD rsO rsB rwA_7) H locs := ho
    exact hret (rwN_7, rwA_7) _ _ _ _ dX5_addMinute_10 ho hp
set_option maxHeartbeats 4000000 in
set_option maxRecDepth 100000 in
theorem c_Si_nextDay_c (l : Launch) (D : va_G) (q : Nat → Nat) (c : Nat → ClassId) (tnN : Int32) (ckN : Int32) (stN : Int32) (trN : Int32) (dsT : Int32) (dsC : Int32) (tpN : Int32) (lwN : Int32) (rdS : Int32) (rdM : Int32) (rdE : Int32) (rdD : Int32) (twN : Int32) (rsW : Int32) (rsE : Int32) (rwN : Int32) (suns : Nat → Int32) (ckT : Nat → Int32) (ckD : Nat → Int32) (shf : Nat → Int32) (lnT : Nat → Int32) (ways : Nat → Int32) (ups : Nat → Int32) (sts : Nat → Int32) (sty : Nat → Int32) (dly : Nat → Int32) (gAp : Nat → Nat → Int32) (gOp : Nat → Nat → Int32) (stp : Nat → Int32) (bst : Nat → Int32) (sgn : Nat → Int32) (lwT : Nat → Int32) (lwD : Nat → Int32) (rdT : Nat → Int32) (rdO : Nat → Int32) (lwK : Nat → Int32) (lwM : Nat → Int32) (twS : Nat → Int32) (twM : Nat → Int32) (twD : Nat → Int32) (rsO : Nat → Int32) (rsB : Nat → Int32) (rwA : Nat → Int32) (v1 : Int32) (v2 : Int32) (Q : Int32 → Prop) (hp : p_Si_nextDay 60 ckN ckT ckD v1 v2 Q) : oKi l yX6_nextDay wsX6_nextDay { frames := 0, cells := 0, slots := 0, locals := 0 } [.ref (q 3), .int v1, .int v2] D (oT c) (wO q c tnN ckN stN trN dsT dsC tpN lwN rdS rdM rdE rdD twN rsW rsE rwN suns ckT ckD shf lnT ways ups sts sty dly gAp gOp stp bst sgn lwT lwD rdT rdO lwK lwM twS twM twD rsO rsB rwA) (Unit) (fun r (_ : Unit) => Q r) (fun _ => wO q c tnN ckN stN trN dsT dsC tpN lwN rdS rdM rdE rdD twN rsW rsE rwN suns ckT ckD shf lnT ways ups sts sty dly gAp gOp stp bst sgn lwT lwD rdT rdO lwK lwM twS twM twD rsO rsB rwA) := by
  refine oKi.ofW (own := RX6) (cc := cX6_nextDay) (maxL := 5) (plainFor_of_name (by decide +kernel)) rfl rfl (Nat.le_of_ble_eq_true rfl) (fun p e s m args below meth cd A ls Z hx hb hml hown hts hret ho hl => ?_)
  replace hl : lv_has ls 5 [(0, .ref (q 3)), (1, .int v1), (2, .int v2)] := hl
  have hinX6 : ∀ w ∈ u_ws RX6 TX6 3, w ∈ wsX6_nextDay := by decide +kernel
  have hf9 := hts (.fieldLink RX6 9 "OneTime$Since" "size" "I") (by decide +kernel)
  have hf21 := hts (.fieldLink RX6 21 "OneTime$Since" "ofTowns" "[I") (by decide +kernel)
  have hf25 := hts (.fieldLink RX6 25 "OneTime$Since" "fromDays" "[I") (by decide +kernel)
  unfold p_Si_nextDay at hp
  have hL7 : ∀ (v1 : Int32) (v2 : Int32) (v3 : Int32) (v4 : Int32), Lp2 (p_Si_nextDay_L7 60 ckN ckT ckD v1 v2 Q) v3 v4 → ∀ (H : Heap) (locs : List Loc) (ls : Array Slot), oW D (oT c) A s.heap s (wO q c tnN ckN stN trN dsT dsC tpN lwN rdS rdM rdE rdD twN rsW rsE rwN suns ckT ckD shf lnT ways ups sts sty dly gAp gOp stp bst sgn lwT lwD rdT rdO lwK lwM twS twM twD rsO rsB rwA) H locs → lv_has ls 5 [(0, .ref (q 3)), (1, .int v1), (2, .int v2), (3, .int v3), (4, .int v4)] → W p l e { frames := 0, cells := 0, slots := 0, locals := 0 } s m args below meth cd H locs 0 0 Z (F0 m 7 ls []) := by
    intro v1 v2
    refine Lp2.ind (fun rec hrec v3 v4 hp H locs ls ho hl => ?_)
    unfold p_Si_nextDay_L7 at hp
    refine lv_iload hx hb dX6_nextDay_7 (lv_at hl 4 rfl) ?_
    refine lv_aload_n hx hb dX6_nextDay_9 rfl (lv_at hl 0 rfl) ?_
    refine o_get (ci := 6) (T := TX6) hx hb hts hinX6 hown ho 3 rfl rfl 2 (by decide) hf9 rfl dX6_nextDay_10 ?_
    refine lv_icmp_ge (tgt := 63) hx hb dX6_nextDay_13 (by decide) (fun c_13 => ?_) (fun c_13 => ?_)
    · replace hp := hp.1 c_13
      refine lv_iload_n hx hb dX6_nextDay_63 rfl (lv_at hl 3 rfl) ?_
      exact hret v3 () _ _ _ _ dX6_nextDay_64 ho hp
    · replace hp := hp.2 c_13
      refine lv_aload_n hx hb dX6_nextDay_16 rfl (lv_at hl 0 rfl) ?_
      refine o_get (ci := 6) (T := TX6) hx hb hts hinX6 hown ho 3 rfl rfl 0 (by decide) hf21 rfl dX6_nextDay_17 ?_
      refine lv_iload hx hb dX6_nextDay_20 (lv_at hl 4 rfl) ?_
      refine o_ild hx hb ho 4 1 rfl rfl hp.1 dX6_nextDay_22 ?_
      replace hp := hp.2
      refine lv_iload_n hx hb dX6_nextDay_23 rfl (lv_at hl 1 rfl) ?_
      refine lv_icmp_ne (tgt := 57) hx hb dX6_nextDay_24 (by decide) (fun c_24 => ?_) (fun c_24 => ?_)
      · replace hp := hp.2 c_24
        obtain ⟨x57, e_x57⟩ : ∃ y : Int32, y = v4 + 1 := ⟨_, rfl⟩
        replace hp := hp x57 e_x57
        refine lv_iinc (v := x57) (lv' := [(4, .int x57), (0, .ref (q 3)), (1, .int v1), (2, .int v2), (3, .int v3)]) hx hb dX6_nextDay_57 hl (k := 4) rfl (by rw [e_x57]; rfl) (by decide) rfl (fun ls hl => ?_)
        refine lv_goto (tgt := 7) hx hb dX6_nextDay_60 (by decide) ?_
        exact hrec v3 x57 hp _ _ _ ho (lv_sub hl [1, 2, 3, 4, 0] rfl)
      · replace hp := hp.1 c_24
        refine lv_aload_n hx hb dX6_nextDay_27 rfl (lv_at hl 0 rfl) ?_
        refine o_get (ci := 6) (T := TX6) hx hb hts hinX6 hown ho 3 rfl rfl 1 (by decide) hf25 rfl dX6_nextDay_28 ?_
        refine lv_iload hx hb dX6_nextDay_31 (lv_at hl 4 rfl) ?_
        refine o_ild hx hb ho 5 2 rfl rfl hp.1 dX6_nextDay_33 ?_
        replace hp := hp.2
        refine lv_iload_n hx hb dX6_nextDay_34 rfl (lv_at hl 2 rfl) ?_
        refine lv_icmp_le (tgt := 57) hx hb dX6_nextDay_35 (by decide) (fun c_35 => ?_) (fun c_35 => ?_)
        · replace hp := hp.1 c_35
          obtain ⟨x57, e_x57⟩ : ∃ y : Int32, y = v4 + 1 := ⟨_, rfl⟩
          replace hp := hp x57 e_x57
          refine lv_iinc (v := x57) (lv' := [(4, .int x57), (0, .ref (q 3)), (1, .int v1), (2, .int v2), (3, .int v3)]) hx hb dX6_nextDay_57 hl (k := 4) rfl (by rw [e_x57]; rfl) (by decide) rfl (fun ls hl => ?_)
          refine lv_goto (tgt := 7) hx hb dX6_nextDay_60 (by decide) ?_
          exact hrec v3 x57 hp _ _ _ ho (lv_sub hl [1, 2, 3, 4, 0] rfl)
        · replace hp := hp.2 c_35
          refine lv_aload_n hx hb dX6_nextDay_38 rfl (lv_at hl 0 rfl) ?_
          refine o_get (ci := 6) (T := TX6) hx hb hts hinX6 hown ho 3 rfl rfl 1 (by decide) hf25 rfl dX6_nextDay_39 ?_
          refine lv_iload hx hb dX6_nextDay_42 (lv_at hl 4 rfl) ?_
          refine o_ild hx hb ho 5 2 rfl rfl hp.1 dX6_nextDay_44 ?_
          replace hp := hp.2
          refine lv_iload_n hx hb dX6_nextDay_45 rfl (lv_at hl 3 rfl) ?_
          refine lv_icmp_ge (tgt := 57) hx hb dX6_nextDay_46 (by decide) (fun c_46 => ?_) (fun c_46 => ?_)
          · replace hp := hp.1 c_46
            obtain ⟨x57, e_x57⟩ : ∃ y : Int32, y = v4 + 1 := ⟨_, rfl⟩
            replace hp := hp x57 e_x57
            refine lv_iinc (v := x57) (lv' := [(4, .int x57), (0, .ref (q 3)), (1, .int v1), (2, .int v2), (3, .int v3)]) hx hb dX6_nextDay_57 hl (k := 4) rfl (by rw [e_x57]; rfl) (by decide) rfl (fun ls hl => ?_)
            refine lv_goto (tgt := 7) hx hb dX6_nextDay_60 (by decide) ?_
            exact hrec v3 x57 hp _ _ _ ho (lv_sub hl [1, 2, 3, 4, 0] rfl)
          · replace hp := hp.2 c_46
            refine lv_aload_n hx hb dX6_nextDay_49 rfl (lv_at hl 0 rfl) ?_
            refine o_get (ci := 6) (T := TX6) hx hb hts hinX6 hown ho 3 rfl rfl 1 (by decide) hf25 rfl dX6_nextDay_50 ?_
            refine lv_iload hx hb dX6_nextDay_53 (lv_at hl 4 rfl) ?_
            refine o_ild hx hb ho 5 2 rfl rfl hp.1 dX6_nextDay_55 ?_
            replace hp := hp.2
            refine lv_topi (fun x56 e_x56 => ?_)
            replace hp := hp x56 e_x56
            refine lv_istore_n (lv' := [(3, .int x56), (0, .ref (q 3)), (1, .int v1), (2, .int v2), (4, .int v4)]) hx hb dX6_nextDay_56 rfl hl (by decide) rfl (fun ls hl => ?_)
            obtain ⟨x57, e_x57⟩ : ∃ y : Int32, y = v4 + 1 := ⟨_, rfl⟩
            replace hp := hp x57 e_x57
            refine lv_iinc (v := x57) (lv' := [(4, .int x57), (3, .int x56), (0, .ref (q 3)), (1, .int v1), (2, .int v2)]) hx hb dX6_nextDay_57 hl (k := 4) rfl (by rw [e_x57]; rfl) (by decide) rfl (fun ls hl => ?_)
            refine lv_goto (tgt := 7) hx hb dX6_nextDay_60 (by decide) ?_
            exact hrec x56 x57 hp _ _ _ ho (lv_sub hl [2, 3, 4, 1, 0] rfl)
  refine lv_sipush (v := 400) hx hb dX6_nextDay_0 (by decide) ?_
  refine lv_istore_n (lv' := [(3, .int 400), (0, .ref (q 3)), (1, .int v1), (2, .int v2)]) hx hb dX6_nextDay_3 rfl hl (by decide) rfl (fun ls hl => ?_)
  refine lv_iconst (v := 0) hx hb dX6_nextDay_4 (by decide) ?_
  refine lv_istore (lv' := [(4, .int 0), (3, .int 400), (0, .ref (q 3)), (1, .int v1), (2, .int v2)]) hx hb dX6_nextDay_5 hl (by decide) rfl (fun ls hl => ?_)
  exact hL7 v1 v2 400 0 hp _ _ _ ho (lv_sub hl [2, 3, 4, 1, 0] rfl)
set_option maxHeartbeats 4000000 in
set_option maxRecDepth 100000 in
theorem c_Si_nextDayOfAny_c (l : Launch) (D : va_G) (q : Nat → Nat) (c : Nat → ClassId) (tnN : Int32) (ckN : Int32) (stN : Int32) (trN : Int32) (dsT : Int32) (dsC : Int32) (tpN : Int32) (lwN : Int32) (rdS : Int32) (rdM : Int32) (rdE : Int32) (rdD : Int32) (twN : Int32) (rsW : Int32) (rsE : Int32) (rwN : Int32) (suns : Nat → Int32) (ckT : Nat → Int32) (ckD : Nat → Int32) (shf : Nat → Int32) (lnT : Nat → Int32) (ways : Nat → Int32) (ups : Nat → Int32) (sts : Nat → Int32) (sty : Nat → Int32) (dly : Nat → Int32) (gAp : Nat → Nat → Int32) (gOp : Nat → Nat → Int32) (stp : Nat → Int32) (bst : Nat → Int32) (sgn : Nat → Int32) (lwT : Nat → Int32) (lwD : Nat → Int32) (rdT : Nat → Int32) (rdO : Nat → Int32) (lwK : Nat → Int32) (lwM : Nat → Int32) (twS : Nat → Int32) (twM : Nat → Int32) (twD : Nat → Int32) (rsO : Nat → Int32) (rsB : Nat → Int32) (rwA : Nat → Int32) (v1 : Int32) (Q : Int32 → Prop) (hp : p_Si_nextDayOfAny 60 ckN ckD v1 Q) : oKi l yX6_nextDayOfAny wsX6_nextDayOfAny { frames := 0, cells := 0, slots := 0, locals := 0 } [.ref (q 3), .int v1] D (oT c) (wO q c tnN ckN stN trN dsT dsC tpN lwN rdS rdM rdE rdD twN rsW rsE rwN suns ckT ckD shf lnT ways ups sts sty dly gAp gOp stp bst sgn lwT lwD rdT rdO lwK lwM twS twM twD rsO rsB rwA) (Unit) (fun r (_ : Unit) => Q r) (fun _ => wO q c tnN ckN stN trN dsT dsC tpN lwN rdS rdM rdE rdD twN rsW rsE rwN suns ckT ckD shf lnT ways ups sts sty dly gAp gOp stp bst sgn lwT lwD rdT rdO lwK lwM twS twM twD rsO rsB rwA) := by
  refine oKi.ofW (own := RX6) (cc := cX6_nextDayOfAny) (maxL := 4) (plainFor_of_name (by decide +kernel)) rfl rfl (Nat.le_of_ble_eq_true rfl) (fun p e s m args below meth cd A ls Z hx hb hml hown hts hret ho hl => ?_)
  replace hl : lv_has ls 4 [(0, .ref (q 3)), (1, .int v1)] := hl
  have hinX6 : ∀ w ∈ u_ws RX6 TX6 3, w ∈ wsX6_nextDayOfAny := by decide +kernel
  have hf9 := hts (.fieldLink RX6 9 "OneTime$Since" "size" "I") (by decide +kernel)
  have hf25 := hts (.fieldLink RX6 25 "OneTime$Since" "fromDays" "[I") (by decide +kernel)
  unfold p_Si_nextDayOfAny at hp
  have hL6 : ∀ (v1 : Int32) (v2 : Int32) (v3 : Int32), Lp2 (p_Si_nextDayOfAny_L6 60 ckN ckD v1 Q) v2 v3 → ∀ (H : Heap) (locs : List Loc) (ls : Array Slot), oW D (oT c) A s.heap s (wO q c tnN ckN stN trN dsT dsC tpN lwN rdS rdM rdE rdD twN rsW rsE rwN suns ckT ckD shf lnT ways ups sts sty dly gAp gOp stp bst sgn lwT lwD rdT rdO lwK lwM twS twM twD rsO rsB rwA) H locs → lv_has ls 4 [(0, .ref (q 3)), (1, .int v1), (2, .int v2), (3, .int v3)] → W p l e { frames := 0, cells := 0, slots := 0, locals := 0 } s m args below meth cd H locs 0 0 Z (F0 m 6 ls []) := by
    intro v1
    refine Lp2.ind (fun rec hrec v2 v3 hp H locs ls ho hl => ?_)
    unfold p_Si_nextDayOfAny_L6 at hp
    refine lv_iload_n hx hb dX6_nextDayOfAny_6 rfl (lv_at hl 3 rfl) ?_
    refine lv_aload_n hx hb dX6_nextDayOfAny_7 rfl (lv_at hl 0 rfl) ?_
    refine o_get (ci := 6) (T := TX6) hx hb hts hinX6 hown ho 3 rfl rfl 2 (by decide) hf9 rfl dX6_nextDayOfAny_8 ?_
    refine lv_icmp_ge (tgt := 47) hx hb dX6_nextDayOfAny_11 (by decide) (fun c_11 => ?_) (fun c_11 => ?_)
    · replace hp := hp.1 c_11
      refine lv_iload_n hx hb dX6_nextDayOfAny_47 rfl (lv_at hl 2 rfl) ?_
      exact hret v2 () _ _ _ _ dX6_nextDayOfAny_48 ho hp
    · replace hp := hp.2 c_11
      refine lv_aload_n hx hb dX6_nextDayOfAny_14 rfl (lv_at hl 0 rfl) ?_
      refine o_get (ci := 6) (T := TX6) hx hb hts hinX6 hown ho 3 rfl rfl 1 (by decide) hf25 rfl dX6_nextDayOfAny_15 ?_
      refine lv_iload_n hx hb dX6_nextDayOfAny_18 rfl (lv_at hl 3 rfl) ?_
      refine o_ild hx hb ho 5 2 rfl rfl hp.1 dX6_nextDayOfAny_19 ?_
      replace hp := hp.2
      refine lv_iload_n hx hb dX6_nextDayOfAny_20 rfl (lv_at hl 1 rfl) ?_
      refine lv_icmp_le (tgt := 41) hx hb dX6_nextDayOfAny_21 (by decide) (fun c_21 => ?_) (fun c_21 => ?_)
      · replace hp := hp.1 c_21
        obtain ⟨x41, e_x41⟩ : ∃ y : Int32, y = v3 + 1 := ⟨_, rfl⟩
        replace hp := hp x41 e_x41
        refine lv_iinc (v := x41) (lv' := [(3, .int x41), (0, .ref (q 3)), (1, .int v1), (2, .int v2)]) hx hb dX6_nextDayOfAny_41 hl (k := 3) rfl (by rw [e_x41]; rfl) (by decide) rfl (fun ls hl => ?_)
        refine lv_goto (tgt := 6) hx hb dX6_nextDayOfAny_44 (by decide) ?_
        exact hrec v2 x41 hp _ _ _ ho (lv_sub hl [1, 2, 3, 0] rfl)
      · replace hp := hp.2 c_21
        refine lv_aload_n hx hb dX6_nextDayOfAny_24 rfl (lv_at hl 0 rfl) ?_
        refine o_get (ci := 6) (T := TX6) hx hb hts hinX6 hown ho 3 rfl rfl 1 (by decide) hf25 rfl dX6_nextDayOfAny_25 ?_
        refine lv_iload_n hx hb dX6_nextDayOfAny_28 rfl (lv_at hl 3 rfl) ?_
        refine o_ild hx hb ho 5 2 rfl rfl hp.1 dX6_nextDayOfAny_29 ?_
        replace hp := hp.2
        refine lv_iload_n hx hb dX6_nextDayOfAny_30 rfl (lv_at hl 2 rfl) ?_
        refine lv_icmp_ge (tgt := 41) hx hb dX6_nextDayOfAny_31 (by decide) (fun c_31 => ?_) (fun c_31 => ?_)
        · replace hp := hp.1 c_31
          obtain ⟨x41, e_x41⟩ : ∃ y : Int32, y = v3 + 1 := ⟨_, rfl⟩
          replace hp := hp x41 e_x41
          refine lv_iinc (v := x41) (lv' := [(3, .int x41), (0, .ref (q 3)), (1, .int v1), (2, .int v2)]) hx hb dX6_nextDayOfAny_41 hl (k := 3) rfl (by rw [e_x41]; rfl) (by decide) rfl (fun ls hl => ?_)
          refine lv_goto (tgt := 6) hx hb dX6_nextDayOfAny_44 (by decide) ?_
          exact hrec v2 x41 hp _ _ _ ho (lv_sub hl [1, 2, 3, 0] rfl)
        · replace hp := hp.2 c_31
          refine lv_aload_n hx hb dX6_nextDayOfAny_34 rfl (lv_at hl 0 rfl) ?_
          refine o_get (ci := 6) (T := TX6) hx hb hts hinX6 hown ho 3 rfl rfl 1 (by decide) hf25 rfl dX6_nextDayOfAny_35 ?_
          refine lv_iload_n hx hb dX6_nextDayOfAny_38 rfl (lv_at hl 3 rfl) ?_
          refine o_ild hx hb ho 5 2 rfl rfl hp.1 dX6_nextDayOfAny_39 ?_
          replace hp := hp.2
          refine lv_topi (fun x40 e_x40 => ?_)
          replace hp := hp x40 e_x40
          refine lv_istore_n (lv' := [(2, .int x40), (0, .ref (q 3)), (1, .int v1), (3, .int v3)]) hx hb dX6_nextDayOfAny_40 rfl hl (by decide) rfl (fun ls hl => ?_)
          obtain ⟨x41, e_x41⟩ : ∃ y : Int32, y = v3 + 1 := ⟨_, rfl⟩
          replace hp := hp x41 e_x41
          refine lv_iinc (v := x41) (lv' := [(3, .int x41), (2, .int x40), (0, .ref (q 3)), (1, .int v1)]) hx hb dX6_nextDayOfAny_41 hl (k := 3) rfl (by rw [e_x41]; rfl) (by decide) rfl (fun ls hl => ?_)
          refine lv_goto (tgt := 6) hx hb dX6_nextDayOfAny_44 (by decide) ?_
          exact hrec x40 x41 hp _ _ _ ho (lv_sub hl [2, 3, 1, 0] rfl)
  refine lv_sipush (v := 400) hx hb dX6_nextDayOfAny_0 (by decide) ?_
  refine lv_istore_n (lv' := [(2, .int 400), (0, .ref (q 3)), (1, .int v1)]) hx hb dX6_nextDayOfAny_3 rfl hl (by decide) rfl (fun ls hl => ?_)
  refine lv_iconst (v := 0) hx hb dX6_nextDayOfAny_4 (by decide) ?_
  refine lv_istore_n (lv' := [(3, .int 0), (2, .int 400), (0, .ref (q 3)), (1, .int v1)]) hx hb dX6_nextDayOfAny_5 rfl hl (by decide) rfl (fun ls hl => ?_)
  exact hL6 v1 400 0 hp _ _ _ ho (lv_sub hl [2, 3, 1, 0] rfl)
set_option maxHeartbeats 4000000 in
set_option maxRecDepth 100000 in
theorem c_O_isTimeOfDay (l : Launch) (D : va_G) (tys : List (ClassId × FieldType)) (ws : va_W)  (v0 : Int32) (Q : Int32 → Prop) (hp : p_O_isTimeOfDay v0 Q) : oKi l yX10_isTimeOfDay wsX10_isTimeOfDay { frames := 0, cells := 0, slots := 0, locals := 0 } [.int v0] D tys ws (Unit) (fun r (_ : Unit) => Q r) (fun _ => ws) := by
  refine oKi.ofWz (own := RX10) (cc := cX10_isTimeOfDay) (maxL := 1) (plainFor_of_name (by decide +kernel)) rfl rfl (Nat.le_of_ble_eq_true rfl) (fun p e s m args below meth cd A ls Z hx hb hml hown hts hret ho hl => ?_)
  replace hl : lv_has ls 1 [(0, .int v0)] := hl
  unfold p_O_isTimeOfDay at hp
  refine lv_iload_n hx hb dX10_isTimeOfDay_0 rfl (lv_at hl 0 rfl) ?_
  refine lv_if_lt (tgt := 15) hx hb dX10_isTimeOfDay_1 (by decide) (fun c_1 => ?_) (fun c_1 => ?_)
  · replace hp := hp.1 c_1
    refine lv_iconst (v := 0) hx hb dX10_isTimeOfDay_15 (by decide) ?_
    exact hret 0 () _ _ _ _ dX10_isTimeOfDay_16 (Or.inl rfl) ho hp
  · replace hp := hp.2 c_1
    refine lv_iload_n hx hb dX10_isTimeOfDay_4 rfl (lv_at hl 0 rfl) ?_
    refine lv_sipush (v := 1440) hx hb dX10_isTimeOfDay_5 (by decide) ?_
    refine lv_icmp_ge (tgt := 15) hx hb dX10_isTimeOfDay_8 (by decide) (fun c_8 => ?_) (fun c_8 => ?_)
    · replace hp := hp.1 c_8
      refine lv_iconst (v := 0) hx hb dX10_isTimeOfDay_15 (by decide) ?_
      exact hret 0 () _ _ _ _ dX10_isTimeOfDay_16 (Or.inl rfl) ho hp
    · replace hp := hp.2 c_8
      refine lv_iconst (v := 1) hx hb dX10_isTimeOfDay_11 (by decide) ?_
      refine lv_goto (tgt := 16) hx hb dX10_isTimeOfDay_12 (by decide) ?_
      exact hret 1 () _ _ _ _ dX10_isTimeOfDay_16 (Or.inr rfl) ho hp
set_option maxHeartbeats 4000000 in
set_option maxRecDepth 100000 in
theorem c_Ji_bitCount (l : Launch) (D : va_G) (tys : List (ClassId × FieldType)) (ws : va_W)  (v0 : Int32) (Q : Int32 → Prop) (hp : p_Ji_bitCount v0 Q) : oKi l yJ6_bitCount_0f7a4 wsJ6_bitCount_0f7a4 { frames := 0, cells := 0, slots := 0, locals := 0 } [.int v0] D tys ws (Unit) (fun r (_ : Unit) => Q r) (fun _ => ws) := by
  refine oKi.ofW (own := RJ6) (cc := cJ6_bitCount_0f7a4) (maxL := 1) (by decide +kernel) rfl rfl (Nat.le_of_ble_eq_true rfl) (fun p e s m args below meth cd A ls Z hx hb hml hown hts hret ho hl => ?_)
  replace hl : lv_has ls 1 [(0, .int v0)] := hl
  have hk265 := hts (.constant RJ6 265 1431655765) (by decide +kernel)
  have hk266 := hts (.constant RJ6 266 858993459) (by decide +kernel)
  have hk267 := hts (.constant RJ6 267 252645135) (by decide +kernel)
  unfold p_Ji_bitCount at hp
  refine lv_iload_n hx hb dJ6_bitCount_0f7a4_0 rfl (lv_at hl 0 rfl) ?_
  refine lv_iload_n hx hb dJ6_bitCount_0f7a4_1 rfl (lv_at hl 0 rfl) ?_
  refine lv_iconst (v := 1) hx hb dJ6_bitCount_0f7a4_2 (by decide) ?_
  refine lv_iushr (v := (((v0).toUInt32 >>> ((1 : Int32).toUInt32 &&& Int32.toUInt32 31)).toInt32)) hx hb dJ6_bitCount_0f7a4_3 rfl ?_
  refine lv_ldcw (v := 1431655765) hx hb hown hk265 dJ6_bitCount_0f7a4_4 ?_
  refine lv_iand hx hb dJ6_bitCount_0f7a4_7 ?_
  refine lv_isub hx hb dJ6_bitCount_0f7a4_8 ?_
  refine lv_topi (fun x9 e_x9 => ?_)
  replace hp := hp x9 e_x9
  refine lv_istore_n (lv' := [(0, .int x9)]) hx hb dJ6_bitCount_0f7a4_9 rfl hl (by decide) rfl (fun ls hl => ?_)
  refine lv_iload_n hx hb dJ6_bitCount_0f7a4_10 rfl (lv_at hl 0 rfl) ?_
  refine lv_ldcw (v := 858993459) hx hb hown hk266 dJ6_bitCount_0f7a4_11 ?_
  refine lv_iand hx hb dJ6_bitCount_0f7a4_14 ?_
  refine lv_iload_n hx hb dJ6_bitCount_0f7a4_15 rfl (lv_at hl 0 rfl) ?_
  refine lv_iconst (v := 2) hx hb dJ6_bitCount_0f7a4_16 (by decide) ?_
  refine lv_iushr (v := (((x9).toUInt32 >>> ((2 : Int32).toUInt32 &&& Int32.toUInt32 31)).toInt32)) hx hb dJ6_bitCount_0f7a4_17 rfl ?_
  refine lv_ldcw (v := 858993459) hx hb hown hk266 dJ6_bitCount_0f7a4_18 ?_
  refine lv_iand hx hb dJ6_bitCount_0f7a4_21 ?_
  refine lv_iadd hx hb dJ6_bitCount_0f7a4_22 ?_
  refine lv_topi (fun x23 e_x23 => ?_)
  replace hp := hp x23 e_x23
  refine lv_istore_n (lv' := [(0, .int x23)]) hx hb dJ6_bitCount_0f7a4_23 rfl hl (by decide) rfl (fun ls hl => ?_)
  refine lv_iload_n hx hb dJ6_bitCount_0f7a4_24 rfl (lv_at hl 0 rfl) ?_
  refine lv_iload_n hx hb dJ6_bitCount_0f7a4_25 rfl (lv_at hl 0 rfl) ?_
  refine lv_iconst (v := 4) hx hb dJ6_bitCount_0f7a4_26 (by decide) ?_
  refine lv_iushr (v := (((x23).toUInt32 >>> ((4 : Int32).toUInt32 &&& Int32.toUInt32 31)).toInt32)) hx hb dJ6_bitCount_0f7a4_27 rfl ?_
  refine lv_iadd hx hb dJ6_bitCount_0f7a4_28 ?_
  refine lv_ldcw (v := 252645135) hx hb hown hk267 dJ6_bitCount_0f7a4_29 ?_
  refine lv_iand hx hb dJ6_bitCount_0f7a4_32 ?_
  refine lv_topi (fun x33 e_x33 => ?_)
  replace hp := hp x33 e_x33
  refine lv_istore_n (lv' := [(0, .int x33)]) hx hb dJ6_bitCount_0f7a4_33 rfl hl (by decide) rfl (fun ls hl => ?_)
  refine lv_iload_n hx hb dJ6_bitCount_0f7a4_34 rfl (lv_at hl 0 rfl) ?_
  refine lv_iload_n hx hb dJ6_bitCount_0f7a4_35 rfl (lv_at hl 0 rfl) ?_
  refine lv_bipush (v := 8) hx hb dJ6_bitCount_0f7a4_36 (by decide) ?_
  refine lv_iushr (v := (((x33).toUInt32 >>> ((8 : Int32).toUInt32 &&& Int32.toUInt32 31)).toInt32)) hx hb dJ6_bitCount_0f7a4_38 rfl ?_
  refine lv_iadd hx hb dJ6_bitCount_0f7a4_39 ?_
  refine lv_topi (fun x40 e_x40 => ?_)
  replace hp := hp x40 e_x40
  refine lv_istore_n (lv' := [(0, .int x40)]) hx hb dJ6_bitCount_0f7a4_40 rfl hl (by decide) rfl (fun ls hl => ?_)
  refine lv_iload_n hx hb dJ6_bitCount_0f7a4_41 rfl (lv_at hl 0 rfl) ?_
  refine lv_iload_n hx hb dJ6_bitCount_0f7a4_42 rfl (lv_at hl 0 rfl) ?_
  refine lv_bipush (v := 16) hx hb dJ6_bitCount_0f7a4_43 (by decide) ?_
  refine lv_iushr (v := (((x40).toUInt32 >>> ((16 : Int32).toUInt32 &&& Int32.toUInt32 31)).toInt32)) hx hb dJ6_bitCount_0f7a4_45 rfl ?_
  refine lv_iadd hx hb dJ6_bitCount_0f7a4_46 ?_
  refine lv_topi (fun x47 e_x47 => ?_)
  replace hp := hp x47 e_x47
  refine lv_istore_n (lv' := [(0, .int x47)]) hx hb dJ6_bitCount_0f7a4_47 rfl hl (by decide) rfl (fun ls hl => ?_)
  refine lv_iload_n hx hb dJ6_bitCount_0f7a4_48 rfl (lv_at hl 0 rfl) ?_
  refine lv_bipush (v := 63) hx hb dJ6_bitCount_0f7a4_49 (by decide) ?_
  refine lv_iand hx hb dJ6_bitCount_0f7a4_51 ?_
  exact hret (x47 &&& 63) () _ _ _ _ dJ6_bitCount_0f7a4_52 ho hp
set_option maxHeartbeats 4000000 in
set_option maxRecDepth 100000 in
theorem c_Si_isFull_l (l : Launch) (D : va_G) (q : Nat → Nat) (c : Nat → ClassId) (tnN : Int32) (ckN : Int32) (stN : Int32) (trN : Int32) (dsT : Int32) (dsC : Int32) (tpN : Int32) (lwN : Int32) (rdS : Int32) (rdM : Int32) (rdE : Int32) (rdD : Int32) (twN : Int32) (rsW : Int32) (rsE : Int32) (rwN : Int32) (suns : Nat → Int32) (ckT : Nat → Int32) (ckD : Nat → Int32) (shf : Nat → Int32) (lnT : Nat → Int32) (ways : Nat → Int32) (ups : Nat → Int32) (sts : Nat → Int32) (sty : Nat → Int32) (dly : Nat → Int32) (gAp : Nat → Nat → Int32) (gOp : Nat → Nat → Int32) (stp : Nat → Int32) (bst : Nat → Int32) (sgn : Nat → Int32) (lwT : Nat → Int32) (lwD : Nat → Int32) (rdT : Nat → Int32) (rdO : Nat → Int32) (lwK : Nat → Int32) (lwM : Nat → Int32) (twS : Nat → Int32) (twM : Nat → Int32) (twD : Nat → Int32) (rsO : Nat → Int32) (rsB : Nat → Int32) (rwA : Nat → Int32)  (Q : Int32 → Prop) (hp : p_Si_isFull 20 lwN Q) : oKi l yX6_isFull wsX6_isFull { frames := 0, cells := 0, slots := 0, locals := 0 } [.ref (q 35)] D (oT c) (wO q c tnN ckN stN trN dsT dsC tpN lwN rdS rdM rdE rdD twN rsW rsE rwN suns ckT ckD shf lnT ways ups sts sty dly gAp gOp stp bst sgn lwT lwD rdT rdO lwK lwM twS twM twD rsO rsB rwA) (Unit) (fun r (_ : Unit) => Q r) (fun _ => wO q c tnN ckN stN trN dsT dsC tpN lwN rdS rdM rdE rdD twN rsW rsE rwN suns ckT ckD shf lnT ways ups sts sty dly gAp gOp stp bst sgn lwT lwD rdT rdO lwK lwM twS twM twD rsO rsB rwA) := by
  refine oKi.ofWz (own := RX6) (cc := cX6_isFull) (maxL := 1) (plainFor_of_name (by decide +kernel)) rfl rfl (Nat.le_of_ble_eq_true rfl) (fun p e s m args below meth cd A ls Z hx hb hml hown hts hret ho hl => ?_)
  replace hl : lv_has ls 1 [(0, .ref (q 35))] := hl
  have hinX6 : ∀ w ∈ u_ws RX6 TX6 3, w ∈ wsX6_isFull := by decide +kernel
  have hf9 := hts (.fieldLink RX6 9 "OneTime$Since" "size" "I") (by decide +kernel)
  have hf21 := hts (.fieldLink RX6 21 "OneTime$Since" "ofTowns" "[I") (by decide +kernel)
  unfold p_Si_isFull at hp
  refine lv_aload_n hx hb dX6_isFull_0 rfl (lv_at hl 0 rfl) ?_
  refine o_get (ci := 6) (T := TX6) hx hb hts hinX6 hown ho 35 rfl rfl 2 (by decide) hf9 rfl dX6_isFull_1 ?_
  refine lv_aload_n hx hb dX6_isFull_4 rfl (lv_at hl 0 rfl) ?_
  refine o_get (ci := 6) (T := TX6) hx hb hts hinX6 hown ho 35 rfl rfl 0 (by decide) hf21 rfl dX6_isFull_5 ?_
  refine o_len (v := (Int32.ofNat 20)) hx hb ho 36 17 rfl rfl rfl dX6_isFull_8 ?_
  refine lv_icmp_lt (tgt := 16) hx hb dX6_isFull_9 (by decide) (fun c_9 => ?_) (fun c_9 => ?_)
  · replace hp := hp.1 c_9
    refine lv_iconst (v := 0) hx hb dX6_isFull_16 (by decide) ?_
    exact hret 0 () _ _ _ _ dX6_isFull_17 (Or.inl rfl) ho hp
  · replace hp := hp.2 c_9
    refine lv_iconst (v := 1) hx hb dX6_isFull_12 (by decide) ?_
    refine lv_goto (tgt := 17) hx hb dX6_isFull_13 (by decide) ?_
    exact hret 1 () _ _ _ _ dX6_isFull_17 (Or.inr rfl) ho hp
set_option maxHeartbeats 4000000 in
set_option maxRecDepth 100000 in
theorem c_O_isMatter (l : Launch) (D : va_G) (tys : List (ClassId × FieldType)) (ws : va_W)  (v0 : Int32) (Q : Int32 → Prop) (hp : p_O_isMatter v0 Q) : oKi l yX10_isMatter wsX10_isMatter { frames := 0, cells := 0, slots := 0, locals := 0 } [.int v0] D tys ws (Unit) (fun r (_ : Unit) => Q r) (fun _ => ws) := by
  refine oKi.ofWz (own := RX10) (cc := cX10_isMatter) (maxL := 1) (plainFor_of_name (by decide +kernel)) rfl rfl (Nat.le_of_ble_eq_true rfl) (fun p e s m args below meth cd A ls Z hx hb hml hown hts hret ho hl => ?_)
  replace hl : lv_has ls 1 [(0, .int v0)] := hl
  unfold p_O_isMatter at hp
  refine lv_iload_n hx hb dX10_isMatter_0 rfl (lv_at hl 0 rfl) ?_
  refine lv_if_lt (tgt := 14) hx hb dX10_isMatter_1 (by decide) (fun c_1 => ?_) (fun c_1 => ?_)
  · replace hp := hp.1 c_1
    refine lv_iconst (v := 0) hx hb dX10_isMatter_14 (by decide) ?_
    exact hret 0 () _ _ _ _ dX10_isMatter_15 (Or.inl rfl) ho hp
  · replace hp := hp.2 c_1
    refine lv_iload_n hx hb dX10_isMatter_4 rfl (lv_at hl 0 rfl) ?_
    refine lv_bipush (v := 6) hx hb dX10_isMatter_5 (by decide) ?_
    refine lv_icmp_ge (tgt := 14) hx hb dX10_isMatter_7 (by decide) (fun c_7 => ?_) (fun c_7 => ?_)
    · replace hp := hp.1 c_7
      refine lv_iconst (v := 0) hx hb dX10_isMatter_14 (by decide) ?_
      exact hret 0 () _ _ _ _ dX10_isMatter_15 (Or.inl rfl) ho hp
    · replace hp := hp.2 c_7
      refine lv_iconst (v := 1) hx hb dX10_isMatter_10 (by decide) ?_
      refine lv_goto (tgt := 15) hx hb dX10_isMatter_11 (by decide) ?_
      exact hret 1 () _ _ _ _ dX10_isMatter_15 (Or.inr rfl) ho hp
set_option maxHeartbeats 4000000 in
set_option maxRecDepth 100000 in
theorem c_Si_add_l (l : Launch) (D : va_G) (q : Nat → Nat) (c : Nat → ClassId) (tnN : Int32) (ckN : Int32) (stN : Int32) (trN : Int32) (dsT : Int32) (dsC : Int32) (tpN : Int32) (lwN : Int32) (rdS : Int32) (rdM : Int32) (rdE : Int32) (rdD : Int32) (twN : Int32) (rsW : Int32) (rsE : Int32) (rwN : Int32) (suns : Nat → Int32) (ckT : Nat → Int32) (ckD : Nat → Int32) (shf : Nat → Int32) (lnT : Nat → Int32) (ways : Nat → Int32) (ups : Nat → Int32) (sts : Nat → Int32) (sty : Nat → Int32) (dly : Nat → Int32) (gAp : Nat → Nat → Int32) (gOp : Nat → Nat → Int32) (stp : Nat → Int32) (bst : Nat → Int32) (sgn : Nat → Int32) (lwT : Nat → Int32) (lwD : Nat → Int32) (rdT : Nat → Int32) (rdO : Nat → Int32) (lwK : Nat → Int32) (lwM : Nat → Int32) (twS : Nat → Int32) (twM : Nat → Int32) (twD : Nat → Int32) (rsO : Nat → Int32) (rsB : Nat → Int32) (rwA : Nat → Int32) (v1 : Int32) (v2 : Int32) (Q : Int32 → (Nat → Int32) → (Nat → Int32) → Prop) (hp : p_Si_add 20 lwN lwT lwD v1 v2 Q) : oKv l yX6_add wsX6_add { frames := 0, cells := 0, slots := 0, locals := 0 } [.ref (q 35), .int v1, .int v2] D (oT c) (wO q c tnN ckN stN trN dsT dsC tpN lwN rdS rdM rdE rdD twN rsW rsE rwN suns ckT ckD shf lnT ways ups sts sty dly gAp gOp stp bst sgn lwT lwD rdT rdO lwK lwM twS twM twD rsO rsB rwA) (Int32 × (Nat → Int32) × (Nat → Int32)) (fun (u : Int32 × (Nat → Int32) × (Nat → Int32)) => Q u.1 u.2.1 u.2.2) (fun u => wO q c tnN ckN stN trN dsT dsC tpN u.1 rdS rdM rdE rdD twN rsW rsE rwN suns ckT ckD shf lnT ways ups sts sty dly gAp gOp stp bst sgn u.2.1 u.2.2 rdT rdO lwK lwM twS twM twD rsO rsB rwA) := by
  refine oKv.ofW (own := RX6) (cc := cX6_add) (maxL := 3) (plainFor_of_name (by decide +kernel)) rfl rfl (Nat.le_of_ble_eq_true rfl) (fun p e s m args below meth cd A ls Z hx hb hml hown hts hret ho hl => ?_)
  replace hl : lv_has ls 3 [(0, .ref (q 35)), (1, .int v1), (2, .int v2)] := hl
  have hinX6 : ∀ w ∈ u_ws RX6 TX6 3, w ∈ wsX6_add := by decide +kernel
  have hf9 := hts (.fieldLink RX6 9 "OneTime$Since" "size" "I") (by decide +kernel)
  have hf21 := hts (.fieldLink RX6 21 "OneTime$Since" "ofTowns" "[I") (by decide +kernel)
  have hf25 := hts (.fieldLink RX6 25 "OneTime$Since" "fromDays" "[I") (by decide +kernel)
  unfold p_Si_add at hp
  refine lv_aload_n hx hb dX6_add_0 rfl (lv_at hl 0 rfl) ?_
  refine o_get (ci := 6) (T := TX6) hx hb hts hinX6 hown ho 35 rfl rfl 2 (by decide) hf9 rfl dX6_add_1 ?_
  refine lv_aload_n hx hb dX6_add_4 rfl (lv_at hl 0 rfl) ?_
  refine o_get (ci := 6) (T := TX6) hx hb hts hinX6 hown ho 35 rfl rfl 0 (by decide) hf21 rfl dX6_add_5 ?_
  refine o_len (v := (Int32.ofNat 20)) hx hb ho 36 17 rfl rfl rfl dX6_add_8 ?_
  refine lv_icmp_ge (tgt := 54) hx hb dX6_add_9 (by decide) (fun c_9 => ?_) (fun c_9 => ?_)
  · replace hp := hp.1 c_9
    exact hret (lwN, lwT, lwD) _ _ _ _ dX6_add_54 ho hp
  · replace hp := hp.2 c_9
    refine lv_aload_n hx hb dX6_add_12 rfl (lv_at hl 0 rfl) ?_
    refine o_get (ci := 6) (T := TX6) hx hb hts hinX6 hown ho 35 rfl rfl 2 (by decide) hf9 rfl dX6_add_13 ?_
    refine lv_aload_n hx hb dX6_add_16 rfl (lv_at hl 0 rfl) ?_
    refine o_get (ci := 6) (T := TX6) hx hb hts hinX6 hown ho 35 rfl rfl 1 (by decide) hf25 rfl dX6_add_17 ?_
    refine o_len (v := (Int32.ofNat 20)) hx hb ho 37 18 rfl rfl rfl dX6_add_20 ?_
    refine lv_icmp_ge (tgt := 54) hx hb dX6_add_21 (by decide) (fun c_21 => ?_) (fun c_21 => ?_)
    · replace hp := hp.1 c_21
      exact hret (lwN, lwT, lwD) _ _ _ _ dX6_add_54 ho hp
    · replace hp := hp.2 c_21
      refine lv_aload_n hx hb dX6_add_24 rfl (lv_at hl 0 rfl) ?_
      refine o_get (ci := 6) (T := TX6) hx hb hts hinX6 hown ho 35 rfl rfl 0 (by decide) hf21 rfl dX6_add_25 ?_
      refine lv_aload_n hx hb dX6_add_28 rfl (lv_at hl 0 rfl) ?_
      refine o_get (ci := 6) (T := TX6) hx hb hts hinX6 hown ho 35 rfl rfl 2 (by decide) hf9 rfl dX6_add_29 ?_
      refine lv_iload_n hx hb dX6_add_32 rfl (lv_at hl 1 rfl) ?_
      refine o_ist hx hb ho 36 17 rfl rfl hp.1 dX6_add_33 (fun H locs ho => ?_)
      replace hp := hp.2
      replace ho : oW D (oT c) A s.heap s (wO q c tnN ckN stN trN dsT dsC tpN lwN rdS rdM rdE rdD twN rsW rsE rwN suns ckT ckD shf lnT ways ups sts sty dly gAp gOp stp bst sgn (upd lwT lwN.toNatClampNeg v1) lwD rdT rdO lwK lwM twS twM twD rsO rsB rwA) H locs := ho
      refine lv_aload_n hx hb dX6_add_34 rfl (lv_at hl 0 rfl) ?_
      refine o_get (ci := 6) (T := TX6) hx hb hts hinX6 hown ho 35 rfl rfl 1 (by decide) hf25 rfl dX6_add_35 ?_
      refine lv_aload_n hx hb dX6_add_38 rfl (lv_at hl 0 rfl) ?_
      refine o_get (ci := 6) (T := TX6) hx hb hts hinX6 hown ho 35 rfl rfl 2 (by decide) hf9 rfl dX6_add_39 ?_
      refine lv_iload_n hx hb dX6_add_42 rfl (lv_at hl 2 rfl) ?_
      refine o_ist hx hb ho 37 18 rfl rfl hp.1 dX6_add_43 (fun H locs ho => ?_)
      replace hp := hp.2
      replace ho : oW D (oT c) A s.heap s (wO q c tnN ckN stN trN dsT dsC tpN lwN rdS rdM rdE rdD twN rsW rsE rwN suns ckT ckD shf lnT ways ups sts sty dly gAp gOp stp bst sgn (upd lwT lwN.toNatClampNeg v1) (upd lwD lwN.toNatClampNeg v2) rdT rdO lwK lwM twS twM twD rsO rsB rwA) H locs := ho
      refine lv_aload_n hx hb dX6_add_44 rfl (lv_at hl 0 rfl) ?_
      refine lv_dup hx hb dX6_add_45 rfl ?_
      refine o_get (ci := 6) (T := TX6) hx hb hts hinX6 hown ho 35 rfl rfl 2 (by decide) hf9 rfl dX6_add_46 ?_
      refine lv_iconst (v := 1) hx hb dX6_add_49 (by decide) ?_
      refine lv_iadd hx hb dX6_add_50 ?_
      refine lv_topi (fun x51 e_x51 => ?_)
      replace hp := hp x51 e_x51
      refine o_put (ci := 6) (T := TX6) hx hb hts hinX6 tyX6_ok nmX6 hown ho 35 rfl rfl 2 (by decide) hf9 rfl (tyX6_ok 2 (by decide)) (Nat.le_of_ble_eq_true rfl) dX6_add_51 (fun H locs ho => ?_)
      replace ho : oW D (oT c) A s.heap s (wO q c tnN ckN stN trN dsT dsC tpN x51 rdS rdM rdE rdD twN rsW rsE rwN suns ckT ckD shf lnT ways ups sts sty dly gAp gOp stp bst sgn (upd lwT lwN.toNatClampNeg v1) (upd lwD lwN.toNatClampNeg v2) rdT rdO lwK lwM twS twM twD rsO rsB rwA) H locs := ho
      exact hret (x51, upd lwT lwN.toNatClampNeg v1, upd lwD lwN.toNatClampNeg v2) _ _ _ _ dX6_add_54 ho hp
set_option maxHeartbeats 4000000 in
set_option maxRecDepth 100000 in
theorem c_Si_holding_l (l : Launch) (D : va_G) (q : Nat → Nat) (c : Nat → ClassId) (tnN : Int32) (ckN : Int32) (stN : Int32) (trN : Int32) (dsT : Int32) (dsC : Int32) (tpN : Int32) (lwN : Int32) (rdS : Int32) (rdM : Int32) (rdE : Int32) (rdD : Int32) (twN : Int32) (rsW : Int32) (rsE : Int32) (rwN : Int32) (suns : Nat → Int32) (ckT : Nat → Int32) (ckD : Nat → Int32) (shf : Nat → Int32) (lnT : Nat → Int32) (ways : Nat → Int32) (ups : Nat → Int32) (sts : Nat → Int32) (sty : Nat → Int32) (dly : Nat → Int32) (gAp : Nat → Nat → Int32) (gOp : Nat → Nat → Int32) (stp : Nat → Int32) (bst : Nat → Int32) (sgn : Nat → Int32) (lwT : Nat → Int32) (lwD : Nat → Int32) (rdT : Nat → Int32) (rdO : Nat → Int32) (lwK : Nat → Int32) (lwM : Nat → Int32) (twS : Nat → Int32) (twM : Nat → Int32) (twD : Nat → Int32) (rsO : Nat → Int32) (rsB : Nat → Int32) (rwA : Nat → Int32) (v1 : Int32) (v2 : Int32) (Q : Int32 → Prop) (hp : p_Si_holding 20 lwN lwT lwD v1 v2 Q) : oKi l yX6_holding wsX6_holding { frames := 0, cells := 0, slots := 0, locals := 0 } [.ref (q 35), .int v1, .int v2] D (oT c) (wO q c tnN ckN stN trN dsT dsC tpN lwN rdS rdM rdE rdD twN rsW rsE rwN suns ckT ckD shf lnT ways ups sts sty dly gAp gOp stp bst sgn lwT lwD rdT rdO lwK lwM twS twM twD rsO rsB rwA) (Unit) (fun r (_ : Unit) => Q r) (fun _ => wO q c tnN ckN stN trN dsT dsC tpN lwN rdS rdM rdE rdD twN rsW rsE rwN suns ckT ckD shf lnT ways ups sts sty dly gAp gOp stp bst sgn lwT lwD rdT rdO lwK lwM twS twM twD rsO rsB rwA) := by
  refine oKi.ofW (own := RX6) (cc := cX6_holding) (maxL := 6) (plainFor_of_name (by decide +kernel)) rfl rfl (Nat.le_of_ble_eq_true rfl) (fun p e s m args below meth cd A ls Z hx hb hml hown hts hret ho hl => ?_)
  replace hl : lv_has ls 6 [(0, .ref (q 35)), (1, .int v1), (2, .int v2)] := hl
  have hinX6 : ∀ w ∈ u_ws RX6 TX6 3, w ∈ wsX6_holding := by decide +kernel
  have hf9 := hts (.fieldLink RX6 9 "OneTime$Since" "size" "I") (by decide +kernel)
  have hf21 := hts (.fieldLink RX6 21 "OneTime$Since" "ofTowns" "[I") (by decide +kernel)
  have hf25 := hts (.fieldLink RX6 25 "OneTime$Since" "fromDays" "[I") (by decide +kernel)
  unfold p_Si_holding at hp
  have hL8 : ∀ (v1 : Int32) (v2 : Int32) (v3 : Int32) (v4 : Int32) (v5 : Int32), Lp3 (p_Si_holding_L8 20 lwN lwT lwD v1 v2 Q) v3 v4 v5 → ∀ (H : Heap) (locs : List Loc) (ls : Array Slot), oW D (oT c) A s.heap s (wO q c tnN ckN stN trN dsT dsC tpN lwN rdS rdM rdE rdD twN rsW rsE rwN suns ckT ckD shf lnT ways ups sts sty dly gAp gOp stp bst sgn lwT lwD rdT rdO lwK lwM twS twM twD rsO rsB rwA) H locs → lv_has ls 6 [(0, .ref (q 35)), (1, .int v1), (2, .int v2), (3, .int v3), (4, .int v4), (5, .int v5)] → W p l e { frames := 0, cells := 0, slots := 0, locals := 0 } s m args below meth cd H locs 0 0 Z (F0 m 8 ls []) := by
    intro v1 v2
    refine Lp3.ind (fun rec hrec v3 v4 v5 hp H locs ls ho hl => ?_)
    unfold p_Si_holding_L8 at hp
    refine lv_iload hx hb dX6_holding_8 (lv_at hl 5 rfl) ?_
    refine lv_aload_n hx hb dX6_holding_10 rfl (lv_at hl 0 rfl) ?_
    refine o_get (ci := 6) (T := TX6) hx hb hts hinX6 hown ho 35 rfl rfl 2 (by decide) hf9 rfl dX6_holding_11 ?_
    refine lv_icmp_ge (tgt := 69) hx hb dX6_holding_14 (by decide) (fun c_14 => ?_) (fun c_14 => ?_)
    · replace hp := hp.1 c_14
      refine lv_iload_n hx hb dX6_holding_69 rfl (lv_at hl 3 rfl) ?_
      exact hret v3 () _ _ _ _ dX6_holding_70 ho hp
    · replace hp := hp.2 c_14
      refine lv_aload_n hx hb dX6_holding_17 rfl (lv_at hl 0 rfl) ?_
      refine o_get (ci := 6) (T := TX6) hx hb hts hinX6 hown ho 35 rfl rfl 0 (by decide) hf21 rfl dX6_holding_18 ?_
      refine lv_iload hx hb dX6_holding_21 (lv_at hl 5 rfl) ?_
      refine o_ild hx hb ho 36 17 rfl rfl hp.1 dX6_holding_23 ?_
      replace hp := hp.2
      refine lv_iload_n hx hb dX6_holding_24 rfl (lv_at hl 1 rfl) ?_
      refine lv_icmp_ne (tgt := 63) hx hb dX6_holding_25 (by decide) (fun c_25 => ?_) (fun c_25 => ?_)
      · replace hp := hp.2 c_25
        obtain ⟨x63, e_x63⟩ : ∃ y : Int32, y = v5 + 1 := ⟨_, rfl⟩
        replace hp := hp x63 e_x63
        refine lv_iinc (v := x63) (lv' := [(5, .int x63), (0, .ref (q 35)), (1, .int v1), (2, .int v2), (3, .int v3), (4, .int v4)]) hx hb dX6_holding_63 hl (k := 5) rfl (by rw [e_x63]; rfl) (by decide) rfl (fun ls hl => ?_)
        refine lv_goto (tgt := 8) hx hb dX6_holding_66 (by decide) ?_
        exact hrec v3 v4 x63 hp _ _ _ ho (lv_sub hl [1, 2, 3, 4, 5, 0] rfl)
      · replace hp := hp.1 c_25
        refine lv_aload_n hx hb dX6_holding_28 rfl (lv_at hl 0 rfl) ?_
        refine o_get (ci := 6) (T := TX6) hx hb hts hinX6 hown ho 35 rfl rfl 1 (by decide) hf25 rfl dX6_holding_29 ?_
        refine lv_iload hx hb dX6_holding_32 (lv_at hl 5 rfl) ?_
        refine o_ild hx hb ho 37 18 rfl rfl hp.1 dX6_holding_34 ?_
        replace hp := hp.2
        refine lv_iload_n hx hb dX6_holding_35 rfl (lv_at hl 2 rfl) ?_
        refine lv_icmp_gt (tgt := 63) hx hb dX6_holding_36 (by decide) (fun c_36 => ?_) (fun c_36 => ?_)
        · replace hp := hp.1 c_36
          obtain ⟨x63, e_x63⟩ : ∃ y : Int32, y = v5 + 1 := ⟨_, rfl⟩
          replace hp := hp x63 e_x63
          refine lv_iinc (v := x63) (lv' := [(5, .int x63), (0, .ref (q 35)), (1, .int v1), (2, .int v2), (3, .int v3), (4, .int v4)]) hx hb dX6_holding_63 hl (k := 5) rfl (by rw [e_x63]; rfl) (by decide) rfl (fun ls hl => ?_)
          refine lv_goto (tgt := 8) hx hb dX6_holding_66 (by decide) ?_
          exact hrec v3 v4 x63 hp _ _ _ ho (lv_sub hl [1, 2, 3, 4, 5, 0] rfl)
        · replace hp := hp.2 c_36
          refine lv_aload_n hx hb dX6_holding_39 rfl (lv_at hl 0 rfl) ?_
          refine o_get (ci := 6) (T := TX6) hx hb hts hinX6 hown ho 35 rfl rfl 1 (by decide) hf25 rfl dX6_holding_40 ?_
          refine lv_iload hx hb dX6_holding_43 (lv_at hl 5 rfl) ?_
          refine o_ild hx hb ho 37 18 rfl rfl hp.1 dX6_holding_45 ?_
          replace hp := hp.2
          refine lv_iload hx hb dX6_holding_46 (lv_at hl 4 rfl) ?_
          refine lv_icmp_lt (tgt := 63) hx hb dX6_holding_48 (by decide) (fun c_48 => ?_) (fun c_48 => ?_)
          · replace hp := hp.1 c_48
            obtain ⟨x63, e_x63⟩ : ∃ y : Int32, y = v5 + 1 := ⟨_, rfl⟩
            replace hp := hp x63 e_x63
            refine lv_iinc (v := x63) (lv' := [(5, .int x63), (0, .ref (q 35)), (1, .int v1), (2, .int v2), (3, .int v3), (4, .int v4)]) hx hb dX6_holding_63 hl (k := 5) rfl (by rw [e_x63]; rfl) (by decide) rfl (fun ls hl => ?_)
            refine lv_goto (tgt := 8) hx hb dX6_holding_66 (by decide) ?_
            exact hrec v3 v4 x63 hp _ _ _ ho (lv_sub hl [1, 2, 3, 4, 5, 0] rfl)
          · replace hp := hp.2 c_48
            refine lv_iload hx hb dX6_holding_51 (lv_at hl 5 rfl) ?_
            refine lv_istore_n (lv' := [(3, .int v5), (0, .ref (q 35)), (1, .int v1), (2, .int v2), (4, .int v4), (5, .int v5)]) hx hb dX6_holding_53 rfl hl (by decide) rfl (fun ls hl => ?_)
            refine lv_aload_n hx hb dX6_holding_54 rfl (lv_at hl 1 rfl) ?_
            refine o_get (ci := 6) (T := TX6) hx hb hts hinX6 hown ho 35 rfl rfl 1 (by decide) hf25 rfl dX6_holding_55 ?_
            refine lv_iload hx hb dX6_holding_58 (lv_at hl 5 rfl) ?_
            refine o_ild hx hb ho 37 18 rfl rfl hp.1 dX6_holding_60 ?_
            replace hp := hp.2
            refine lv_topi (fun x61 e_x61 => ?_)
            replace hp := hp x61 e_x61
            refine lv_istore (lv' := [(4, .int x61), (3, .int v5), (0, .ref (q 35)), (1, .int v1), (2, .int v2), (5, .int v5)]) hx hb dX6_holding_61 hl (by decide) rfl (fun ls hl => ?_)
            obtain ⟨x63, e_x63⟩ : ∃ y : Int32, y = v5 + 1 := ⟨_, rfl⟩
            replace hp := hp x63 e_x63
            refine lv_iinc (v := x63) (lv' := [(5, .int x63), (4, .int x61), (3, .int v5), (0, .ref (q 35)), (1, .int v1), (2, .int v2)]) hx hb dX6_holding_63 hl (k := 5) rfl (by rw [e_x63]; rfl) (by decide) rfl (fun ls hl => ?_)
            refine lv_goto (tgt := 8) hx hb dX6_holding_66 (by decide) ?_
            exact hrec v5 x61 x63 hp _ _ _ ho (lv_sub hl [3, 4, 5, 2, 1, 0] rfl)
  refine lv_iconst (v := (-1)) hx hb dX6_holding_0 (by decide) ?_
  refine lv_istore_n (lv' := [(3, .int (-1)), (0, .ref (q 35)), (1, .int v1), (2, .int v2)]) hx hb dX6_holding_1 rfl hl (by decide) rfl (fun ls hl => ?_)
  refine lv_iconst (v := 0) hx hb dX6_holding_2 (by decide) ?_
  refine lv_istore (lv' := [(4, .int 0), (3, .int (-1)), (0, .ref (q 35)), (1, .int v1), (2, .int v2)]) hx hb dX6_holding_3 hl (by decide) rfl (fun ls hl => ?_)
  refine lv_iconst (v := 0) hx hb dX6_holding_5 (by decide) ?_
  refine lv_istore (lv' := [(5, .int 0), (4, .int 0), (3, .int (-1)), (0, .ref (q 35)), (1, .int v1), (2, .int v2)]) hx hb dX6_holding_6 hl (by decide) rfl (fun ls hl => ?_)
  exact hL8 v1 v2 (-1) 0 0 hp _ _ _ ho (lv_sub hl [3, 4, 5, 2, 1, 0] rfl)
set_option maxHeartbeats 4000000 in
set_option maxRecDepth 100000 in
theorem c_Si_nextDay_l (l : Launch) (D : va_G) (q : Nat → Nat) (c : Nat → ClassId) (tnN : Int32) (ckN : Int32) (stN : Int32) (trN : Int32) (dsT : Int32) (dsC : Int32) (tpN : Int32) (lwN : Int32) (rdS : Int32) (rdM : Int32) (rdE : Int32) (rdD : Int32) (twN : Int32) (rsW : Int32) (rsE : Int32) (rwN : Int32) (suns : Nat → Int32) (ckT : Nat → Int32) (ckD : Nat → Int32) (shf : Nat → Int32) (lnT : Nat → Int32) (ways : Nat → Int32) (ups : Nat → Int32) (sts : Nat → Int32) (sty : Nat → Int32) (dly : Nat → Int32) (gAp : Nat → Nat → Int32) (gOp : Nat → Nat → Int32) (stp : Nat → Int32) (bst : Nat → Int32) (sgn : Nat → Int32) (lwT : Nat → Int32) (lwD : Nat → Int32) (rdT : Nat → Int32) (rdO : Nat → Int32) (lwK : Nat → Int32) (lwM : Nat → Int32) (twS : Nat → Int32) (twM : Nat → Int32) (twD : Nat → Int32) (rsO : Nat → Int32) (rsB : Nat → Int32) (rwA : Nat → Int32) (v1 : Int32) (v2 : Int32) (Q : Int32 → Prop) (hp : p_Si_nextDay 20 lwN lwT lwD v1 v2 Q) : oKi l yX6_nextDay wsX6_nextDay { frames := 0, cells := 0, slots := 0, locals := 0 } [.ref (q 35), .int v1, .int v2] D (oT c) (wO q c tnN ckN stN trN dsT dsC tpN lwN rdS rdM rdE rdD twN rsW rsE rwN suns ckT ckD shf lnT ways ups sts sty dly gAp gOp stp bst sgn lwT lwD rdT rdO lwK lwM twS twM twD rsO rsB rwA) (Unit) (fun r (_ : Unit) => Q r) (fun _ => wO q c tnN ckN stN trN dsT dsC tpN lwN rdS rdM rdE rdD twN rsW rsE rwN suns ckT ckD shf lnT ways ups sts sty dly gAp gOp stp bst sgn lwT lwD rdT rdO lwK lwM twS twM twD rsO rsB rwA) := by
  refine oKi.ofW (own := RX6) (cc := cX6_nextDay) (maxL := 5) (plainFor_of_name (by decide +kernel)) rfl rfl (Nat.le_of_ble_eq_true rfl) (fun p e s m args below meth cd A ls Z hx hb hml hown hts hret ho hl => ?_)
  replace hl : lv_has ls 5 [(0, .ref (q 35)), (1, .int v1), (2, .int v2)] := hl
  have hinX6 : ∀ w ∈ u_ws RX6 TX6 3, w ∈ wsX6_nextDay := by decide +kernel
  have hf9 := hts (.fieldLink RX6 9 "OneTime$Since" "size" "I") (by decide +kernel)
  have hf21 := hts (.fieldLink RX6 21 "OneTime$Since" "ofTowns" "[I") (by decide +kernel)
  have hf25 := hts (.fieldLink RX6 25 "OneTime$Since" "fromDays" "[I") (by decide +kernel)
  unfold p_Si_nextDay at hp
  have hL7 : ∀ (v1 : Int32) (v2 : Int32) (v3 : Int32) (v4 : Int32), Lp2 (p_Si_nextDay_L7 20 lwN lwT lwD v1 v2 Q) v3 v4 → ∀ (H : Heap) (locs : List Loc) (ls : Array Slot), oW D (oT c) A s.heap s (wO q c tnN ckN stN trN dsT dsC tpN lwN rdS rdM rdE rdD twN rsW rsE rwN suns ckT ckD shf lnT ways ups sts sty dly gAp gOp stp bst sgn lwT lwD rdT rdO lwK lwM twS twM twD rsO rsB rwA) H locs → lv_has ls 5 [(0, .ref (q 35)), (1, .int v1), (2, .int v2), (3, .int v3), (4, .int v4)] → W p l e { frames := 0, cells := 0, slots := 0, locals := 0 } s m args below meth cd H locs 0 0 Z (F0 m 7 ls []) := by
    intro v1 v2
    refine Lp2.ind (fun rec hrec v3 v4 hp H locs ls ho hl => ?_)
    unfold p_Si_nextDay_L7 at hp
    refine lv_iload hx hb dX6_nextDay_7 (lv_at hl 4 rfl) ?_
    refine lv_aload_n hx hb dX6_nextDay_9 rfl (lv_at hl 0 rfl) ?_
    refine o_get (ci := 6) (T := TX6) hx hb hts hinX6 hown ho 35 rfl rfl 2 (by decide) hf9 rfl dX6_nextDay_10 ?_
    refine lv_icmp_ge (tgt := 63) hx hb dX6_nextDay_13 (by decide) (fun c_13 => ?_) (fun c_13 => ?_)
    · replace hp := hp.1 c_13
      refine lv_iload_n hx hb dX6_nextDay_63 rfl (lv_at hl 3 rfl) ?_
      exact hret v3 () _ _ _ _ dX6_nextDay_64 ho hp
    · replace hp := hp.2 c_13
      refine lv_aload_n hx hb dX6_nextDay_16 rfl (lv_at hl 0 rfl) ?_
      refine o_get (ci := 6) (T := TX6) hx hb hts hinX6 hown ho 35 rfl rfl 0 (by decide) hf21 rfl dX6_nextDay_17 ?_
      refine lv_iload hx hb dX6_nextDay_20 (lv_at hl 4 rfl) ?_
      refine o_ild hx hb ho 36 17 rfl rfl hp.1 dX6_nextDay_22 ?_
      replace hp := hp.2
      refine lv_iload_n hx hb dX6_nextDay_23 rfl (lv_at hl 1 rfl) ?_
      refine lv_icmp_ne (tgt := 57) hx hb dX6_nextDay_24 (by decide) (fun c_24 => ?_) (fun c_24 => ?_)
      · replace hp := hp.2 c_24
        obtain ⟨x57, e_x57⟩ : ∃ y : Int32, y = v4 + 1 := ⟨_, rfl⟩
        replace hp := hp x57 e_x57
        refine lv_iinc (v := x57) (lv' := [(4, .int x57), (0, .ref (q 35)), (1, .int v1), (2, .int v2), (3, .int v3)]) hx hb dX6_nextDay_57 hl (k := 4) rfl (by rw [e_x57]; rfl) (by decide) rfl (fun ls hl => ?_)
        refine lv_goto (tgt := 7) hx hb dX6_nextDay_60 (by decide) ?_
        exact hrec v3 x57 hp _ _ _ ho (lv_sub hl [1, 2, 3, 4, 0] rfl)
      · replace hp := hp.1 c_24
        refine lv_aload_n hx hb dX6_nextDay_27 rfl (lv_at hl 0 rfl) ?_
        refine o_get (ci := 6) (T := TX6) hx hb hts hinX6 hown ho 35 rfl rfl 1 (by decide) hf25 rfl dX6_nextDay_28 ?_
        refine lv_iload hx hb dX6_nextDay_31 (lv_at hl 4 rfl) ?_
        refine o_ild hx hb ho 37 18 rfl rfl hp.1 dX6_nextDay_33 ?_
        replace hp := hp.2
        refine lv_iload_n hx hb dX6_nextDay_34 rfl (lv_at hl 2 rfl) ?_
        refine lv_icmp_le (tgt := 57) hx hb dX6_nextDay_35 (by decide) (fun c_35 => ?_) (fun c_35 => ?_)
        · replace hp := hp.1 c_35
          obtain ⟨x57, e_x57⟩ : ∃ y : Int32, y = v4 + 1 := ⟨_, rfl⟩
          replace hp := hp x57 e_x57
          refine lv_iinc (v := x57) (lv' := [(4, .int x57), (0, .ref (q 35)), (1, .int v1), (2, .int v2), (3, .int v3)]) hx hb dX6_nextDay_57 hl (k := 4) rfl (by rw [e_x57]; rfl) (by decide) rfl (fun ls hl => ?_)
          refine lv_goto (tgt := 7) hx hb dX6_nextDay_60 (by decide) ?_
          exact hrec v3 x57 hp _ _ _ ho (lv_sub hl [1, 2, 3, 4, 0] rfl)
        · replace hp := hp.2 c_35
          refine lv_aload_n hx hb dX6_nextDay_38 rfl (lv_at hl 0 rfl) ?_
          refine o_get (ci := 6) (T := TX6) hx hb hts hinX6 hown ho 35 rfl rfl 1 (by decide) hf25 rfl dX6_nextDay_39 ?_
          refine lv_iload hx hb dX6_nextDay_42 (lv_at hl 4 rfl) ?_
          refine o_ild hx hb ho 37 18 rfl rfl hp.1 dX6_nextDay_44 ?_
          replace hp := hp.2
          refine lv_iload_n hx hb dX6_nextDay_45 rfl (lv_at hl 3 rfl) ?_
          refine lv_icmp_ge (tgt := 57) hx hb dX6_nextDay_46 (by decide) (fun c_46 => ?_) (fun c_46 => ?_)
          · replace hp := hp.1 c_46
            obtain ⟨x57, e_x57⟩ : ∃ y : Int32, y = v4 + 1 := ⟨_, rfl⟩
            replace hp := hp x57 e_x57
            refine lv_iinc (v := x57) (lv' := [(4, .int x57), (0, .ref (q 35)), (1, .int v1), (2, .int v2), (3, .int v3)]) hx hb dX6_nextDay_57 hl (k := 4) rfl (by rw [e_x57]; rfl) (by decide) rfl (fun ls hl => ?_)
            refine lv_goto (tgt := 7) hx hb dX6_nextDay_60 (by decide) ?_
            exact hrec v3 x57 hp _ _ _ ho (lv_sub hl [1, 2, 3, 4, 0] rfl)
          · replace hp := hp.2 c_46
            refine lv_aload_n hx hb dX6_nextDay_49 rfl (lv_at hl 0 rfl) ?_
            refine o_get (ci := 6) (T := TX6) hx hb hts hinX6 hown ho 35 rfl rfl 1 (by decide) hf25 rfl dX6_nextDay_50 ?_
            refine lv_iload hx hb dX6_nextDay_53 (lv_at hl 4 rfl) ?_
            refine o_ild hx hb ho 37 18 rfl rfl hp.1 dX6_nextDay_55 ?_
            replace hp := hp.2
            refine lv_topi (fun x56 e_x56 => ?_)
            replace hp := hp x56 e_x56
            refine lv_istore_n (lv' := [(3, .int x56), (0, .ref (q 35)), (1, .int v1), (2, .int v2), (4, .int v4)]) hx hb dX6_nextDay_56 rfl hl (by decide) rfl (fun ls hl => ?_)
            obtain ⟨x57, e_x57⟩ : ∃ y : Int32, y = v4 + 1 := ⟨_, rfl⟩
            replace hp := hp x57 e_x57
            refine lv_iinc (v := x57) (lv' := [(4, .int x57), (3, .int x56), (0, .ref (q 35)), (1, .int v1), (2, .int v2)]) hx hb dX6_nextDay_57 hl (k := 4) rfl (by rw [e_x57]; rfl) (by decide) rfl (fun ls hl => ?_)
            refine lv_goto (tgt := 7) hx hb dX6_nextDay_60 (by decide) ?_
            exact hrec x56 x57 hp _ _ _ ho (lv_sub hl [2, 3, 4, 1, 0] rfl)
  refine lv_sipush (v := 400) hx hb dX6_nextDay_0 (by decide) ?_
  refine lv_istore_n (lv' := [(3, .int 400), (0, .ref (q 35)), (1, .int v1), (2, .int v2)]) hx hb dX6_nextDay_3 rfl hl (by decide) rfl (fun ls hl => ?_)
  refine lv_iconst (v := 0) hx hb dX6_nextDay_4 (by decide) ?_
  refine lv_istore (lv' := [(4, .int 0), (3, .int 400), (0, .ref (q 35)), (1, .int v1), (2, .int v2)]) hx hb dX6_nextDay_5 hl (by decide) rfl (fun ls hl => ?_)
  exact hL7 v1 v2 400 0 hp _ _ _ ho (lv_sub hl [2, 3, 4, 1, 0] rfl)
set_option maxHeartbeats 4000000 in
set_option maxRecDepth 100000 in
theorem c_Jm_floorMod (l : Launch) (D : va_G) (tys : List (ClassId × FieldType)) (ws : va_W)  (v0 : Int32) (v1 : Int32) (Q : Int32 → Prop) (hp : p_Jm_floorMod v0 v1 Q) : oKi l yJ9_floorMod_7cf53 wsJ9_floorMod_7cf53 { frames := 0, cells := 0, slots := 0, locals := 0 } [.int v0, .int v1] D tys ws (Unit) (fun r (_ : Unit) => Q r) (fun _ => ws) := by
  refine oKi.ofW (own := RJ9) (cc := cJ9_floorMod_7cf53) (maxL := 3) (by decide +kernel) rfl rfl (Nat.le_of_ble_eq_true rfl) (fun p e s m args below meth cd A ls Z hx hb hml hown hts hret ho hl => ?_)
  replace hl : lv_has ls 3 [(0, .int v0), (1, .int v1)] := hl
  unfold p_Jm_floorMod at hp
  refine lv_iload_n hx hb dJ9_floorMod_7cf53_0 rfl (lv_at hl 0 rfl) ?_
  refine lv_iload_n hx hb dJ9_floorMod_7cf53_1 rfl (lv_at hl 1 rfl) ?_
  refine lv_irem hx hb dJ9_floorMod_7cf53_2 hp.1 ?_
  replace hp := hp.2
  refine lv_topi (fun x3 e_x3 => ?_)
  replace hp := hp x3 e_x3
  refine lv_istore_n (lv' := [(2, .int x3), (0, .int v0), (1, .int v1)]) hx hb dJ9_floorMod_7cf53_3 rfl hl (by decide) rfl (fun ls hl => ?_)
  refine lv_iload_n hx hb dJ9_floorMod_7cf53_4 rfl (lv_at hl 1 rfl) ?_
  refine lv_iload_n hx hb dJ9_floorMod_7cf53_5 rfl (lv_at hl 2 rfl) ?_
  refine lv_ixor hx hb dJ9_floorMod_7cf53_6 ?_
  refine lv_if_ge (tgt := 18) hx hb dJ9_floorMod_7cf53_7 (by decide) (fun c_7 => ?_) (fun c_7 => ?_)
  · replace hp := hp.1 c_7
    refine lv_iload_n hx hb dJ9_floorMod_7cf53_18 rfl (lv_at hl 0 rfl) ?_
    exact hret x3 () _ _ _ _ dJ9_floorMod_7cf53_19 ho hp
  · replace hp := hp.2 c_7
    refine lv_iload_n hx hb dJ9_floorMod_7cf53_10 rfl (lv_at hl 0 rfl) ?_
    refine lv_if_eq (tgt := 18) hx hb dJ9_floorMod_7cf53_11 (by decide) (fun c_11 => ?_) (fun c_11 => ?_)
    · replace hp := hp.1 c_11
      refine lv_iload_n hx hb dJ9_floorMod_7cf53_18 rfl (lv_at hl 0 rfl) ?_
      exact hret x3 () _ _ _ _ dJ9_floorMod_7cf53_19 ho hp
    · replace hp := hp.2 c_11
      refine lv_iload_n hx hb dJ9_floorMod_7cf53_14 rfl (lv_at hl 0 rfl) ?_
      refine lv_iload_n hx hb dJ9_floorMod_7cf53_15 rfl (lv_at hl 2 rfl) ?_
      refine lv_iadd hx hb dJ9_floorMod_7cf53_16 ?_
      exact hret (x3 + v1) () _ _ _ _ dJ9_floorMod_7cf53_17 ho hp
