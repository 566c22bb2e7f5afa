set_option maxHeartbeats 4000000 in
set_option maxRecDepth 100000 in
theorem c_Js_isLatin1 (l : Launch) (D : va_G) (tys : List (ClassId × FieldType)) (ws : va_W) (adK adV : Nat → Nat) (i : Nat) (hi : i < 6)   (Q : Int32 → Prop) (hp : p_Js_isLatin1 i Q) : sKi l yJ0_isLatin1_aae02 wsJ0_isLatin1_aae02 { frames := 0, cells := 0, slots := 0, locals := 0 } adK adV [.ref (adK i)] D tys ws (Unit) (fun r (_ : Unit) => Q r) (fun _ => ws) := by
  refine sKi.ofWz (Or.inl rfl) (own := RJ0) (cc := cJ0_isLatin1_aae02) (maxL := 1) (by decide +kernel) rfl rfl (Nat.le_of_ble_eq_true rfl) (fun p e s m args below meth cd A ls Z hx hb hml hown hts hE hret ho hl => ?_)
  replace hl : lv_has ls 1 [(0, .ref (adK i))] := hl
  have hf15 := hts (.fieldLink RJ0 15 "java/lang/String" "coder" "B") (by decide +kernel)
  have hf38 := hts (.fieldLink RJ0 38 "java/lang/String" "COMPACT_STRINGS" "Z") (by decide +kernel)
  unfold p_Js_isLatin1 at hp
  refine va_gets hx hb hE.2.1 ho.2.2.2.2.1 hown hf38 (fun _ h9 => h9) dJ0_isLatin1_aae02_0 ?_
  refine lv_if_eq (tgt := 17) hx hb dJ0_isLatin1_aae02_3 (by decide) (fun c_3 => ?_) (fun c_3 => ?_)
  · replace hp := hp.1 c_3
    refine lv_iconst (v := 0) hx hb dJ0_isLatin1_aae02_17 (by decide) ?_
    exact hret 0 () _ _ _ _ dJ0_isLatin1_aae02_18 (Or.inl rfl) ho hp
  · replace hp := hp.2 c_3
    refine lv_aload_n hx hb dJ0_isLatin1_aae02_6 rfl (lv_at hl 0 rfl) ?_
    refine vk_getf hx hb (hE.1.1 i hi).2.1 ho.2.2.2.2.1 hown hf15 (fun _ h9 => h9) dJ0_isLatin1_aae02_7 ?_
    refine lv_if_ne (tgt := 17) hx hb dJ0_isLatin1_aae02_10 (by decide) (fun c_10 => ?_) (fun c_10 => ?_)
    · replace hp := hp.2 c_10
      refine lv_iconst (v := 0) hx hb dJ0_isLatin1_aae02_17 (by decide) ?_
      exact hret 0 () _ _ _ _ dJ0_isLatin1_aae02_18 (Or.inl rfl) ho hp
    · replace hp := hp.1 c_10
      refine lv_iconst (v := 1) hx hb dJ0_isLatin1_aae02_13 (by decide) ?_
      refine lv_goto (tgt := 18) hx hb dJ0_isLatin1_aae02_14 (by decide) ?_
      exact hret 1 () _ _ _ _ dJ0_isLatin1_aae02_18 (Or.inr rfl) ho hp
set_option maxHeartbeats 4000000 in
set_option maxRecDepth 100000 in
theorem c_Js_coder (l : Launch) (D : va_G) (tys : List (ClassId × FieldType)) (ws : va_W) (adK adV : Nat → Nat) (i : Nat) (hi : i < 6)   (Q : Int32 → Prop) (hp : p_Js_coder i Q) : sKi l yJ0_coder_7d493 wsJ0_coder_7d493 { frames := 0, cells := 0, slots := 0, locals := 0 } adK adV [.ref (adK i)] D tys ws (Unit) (fun r (_ : Unit) => Q r) (fun _ => ws) := by
  refine sKi.ofWz (Or.inr rfl) (own := RJ0) (cc := cJ0_coder_7d493) (maxL := 1) (by decide +kernel) rfl rfl (Nat.le_of_ble_eq_true rfl) (fun p e s m args below meth cd A ls Z hx hb hml hown hts hE hret ho hl => ?_)
  replace hl : lv_has ls 1 [(0, .ref (adK i))] := hl
  have hf15 := hts (.fieldLink RJ0 15 "java/lang/String" "coder" "B") (by decide +kernel)
  have hf38 := hts (.fieldLink RJ0 38 "java/lang/String" "COMPACT_STRINGS" "Z") (by decide +kernel)
  unfold p_Js_coder at hp
  refine va_gets hx hb hE.2.1 ho.2.2.2.2.1 hown hf38 (fun _ h9 => h9) dJ0_coder_7d493_0 ?_
  refine lv_if_eq (tgt := 13) hx hb dJ0_coder_7d493_3 (by decide) (fun c_3 => ?_) (fun c_3 => ?_)
  · replace hp := hp.1 c_3
    refine lv_iconst (v := 1) hx hb dJ0_coder_7d493_13 (by decide) ?_
    exact hret 1 () _ _ _ _ dJ0_coder_7d493_14 (Or.inr rfl) ho hp
  · replace hp := hp.2 c_3
    refine lv_aload_n hx hb dJ0_coder_7d493_6 rfl (lv_at hl 0 rfl) ?_
    refine vk_getf hx hb (hE.1.1 i hi).2.1 ho.2.2.2.2.1 hown hf15 (fun _ h9 => h9) dJ0_coder_7d493_7 ?_
    refine lv_goto (tgt := 14) hx hb dJ0_coder_7d493_10 (by decide) ?_
    exact hret 0 () _ _ _ _ dJ0_coder_7d493_14 (Or.inl rfl) ho hp
set_option maxHeartbeats 4000000 in
set_option maxRecDepth 100000 in
theorem c_Js_length (l : Launch) (D : va_G) (tys : List (ClassId × FieldType)) (ws : va_W) (adK adV : Nat → Nat) (i : Nat) (hi : i < 6)   (Q : Int32 → Prop) (hp : p_Js_length i Q) : sKi l yJ0_length_8abf5 wsJ0_length_8abf5 { frames := 1, cells := 0, slots := 0, locals := 20 } adK adV [.ref (adK i)] D tys ws (Unit) (fun r (_ : Unit) => Q r) (fun _ => ws) := by
  refine sKi.ofW (own := RJ0) (cc := cJ0_length_8abf5) (maxL := 1) (by decide +kernel) rfl rfl (Nat.le_of_ble_eq_true rfl) (fun p e s m args below meth cd A ls Z hx hb hml hown hts hE hret ho hl => ?_)
  replace hl : lv_has ls 1 [(0, .ref (adK i))] := hl
  have hf9 := hts (.fieldLink RJ0 9 "java/lang/String" "value" "[B") (by decide +kernel)
  unfold p_Js_length at hp
  refine lv_aload_n hx hb dJ0_length_8abf5_0 rfl (lv_at hl 0 rfl) ?_
  refine vk_getf hx hb (hE.1.1 i hi).2.2.1 ho.2.2.2.2.1 hown hf9 (fun _ h9 => h9) dJ0_length_8abf5_1 ?_
  refine va_tlen hx hb (hE.1.1 i hi).2.2.2 ho.2.2.2.2.1 rfl dJ0_length_8abf5_4 ?_
  refine lv_aload_n hx hb dJ0_length_8abf5_5 rfl (lv_at hl 0 rfl) ?_
  refine s_callVi (rest := [.int (Int32.ofNat (sLen.getD i 0))]) ⟨hx, hb, hml, hown, hts⟩ hE ho (c_Js_coder l D tys ws adK adV i hi  _ hp) (cwV 0 hts gJ0_length_8abf5_J0_coder_7d493 rfl rfl rfl (by decide +kernel) ⟨(Nat.le_of_ble_eq_true rfl), (Nat.le_of_ble_eq_true rfl)⟩) (vk_recv hE.1 hi ho.2.2.2.2.1) rfl hl.1 rfl (Nat.le_of_ble_eq_true rfl) dJ0_length_8abf5_6 ⟨Nat.zero_le _, Nat.zero_le _⟩ (fun r6 u H locs hp ho => ?_)
  replace ho : oW D tys A s.heap s ws H locs := ho
  refine lv_ishr hx hb dJ0_length_8abf5_9 ?_
  exact hret ((Int32.ofNat (sLen.getD i 0)) >>> (r6 &&& 31)) () _ _ _ _ dJ0_length_8abf5_10 ho hp
set_option maxHeartbeats 4000000 in
set_option maxRecDepth 100000 in
theorem c_Jl_canEncode (l : Launch) (D : va_G) (tys : List (ClassId × FieldType)) (ws : va_W)  (v0 : Int32) (Q : Int32 → Prop) (hp : p_Jl_canEncode v0 Q) : oKi l yJ1_canEncode_9a6ad wsJ1_canEncode_9a6ad { frames := 0, cells := 0, slots := 0, locals := 0 } [.int v0] D tys ws (Unit) (fun r (_ : Unit) => Q r) (fun _ => ws) := by
  refine oKi.ofWz (own := RJ1) (cc := cJ1_canEncode_9a6ad) (maxL := 1) (by decide +kernel) rfl rfl (Nat.le_of_ble_eq_true rfl) (fun p e s m args below meth cd A ls Z hx hb hml hown hts hret ho hl => ?_)
  replace hl : lv_has ls 1 [(0, .int v0)] := hl
  unfold p_Jl_canEncode at hp
  refine lv_iload_n hx hb dJ1_canEncode_9a6ad_0 rfl (lv_at hl 0 rfl) ?_
  refine lv_if_lt (tgt := 15) hx hb dJ1_canEncode_9a6ad_1 (by decide) (fun c_1 => ?_) (fun c_1 => ?_)
  · replace hp := hp.1 c_1
    refine lv_iconst (v := 0) hx hb dJ1_canEncode_9a6ad_15 (by decide) ?_
    exact hret 0 () _ _ _ _ dJ1_canEncode_9a6ad_16 (Or.inl rfl) ho hp
  · replace hp := hp.2 c_1
    refine lv_iload_n hx hb dJ1_canEncode_9a6ad_4 rfl (lv_at hl 0 rfl) ?_
    refine lv_sipush (v := 255) hx hb dJ1_canEncode_9a6ad_5 (by decide) ?_
    refine lv_icmp_gt (tgt := 15) hx hb dJ1_canEncode_9a6ad_8 (by decide) (fun c_8 => ?_) (fun c_8 => ?_)
    · replace hp := hp.1 c_8
      refine lv_iconst (v := 0) hx hb dJ1_canEncode_9a6ad_15 (by decide) ?_
      exact hret 0 () _ _ _ _ dJ1_canEncode_9a6ad_16 (Or.inl rfl) ho hp
    · replace hp := hp.2 c_8
      refine lv_iconst (v := 1) hx hb dJ1_canEncode_9a6ad_11 (by decide) ?_
      refine lv_goto (tgt := 16) hx hb dJ1_canEncode_9a6ad_12 (by decide) ?_
      exact hret 1 () _ _ _ _ dJ1_canEncode_9a6ad_16 (Or.inr rfl) ho hp
set_option maxHeartbeats 4000000 in
set_option maxRecDepth 100000 in
theorem c_Jl_indexOfChar (l : Launch) (D : va_G) (tys : List (ClassId × FieldType)) (ws : va_W) (adK adV : Nat → Nat) (i : Nat) (hi : i < 6)  (v1 : Int32) (v2 : Int32) (v3 : Int32) (Q : Int32 → Prop) (hp : p_Jl_indexOfChar i v1 v2 v3 Q) : sKi l yJ1_indexOfChar_4cfef wsJ1_indexOfChar_4cfef { frames := 0, cells := 0, slots := 0, locals := 0 } adK adV [.ref (adV i), .int v1, .int v2, .int v3] D tys ws (Unit) (fun r (_ : Unit) => Q r) (fun _ => ws) := by
  refine sKi.ofW (own := RJ1) (cc := cJ1_indexOfChar_4cfef) (maxL := 6) (by decide +kernel) rfl rfl (Nat.le_of_ble_eq_true rfl) (fun p e s m args below meth cd A ls Z hx hb hml hown hts hE hret ho hl => ?_)
  replace hl : lv_has ls 6 [(0, .ref (adV i)), (1, .int v1), (2, .int v2), (3, .int v3)] := hl
  unfold p_Jl_indexOfChar at hp
  have hL7 : ∀ (v3 : Int32) (v4 : Int32) (v5 : Int32), Lp1 (p_Jl_indexOfChar_L7 i v3 v4 Q) v5 → ∀ (H : Heap) (locs : List Loc) (ls : Array Slot), oW D tys A s.heap s ws H locs → lv_has ls 6 [(0, .ref (adV i)), (3, .int v3), (4, .int v4), (5, .int v5)] → W p l e { frames := 0, cells := 0, slots := 0, locals := 0 } s m args below meth cd H locs 0 0 Z (F0 m 7 ls []) := by
    intro v3 v4
    refine Lp1.ind (fun rec hrec v5 hp H locs ls ho hl => ?_)
    unfold p_Jl_indexOfChar_L7 at hp
    refine lv_iload hx hb dJ1_indexOfChar_4cfef_7 (lv_at hl 3 rfl) ?_
    refine lv_iload_n hx hb dJ1_indexOfChar_4cfef_9 rfl (lv_at hl 1 rfl) ?_
    refine lv_icmp_ge (tgt := 31) hx hb dJ1_indexOfChar_4cfef_10 (by decide) (fun c_10 => ?_) (fun c_10 => ?_)
    · replace hp := hp.1 c_10
      refine lv_iconst (v := (-1)) hx hb dJ1_indexOfChar_4cfef_31 (by decide) ?_
      exact hret (-1) () _ _ _ _ dJ1_indexOfChar_4cfef_32 ho hp
    · replace hp := hp.2 c_10
      refine lv_aload_n hx hb dJ1_indexOfChar_4cfef_13 rfl (lv_at hl 0 rfl) ?_
      refine lv_iload hx hb dJ1_indexOfChar_4cfef_14 (lv_at hl 3 rfl) ?_
      refine va_tb hx hb (hE.1.1 i hi).2.2.2 ho.2.2.2.2.1 hp.1 rfl dJ1_indexOfChar_4cfef_16 ?_
      replace hp := hp.2
      refine lv_iload hx hb dJ1_indexOfChar_4cfef_17 (lv_at hl 2 rfl) ?_
      refine lv_icmp_ne (tgt := 25) hx hb dJ1_indexOfChar_4cfef_19 (by decide) (fun c_19 => ?_) (fun c_19 => ?_)
      · replace hp := hp.2 c_19
        obtain ⟨x25, e_x25⟩ : ∃ y : Int32, y = v5 + 1 := ⟨_, rfl⟩
        replace hp := hp x25 e_x25
        refine lv_iinc (v := x25) (lv' := [(5, .int x25), (0, .ref (adV i)), (3, .int v3), (4, .int v4)]) hx hb dJ1_indexOfChar_4cfef_25 hl (k := 3) rfl (by rw [e_x25]; rfl) (by decide) rfl (fun ls hl => ?_)
        refine lv_goto (tgt := 7) hx hb dJ1_indexOfChar_4cfef_28 (by decide) ?_
        exact hrec x25 hp _ _ _ ho (lv_sub hl [1, 2, 3, 0] rfl)
      · replace hp := hp.1 c_19
        refine lv_iload hx hb dJ1_indexOfChar_4cfef_22 (lv_at hl 3 rfl) ?_
        exact hret v5 () _ _ _ _ dJ1_indexOfChar_4cfef_24 ho hp
  refine lv_iload_n hx hb dJ1_indexOfChar_4cfef_0 rfl (lv_at hl 1 rfl) ?_
  refine lv_i2b (v := ((v1 : Int32).toInt8.toInt32)) hx hb dJ1_indexOfChar_4cfef_1 rfl ?_
  refine lv_topi (fun x2 e_x2 => ?_)
  replace hp := hp x2 e_x2
  refine lv_istore (lv' := [(4, .int x2), (0, .ref (adV i)), (1, .int v1), (2, .int v2), (3, .int v3)]) hx hb dJ1_indexOfChar_4cfef_2 hl (by decide) rfl (fun ls hl => ?_)
  refine lv_iload_n hx hb dJ1_indexOfChar_4cfef_4 rfl (lv_at hl 3 rfl) ?_
  refine lv_istore (lv' := [(5, .int v2), (4, .int x2), (0, .ref (adV i)), (1, .int v1), (2, .int v2), (3, .int v3)]) hx hb dJ1_indexOfChar_4cfef_5 hl (by decide) rfl (fun ls hl => ?_)
  exact hL7 v3 x2 v2 hp _ _ _ ho (lv_sub hl [2, 5, 1, 0] rfl)
set_option maxHeartbeats 4000000 in
set_option maxRecDepth 100000 in
theorem c_Jl_indexOf (l : Launch) (D : va_G) (tys : List (ClassId × FieldType)) (ws : va_W) (adK adV : Nat → Nat) (i : Nat) (hi : i < 6)  (v1 : Int32) (v2 : Int32) (v3 : Int32) (Q : Int32 → Prop) (hp : p_Jl_indexOf i v1 v2 v3 Q) : sKi l yJ1_indexOf_4cfef wsJ1_indexOf_4cfef { frames := 1, cells := 0, slots := 0, locals := 25 } adK adV [.ref (adV i), .int v1, .int v2, .int v3] D tys ws (Unit) (fun r (_ : Unit) => Q r) (fun _ => ws) := by
  refine sKi.ofW (own := RJ1) (cc := cJ1_indexOf_4cfef) (maxL := 4) (by decide +kernel) rfl rfl (Nat.le_of_ble_eq_true rfl) (fun p e s m args below meth cd A ls Z hx hb hml hown hts hE hret ho hl => ?_)
  replace hl : lv_has ls 4 [(0, .ref (adV i)), (1, .int v1), (2, .int v2), (3, .int v3)] := hl
  unfold p_Jl_indexOf at hp
  refine lv_iload_n hx hb dJ1_indexOf_4cfef_0 rfl (lv_at hl 1 rfl) ?_
  refine o_callSi (rest := []) ⟨hx, hb, hml, hown, hts⟩ ho (c_Jl_canEncode l D tys ws v1 _ hp) (va_cwS 1 hts gJ1_indexOf_4cfef_J1_canEncode_9a6ad rfl rfl rfl (by decide +kernel) ⟨(Nat.le_of_ble_eq_true rfl), (Nat.le_of_ble_eq_true rfl)⟩) rfl hl.1 rfl (Nat.le_of_ble_eq_true rfl) dJ1_indexOf_4cfef_1 ⟨Nat.zero_le _, Nat.zero_le _⟩ (fun r1 u H locs hp ho => ?_)
  replace ho : oW D tys A s.heap s ws H locs := ho
  refine lv_if_ne (tgt := 9) hx hb dJ1_indexOf_4cfef_4 (by decide) (fun c_4 => ?_) (fun c_4 => ?_)
  · replace hp := hp.2 c_4
    refine lv_iload_n hx hb dJ1_indexOf_4cfef_9 rfl (lv_at hl 2 rfl) ?_
    refine lv_iconst (v := 0) hx hb dJ1_indexOf_4cfef_10 (by decide) ?_
    refine va_mmax hx hb (hml.trans hl.1.symm) hown (hts (.methodLink RJ1 92 Lib.Math.max.name) (by decide +kernel)) (hts (.static Lib.Math.max.name) (by decide +kernel)) (hts (.initialized "java/lang/Math") (by decide +kernel)) (hts (.code Lib.Math.max.name Lib.Math.max.code 2 (some .int)) (by decide +kernel)) (Nat.le_of_ble_eq_true rfl) (Nat.le_of_ble_eq_true rfl) (Nat.zero_le _) (Nat.zero_le _) dJ1_indexOf_4cfef_11 ?_
    refine lv_topi (fun x14 e_x14 => ?_)
    replace hp := hp x14 e_x14
    refine lv_istore_n (lv' := [(2, .int x14), (0, .ref (adV i)), (1, .int v1), (3, .int v3)]) hx hb dJ1_indexOf_4cfef_14 rfl hl (by decide) rfl (fun ls hl => ?_)
    refine lv_iload_n hx hb dJ1_indexOf_4cfef_15 rfl (lv_at hl 3 rfl) ?_
    refine lv_aload_n hx hb dJ1_indexOf_4cfef_16 rfl (lv_at hl 1 rfl) ?_
    refine va_tlen hx hb (hE.1.1 i hi).2.2.2 ho.2.2.2.2.1 rfl dJ1_indexOf_4cfef_17 ?_
    refine va_mmin hx hb (hml.trans hl.1.symm) hown (hts (.methodLink RJ1 38 Lib.Math.min.name) (by decide +kernel)) (hts (.static Lib.Math.min.name) (by decide +kernel)) (hts (.initialized "java/lang/Math") (by decide +kernel)) (hts (.code Lib.Math.min.name Lib.Math.min.code 2 (some .int)) (by decide +kernel)) (Nat.le_of_ble_eq_true rfl) (Nat.le_of_ble_eq_true rfl) (Nat.zero_le _) (Nat.zero_le _) dJ1_indexOf_4cfef_18 ?_
    refine lv_topi (fun x21 e_x21 => ?_)
    replace hp := hp x21 e_x21
    refine lv_istore_n (lv' := [(3, .int x21), (2, .int x14), (0, .ref (adV i)), (1, .int v1)]) hx hb dJ1_indexOf_4cfef_21 rfl hl (by decide) rfl (fun ls hl => ?_)
    refine lv_iload_n hx hb dJ1_indexOf_4cfef_22 rfl (lv_at hl 1 rfl) ?_
    refine lv_iload_n hx hb dJ1_indexOf_4cfef_23 rfl (lv_at hl 0 rfl) ?_
    refine lv_icmp_lt (tgt := 29) hx hb dJ1_indexOf_4cfef_24 (by decide) (fun c_24 => ?_) (fun c_24 => ?_)
    · replace hp := hp.1 c_24
      refine lv_aload_n hx hb dJ1_indexOf_4cfef_29 rfl (lv_at hl 2 rfl) ?_
      refine lv_iload_n hx hb dJ1_indexOf_4cfef_30 rfl (lv_at hl 3 rfl) ?_
      refine lv_iload_n hx hb dJ1_indexOf_4cfef_31 rfl (lv_at hl 1 rfl) ?_
      refine lv_iload_n hx hb dJ1_indexOf_4cfef_32 rfl (lv_at hl 0 rfl) ?_
      refine s_callSi (rest := []) ⟨hx, hb, hml, hown, hts⟩ hE ho (c_Jl_indexOfChar l D tys ws adK adV i hi v1 x14 x21 _ hp) (va_cwS 4 hts gJ1_indexOf_4cfef_J1_indexOfChar_4cfef rfl rfl rfl (by decide +kernel) ⟨(Nat.le_of_ble_eq_true rfl), (Nat.le_of_ble_eq_true rfl)⟩) rfl hl.1 rfl (Nat.le_of_ble_eq_true rfl) dJ1_indexOf_4cfef_33 ⟨Nat.zero_le _, Nat.zero_le _⟩ (fun r33 u H locs hp ho => ?_)
      replace ho : oW D tys A s.heap s ws H locs := ho
      exact hret r33 () _ _ _ _ dJ1_indexOf_4cfef_36 ho hp
    · replace hp := hp.2 c_24
      refine lv_iconst (v := (-1)) hx hb dJ1_indexOf_4cfef_27 (by decide) ?_
      exact hret (-1) () _ _ _ _ dJ1_indexOf_4cfef_28 ho hp
  · replace hp := hp.1 c_4
    refine lv_iconst (v := (-1)) hx hb dJ1_indexOf_4cfef_7 (by decide) ?_
    exact hret (-1) () _ _ _ _ dJ1_indexOf_4cfef_8 ho hp
set_option maxHeartbeats 4000000 in
set_option maxRecDepth 100000 in
theorem c_Js_indexOf2 (l : Launch) (D : va_G) (tys : List (ClassId × FieldType)) (ws : va_W) (adK adV : Nat → Nat) (i : Nat) (hi : i < 6)  (v1 : Int32) (v2 : Int32) (Q : Int32 → Prop) (hp : p_Js_indexOf2 i v1 v2 Q) : sKi l yJ0_indexOf_7cf53 wsJ0_indexOf_7cf53 { frames := 2, cells := 0, slots := 0, locals := 48 } adK adV [.ref (adK i), .int v1, .int v2] D tys ws (Unit) (fun r (_ : Unit) => Q r) (fun _ => ws) := by
  refine sKi.ofW (own := RJ0) (cc := cJ0_indexOf_7cf53) (maxL := 3) (by decide +kernel) rfl rfl (Nat.le_of_ble_eq_true rfl) (fun p e s m args below meth cd A ls Z hx hb hml hown hts hE hret ho hl => ?_)
  replace hl : lv_has ls 3 [(0, .ref (adK i)), (1, .int v1), (2, .int v2)] := hl
  have hf9 := hts (.fieldLink RJ0 9 "java/lang/String" "value" "[B") (by decide +kernel)
  unfold p_Js_indexOf2 at hp
  refine lv_aload_n hx hb dJ0_indexOf_7cf53_0 rfl (lv_at hl 0 rfl) ?_
  refine s_callVi (rest := []) ⟨hx, hb, hml, hown, hts⟩ hE ho (c_Js_isLatin1 l D tys ws adK adV i hi  _ hp) (cwV 0 hts gJ0_indexOf_7cf53_J0_isLatin1_aae02 rfl rfl rfl (by decide +kernel) ⟨(Nat.le_of_ble_eq_true rfl), (Nat.le_of_ble_eq_true rfl)⟩) (vk_recv hE.1 hi ho.2.2.2.2.1) rfl hl.1 rfl (Nat.le_of_ble_eq_true rfl) dJ0_indexOf_7cf53_1 ⟨Nat.zero_le _, Nat.zero_le _⟩ (fun r1 u H locs hp ho => ?_)
  replace ho : oW D tys A s.heap s ws H locs := ho
  refine lv_if_eq (tgt := 23) hx hb dJ0_indexOf_7cf53_4 (by decide) (fun c_4 => ?_) (fun c_4 => ?_)
  · replace hp := hp.1 c_4
    refine lv_aload_n hx hb dJ0_indexOf_7cf53_23 rfl (lv_at hl 0 rfl) ?_
    refine vk_getf hx hb (hE.1.1 i hi).2.2.1 ho.2.2.2.2.1 hown hf9 (fun _ h9 => h9) dJ0_indexOf_7cf53_24 ?_
    refine lv_iload_n hx hb dJ0_indexOf_7cf53_27 rfl (lv_at hl 1 rfl) ?_
    refine lv_iload_n hx hb dJ0_indexOf_7cf53_28 rfl (lv_at hl 2 rfl) ?_
    refine lv_aload_n hx hb dJ0_indexOf_7cf53_29 rfl (lv_at hl 0 rfl) ?_
    refine s_callVi (rest := [.int v2, .int v1, .ref (adV i)]) ⟨hx, hb, hml, hown, hts⟩ hE ho (c_Js_length l D tys ws adK adV i hi  _ hp) (cwV 0 hts gJ0_indexOf_7cf53_J0_length_8abf5 rfl rfl rfl (by decide +kernel) ⟨(Nat.le_of_ble_eq_true rfl), (Nat.le_of_ble_eq_true rfl)⟩) (vk_recv hE.1 hi ho.2.2.2.2.1) rfl hl.1 rfl (Nat.le_of_ble_eq_true rfl) dJ0_indexOf_7cf53_30 ⟨Nat.zero_le _, Nat.zero_le _⟩ (fun r30 u H locs hp ho => ?_)
    replace ho : oW D tys A s.heap s ws H locs := ho
    exact (show False from hp).elim
  · replace hp := hp.2 c_4
    refine lv_aload_n hx hb dJ0_indexOf_7cf53_7 rfl (lv_at hl 0 rfl) ?_
    refine vk_getf hx hb (hE.1.1 i hi).2.2.1 ho.2.2.2.2.1 hown hf9 (fun _ h9 => h9) dJ0_indexOf_7cf53_8 ?_
    refine lv_iload_n hx hb dJ0_indexOf_7cf53_11 rfl (lv_at hl 1 rfl) ?_
    refine lv_iload_n hx hb dJ0_indexOf_7cf53_12 rfl (lv_at hl 2 rfl) ?_
    refine lv_aload_n hx hb dJ0_indexOf_7cf53_13 rfl (lv_at hl 0 rfl) ?_
    refine s_callVi (rest := [.int v2, .int v1, .ref (adV i)]) ⟨hx, hb, hml, hown, hts⟩ hE ho (c_Js_length l D tys ws adK adV i hi  _ hp) (cwV 0 hts gJ0_indexOf_7cf53_J0_length_8abf5 rfl rfl rfl (by decide +kernel) ⟨(Nat.le_of_ble_eq_true rfl), (Nat.le_of_ble_eq_true rfl)⟩) (vk_recv hE.1 hi ho.2.2.2.2.1) rfl hl.1 rfl (Nat.le_of_ble_eq_true rfl) dJ0_indexOf_7cf53_14 ⟨Nat.zero_le _, Nat.zero_le _⟩ (fun r14 u H locs hp ho => ?_)
    replace ho : oW D tys A s.heap s ws H locs := ho
    refine s_callSi (rest := []) ⟨hx, hb, hml, hown, hts⟩ hE ho (c_Jl_indexOf l D tys ws adK adV i hi v1 v2 r14 _ hp) (va_cwS 4 hts gJ0_indexOf_7cf53_J1_indexOf_4cfef rfl rfl rfl (by decide +kernel) ⟨(Nat.le_of_ble_eq_true rfl), (Nat.le_of_ble_eq_true rfl)⟩) rfl hl.1 rfl (Nat.le_of_ble_eq_true rfl) dJ0_indexOf_7cf53_17 ⟨Nat.zero_le _, Nat.zero_le _⟩ (fun r17 u H locs hp ho => ?_)
    replace ho : oW D tys A s.heap s ws H locs := ho
    refine lv_goto (tgt := 36) hx hb dJ0_indexOf_7cf53_20 (by decide) ?_
    exact hret r17 () _ _ _ _ dJ0_indexOf_7cf53_36 ho hp
set_option maxHeartbeats 4000000 in
set_option maxRecDepth 100000 in
theorem c_Js_indexOf (l : Launch) (D : va_G) (tys : List (ClassId × FieldType)) (ws : va_W) (adK adV : Nat → Nat) (i : Nat) (hi : i < 6)  (v1 : Int32) (Q : Int32 → Prop) (hp : p_Js_indexOf i v1 Q) : sKi l yJ0_indexOf_0f7a4 wsJ0_indexOf_0f7a4 { frames := 3, cells := 0, slots := 0, locals := 70 } adK adV [.ref (adK i), .int v1] D tys ws (Unit) (fun r (_ : Unit) => Q r) (fun _ => ws) := by
  refine sKi.ofW (own := RJ0) (cc := cJ0_indexOf_0f7a4) (maxL := 2) (by decide +kernel) rfl rfl (Nat.le_of_ble_eq_true rfl) (fun p e s m args below meth cd A ls Z hx hb hml hown hts hE hret ho hl => ?_)
  replace hl : lv_has ls 2 [(0, .ref (adK i)), (1, .int v1)] := hl
  unfold p_Js_indexOf at hp
  refine lv_aload_n hx hb dJ0_indexOf_0f7a4_0 rfl (lv_at hl 0 rfl) ?_
  refine lv_iload_n hx hb dJ0_indexOf_0f7a4_1 rfl (lv_at hl 1 rfl) ?_
  refine lv_iconst (v := 0) hx hb dJ0_indexOf_0f7a4_2 (by decide) ?_
  refine s_callVi (rest := []) ⟨hx, hb, hml, hown, hts⟩ hE ho (c_Js_indexOf2 l D tys ws adK adV i hi v1 0 _ hp) (cwV 2 hts gJ0_indexOf_0f7a4_J0_indexOf_7cf53 rfl rfl rfl (by decide +kernel) ⟨(Nat.le_of_ble_eq_true rfl), (Nat.le_of_ble_eq_true rfl)⟩) (vk_recv hE.1 hi ho.2.2.2.2.1) rfl hl.1 rfl (Nat.le_of_ble_eq_true rfl) dJ0_indexOf_0f7a4_3 ⟨Nat.zero_le _, Nat.zero_le _⟩ (fun r3 u H locs hp ho => ?_)
  replace ho : oW D tys A s.heap s ws H locs := ho
  exact hret r3 () _ _ _ _ dJ0_indexOf_0f7a4_6 ho hp
set_option maxHeartbeats 4000000 in
set_option maxRecDepth 100000 in
theorem c_M_isSign (l : Launch) (D : va_G) (q : Nat → Nat) (c : Nat → ClassId) (adK adV : Nat → Nat) (i : Nat) (hi : i < 6) (mThr : Int32) (mTn : Int32) (mCk : Int32) (mRw : Int32) (mSt : Int32) (mTr : Int32) (mFM : Int32) (mFS : Int32) (mTpN : Int32) (mLw : Int32) (mAt : Int32) (mTwN : Int32) (mBE : Int32) (mBEn : Int32) (mSun : Nat → Int32) (mCkT : Nat → Int32) (mCkD : Nat → Int32) (mCkK : Nat → Int32) (mCkA : Nat → Int32) (mRow : Nat → Int32) (mStT : Nat → Int32) (mRun : Nat → Int32) (mUp : Nat → Int32) (mSta : Nat → Int32) (mSty : Nat → Int32) (mDly : Nat → Int32) (mTri : Nat → Int32) (mFnd : Nat → Int32) (mTap : Nat → Int32) (mLwT : Nat → Int32) (mLwD : Nat → Int32) (mLwO : Nat → Int32) (mLwM : Nat → Int32) (mTwT : Nat → Int32) (mSetA : Nat → Int32) (mDri : Nat → Int32) (mOrd : Nat → Int32) (mBst : Nat → Int32) (v1 : Int32) (Q : Int32 → Prop) (hp : p_M_isSign i mAt mTap v1 Q) : sKi l yX11_isSign wsX11_isSign { frames := 4, cells := 0, slots := 0, locals := 91 } adK adV [.ref (q 0), .int v1, .ref (adK i)] D (mT c) (wM q c mThr mTn mCk mRw mSt mTr mFM mFS mTpN mLw mAt mTwN mBE mBEn mSun mCkT mCkD mCkK mCkA mRow mStT mRun mUp mSta mSty mDly mTri mFnd mTap mLwT mLwD mLwO mLwM mTwT mSetA mDri mOrd mBst) (Unit) (fun r (_ : Unit) => Q r) (fun _ => wM q c mThr mTn mCk mRw mSt mTr mFM mFS mTpN mLw mAt mTwN mBE mBEn mSun mCkT mCkD mCkK mCkA mRow mStT mRun mUp mSta mSty mDly mTri mFnd mTap mLwT mLwD mLwO mLwM mTwT mSetA mDri mOrd mBst) := by
  refine sKi.ofWz (Or.inl rfl) (own := RX11) (cc := cX11_isSign) (maxL := 3) (plainFor_of_name (by decide +kernel)) rfl rfl (Nat.le_of_ble_eq_true rfl) (fun p e s m args below meth cd A ls Z hx hb hml hown hts hE hret ho hl => ?_)
  replace hl : lv_has ls 3 [(0, .ref (q 0)), (1, .int v1), (2, .ref (adK i))] := hl
  have hinX11 : ∀ w ∈ u_ws RX11 TX11 38, w ∈ wsX11_isSign := by decide +kernel
  have hf53 := hts (.fieldLink RX11 53 "OneTimeModel" "tape" "[I") (by decide +kernel)
  have hf194 := hts (.fieldLink RX11 194 "OneTimeModel" "at" "I") (by decide +kernel)
  unfold p_M_isSign at hp
  refine lv_aload_n hx hb dX11_isSign_0 rfl (lv_at hl 0 rfl) ?_
  refine o_get (ci := 11) (T := TX11) hx hb hts hinX11 hown ho 0 rfl rfl 29 (by decide) hf194 rfl dX11_isSign_1 ?_
  refine lv_iload_n hx hb dX11_isSign_4 rfl (lv_at hl 1 rfl) ?_
  refine lv_icmp_ge (tgt := 40) hx hb dX11_isSign_5 (by decide) (fun c_5 => ?_) (fun c_5 => ?_)
  · replace hp := hp.1 c_5
    refine lv_iconst (v := 0) hx hb dX11_isSign_40 (by decide) ?_
    exact hret 0 () _ _ _ _ dX11_isSign_41 (Or.inl rfl) ho hp
  · replace hp := hp.2 c_5
    refine lv_aload_n hx hb dX11_isSign_8 rfl (lv_at hl 0 rfl) ?_
    refine o_get (ci := 11) (T := TX11) hx hb hts hinX11 hown ho 0 rfl rfl 22 (by decide) hf53 rfl dX11_isSign_9 ?_
    refine lv_aload_n hx hb dX11_isSign_12 rfl (lv_at hl 0 rfl) ?_
    refine o_get (ci := 11) (T := TX11) hx hb hts hinX11 hown ho 0 rfl rfl 29 (by decide) hf194 rfl dX11_isSign_13 ?_
    refine o_ild hx hb ho 15 14 rfl rfl hp.1 dX11_isSign_16 ?_
    replace hp := hp.2
    refine lv_if_le (tgt := 40) hx hb dX11_isSign_17 (by decide) (fun c_17 => ?_) (fun c_17 => ?_)
    · replace hp := hp.1 c_17
      refine lv_iconst (v := 0) hx hb dX11_isSign_40 (by decide) ?_
      exact hret 0 () _ _ _ _ dX11_isSign_41 (Or.inl rfl) ho hp
    · replace hp := hp.2 c_17
      refine lv_aload_n hx hb dX11_isSign_20 rfl (lv_at hl 2 rfl) ?_
      refine lv_aload_n hx hb dX11_isSign_21 rfl (lv_at hl 0 rfl) ?_
      refine o_get (ci := 11) (T := TX11) hx hb hts hinX11 hown ho 0 rfl rfl 22 (by decide) hf53 rfl dX11_isSign_22 ?_
      refine lv_aload_n hx hb dX11_isSign_25 rfl (lv_at hl 0 rfl) ?_
      refine o_get (ci := 11) (T := TX11) hx hb hts hinX11 hown ho 0 rfl rfl 29 (by decide) hf194 rfl dX11_isSign_26 ?_
      refine o_ild hx hb ho 15 14 rfl rfl hp.1 dX11_isSign_29 ?_
      replace hp := hp.2
      refine s_callVi (rest := []) ⟨hx, hb, hml, hown, hts⟩ hE ho (c_Js_indexOf l D (mT c) (wM q c mThr mTn mCk mRw mSt mTr mFM mFS mTpN mLw mAt mTwN mBE mBEn mSun mCkT mCkD mCkK mCkA mRow mStT mRun mUp mSta mSty mDly mTri mFnd mTap mLwT mLwD mLwO mLwM mTwT mSetA mDri mOrd mBst) adK adV i hi (mTap mAt.toNatClampNeg) _ hp) (cwV 1 hts gX11_isSign_J0_indexOf_0f7a4 rfl rfl rfl (by decide +kernel) ⟨(Nat.le_of_ble_eq_true rfl), (Nat.le_of_ble_eq_true rfl)⟩) (vk_recv hE.1 hi ho.2.2.2.2.1) rfl hl.1 rfl (Nat.le_of_ble_eq_true rfl) dX11_isSign_30 ⟨Nat.zero_le _, Nat.zero_le _⟩ (fun r30 u H locs hp ho => ?_)
      try dsimp only at hp
      replace ho : oW D (mT c) A s.heap s (wM q c mThr mTn mCk mRw mSt mTr mFM mFS mTpN mLw mAt mTwN mBE mBEn mSun mCkT mCkD mCkK mCkA mRow mStT mRun mUp mSta mSty mDly mTri mFnd mTap mLwT mLwD mLwO mLwM mTwT mSetA mDri mOrd mBst) H locs := ho
      refine lv_if_lt (tgt := 40) hx hb dX11_isSign_33 (by decide) (fun c_33 => ?_) (fun c_33 => ?_)
      · replace hp := hp.1 c_33
        refine lv_iconst (v := 0) hx hb dX11_isSign_40 (by decide) ?_
        exact hret 0 () _ _ _ _ dX11_isSign_41 (Or.inl rfl) ho hp
      · replace hp := hp.2 c_33
        refine lv_iconst (v := 1) hx hb dX11_isSign_36 (by decide) ?_
        refine lv_goto (tgt := 41) hx hb dX11_isSign_37 (by decide) ?_
        exact hret 1 () _ _ _ _ dX11_isSign_41 (Or.inr rfl) ho hp
set_option maxHeartbeats 4000000 in
set_option maxRecDepth 100000 in
theorem c_M_item (l : Launch) (D : va_G) (q : Nat → Nat) (c : Nat → ClassId) (adK adV : Nat → Nat) (mThr : Int32) (mTn : Int32) (mCk : Int32) (mRw : Int32) (mSt : Int32) (mTr : Int32) (mFM : Int32) (mFS : Int32) (mTpN : Int32) (mLw : Int32) (mAt : Int32) (mTwN : Int32) (mBE : Int32) (mBEn : Int32) (mSun : Nat → Int32) (mCkT : Nat → Int32) (mCkD : Nat → Int32) (mCkK : Nat → Int32) (mCkA : Nat → Int32) (mRow : Nat → Int32) (mStT : Nat → Int32) (mRun : Nat → Int32) (mUp : Nat → Int32) (mSta : Nat → Int32) (mSty : Nat → Int32) (mDly : Nat → Int32) (mTri : Nat → Int32) (mFnd : Nat → Int32) (mTap : Nat → Int32) (mLwT : Nat → Int32) (mLwD : Nat → Int32) (mLwO : Nat → Int32) (mLwM : Nat → Int32) (mTwT : Nat → Int32) (mSetA : Nat → Int32) (mDri : Nat → Int32) (mOrd : Nat → Int32) (mBst : Nat → Int32) (v1 : Int32) (Q : Int32 → Int32 → (Nat → Int32) → (Nat → Int32) → Prop) (hp : p_M_item mLw mTap mAt mLwO mLwM v1 Q) : sKi l yX11_item wsX11_item { frames := 5, cells := 0, slots := 0, locals := 113 } adK adV [.ref (q 0), .int v1] D (mT c) (wM q c mThr mTn mCk mRw mSt mTr mFM mFS mTpN mLw mAt mTwN mBE mBEn mSun mCkT mCkD mCkK mCkA mRow mStT mRun mUp mSta mSty mDly mTri mFnd mTap mLwT mLwD mLwO mLwM mTwT mSetA mDri mOrd mBst) (Int32 × (Nat → Int32) × (Nat → Int32)) (fun r (u : Int32 × (Nat → Int32) × (Nat → Int32)) => Q r u.1 u.2.1 u.2.2) (fun u => wM q c mThr mTn mCk mRw mSt mTr mFM mFS mTpN mLw u.1 mTwN mBE mBEn mSun mCkT mCkD mCkK mCkA mRow mStT mRun mUp mSta mSty mDly mTri mFnd mTap mLwT mLwD u.2.1 u.2.2 mTwT mSetA mDri mOrd mBst) := by
  refine sKi.ofWz (Or.inl rfl) (own := RX11) (cc := cX11_item) (maxL := 5) (plainFor_of_name (by decide +kernel)) rfl rfl (Nat.le_of_ble_eq_true rfl) (fun p e s m args below meth cd A ls Z hx hb hml hown hts hE hret ho hl => ?_)
  replace hl : lv_has ls 5 [(0, .ref (q 0)), (1, .int v1)] := hl
  have hinX11 : ∀ w ∈ u_ws RX11 TX11 38, w ∈ wsX11_item := by decide +kernel
  have hf53 := hts (.fieldLink RX11 53 "OneTimeModel" "tape" "[I") (by decide +kernel)
  have hf62 := hts (.fieldLink RX11 62 "OneTimeModel" "lawOf" "[I") (by decide +kernel)
  have hf65 := hts (.fieldLink RX11 65 "OneTimeModel" "lawMore" "[I") (by decide +kernel)
  have hf124 := hts (.fieldLink RX11 124 "OneTimeModel" "laws" "I") (by decide +kernel)
  have hf194 := hts (.fieldLink RX11 194 "OneTimeModel" "at" "I") (by decide +kernel)
  unfold p_M_item at hp
  have hJ221 : ∀ (v4 : Int32) (mAt : Int32) (mLwO : Nat → Int32) (mLwM : Nat → Int32), p_M_item_J221 mLw mTap v4 mAt mLwO mLwM Q → ∀ (H : Heap) (locs : List Loc) (ls : Array Slot), oW D (mT c) A s.heap s (wM q c mThr mTn mCk mRw mSt mTr mFM mFS mTpN mLw mAt mTwN mBE mBEn mSun mCkT mCkD mCkK mCkA mRow mStT mRun mUp mSta mSty mDly mTri mFnd mTap mLwT mLwD mLwO mLwM mTwT mSetA mDri mOrd mBst) H locs → lv_has ls 5 [(0, .ref (q 0)), (4, .int v4)] → W p l e { frames := 5, cells := 0, slots := 0, locals := 113 } s m args below meth cd H locs 0 0 Z (F0 m 221 ls []) := by
    intro v4 mAt mLwO mLwM
    intro hp H locs ls ho hl
    unfold p_M_item_J221 at hp
    refine lv_aload_n hx hb dX11_item_221 rfl (lv_at hl 0 rfl) ?_
    refine o_get (ci := 11) (T := TX11) hx hb hts hinX11 hown ho 0 rfl rfl 29 (by decide) hf194 rfl dX11_item_222 ?_
    refine lv_iload hx hb dX11_item_225 (lv_at hl 1 rfl) ?_
    refine lv_icmp_le (tgt := 234) hx hb dX11_item_227 (by decide) (fun c_227 => ?_) (fun c_227 => ?_)
    · replace hp := hp.1 c_227
      refine lv_iconst (v := 0) hx hb dX11_item_234 (by decide) ?_
      exact hret 0 (mAt, mLwO, mLwM) _ _ _ _ dX11_item_235 (Or.inl rfl) ho hp
    · replace hp := hp.2 c_227
      refine lv_iconst (v := 1) hx hb dX11_item_230 (by decide) ?_
      refine lv_goto (tgt := 235) hx hb dX11_item_231 (by decide) ?_
      exact hret 1 (mAt, mLwO, mLwM) _ _ _ _ dX11_item_235 (Or.inr rfl) ho hp
  have hL157 : ∀ (v1 : Int32) (v2 : Int32) (v3 : Int32) (v4 : Int32) (mLwO : Nat → Int32) (mAt : Int32) (mLwM : Nat → Int32), Lp2 (p_M_item_L157 mLw mTap v1 v2 v3 v4 mLwO Q) mAt mLwM → ∀ (H : Heap) (locs : List Loc) (ls : Array Slot), oW D (mT c) A s.heap s (wM q c mThr mTn mCk mRw mSt mTr mFM mFS mTpN mLw mAt mTwN mBE mBEn mSun mCkT mCkD mCkK mCkA mRow mStT mRun mUp mSta mSty mDly mTri mFnd mTap mLwT mLwD mLwO mLwM mTwT mSetA mDri mOrd mBst) H locs → lv_has ls 5 [(0, .ref (q 0)), (1, .int v1), (2, .int v2), (3, .int v3), (4, .int v4)] → W p l e { frames := 5, cells := 0, slots := 0, locals := 113 } s m args below meth cd H locs 0 0 Z (F0 m 157 ls []) := by
    intro v1 v2 v3 v4 mLwO
    refine Lp2.ind (fun rec hrec mAt mLwM hp H locs ls ho hl => ?_)
    unfold p_M_item_L157 at hp
    refine lv_aload_n hx hb dX11_item_157 rfl (lv_at hl 0 rfl) ?_
    refine o_get (ci := 11) (T := TX11) hx hb hts hinX11 hown ho 0 rfl rfl 29 (by decide) hf194 rfl dX11_item_158 ?_
    refine lv_iload hx hb dX11_item_161 (lv_at hl 4 rfl) ?_
    refine lv_iconst (v := 3) hx hb dX11_item_163 (by decide) ?_
    refine lv_iadd hx hb dX11_item_164 ?_
    refine lv_icmp_ge (tgt := 221) hx hb dX11_item_165 (by decide) (fun c_165 => ?_) (fun c_165 => ?_)
    · replace hp := hp.1 c_165
      exact hJ221 v4 mAt mLwO mLwM hp _ _ _ ho (lv_sub hl [0, 4] rfl)
    · replace hp := hp.2 c_165
      refine lv_aload_n hx hb dX11_item_168 rfl (lv_at hl 0 rfl) ?_
      refine lv_iload_n hx hb dX11_item_169 rfl (lv_at hl 1 rfl) ?_
      refine va_ldcS hx hb hown hE.2.2.2.2.2.2.1 dX11_item_170 ?_
      refine s_callVi (rest := []) ⟨hx, hb, hml, hown, hts⟩ hE ho (c_M_isSign l D q c adK adV 4 (by decide) mThr mTn mCk mRw mSt mTr mFM mFS mTpN mLw mAt mTwN mBE mBEn mSun mCkT mCkD mCkK mCkA mRow mStT mRun mUp mSta mSty mDly mTri mFnd mTap mLwT mLwD mLwO mLwM mTwT mSetA mDri mOrd mBst v1 _ hp) (cwV 2 hts gX11_item_X11_isSign rfl rfl rfl (by decide +kernel) ⟨(Nat.le_of_ble_eq_true rfl), (Nat.le_of_ble_eq_true rfl)⟩) (va_recv ho.1 ho.2.2.1 (ci := 11) (q0 := 0) rfl rfl) rfl hl.1 rfl (Nat.le_of_ble_eq_true rfl) dX11_item_172 ⟨Nat.zero_le _, Nat.zero_le _⟩ (fun r172 u H locs hp ho => ?_)
      try dsimp only at hp
      replace ho : oW D (mT c) A s.heap s (wM q c mThr mTn mCk mRw mSt mTr mFM mFS mTpN mLw mAt mTwN mBE mBEn mSun mCkT mCkD mCkK mCkA mRow mStT mRun mUp mSta mSty mDly mTri mFnd mTap mLwT mLwD mLwO mLwM mTwT mSetA mDri mOrd mBst) H locs := ho
      refine lv_if_eq (tgt := 221) hx hb dX11_item_175 (by decide) (fun c_175 => ?_) (fun c_175 => ?_)
      · replace hp := hp.1 c_175
        exact hJ221 v4 mAt mLwO mLwM hp _ _ _ ho (lv_sub hl [0, 4] rfl)
      · replace hp := hp.2 c_175
        refine lv_aload_n hx hb dX11_item_178 rfl (lv_at hl 0 rfl) ?_
        refine o_get (ci := 11) (T := TX11) hx hb hts hinX11 hown ho 0 rfl rfl 28 (by decide) hf65 rfl dX11_item_179 ?_
        refine lv_iload_n hx hb dX11_item_182 rfl (lv_at hl 2 rfl) ?_
        refine lv_bipush (v := 10) hx hb dX11_item_183 (by decide) ?_
        refine lv_aload_n hx hb dX11_item_185 rfl (lv_at hl 0 rfl) ?_
        refine o_get (ci := 11) (T := TX11) hx hb hts hinX11 hown ho 0 rfl rfl 28 (by decide) hf65 rfl dX11_item_186 ?_
        refine lv_iload_n hx hb dX11_item_189 rfl (lv_at hl 2 rfl) ?_
        refine o_ild hx hb ho 19 18 rfl rfl hp.1 dX11_item_190 ?_
        replace hp := hp.2
        refine lv_imul hx hb dX11_item_191 ?_
        refine lv_iload_n hx hb dX11_item_192 rfl (lv_at hl 3 rfl) ?_
        refine lv_aload_n hx hb dX11_item_193 rfl (lv_at hl 0 rfl) ?_
        refine o_get (ci := 11) (T := TX11) hx hb hts hinX11 hown ho 0 rfl rfl 22 (by decide) hf53 rfl dX11_item_194 ?_
        refine lv_aload_n hx hb dX11_item_197 rfl (lv_at hl 0 rfl) ?_
        refine o_get (ci := 11) (T := TX11) hx hb hts hinX11 hown ho 0 rfl rfl 29 (by decide) hf194 rfl dX11_item_198 ?_
        refine o_ild hx hb ho 15 14 rfl rfl hp.1 dX11_item_201 ?_
        replace hp := hp.2
        refine lv_bipush (v := 48) hx hb dX11_item_202 (by decide) ?_
        refine lv_isub hx hb dX11_item_204 ?_
        refine lv_imul hx hb dX11_item_205 ?_
        refine lv_iadd hx hb dX11_item_206 ?_
        refine o_ist hx hb ho 19 18 rfl rfl hp.1 dX11_item_207 (fun H locs ho => ?_)
        replace hp := hp.2
        replace ho : oW D (mT c) A s.heap s (wM q c mThr mTn mCk mRw mSt mTr mFM mFS mTpN mLw mAt mTwN mBE mBEn mSun mCkT mCkD mCkK mCkA mRow mStT mRun mUp mSta mSty mDly mTri mFnd mTap mLwT mLwD mLwO (upd mLwM v2.toNatClampNeg ((10 * (mLwM v2.toNatClampNeg)) + (v3 * ((mTap mAt.toNatClampNeg) - 48)))) mTwT mSetA mDri mOrd mBst) H locs := ho
        refine lv_aload_n hx hb dX11_item_208 rfl (lv_at hl 0 rfl) ?_
        refine lv_dup hx hb dX11_item_209 rfl ?_
        refine o_get (ci := 11) (T := TX11) hx hb hts hinX11 hown ho 0 rfl rfl 29 (by decide) hf194 rfl dX11_item_210 ?_
        refine lv_iconst (v := 1) hx hb dX11_item_213 (by decide) ?_
        refine lv_iadd hx hb dX11_item_214 ?_
        refine lv_topi (fun x215 e_x215 => ?_)
        replace hp := hp x215 e_x215
        refine o_put (ci := 11) (T := TX11) hx hb hts hinX11 tyX11_ok nmX11 hown ho 0 rfl rfl 29 (by decide) hf194 rfl (tyX11_ok 29 (by decide)) (Nat.le_of_ble_eq_true rfl) dX11_item_215 (fun H locs ho => ?_)
        replace ho : oW D (mT c) A s.heap s (wM q c mThr mTn mCk mRw mSt mTr mFM mFS mTpN mLw x215 mTwN mBE mBEn mSun mCkT mCkD mCkK mCkA mRow mStT mRun mUp mSta mSty mDly mTri mFnd mTap mLwT mLwD mLwO (upd mLwM v2.toNatClampNeg ((10 * (mLwM v2.toNatClampNeg)) + (v3 * ((mTap mAt.toNatClampNeg) - 48)))) mTwT mSetA mDri mOrd mBst) H locs := ho
        refine lv_goto (tgt := 157) hx hb dX11_item_218 (by decide) ?_
        exact hrec x215 (upd mLwM v2.toNatClampNeg ((10 * (mLwM v2.toNatClampNeg)) + (v3 * ((mTap mAt.toNatClampNeg) - 48)))) hp _ _ _ ho (lv_sub hl [0, 1, 2, 3, 4] rfl)
  have hJ140 : ∀ (v1 : Int32) (v2 : Int32) (mAt : Int32) (mLwO : Nat → Int32) (mLwM : Nat → Int32) (s0 : Int32), p_M_item_J140 mLw mTap v1 v2 mAt mLwO mLwM s0 Q → ∀ (H : Heap) (locs : List Loc) (ls : Array Slot), oW D (mT c) A s.heap s (wM q c mThr mTn mCk mRw mSt mTr mFM mFS mTpN mLw mAt mTwN mBE mBEn mSun mCkT mCkD mCkK mCkA mRow mStT mRun mUp mSta mSty mDly mTri mFnd mTap mLwT mLwD mLwO mLwM mTwT mSetA mDri mOrd mBst) H locs → lv_has ls 5 [(0, .ref (q 0)), (1, .int v1), (2, .int v2)] → W p l e { frames := 5, cells := 0, slots := 0, locals := 113 } s m args below meth cd H locs 0 0 Z (F0 m 140 ls [.int s0]) := by
    intro v1 v2 mAt mLwO mLwM s0
    intro hp H locs ls ho hl
    unfold p_M_item_J140 at hp
    refine lv_istore_n (lv' := [(3, .int s0), (0, .ref (q 0)), (1, .int v1), (2, .int v2)]) hx hb dX11_item_140 rfl hl (by decide) rfl (fun ls hl => ?_)
    refine lv_aload_n hx hb dX11_item_141 rfl (lv_at hl 1 rfl) ?_
    refine lv_dup hx hb dX11_item_142 rfl ?_
    refine o_get (ci := 11) (T := TX11) hx hb hts hinX11 hown ho 0 rfl rfl 29 (by decide) hf194 rfl dX11_item_143 ?_
    refine lv_iconst (v := 1) hx hb dX11_item_146 (by decide) ?_
    refine lv_iadd hx hb dX11_item_147 ?_
    refine lv_topi (fun x148 e_x148 => ?_)
    replace hp := hp x148 e_x148
    refine o_put (ci := 11) (T := TX11) hx hb hts hinX11 tyX11_ok nmX11 hown ho 0 rfl rfl 29 (by decide) hf194 rfl (tyX11_ok 29 (by decide)) (Nat.le_of_ble_eq_true rfl) dX11_item_148 (fun H locs ho => ?_)
    replace ho : oW D (mT c) A s.heap s (wM q c mThr mTn mCk mRw mSt mTr mFM mFS mTpN mLw x148 mTwN mBE mBEn mSun mCkT mCkD mCkK mCkA mRow mStT mRun mUp mSta mSty mDly mTri mFnd mTap mLwT mLwD mLwO mLwM mTwT mSetA mDri mOrd mBst) H locs := ho
    refine lv_aload_n hx hb dX11_item_151 rfl (lv_at hl 1 rfl) ?_
    refine o_get (ci := 11) (T := TX11) hx hb hts hinX11 hown ho 0 rfl rfl 29 (by decide) hf194 rfl dX11_item_152 ?_
    refine lv_istore (lv' := [(4, .int x148), (3, .int s0), (0, .ref (q 0)), (1, .int v1), (2, .int v2)]) hx hb dX11_item_155 hl (by decide) rfl (fun ls hl => ?_)
    exact hL157 v1 v2 s0 x148 mLwO x148 mLwM hp _ _ _ ho (lv_sub hl [2, 3, 4, 1, 0] rfl)
  refine lv_aload_n hx hb dX11_item_0 rfl (lv_at hl 0 rfl) ?_
  refine lv_iload_n hx hb dX11_item_1 rfl (lv_at hl 1 rfl) ?_
  refine va_ldcS hx hb hown hE.2.2.1 dX11_item_2 ?_
  refine s_callVi (rest := []) ⟨hx, hb, hml, hown, hts⟩ hE ho (c_M_isSign l D q c adK adV 0 (by decide) mThr mTn mCk mRw mSt mTr mFM mFS mTpN mLw mAt mTwN mBE mBEn mSun mCkT mCkD mCkK mCkA mRow mStT mRun mUp mSta mSty mDly mTri mFnd mTap mLwT mLwD mLwO mLwM mTwT mSetA mDri mOrd mBst v1 _ hp) (cwV 2 hts gX11_item_X11_isSign rfl rfl rfl (by decide +kernel) ⟨(Nat.le_of_ble_eq_true rfl), (Nat.le_of_ble_eq_true rfl)⟩) (va_recv ho.1 ho.2.2.1 (ci := 11) (q0 := 0) rfl rfl) rfl hl.1 rfl (Nat.le_of_ble_eq_true rfl) dX11_item_4 ⟨Nat.zero_le _, Nat.zero_le _⟩ (fun r4 u H locs hp ho => ?_)
  try dsimp only at hp
  replace ho : oW D (mT c) A s.heap s (wM q c mThr mTn mCk mRw mSt mTr mFM mFS mTpN mLw mAt mTwN mBE mBEn mSun mCkT mCkD mCkK mCkA mRow mStT mRun mUp mSta mSty mDly mTri mFnd mTap mLwT mLwD mLwO mLwM mTwT mSetA mDri mOrd mBst) H locs := ho
  refine lv_if_ne (tgt := 12) hx hb dX11_item_7 (by decide) (fun c_7 => ?_) (fun c_7 => ?_)
  · replace hp := hp.2 c_7
    refine lv_bipush (v := 6) hx hb dX11_item_12 (by decide) ?_
    refine lv_aload_n hx hb dX11_item_14 rfl (lv_at hl 0 rfl) ?_
    refine o_get (ci := 11) (T := TX11) hx hb hts hinX11 hown ho 0 rfl rfl 24 (by decide) hf124 rfl dX11_item_15 ?_
    refine lv_imul hx hb dX11_item_18 ?_
    refine lv_aload_n hx hb dX11_item_19 rfl (lv_at hl 0 rfl) ?_
    refine o_get (ci := 11) (T := TX11) hx hb hts hinX11 hown ho 0 rfl rfl 22 (by decide) hf53 rfl dX11_item_20 ?_
    refine lv_aload_n hx hb dX11_item_23 rfl (lv_at hl 0 rfl) ?_
    refine o_get (ci := 11) (T := TX11) hx hb hts hinX11 hown ho 0 rfl rfl 29 (by decide) hf194 rfl dX11_item_24 ?_
    refine o_ild hx hb ho 15 14 rfl rfl hp.1 dX11_item_27 ?_
    replace hp := hp.2
    refine lv_iadd hx hb dX11_item_28 ?_
    refine lv_bipush (v := 97) hx hb dX11_item_29 (by decide) ?_
    refine lv_isub hx hb dX11_item_31 ?_
    refine lv_topi (fun x32 e_x32 => ?_)
    replace hp := hp x32 e_x32
    refine lv_istore_n (lv' := [(2, .int x32), (0, .ref (q 0)), (1, .int v1)]) hx hb dX11_item_32 rfl hl (by decide) rfl (fun ls hl => ?_)
    refine lv_aload_n hx hb dX11_item_33 rfl (lv_at hl 1 rfl) ?_
    refine lv_dup hx hb dX11_item_34 rfl ?_
    refine o_get (ci := 11) (T := TX11) hx hb hts hinX11 hown ho 0 rfl rfl 29 (by decide) hf194 rfl dX11_item_35 ?_
    refine lv_iconst (v := 1) hx hb dX11_item_38 (by decide) ?_
    refine lv_iadd hx hb dX11_item_39 ?_
    refine lv_topi (fun x40 e_x40 => ?_)
    replace hp := hp x40 e_x40
    refine o_put (ci := 11) (T := TX11) hx hb hts hinX11 tyX11_ok nmX11 hown ho 0 rfl rfl 29 (by decide) hf194 rfl (tyX11_ok 29 (by decide)) (Nat.le_of_ble_eq_true rfl) dX11_item_40 (fun H locs ho => ?_)
    replace ho : oW D (mT c) A s.heap s (wM q c mThr mTn mCk mRw mSt mTr mFM mFS mTpN mLw x40 mTwN mBE mBEn mSun mCkT mCkD mCkK mCkA mRow mStT mRun mUp mSta mSty mDly mTri mFnd mTap mLwT mLwD mLwO mLwM mTwT mSetA mDri mOrd mBst) H locs := ho
    refine lv_aload_n hx hb dX11_item_43 rfl (lv_at hl 1 rfl) ?_
    refine lv_iload_n hx hb dX11_item_44 rfl (lv_at hl 2 rfl) ?_
    refine va_ldcS hx hb hown hE.2.2.2.1 dX11_item_45 ?_
    refine s_callVi (rest := []) ⟨hx, hb, hml, hown, hts⟩ hE ho (c_M_isSign l D q c adK adV 1 (by decide) mThr mTn mCk mRw mSt mTr mFM mFS mTpN mLw x40 mTwN mBE mBEn mSun mCkT mCkD mCkK mCkA mRow mStT mRun mUp mSta mSty mDly mTri mFnd mTap mLwT mLwD mLwO mLwM mTwT mSetA mDri mOrd mBst v1 _ hp) (cwV 2 hts gX11_item_X11_isSign rfl rfl rfl (by decide +kernel) ⟨(Nat.le_of_ble_eq_true rfl), (Nat.le_of_ble_eq_true rfl)⟩) (va_recv ho.1 ho.2.2.1 (ci := 11) (q0 := 0) rfl rfl) rfl hl.1 rfl (Nat.le_of_ble_eq_true rfl) dX11_item_47 ⟨Nat.zero_le _, Nat.zero_le _⟩ (fun r47 u H locs hp ho => ?_)
    try dsimp only at hp
    replace ho : oW D (mT c) A s.heap s (wM q c mThr mTn mCk mRw mSt mTr mFM mFS mTpN mLw x40 mTwN mBE mBEn mSun mCkT mCkD mCkK mCkA mRow mStT mRun mUp mSta mSty mDly mTri mFnd mTap mLwT mLwD mLwO mLwM mTwT mSetA mDri mOrd mBst) H locs := ho
    refine lv_if_ne (tgt := 55) hx hb dX11_item_50 (by decide) (fun c_50 => ?_) (fun c_50 => ?_)
    · replace hp := hp.2 c_50
      refine lv_aload_n hx hb dX11_item_55 rfl (lv_at hl 1 rfl) ?_
      refine lv_dup hx hb dX11_item_56 rfl ?_
      refine o_get (ci := 11) (T := TX11) hx hb hts hinX11 hown ho 0 rfl rfl 29 (by decide) hf194 rfl dX11_item_57 ?_
      refine lv_iconst (v := 1) hx hb dX11_item_60 (by decide) ?_
      refine lv_iadd hx hb dX11_item_61 ?_
      refine lv_topi (fun x62 e_x62 => ?_)
      replace hp := hp x62 e_x62
      refine o_put (ci := 11) (T := TX11) hx hb hts hinX11 tyX11_ok nmX11 hown ho 0 rfl rfl 29 (by decide) hf194 rfl (tyX11_ok 29 (by decide)) (Nat.le_of_ble_eq_true rfl) dX11_item_62 (fun H locs ho => ?_)
      replace ho : oW D (mT c) A s.heap s (wM q c mThr mTn mCk mRw mSt mTr mFM mFS mTpN mLw x62 mTwN mBE mBEn mSun mCkT mCkD mCkK mCkA mRow mStT mRun mUp mSta mSty mDly mTri mFnd mTap mLwT mLwD mLwO mLwM mTwT mSetA mDri mOrd mBst) H locs := ho
      refine lv_aload_n hx hb dX11_item_65 rfl (lv_at hl 1 rfl) ?_
      refine lv_iload_n hx hb dX11_item_66 rfl (lv_at hl 2 rfl) ?_
      refine va_ldcS hx hb hown hE.2.2.2.2.1 dX11_item_67 ?_
      refine s_callVi (rest := []) ⟨hx, hb, hml, hown, hts⟩ hE ho (c_M_isSign l D q c adK adV 2 (by decide) mThr mTn mCk mRw mSt mTr mFM mFS mTpN mLw x62 mTwN mBE mBEn mSun mCkT mCkD mCkK mCkA mRow mStT mRun mUp mSta mSty mDly mTri mFnd mTap mLwT mLwD mLwO mLwM mTwT mSetA mDri mOrd mBst v1 _ hp) (cwV 2 hts gX11_item_X11_isSign rfl rfl rfl (by decide +kernel) ⟨(Nat.le_of_ble_eq_true rfl), (Nat.le_of_ble_eq_true rfl)⟩) (va_recv ho.1 ho.2.2.1 (ci := 11) (q0 := 0) rfl rfl) rfl hl.1 rfl (Nat.le_of_ble_eq_true rfl) dX11_item_69 ⟨Nat.zero_le _, Nat.zero_le _⟩ (fun r69 u H locs hp ho => ?_)
      try dsimp only at hp
      replace ho : oW D (mT c) A s.heap s (wM q c mThr mTn mCk mRw mSt mTr mFM mFS mTpN mLw x62 mTwN mBE mBEn mSun mCkT mCkD mCkK mCkA mRow mStT mRun mUp mSta mSty mDly mTri mFnd mTap mLwT mLwD mLwO mLwM mTwT mSetA mDri mOrd mBst) H locs := ho
      refine lv_if_ne (tgt := 77) hx hb dX11_item_72 (by decide) (fun c_72 => ?_) (fun c_72 => ?_)
      · replace hp := hp.2 c_72
        refine lv_aload_n hx hb dX11_item_77 rfl (lv_at hl 1 rfl) ?_
        refine o_get (ci := 11) (T := TX11) hx hb hts hinX11 hown ho 0 rfl rfl 27 (by decide) hf62 rfl dX11_item_78 ?_
        refine lv_iload_n hx hb dX11_item_81 rfl (lv_at hl 0 rfl) ?_
        refine lv_aload_n hx hb dX11_item_82 rfl (lv_at hl 1 rfl) ?_
        refine o_get (ci := 11) (T := TX11) hx hb hts hinX11 hown ho 0 rfl rfl 22 (by decide) hf53 rfl dX11_item_83 ?_
        refine lv_aload_n hx hb dX11_item_86 rfl (lv_at hl 1 rfl) ?_
        refine o_get (ci := 11) (T := TX11) hx hb hts hinX11 hown ho 0 rfl rfl 29 (by decide) hf194 rfl dX11_item_87 ?_
        refine o_ild hx hb ho 15 14 rfl rfl hp.1 dX11_item_90 ?_
        replace hp := hp.2
        refine o_ist hx hb ho 18 17 rfl rfl hp.1 dX11_item_91 (fun H locs ho => ?_)
        replace hp := hp.2
        replace ho : oW D (mT c) A s.heap s (wM q c mThr mTn mCk mRw mSt mTr mFM mFS mTpN mLw x62 mTwN mBE mBEn mSun mCkT mCkD mCkK mCkA mRow mStT mRun mUp mSta mSty mDly mTri mFnd mTap mLwT mLwD (upd mLwO x32.toNatClampNeg (mTap x62.toNatClampNeg)) mLwM mTwT mSetA mDri mOrd mBst) H locs := ho
        refine lv_aload_n hx hb dX11_item_92 rfl (lv_at hl 1 rfl) ?_
        refine o_get (ci := 11) (T := TX11) hx hb hts hinX11 hown ho 0 rfl rfl 28 (by decide) hf65 rfl dX11_item_93 ?_
        refine lv_iload_n hx hb dX11_item_96 rfl (lv_at hl 0 rfl) ?_
        refine lv_iconst (v := 0) hx hb dX11_item_97 (by decide) ?_
        refine o_ist hx hb ho 19 18 rfl rfl hp.1 dX11_item_98 (fun H locs ho => ?_)
        replace hp := hp.2
        replace ho : oW D (mT c) A s.heap s (wM q c mThr mTn mCk mRw mSt mTr mFM mFS mTpN mLw x62 mTwN mBE mBEn mSun mCkT mCkD mCkK mCkA mRow mStT mRun mUp mSta mSty mDly mTri mFnd mTap mLwT mLwD (upd mLwO x32.toNatClampNeg (mTap x62.toNatClampNeg)) (upd mLwM x32.toNatClampNeg 0) mTwT mSetA mDri mOrd mBst) H locs := ho
        refine lv_aload_n hx hb dX11_item_99 rfl (lv_at hl 1 rfl) ?_
        refine lv_dup hx hb dX11_item_100 rfl ?_
        refine o_get (ci := 11) (T := TX11) hx hb hts hinX11 hown ho 0 rfl rfl 29 (by decide) hf194 rfl dX11_item_101 ?_
        refine lv_iconst (v := 1) hx hb dX11_item_104 (by decide) ?_
        refine lv_iadd hx hb dX11_item_105 ?_
        refine lv_topi (fun x106 e_x106 => ?_)
        replace hp := hp x106 e_x106
        refine o_put (ci := 11) (T := TX11) hx hb hts hinX11 tyX11_ok nmX11 hown ho 0 rfl rfl 29 (by decide) hf194 rfl (tyX11_ok 29 (by decide)) (Nat.le_of_ble_eq_true rfl) dX11_item_106 (fun H locs ho => ?_)
        replace ho : oW D (mT c) A s.heap s (wM q c mThr mTn mCk mRw mSt mTr mFM mFS mTpN mLw x106 mTwN mBE mBEn mSun mCkT mCkD mCkK mCkA mRow mStT mRun mUp mSta mSty mDly mTri mFnd mTap mLwT mLwD (upd mLwO x32.toNatClampNeg (mTap x62.toNatClampNeg)) (upd mLwM x32.toNatClampNeg 0) mTwT mSetA mDri mOrd mBst) H locs := ho
        refine lv_aload_n hx hb dX11_item_109 rfl (lv_at hl 1 rfl) ?_
        refine lv_iload_n hx hb dX11_item_110 rfl (lv_at hl 2 rfl) ?_
        refine va_ldcS hx hb hown hE.2.2.2.2.2.1 dX11_item_111 ?_
        refine s_callVi (rest := []) ⟨hx, hb, hml, hown, hts⟩ hE ho (c_M_isSign l D q c adK adV 3 (by decide) mThr mTn mCk mRw mSt mTr mFM mFS mTpN mLw x106 mTwN mBE mBEn mSun mCkT mCkD mCkK mCkA mRow mStT mRun mUp mSta mSty mDly mTri mFnd mTap mLwT mLwD (upd mLwO x32.toNatClampNeg (mTap x62.toNatClampNeg)) (upd mLwM x32.toNatClampNeg 0) mTwT mSetA mDri mOrd mBst v1 _ hp) (cwV 2 hts gX11_item_X11_isSign rfl rfl rfl (by decide +kernel) ⟨(Nat.le_of_ble_eq_true rfl), (Nat.le_of_ble_eq_true rfl)⟩) (va_recv ho.1 ho.2.2.1 (ci := 11) (q0 := 0) rfl rfl) rfl hl.1 rfl (Nat.le_of_ble_eq_true rfl) dX11_item_113 ⟨Nat.zero_le _, Nat.zero_le _⟩ (fun r113 u H locs hp ho => ?_)
        try dsimp only at hp
        replace ho : oW D (mT c) A s.heap s (wM q c mThr mTn mCk mRw mSt mTr mFM mFS mTpN mLw x106 mTwN mBE mBEn mSun mCkT mCkD mCkK mCkA mRow mStT mRun mUp mSta mSty mDly mTri mFnd mTap mLwT mLwD (upd mLwO x32.toNatClampNeg (mTap x62.toNatClampNeg)) (upd mLwM x32.toNatClampNeg 0) mTwT mSetA mDri mOrd mBst) H locs := ho
        refine lv_if_ne (tgt := 121) hx hb dX11_item_116 (by decide) (fun c_116 => ?_) (fun c_116 => ?_)
        · replace hp := hp.2 c_116
          refine lv_aload_n hx hb dX11_item_121 rfl (lv_at hl 1 rfl) ?_
          refine o_get (ci := 11) (T := TX11) hx hb hts hinX11 hown ho 0 rfl rfl 22 (by decide) hf53 rfl dX11_item_122 ?_
          refine lv_aload_n hx hb dX11_item_125 rfl (lv_at hl 1 rfl) ?_
          refine o_get (ci := 11) (T := TX11) hx hb hts hinX11 hown ho 0 rfl rfl 29 (by decide) hf194 rfl dX11_item_126 ?_
          refine o_ild hx hb ho 15 14 rfl rfl hp.1 dX11_item_129 ?_
          replace hp := hp.2
          refine lv_bipush (v := 43) hx hb dX11_item_130 (by decide) ?_
          refine lv_icmp_ne (tgt := 139) hx hb dX11_item_132 (by decide) (fun c_132 => ?_) (fun c_132 => ?_)
          · replace hp := hp.2 c_132
            refine lv_iconst (v := (-1)) hx hb dX11_item_139 (by decide) ?_
            exact hJ140 v1 x32 x106 (upd mLwO x32.toNatClampNeg (mTap x62.toNatClampNeg)) (upd mLwM x32.toNatClampNeg 0) (-1) hp _ _ _ ho (lv_sub hl [1, 2, 0] rfl)
          · replace hp := hp.1 c_132
            refine lv_iconst (v := 1) hx hb dX11_item_135 (by decide) ?_
            refine lv_goto (tgt := 140) hx hb dX11_item_136 (by decide) ?_
            exact hJ140 v1 x32 x106 (upd mLwO x32.toNatClampNeg (mTap x62.toNatClampNeg)) (upd mLwM x32.toNatClampNeg 0) 1 hp _ _ _ ho (lv_sub hl [1, 2, 0] rfl)
        · replace hp := hp.1 c_116
          refine lv_iconst (v := 1) hx hb dX11_item_119 (by decide) ?_
          exact hret 1 (x106, upd mLwO x32.toNatClampNeg (mTap x62.toNatClampNeg), upd mLwM x32.toNatClampNeg 0) _ _ _ _ dX11_item_120 (Or.inr rfl) ho hp
      · replace hp := hp.1 c_72
        refine lv_iconst (v := 0) hx hb dX11_item_75 (by decide) ?_
        exact hret 0 (x62, mLwO, mLwM) _ _ _ _ dX11_item_76 (Or.inl rfl) ho hp
    · replace hp := hp.1 c_50
      refine lv_iconst (v := 0) hx hb dX11_item_53 (by decide) ?_
      exact hret 0 (x40, mLwO, mLwM) _ _ _ _ dX11_item_54 (Or.inl rfl) ho hp
  · replace hp := hp.1 c_7
    refine lv_iconst (v := 0) hx hb dX11_item_10 (by decide) ?_
    exact hret 0 (mAt, mLwO, mLwM) _ _ _ _ dX11_item_11 (Or.inl rfl) ho hp
set_option maxHeartbeats 4000000 in
set_option maxRecDepth 100000 in
theorem c_M_reads (l : Launch) (D : va_G) (q : Nat → Nat) (c : Nat → ClassId) (adK adV : Nat → Nat) (mThr : Int32) (mTn : Int32) (mCk : Int32) (mRw : Int32) (mSt : Int32) (mTr : Int32) (mFM : Int32) (mFS : Int32) (mTpN : Int32) (mLw : Int32) (mAt : Int32) (mTwN : Int32) (mBE : Int32) (mBEn : Int32) (mSun : Nat → Int32) (mCkT : Nat → Int32) (mCkD : Nat → Int32) (mCkK : Nat → Int32) (mCkA : Nat → Int32) (mRow : Nat → Int32) (mStT : Nat → Int32) (mRun : Nat → Int32) (mUp : Nat → Int32) (mSta : Nat → Int32) (mSty : Nat → Int32) (mDly : Nat → Int32) (mTri : Nat → Int32) (mFnd : Nat → Int32) (mTap : Nat → Int32) (mLwT : Nat → Int32) (mLwD : Nat → Int32) (mLwO : Nat → Int32) (mLwM : Nat → Int32) (mTwT : Nat → Int32) (mSetA : Nat → Int32) (mDri : Nat → Int32) (mOrd : Nat → Int32) (mBst : Nat → Int32) (v1 : Int32) (Q : Int32 → Int32 → (Nat → Int32) → (Nat → Int32) → Prop) (hp : p_M_reads mLw mTap mAt mLwO mLwM v1 Q) : sKi l yX11_reads wsX11_reads { frames := 6, cells := 0, slots := 0, locals := 137 } adK adV [.ref (q 0), .int v1] D (mT c) (wM q c mThr mTn mCk mRw mSt mTr mFM mFS mTpN mLw mAt mTwN mBE mBEn mSun mCkT mCkD mCkK mCkA mRow mStT mRun mUp mSta mSty mDly mTri mFnd mTap mLwT mLwD mLwO mLwM mTwT mSetA mDri mOrd mBst) (Int32 × (Nat → Int32) × (Nat → Int32)) (fun r (u : Int32 × (Nat → Int32) × (Nat → Int32)) => Q r u.1 u.2.1 u.2.2) (fun u => wM q c mThr mTn mCk mRw mSt mTr mFM mFS mTpN mLw u.1 mTwN mBE mBEn mSun mCkT mCkD mCkK mCkA mRow mStT mRun mUp mSta mSty mDly mTri mFnd mTap mLwT mLwD u.2.1 u.2.2 mTwT mSetA mDri mOrd mBst) := by
  refine sKi.ofWz (Or.inl rfl) (own := RX11) (cc := cX11_reads) (maxL := 3) (plainFor_of_name (by decide +kernel)) rfl rfl (Nat.le_of_ble_eq_true rfl) (fun p e s m args below meth cd A ls Z hx hb hml hown hts hE hret ho hl => ?_)
  replace hl : lv_has ls 3 [(0, .ref (q 0)), (1, .int v1)] := hl
  have hinX11 : ∀ w ∈ u_ws RX11 TX11 38, w ∈ wsX11_reads := by decide +kernel
  have hf62 := hts (.fieldLink RX11 62 "OneTimeModel" "lawOf" "[I") (by decide +kernel)
  have hf124 := hts (.fieldLink RX11 124 "OneTimeModel" "laws" "I") (by decide +kernel)
  have hf194 := hts (.fieldLink RX11 194 "OneTimeModel" "at" "I") (by decide +kernel)
  unfold p_M_reads at hp
  have hL44 : ∀ (v1 : Int32) (mAt : Int32) (mLwO : Nat → Int32) (mLwM : Nat → Int32), Lp3 (p_M_reads_L44 mLw mTap v1 Q) mAt mLwO mLwM → ∀ (H : Heap) (locs : List Loc) (ls : Array Slot), oW D (mT c) A s.heap s (wM q c mThr mTn mCk mRw mSt mTr mFM mFS mTpN mLw mAt mTwN mBE mBEn mSun mCkT mCkD mCkK mCkA mRow mStT mRun mUp mSta mSty mDly mTri mFnd mTap mLwT mLwD mLwO mLwM mTwT mSetA mDri mOrd mBst) H locs → lv_has ls 3 [(0, .ref (q 0)), (1, .int v1)] → W p l e { frames := 6, cells := 0, slots := 0, locals := 137 } s m args below meth cd H locs 0 0 Z (F0 m 44 ls []) := by
    intro v1
    refine Lp3.ind (fun rec hrec mAt mLwO mLwM hp H locs ls ho hl => ?_)
    unfold p_M_reads_L44 at hp
    refine lv_aload_n hx hb dX11_reads_44 rfl (lv_at hl 0 rfl) ?_
    refine lv_iload_n hx hb dX11_reads_45 rfl (lv_at hl 1 rfl) ?_
    refine va_ldcS hx hb hown hE.2.2.2.2.2.2.2 dX11_reads_46 ?_
    refine s_callVi (rest := []) ⟨hx, hb, hml, hown, hts⟩ hE ho (c_M_isSign l D q c adK adV 5 (by decide) mThr mTn mCk mRw mSt mTr mFM mFS mTpN mLw mAt mTwN mBE mBEn mSun mCkT mCkD mCkK mCkA mRow mStT mRun mUp mSta mSty mDly mTri mFnd mTap mLwT mLwD mLwO mLwM mTwT mSetA mDri mOrd mBst v1 _ hp) (cwV 2 hts gX11_reads_X11_isSign rfl rfl rfl (by decide +kernel) ⟨(Nat.le_of_ble_eq_true rfl), (Nat.le_of_ble_eq_true rfl)⟩) (va_recv ho.1 ho.2.2.1 (ci := 11) (q0 := 0) rfl rfl) rfl hl.1 rfl (Nat.le_of_ble_eq_true rfl) dX11_reads_48 ⟨Nat.zero_le _, Nat.zero_le _⟩ (fun r48 u H locs hp ho => ?_)
    try dsimp only at hp
    replace ho : oW D (mT c) A s.heap s (wM q c mThr mTn mCk mRw mSt mTr mFM mFS mTpN mLw mAt mTwN mBE mBEn mSun mCkT mCkD mCkK mCkA mRow mStT mRun mUp mSta mSty mDly mTri mFnd mTap mLwT mLwD mLwO mLwM mTwT mSetA mDri mOrd mBst) H locs := ho
    refine lv_if_eq (tgt := 74) hx hb dX11_reads_51 (by decide) (fun c_51 => ?_) (fun c_51 => ?_)
    · replace hp := hp.1 c_51
      refine lv_aload_n hx hb dX11_reads_74 rfl (lv_at hl 0 rfl) ?_
      refine o_get (ci := 11) (T := TX11) hx hb hts hinX11 hown ho 0 rfl rfl 29 (by decide) hf194 rfl dX11_reads_75 ?_
      refine lv_iload_n hx hb dX11_reads_78 rfl (lv_at hl 1 rfl) ?_
      refine lv_icmp_ne (tgt := 86) hx hb dX11_reads_79 (by decide) (fun c_79 => ?_) (fun c_79 => ?_)
      · replace hp := hp.2 c_79
        refine lv_iconst (v := 0) hx hb dX11_reads_86 (by decide) ?_
        exact hret 0 (mAt, mLwO, mLwM) _ _ _ _ dX11_reads_87 (Or.inl rfl) ho hp
      · replace hp := hp.1 c_79
        refine lv_iconst (v := 1) hx hb dX11_reads_82 (by decide) ?_
        refine lv_goto (tgt := 87) hx hb dX11_reads_83 (by decide) ?_
        exact hret 1 (mAt, mLwO, mLwM) _ _ _ _ dX11_reads_87 (Or.inr rfl) ho hp
    · replace hp := hp.2 c_51
      refine lv_aload_n hx hb dX11_reads_54 rfl (lv_at hl 0 rfl) ?_
      refine lv_dup hx hb dX11_reads_55 rfl ?_
      refine o_get (ci := 11) (T := TX11) hx hb hts hinX11 hown ho 0 rfl rfl 29 (by decide) hf194 rfl dX11_reads_56 ?_
      refine lv_iconst (v := 1) hx hb dX11_reads_59 (by decide) ?_
      refine lv_iadd hx hb dX11_reads_60 ?_
      refine lv_topi (fun x61 e_x61 => ?_)
      replace hp := hp x61 e_x61
      refine o_put (ci := 11) (T := TX11) hx hb hts hinX11 tyX11_ok nmX11 hown ho 0 rfl rfl 29 (by decide) hf194 rfl (tyX11_ok 29 (by decide)) (Nat.le_of_ble_eq_true rfl) dX11_reads_61 (fun H locs ho => ?_)
      replace ho : oW D (mT c) A s.heap s (wM q c mThr mTn mCk mRw mSt mTr mFM mFS mTpN mLw x61 mTwN mBE mBEn mSun mCkT mCkD mCkK mCkA mRow mStT mRun mUp mSta mSty mDly mTri mFnd mTap mLwT mLwD mLwO mLwM mTwT mSetA mDri mOrd mBst) H locs := ho
      refine lv_aload_n hx hb dX11_reads_64 rfl (lv_at hl 0 rfl) ?_
      refine lv_iload_n hx hb dX11_reads_65 rfl (lv_at hl 1 rfl) ?_
      refine s_callVi (rest := []) ⟨hx, hb, hml, hown, hts⟩ hE ho (c_M_item l D q c adK adV mThr mTn mCk mRw mSt mTr mFM mFS mTpN mLw x61 mTwN mBE mBEn mSun mCkT mCkD mCkK mCkA mRow mStT mRun mUp mSta mSty mDly mTri mFnd mTap mLwT mLwD mLwO mLwM mTwT mSetA mDri mOrd mBst v1 _ hp) (cwV 1 hts gX11_reads_X11_item rfl rfl rfl (by decide +kernel) ⟨(Nat.le_of_ble_eq_true rfl), (Nat.le_of_ble_eq_true rfl)⟩) (va_recv ho.1 ho.2.2.1 (ci := 11) (q0 := 0) rfl rfl) rfl hl.1 rfl (Nat.le_of_ble_eq_true rfl) dX11_reads_66 ⟨Nat.zero_le _, Nat.zero_le _⟩ (fun r66 u H locs hp ho => ?_)
      obtain ⟨mAt_66, mLwO_66, mLwM_66⟩ := u
      try dsimp only at hp
      replace ho : oW D (mT c) A s.heap s (wM q c mThr mTn mCk mRw mSt mTr mFM mFS mTpN mLw mAt_66 mTwN mBE mBEn mSun mCkT mCkD mCkK mCkA mRow mStT mRun mUp mSta mSty mDly mTri mFnd mTap mLwT mLwD mLwO_66 mLwM_66 mTwT mSetA mDri mOrd mBst) H locs := ho
      refine lv_if_ne (tgt := 44) hx hb dX11_reads_69 (by decide) (fun c_69 => ?_) (fun c_69 => ?_)
      · replace hp := hp.2 c_69
        exact hrec mAt_66 mLwO_66 mLwM_66 hp _ _ _ ho (lv_sub hl [0, 1] rfl)
      · replace hp := hp.1 c_69
        refine lv_iconst (v := 0) hx hb dX11_reads_72 (by decide) ?_
        exact hret 0 (mAt_66, mLwO_66, mLwM_66) _ _ _ _ dX11_reads_73 (Or.inl rfl) ho hp
  have hL7 : ∀ (v1 : Int32) (mAt : Int32) (mLwM : Nat → Int32) (v2 : Int32) (mLwO : Nat → Int32), Lp2 (p_M_reads_L7 mLw mTap v1 mAt mLwM Q) v2 mLwO → ∀ (H : Heap) (locs : List Loc) (ls : Array Slot), oW D (mT c) A s.heap s (wM q c mThr mTn mCk mRw mSt mTr mFM mFS mTpN mLw mAt mTwN mBE mBEn mSun mCkT mCkD mCkK mCkA mRow mStT mRun mUp mSta mSty mDly mTri mFnd mTap mLwT mLwD mLwO mLwM mTwT mSetA mDri mOrd mBst) H locs → lv_has ls 3 [(0, .ref (q 0)), (1, .int v1), (2, .int v2)] → W p l e { frames := 6, cells := 0, slots := 0, locals := 137 } s m args below meth cd H locs 0 0 Z (F0 m 7 ls []) := by
    intro v1 mAt mLwM
    refine Lp2.ind (fun rec hrec v2 mLwO hp H locs ls ho hl => ?_)
    unfold p_M_reads_L7 at hp
    refine lv_iload_n hx hb dX11_reads_7 rfl (lv_at hl 2 rfl) ?_
    refine lv_bipush (v := 6) hx hb dX11_reads_8 (by decide) ?_
    refine lv_icmp_ge (tgt := 34) hx hb dX11_reads_10 (by decide) (fun c_10 => ?_) (fun c_10 => ?_)
    · replace hp := hp.1 c_10
      refine lv_aload_n hx hb dX11_reads_34 rfl (lv_at hl 0 rfl) ?_
      refine lv_iload_n hx hb dX11_reads_35 rfl (lv_at hl 1 rfl) ?_
      refine s_callVi (rest := []) ⟨hx, hb, hml, hown, hts⟩ hE ho (c_M_item l D q c adK adV mThr mTn mCk mRw mSt mTr mFM mFS mTpN mLw mAt mTwN mBE mBEn mSun mCkT mCkD mCkK mCkA mRow mStT mRun mUp mSta mSty mDly mTri mFnd mTap mLwT mLwD mLwO mLwM mTwT mSetA mDri mOrd mBst v1 _ hp) (cwV 1 hts gX11_reads_X11_item rfl rfl rfl (by decide +kernel) ⟨(Nat.le_of_ble_eq_true rfl), (Nat.le_of_ble_eq_true rfl)⟩) (va_recv ho.1 ho.2.2.1 (ci := 11) (q0 := 0) rfl rfl) rfl hl.1 rfl (Nat.le_of_ble_eq_true rfl) dX11_reads_36 ⟨Nat.zero_le _, Nat.zero_le _⟩ (fun r36 u H locs hp ho => ?_)
      obtain ⟨mAt_36, mLwO_36, mLwM_36⟩ := u
      try dsimp only at hp
      replace ho : oW D (mT c) A s.heap s (wM q c mThr mTn mCk mRw mSt mTr mFM mFS mTpN mLw mAt_36 mTwN mBE mBEn mSun mCkT mCkD mCkK mCkA mRow mStT mRun mUp mSta mSty mDly mTri mFnd mTap mLwT mLwD mLwO_36 mLwM_36 mTwT mSetA mDri mOrd mBst) H locs := ho
      refine lv_if_ne (tgt := 44) hx hb dX11_reads_39 (by decide) (fun c_39 => ?_) (fun c_39 => ?_)
      · replace hp := hp.2 c_39
        exact hL44 v1 mAt_36 mLwO_36 mLwM_36 hp _ _ _ ho (lv_sub hl [0, 1] rfl)
      · replace hp := hp.1 c_39
        refine lv_iconst (v := 0) hx hb dX11_reads_42 (by decide) ?_
        exact hret 0 (mAt_36, mLwO_36, mLwM_36) _ _ _ _ dX11_reads_43 (Or.inl rfl) ho hp
    · replace hp := hp.2 c_10
      refine lv_aload_n hx hb dX11_reads_13 rfl (lv_at hl 0 rfl) ?_
      refine o_get (ci := 11) (T := TX11) hx hb hts hinX11 hown ho 0 rfl rfl 27 (by decide) hf62 rfl dX11_reads_14 ?_
      refine lv_bipush (v := 6) hx hb dX11_reads_17 (by decide) ?_
      refine lv_aload_n hx hb dX11_reads_19 rfl (lv_at hl 0 rfl) ?_
      refine o_get (ci := 11) (T := TX11) hx hb hts hinX11 hown ho 0 rfl rfl 24 (by decide) hf124 rfl dX11_reads_20 ?_
      refine lv_imul hx hb dX11_reads_23 ?_
      refine lv_iload_n hx hb dX11_reads_24 rfl (lv_at hl 2 rfl) ?_
      refine lv_iadd hx hb dX11_reads_25 ?_
      refine lv_iconst (v := 0) hx hb dX11_reads_26 (by decide) ?_
      refine o_ist hx hb ho 18 17 rfl rfl hp.1 dX11_reads_27 (fun H locs ho => ?_)
      replace hp := hp.2
      replace ho : oW D (mT c) A s.heap s (wM q c mThr mTn mCk mRw mSt mTr mFM mFS mTpN mLw mAt mTwN mBE mBEn mSun mCkT mCkD mCkK mCkA mRow mStT mRun mUp mSta mSty mDly mTri mFnd mTap mLwT mLwD (upd mLwO ((6 * mLw) + v2).toNatClampNeg 0) mLwM mTwT mSetA mDri mOrd mBst) H locs := ho
      obtain ⟨x28, e_x28⟩ : ∃ y : Int32, y = v2 + 1 := ⟨_, rfl⟩
      replace hp := hp x28 e_x28
      refine lv_iinc (v := x28) (lv' := [(2, .int x28), (0, .ref (q 0)), (1, .int v1)]) hx hb dX11_reads_28 hl (k := 2) rfl (by rw [e_x28]; rfl) (by decide) rfl (fun ls hl => ?_)
      refine lv_goto (tgt := 7) hx hb dX11_reads_31 (by decide) ?_
      exact hrec x28 (upd mLwO ((6 * mLw) + v2).toNatClampNeg 0) hp _ _ _ ho (lv_sub hl [1, 2, 0] rfl)
  refine lv_aload_n hx hb dX11_reads_0 rfl (lv_at hl 0 rfl) ?_
  refine lv_iconst (v := 0) hx hb dX11_reads_1 (by decide) ?_
  refine o_put (ci := 11) (T := TX11) hx hb hts hinX11 tyX11_ok nmX11 hown ho 0 rfl rfl 29 (by decide) hf194 rfl (tyX11_ok 29 (by decide)) (Nat.le_of_ble_eq_true rfl) dX11_reads_2 (fun H locs ho => ?_)
  replace ho : oW D (mT c) A s.heap s (wM q c mThr mTn mCk mRw mSt mTr mFM mFS mTpN mLw 0 mTwN mBE mBEn mSun mCkT mCkD mCkK mCkA mRow mStT mRun mUp mSta mSty mDly mTri mFnd mTap mLwT mLwD mLwO mLwM mTwT mSetA mDri mOrd mBst) H locs := ho
  refine lv_iconst (v := 0) hx hb dX11_reads_5 (by decide) ?_
  refine lv_istore_n (lv' := [(2, .int 0), (0, .ref (q 0)), (1, .int v1)]) hx hb dX11_reads_6 rfl hl (by decide) rfl (fun ls hl => ?_)
  exact hL7 v1 0 mLwM 0 mLwO hp _ _ _ ho (lv_sub hl [1, 2, 0] rfl)
set_option maxHeartbeats 4000000 in
set_option maxRecDepth 100000 in
theorem c_M_law (l : Launch) (D : va_G) (q : Nat → Nat) (c : Nat → ClassId) (adK adV : Nat → Nat) (mThr : Int32) (mTn : Int32) (mCk : Int32) (mRw : Int32) (mSt : Int32) (mTr : Int32) (mFM : Int32) (mFS : Int32) (mTpN : Int32) (mLw : Int32) (mAt : Int32) (mTwN : Int32) (mBE : Int32) (mBEn : Int32) (mSun : Nat → Int32) (mCkT : Nat → Int32) (mCkD : Nat → Int32) (mCkK : Nat → Int32) (mCkA : Nat → Int32) (mRow : Nat → Int32) (mStT : Nat → Int32) (mRun : Nat → Int32) (mUp : Nat → Int32) (mSta : Nat → Int32) (mSty : Nat → Int32) (mDly : Nat → Int32) (mTri : Nat → Int32) (mFnd : Nat → Int32) (mTap : Nat → Int32) (mLwT : Nat → Int32) (mLwD : Nat → Int32) (mLwO : Nat → Int32) (mLwM : Nat → Int32) (mTwT : Nat → Int32) (mSetA : Nat → Int32) (mDri : Nat → Int32) (mOrd : Nat → Int32) (mBst : Nat → Int32) (v1 : Int32) (v2 : Int32) (Q : Int32 → Int32 → Int32 → Int32 → Int32 → (Nat → Int32) → (Nat → Int32) → (Nat → Int32) → (Nat → Int32) → Prop) (hp : p_M_law mTn mTap mThr mTpN mLw mAt mLwT mLwD mLwO mLwM v1 v2 Q) : sKi l yX11_law wsX11_law { frames := 7, cells := 0, slots := 0, locals := 159 } adK adV [.ref (q 0), .int v1, .int v2] D (mT c) (wM q c mThr mTn mCk mRw mSt mTr mFM mFS mTpN mLw mAt mTwN mBE mBEn mSun mCkT mCkD mCkK mCkA mRow mStT mRun mUp mSta mSty mDly mTri mFnd mTap mLwT mLwD mLwO mLwM mTwT mSetA mDri mOrd mBst) (Int32 × Int32 × Int32 × Int32 × (Nat → Int32) × (Nat → Int32) × (Nat → Int32) × (Nat → Int32)) (fun r (u : Int32 × Int32 × Int32 × Int32 × (Nat → Int32) × (Nat → Int32) × (Nat → Int32) × (Nat → Int32)) => Q r u.1 u.2.1 u.2.2.1 u.2.2.2.1 u.2.2.2.2.1 u.2.2.2.2.2.1 u.2.2.2.2.2.2.1 u.2.2.2.2.2.2.2) (fun u => wM q c u.1 mTn mCk mRw mSt mTr mFM mFS u.2.1 u.2.2.1 u.2.2.2.1 mTwN mBE mBEn mSun mCkT mCkD mCkK mCkA mRow mStT mRun mUp mSta mSty mDly mTri mFnd mTap u.2.2.2.2.1 u.2.2.2.2.2.1 u.2.2.2.2.2.2.1 u.2.2.2.2.2.2.2 mTwT mSetA mDri mOrd mBst) := by
  refine sKi.ofW (own := RX11) (cc := cX11_law) (maxL := 5) (plainFor_of_name (by decide +kernel)) rfl rfl (Nat.le_of_ble_eq_true rfl) (fun p e s m args below meth cd A ls Z hx hb hml hown hts hE hret ho hl => ?_)
  replace hl : lv_has ls 5 [(0, .ref (q 0)), (1, .int v1), (2, .int v2)] := hl
  have hinX11 : ∀ w ∈ u_ws RX11 TX11 38, w ∈ wsX11_law := by decide +kernel
  have hf56 := hts (.fieldLink RX11 56 "OneTimeModel" "lawTown" "[I") (by decide +kernel)
  have hf59 := hts (.fieldLink RX11 59 "OneTimeModel" "lawDay" "[I") (by decide +kernel)
  have hf83 := hts (.fieldLink RX11 83 "OneTimeModel" "thrown" "I") (by decide +kernel)
  have hf124 := hts (.fieldLink RX11 124 "OneTimeModel" "laws" "I") (by decide +kernel)
  have hf133 := hts (.fieldLink RX11 133 "OneTimeModel" "taped" "I") (by decide +kernel)
  have hf194 := hts (.fieldLink RX11 194 "OneTimeModel" "at" "I") (by decide +kernel)
  unfold p_M_law at hp
  have hJ77 : ∀ (v1 : Int32) (v2 : Int32) (v4 : Int32) (mThr : Int32) (mTpN : Int32) (mLw : Int32) (mAt : Int32) (mLwT : Nat → Int32) (mLwD : Nat → Int32) (mLwO : Nat → Int32) (mLwM : Nat → Int32), p_M_law_J77 mTn mTap v1 v2 v4 mThr mTpN mLw mAt mLwT mLwD mLwO mLwM Q → ∀ (H : Heap) (locs : List Loc) (ls : Array Slot), oW D (mT c) A s.heap s (wM q c mThr mTn mCk mRw mSt mTr mFM mFS mTpN mLw mAt mTwN mBE mBEn mSun mCkT mCkD mCkK mCkA mRow mStT mRun mUp mSta mSty mDly mTri mFnd mTap mLwT mLwD mLwO mLwM mTwT mSetA mDri mOrd mBst) H locs → lv_has ls 5 [(0, .ref (q 0)), (1, .int v1), (2, .int v2), (4, .int v4)] → W p l e { frames := 7, cells := 0, slots := 0, locals := 159 } s m args below meth cd H locs 0 0 Z (F0 m 77 ls []) := by
    intro v1 v2 v4 mThr mTpN mLw mAt mLwT mLwD mLwO mLwM
    intro hp H locs ls ho hl
    unfold p_M_law_J77 at hp
    refine lv_iload hx hb dX11_law_77 (lv_at hl 3 rfl) ?_
    refine lv_if_ne (tgt := 89) hx hb dX11_law_79 (by decide) (fun c_79 => ?_) (fun c_79 => ?_)
    · replace hp := hp.2 c_79
      refine lv_aload_n hx hb dX11_law_89 rfl (lv_at hl 0 rfl) ?_
      refine o_get (ci := 11) (T := TX11) hx hb hts hinX11 hown ho 0 rfl rfl 25 (by decide) hf56 rfl dX11_law_90 ?_
      refine lv_aload_n hx hb dX11_law_93 rfl (lv_at hl 0 rfl) ?_
      refine o_get (ci := 11) (T := TX11) hx hb hts hinX11 hown ho 0 rfl rfl 24 (by decide) hf124 rfl dX11_law_94 ?_
      refine lv_iload_n hx hb dX11_law_97 rfl (lv_at hl 1 rfl) ?_
      refine o_ist hx hb ho 16 15 rfl rfl hp.1 dX11_law_98 (fun H locs ho => ?_)
      replace hp := hp.2
      replace ho : oW D (mT c) A s.heap s (wM q c mThr mTn mCk mRw mSt mTr mFM mFS mTpN mLw mAt mTwN mBE mBEn mSun mCkT mCkD mCkK mCkA mRow mStT mRun mUp mSta mSty mDly mTri mFnd mTap (upd mLwT mLw.toNatClampNeg v1) mLwD mLwO mLwM mTwT mSetA mDri mOrd mBst) H locs := ho
      refine lv_aload_n hx hb dX11_law_99 rfl (lv_at hl 0 rfl) ?_
      refine o_get (ci := 11) (T := TX11) hx hb hts hinX11 hown ho 0 rfl rfl 26 (by decide) hf59 rfl dX11_law_100 ?_
      refine lv_aload_n hx hb dX11_law_103 rfl (lv_at hl 0 rfl) ?_
      refine o_get (ci := 11) (T := TX11) hx hb hts hinX11 hown ho 0 rfl rfl 24 (by decide) hf124 rfl dX11_law_104 ?_
      refine lv_iload_n hx hb dX11_law_107 rfl (lv_at hl 2 rfl) ?_
      refine o_ist hx hb ho 17 16 rfl rfl hp.1 dX11_law_108 (fun H locs ho => ?_)
      replace hp := hp.2
      replace ho : oW D (mT c) A s.heap s (wM q c mThr mTn mCk mRw mSt mTr mFM mFS mTpN mLw mAt mTwN mBE mBEn mSun mCkT mCkD mCkK mCkA mRow mStT mRun mUp mSta mSty mDly mTri mFnd mTap (upd mLwT mLw.toNatClampNeg v1) (upd mLwD mLw.toNatClampNeg v2) mLwO mLwM mTwT mSetA mDri mOrd mBst) H locs := ho
      refine lv_aload_n hx hb dX11_law_109 rfl (lv_at hl 0 rfl) ?_
      refine lv_dup hx hb dX11_law_110 rfl ?_
      refine o_get (ci := 11) (T := TX11) hx hb hts hinX11 hown ho 0 rfl rfl 24 (by decide) hf124 rfl dX11_law_111 ?_
      refine lv_iconst (v := 1) hx hb dX11_law_114 (by decide) ?_
      refine lv_iadd hx hb dX11_law_115 ?_
      refine lv_topi (fun x116 e_x116 => ?_)
      replace hp := hp x116 e_x116
      refine o_put (ci := 11) (T := TX11) hx hb hts hinX11 tyX11_ok nmX11 hown ho 0 rfl rfl 24 (by decide) hf124 rfl (tyX11_ok 24 (by decide)) (Nat.le_of_ble_eq_true rfl) dX11_law_116 (fun H locs ho => ?_)
      replace ho : oW D (mT c) A s.heap s (wM q c mThr mTn mCk mRw mSt mTr mFM mFS mTpN x116 mAt mTwN mBE mBEn mSun mCkT mCkD mCkK mCkA mRow mStT mRun mUp mSta mSty mDly mTri mFnd mTap (upd mLwT mLw.toNatClampNeg v1) (upd mLwD mLw.toNatClampNeg v2) mLwO mLwM mTwT mSetA mDri mOrd mBst) H locs := ho
      refine lv_aload_n hx hb dX11_law_119 rfl (lv_at hl 0 rfl) ?_
      refine o_get (ci := 11) (T := TX11) hx hb hts hinX11 hown ho 0 rfl rfl 24 (by decide) hf124 rfl dX11_law_120 ?_
      exact hret x116 (mThr, mTpN, x116, mAt, upd mLwT mLw.toNatClampNeg v1, upd mLwD mLw.toNatClampNeg v2, mLwO, mLwM) _ _ _ _ dX11_law_123 ho hp
    · replace hp := hp.1 c_79
      refine lv_iconst (v := (-1)) hx hb dX11_law_82 (by decide) ?_
      refine lv_aload_n hx hb dX11_law_83 rfl (lv_at hl 0 rfl) ?_
      refine o_get (ci := 11) (T := TX11) hx hb hts hinX11 hown ho 0 rfl rfl 29 (by decide) hf194 rfl dX11_law_84 ?_
      refine lv_isub hx hb dX11_law_87 ?_
      exact hret ((-1) - mAt) (mThr, mTpN, mLw, mAt, mLwT, mLwD, mLwO, mLwM) _ _ _ _ dX11_law_88 ho hp
  refine lv_aload_n hx hb dX11_law_0 rfl (lv_at hl 0 rfl) ?_
  refine lv_iconst (v := 0) hx hb dX11_law_1 (by decide) ?_
  refine o_put (ci := 11) (T := TX11) hx hb hts hinX11 tyX11_ok nmX11 hown ho 0 rfl rfl 0 (by decide) hf83 rfl (tyX11_ok 0 (by decide)) (Nat.le_of_ble_eq_true rfl) dX11_law_2 (fun H locs ho => ?_)
  replace ho : oW D (mT c) A s.heap s (wM q c 0 mTn mCk mRw mSt mTr mFM mFS mTpN mLw mAt mTwN mBE mBEn mSun mCkT mCkD mCkK mCkA mRow mStT mRun mUp mSta mSty mDly mTri mFnd mTap mLwT mLwD mLwO mLwM mTwT mSetA mDri mOrd mBst) H locs := ho
  refine lv_aload_n hx hb dX11_law_5 rfl (lv_at hl 0 rfl) ?_
  refine o_get (ci := 11) (T := TX11) hx hb hts hinX11 hown ho 0 rfl rfl 23 (by decide) hf133 rfl dX11_law_6 ?_
  refine lv_istore_n (lv' := [(3, .int mTpN), (0, .ref (q 0)), (1, .int v1), (2, .int v2)]) hx hb dX11_law_9 rfl hl (by decide) rfl (fun ls hl => ?_)
  refine lv_aload_n hx hb dX11_law_10 rfl (lv_at hl 1 rfl) ?_
  refine lv_iconst (v := 0) hx hb dX11_law_11 (by decide) ?_
  refine o_put (ci := 11) (T := TX11) hx hb hts hinX11 tyX11_ok nmX11 hown ho 0 rfl rfl 23 (by decide) hf133 rfl (tyX11_ok 23 (by decide)) (Nat.le_of_ble_eq_true rfl) dX11_law_12 (fun H locs ho => ?_)
  replace ho : oW D (mT c) A s.heap s (wM q c 0 mTn mCk mRw mSt mTr mFM mFS 0 mLw mAt mTwN mBE mBEn mSun mCkT mCkD mCkK mCkA mRow mStT mRun mUp mSta mSty mDly mTri mFnd mTap mLwT mLwD mLwO mLwM mTwT mSetA mDri mOrd mBst) H locs := ho
  refine lv_aload_n hx hb dX11_law_15 rfl (lv_at hl 1 rfl) ?_
  refine lv_iload_n hx hb dX11_law_16 rfl (lv_at hl 2 rfl) ?_
  refine o_callVi (rest := []) (ci := 11) ⟨hx, hb, hml, hown, hts⟩ ho (c_M_isTown l D q c 0 mTn mCk mRw mSt mTr mFM mFS 0 mLw mAt mTwN mBE mBEn mSun mCkT mCkD mCkK mCkA mRow mStT mRun mUp mSta mSty mDly mTri mFnd mTap mLwT mLwD mLwO mLwM mTwT mSetA mDri mOrd mBst v1 _ hp) (cwV 1 hts gX11_law_X11_isTown rfl rfl rfl (by decide +kernel) ⟨(Nat.le_of_ble_eq_true rfl), (Nat.le_of_ble_eq_true rfl)⟩) 0 rfl rfl rfl hl.1 rfl (Nat.le_of_ble_eq_true rfl) dX11_law_17 ⟨Nat.zero_le _, Nat.zero_le _⟩ (fun r17 u H locs hp ho => ?_)
  try dsimp only at hp
  replace ho : oW D (mT c) A s.heap s (wM q c 0 mTn mCk mRw mSt mTr mFM mFS 0 mLw mAt mTwN mBE mBEn mSun mCkT mCkD mCkK mCkA mRow mStT mRun mUp mSta mSty mDly mTri mFnd mTap mLwT mLwD mLwO mLwM mTwT mSetA mDri mOrd mBst) H locs := ho
  refine lv_if_eq (tgt := 39) hx hb dX11_law_20 (by decide) (fun c_20 => ?_) (fun c_20 => ?_)
  · replace hp := hp.1 c_20
    refine lv_bipush (v := (-100)) hx hb dX11_law_39 (by decide) ?_
    exact hret (-100) (0, 0, mLw, mAt, mLwT, mLwD, mLwO, mLwM) _ _ _ _ dX11_law_41 ho hp
  · replace hp := hp.2 c_20
    refine lv_iload_n hx hb dX11_law_23 rfl (lv_at hl 3 rfl) ?_
    refine o_callSi (rest := []) ⟨hx, hb, hml, hown, hts⟩ ho (c_M_isDay l D (mT c) (wM q c 0 mTn mCk mRw mSt mTr mFM mFS 0 mLw mAt mTwN mBE mBEn mSun mCkT mCkD mCkK mCkA mRow mStT mRun mUp mSta mSty mDly mTri mFnd mTap mLwT mLwD mLwO mLwM mTwT mSetA mDri mOrd mBst) v2 _ hp) (va_cwS 1 hts gX11_law_X11_isDay rfl rfl rfl (by decide +kernel) ⟨(Nat.le_of_ble_eq_true rfl), (Nat.le_of_ble_eq_true rfl)⟩) rfl hl.1 rfl (Nat.le_of_ble_eq_true rfl) dX11_law_24 ⟨Nat.zero_le _, Nat.zero_le _⟩ (fun r24 u H locs hp ho => ?_)
    try dsimp only at hp
    replace ho : oW D (mT c) A s.heap s (wM q c 0 mTn mCk mRw mSt mTr mFM mFS 0 mLw mAt mTwN mBE mBEn mSun mCkT mCkD mCkK mCkA mRow mStT mRun mUp mSta mSty mDly mTri mFnd mTap mLwT mLwD mLwO mLwM mTwT mSetA mDri mOrd mBst) H locs := ho
    refine lv_if_eq (tgt := 39) hx hb dX11_law_27 (by decide) (fun c_27 => ?_) (fun c_27 => ?_)
    · replace hp := hp.1 c_27
      refine lv_bipush (v := (-100)) hx hb dX11_law_39 (by decide) ?_
      exact hret (-100) (0, 0, mLw, mAt, mLwT, mLwD, mLwO, mLwM) _ _ _ _ dX11_law_41 ho hp
    · replace hp := hp.2 c_27
      refine lv_aload_n hx hb dX11_law_30 rfl (lv_at hl 1 rfl) ?_
      refine o_get (ci := 11) (T := TX11) hx hb hts hinX11 hown ho 0 rfl rfl 24 (by decide) hf124 rfl dX11_law_31 ?_
      refine lv_bipush (v := 20) hx hb dX11_law_34 (by decide) ?_
      refine lv_icmp_ne (tgt := 42) hx hb dX11_law_36 (by decide) (fun c_36 => ?_) (fun c_36 => ?_)
      · replace hp := hp.2 c_36
        refine lv_aload_n hx hb dX11_law_42 rfl (lv_at hl 1 rfl) ?_
        refine lv_iload_n hx hb dX11_law_43 rfl (lv_at hl 0 rfl) ?_
        refine lv_bipush (v := 40) hx hb dX11_law_44 (by decide) ?_
        refine va_mmin hx hb (hml.trans hl.1.symm) hown (hts (.methodLink RX11 176 Lib.Math.min.name) (by decide +kernel)) (hts (.static Lib.Math.min.name) (by decide +kernel)) (hts (.initialized "java/lang/Math") (by decide +kernel)) (hts (.code Lib.Math.min.name Lib.Math.min.code 2 (some .int)) (by decide +kernel)) (Nat.le_of_ble_eq_true rfl) (Nat.le_of_ble_eq_true rfl) (Nat.zero_le _) (Nat.zero_le _) dX11_law_46 ?_
        refine s_callVi (rest := []) ⟨hx, hb, hml, hown, hts⟩ hE ho (c_M_reads l D q c adK adV 0 mTn mCk mRw mSt mTr mFM mFS 0 mLw mAt mTwN mBE mBEn mSun mCkT mCkD mCkK mCkA mRow mStT mRun mUp mSta mSty mDly mTri mFnd mTap mLwT mLwD mLwO mLwM mTwT mSetA mDri mOrd mBst (jmin mTpN 40) _ hp) (cwV 1 hts gX11_law_X11_reads rfl rfl rfl (by decide +kernel) ⟨(Nat.le_of_ble_eq_true rfl), (Nat.le_of_ble_eq_true rfl)⟩) (va_recv ho.1 ho.2.2.1 (ci := 11) (q0 := 0) rfl rfl) rfl hl.1 rfl (Nat.le_of_ble_eq_true rfl) dX11_law_49 ⟨Nat.zero_le _, Nat.zero_le _⟩ (fun r49 u H locs hp ho => ?_)
        obtain ⟨mAt_49, mLwO_49, mLwM_49⟩ := u
        try dsimp only at hp
        replace ho : oW D (mT c) A s.heap s (wM q c 0 mTn mCk mRw mSt mTr mFM mFS 0 mLw mAt_49 mTwN mBE mBEn mSun mCkT mCkD mCkK mCkA mRow mStT mRun mUp mSta mSty mDly mTri mFnd mTap mLwT mLwD mLwO_49 mLwM_49 mTwT mSetA mDri mOrd mBst) H locs := ho
        refine lv_istore (lv' := [(4, .int r49), (3, .int mTpN), (0, .ref (q 0)), (1, .int v1), (2, .int v2)]) hx hb dX11_law_52 hl (by decide) rfl (fun ls hl => ?_)
        refine lv_iload_n hx hb dX11_law_54 rfl (lv_at hl 1 rfl) ?_
        refine lv_bipush (v := 40) hx hb dX11_law_55 (by decide) ?_
        refine lv_icmp_le (tgt := 77) hx hb dX11_law_57 (by decide) (fun c_57 => ?_) (fun c_57 => ?_)
        · replace hp := hp.1 c_57
          exact hJ77 v1 v2 r49 0 0 mLw mAt_49 mLwT mLwD mLwO_49 mLwM_49 hp _ _ _ ho (lv_sub hl [2, 3, 4, 0] rfl)
        · replace hp := hp.2 c_57
          refine lv_iload hx hb dX11_law_60 (lv_at hl 0 rfl) ?_
          refine lv_if_ne (tgt := 74) hx hb dX11_law_62 (by decide) (fun c_62 => ?_) (fun c_62 => ?_)
          · replace hp := hp.2 c_62
            refine lv_bipush (v := (-41)) hx hb dX11_law_74 (by decide) ?_
            exact hret (-41) (0, 0, mLw, mAt_49, mLwT, mLwD, mLwO_49, mLwM_49) _ _ _ _ dX11_law_76 ho hp
          · replace hp := hp.1 c_62
            refine lv_aload_n hx hb dX11_law_65 rfl (lv_at hl 2 rfl) ?_
            refine o_get (ci := 11) (T := TX11) hx hb hts hinX11 hown ho 0 rfl rfl 29 (by decide) hf194 rfl dX11_law_66 ?_
            refine lv_bipush (v := 40) hx hb dX11_law_69 (by decide) ?_
            refine lv_icmp_lt (tgt := 77) hx hb dX11_law_71 (by decide) (fun c_71 => ?_) (fun c_71 => ?_)
            · replace hp := hp.1 c_71
              exact hJ77 v1 v2 r49 0 0 mLw mAt_49 mLwT mLwD mLwO_49 mLwM_49 hp _ _ _ ho (lv_sub hl [2, 3, 4, 0] rfl)
            · replace hp := hp.2 c_71
              refine lv_bipush (v := (-41)) hx hb dX11_law_74 (by decide) ?_
              exact hret (-41) (0, 0, mLw, mAt_49, mLwT, mLwD, mLwO_49, mLwM_49) _ _ _ _ dX11_law_76 ho hp
      · replace hp := hp.1 c_36
        refine lv_bipush (v := (-100)) hx hb dX11_law_39 (by decide) ?_
        exact hret (-100) (0, 0, mLw, mAt, mLwT, mLwD, mLwO, mLwM) _ _ _ _ dX11_law_41 ho hp
