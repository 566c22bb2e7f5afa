set_option maxHeartbeats 4000000 in
set_option maxRecDepth 100000 in
theorem c_M_thrown (l : Launch) (D : va_G) (q : Nat → Nat) (c : Nat → ClassId) (mThr : Int32) (mTn : Int32) (mCk : Int32) (mRw : Int32) (mSt : Int32) (mTr : Int32) (mFM : Int32) (mFS : Int32) (mTpN : Int32) (mLw : Int32) (mAt : Int32) (mTwN : Int32) (mBE : Int32) (mBEn : Int32) (mSun : Nat → Int32) (mCkT : Nat → Int32) (mCkD : Nat → Int32) (mCkK : Nat → Int32) (mCkA : Nat → Int32) (mRow : Nat → Int32) (mStT : Nat → Int32) (mRun : Nat → Int32) (mUp : Nat → Int32) (mSta : Nat → Int32) (mSty : Nat → Int32) (mDly : Nat → Int32) (mTri : Nat → Int32) (mFnd : Nat → Int32) (mTap : Nat → Int32) (mLwT : Nat → Int32) (mLwD : Nat → Int32) (mLwO : Nat → Int32) (mLwM : Nat → Int32) (mTwT : Nat → Int32) (mSetA : Nat → Int32) (mDri : Nat → Int32) (mOrd : Nat → Int32) (mBst : Nat → Int32)  (Q : Int32 → Prop) (hp : p_M_thrown mThr Q) : oKi l yX11_thrown wsX11_thrown { frames := 0, cells := 0, slots := 0, locals := 0 } [.ref (q 0)] D (mT c) (wM q c mThr mTn mCk mRw mSt mTr mFM mFS mTpN mLw mAt mTwN mBE mBEn mSun mCkT mCkD mCkK mCkA mRow mStT mRun mUp mSta mSty mDly mTri mFnd mTap mLwT mLwD mLwO mLwM mTwT mSetA mDri mOrd mBst) (Unit) (fun r (_ : Unit) => Q r) (fun _ => wM q c mThr mTn mCk mRw mSt mTr mFM mFS mTpN mLw mAt mTwN mBE mBEn mSun mCkT mCkD mCkK mCkA mRow mStT mRun mUp mSta mSty mDly mTri mFnd mTap mLwT mLwD mLwO mLwM mTwT mSetA mDri mOrd mBst) := by
  refine oKi.ofW (own := RX11) (cc := cX11_thrown) (maxL := 1) (plainFor_of_name (by decide +kernel)) rfl rfl (Nat.le_of_ble_eq_true rfl) (fun p e s m args below meth cd A ls Z hx hb hml hown hts hret ho hl => ?_)
  replace hl : lv_has ls 1 [(0, .ref (q 0))] := hl
  have hinX11 : ∀ w ∈ u_ws RX11 TX11 38, w ∈ wsX11_thrown := by decide +kernel
  have hf83 := hts (.fieldLink RX11 83 "OneTimeModel" "thrown" "I") (by decide +kernel)
  unfold p_M_thrown at hp
  refine lv_aload_n hx hb dX11_thrown_0 rfl (lv_at hl 0 rfl) ?_
  refine o_get (ci := 11) (T := TX11) hx hb hts hinX11 hown ho 0 rfl rfl 0 (by decide) hf83 rfl dX11_thrown_1 ?_
  exact hret mThr () _ _ _ _ dX11_thrown_4 ho hp
set_option maxHeartbeats 4000000 in
set_option maxRecDepth 100000 in
theorem c_M_in (l : Launch) (D : va_G) (tys : List (ClassId × FieldType)) (ws : va_W)  (v0 : Int64) (v2 : Int64) (v4 : Int64) (Q : Int32 → Prop) (hp : p_M_in v0 v2 v4 Q) : oKi l yX11_in wsX11_in { frames := 0, cells := 0, slots := 0, locals := 0 } [.long v0, .long v2, .long v4] D tys ws (Unit) (fun r (_ : Unit) => Q r) (fun _ => ws) := by
  refine oKi.ofWz (own := RX11) (cc := cX11_in) (maxL := 6) (plainFor_of_name (by decide +kernel)) rfl rfl (Nat.le_of_ble_eq_true rfl) (fun p e s m args below meth cd A ls Z hx hb hml hown hts hret ho hl => ?_)
  replace hl : lv_has ls 6 [(0, .long v0), (2, .long v2), (4, .long v4)] := hl
  unfold p_M_in at hp
  refine lv_lload_n hx hb dX11_in_0 rfl (lv_at hl 0 rfl) ?_
  refine lv_lload_n hx hb dX11_in_1 rfl (lv_at hl 1 rfl) ?_
  refine W.lcmp hx hb dX11_in_2 ?_
  refine lv_if_lt (tgt := 17) hx hb dX11_in_3 (by decide) (fun c_3 => ?_) (fun c_3 => ?_)
  · replace hp := hp.1 c_3
    refine lv_iconst (v := 0) hx hb dX11_in_17 (by decide) ?_
    exact hret 0 () _ _ _ _ dX11_in_18 (Or.inl rfl) ho hp
  · replace hp := hp.2 c_3
    refine lv_lload_n hx hb dX11_in_6 rfl (lv_at hl 0 rfl) ?_
    refine lv_lload hx hb dX11_in_7 (lv_at hl 2 rfl) ?_
    refine W.lcmp hx hb dX11_in_9 ?_
    refine lv_if_gt (tgt := 17) hx hb dX11_in_10 (by decide) (fun c_10 => ?_) (fun c_10 => ?_)
    · replace hp := hp.1 c_10
      refine lv_iconst (v := 0) hx hb dX11_in_17 (by decide) ?_
      exact hret 0 () _ _ _ _ dX11_in_18 (Or.inl rfl) ho hp
    · replace hp := hp.2 c_10
      refine lv_iconst (v := 1) hx hb dX11_in_13 (by decide) ?_
      refine lv_goto (tgt := 18) hx hb dX11_in_14 (by decide) ?_
      exact hret 1 () _ _ _ _ dX11_in_18 (Or.inr rfl) ho hp
set_option maxHeartbeats 4000000 in
set_option maxRecDepth 100000 in
theorem c_M_refuse (l : Launch) (D : va_G) (q : Nat → Nat) (c : Nat → ClassId) (mThr : Int32) (mTn : Int32) (mCk : Int32) (mRw : Int32) (mSt : Int32) (mTr : Int32) (mFM : Int32) (mFS : Int32) (mTpN : Int32) (mLw : Int32) (mAt : Int32) (mTwN : Int32) (mBE : Int32) (mBEn : Int32) (mSun : Nat → Int32) (mCkT : Nat → Int32) (mCkD : Nat → Int32) (mCkK : Nat → Int32) (mCkA : Nat → Int32) (mRow : Nat → Int32) (mStT : Nat → Int32) (mRun : Nat → Int32) (mUp : Nat → Int32) (mSta : Nat → Int32) (mSty : Nat → Int32) (mDly : Nat → Int32) (mTri : Nat → Int32) (mFnd : Nat → Int32) (mTap : Nat → Int32) (mLwT : Nat → Int32) (mLwD : Nat → Int32) (mLwO : Nat → Int32) (mLwM : Nat → Int32) (mTwT : Nat → Int32) (mSetA : Nat → Int32) (mDri : Nat → Int32) (mOrd : Nat → Int32) (mBst : Nat → Int32)  (Q : Int32 → Int32 → Prop) (hp : p_M_refuse mThr Q) : oKi l yX11_refuse wsX11_refuse { frames := 0, cells := 0, slots := 0, locals := 0 } [.ref (q 0)] D (mT c) (wM q c mThr mTn mCk mRw mSt mTr mFM mFS mTpN mLw mAt mTwN mBE mBEn mSun mCkT mCkD mCkK mCkA mRow mStT mRun mUp mSta mSty mDly mTri mFnd mTap mLwT mLwD mLwO mLwM mTwT mSetA mDri mOrd mBst) (Int32) (fun r (u : Int32) => Q r u) (fun u => wM q c u mTn mCk mRw mSt mTr mFM mFS mTpN mLw mAt mTwN mBE mBEn mSun mCkT mCkD mCkK mCkA mRow mStT mRun mUp mSta mSty mDly mTri mFnd mTap mLwT mLwD mLwO mLwM mTwT mSetA mDri mOrd mBst) := by
  refine oKi.ofW (own := RX11) (cc := cX11_refuse) (maxL := 1) (plainFor_of_name (by decide +kernel)) rfl rfl (Nat.le_of_ble_eq_true rfl) (fun p e s m args below meth cd A ls Z hx hb hml hown hts hret ho hl => ?_)
  replace hl : lv_has ls 1 [(0, .ref (q 0))] := hl
  have hinX11 : ∀ w ∈ u_ws RX11 TX11 38, w ∈ wsX11_refuse := by decide +kernel
  have hf83 := hts (.fieldLink RX11 83 "OneTimeModel" "thrown" "I") (by decide +kernel)
  unfold p_M_refuse at hp
  refine lv_aload_n hx hb dX11_refuse_0 rfl (lv_at hl 0 rfl) ?_
  refine lv_iconst (v := 1) hx hb dX11_refuse_1 (by decide) ?_
  refine o_put (ci := 11) (T := TX11) hx hb hts hinX11 tyX11_ok nmX11 hown ho 0 rfl rfl 0 (by decide) hf83 rfl (tyX11_ok 0 (by decide)) (Nat.le_of_ble_eq_true rfl) dX11_refuse_2 (fun H locs ho => ?_)
  replace ho : oW D (mT c) A s.heap s (wM q c 1 mTn mCk mRw mSt mTr mFM mFS mTpN mLw mAt mTwN mBE mBEn mSun mCkT mCkD mCkK mCkA mRow mStT mRun mUp mSta mSty mDly mTri mFnd mTap mLwT mLwD mLwO mLwM mTwT mSetA mDri mOrd mBst) H locs := ho
  refine lv_iconst (v := 0) hx hb dX11_refuse_5 (by decide) ?_
  exact hret 0 1 _ _ _ _ dX11_refuse_6 ho hp
set_option maxHeartbeats 4000000 in
set_option maxRecDepth 100000 in
theorem c_M_isTown (l : Launch) (D : va_G) (q : Nat → Nat) (c : Nat → ClassId) (mThr : Int32) (mTn : Int32) (mCk : Int32) (mRw : Int32) (mSt : Int32) (mTr : Int32) (mFM : Int32) (mFS : Int32) (mTpN : Int32) (mLw : Int32) (mAt : Int32) (mTwN : Int32) (mBE : Int32) (mBEn : Int32) (mSun : Nat → Int32) (mCkT : Nat → Int32) (mCkD : Nat → Int32) (mCkK : Nat → Int32) (mCkA : Nat → Int32) (mRow : Nat → Int32) (mStT : Nat → Int32) (mRun : Nat → Int32) (mUp : Nat → Int32) (mSta : Nat → Int32) (mSty : Nat → Int32) (mDly : Nat → Int32) (mTri : Nat → Int32) (mFnd : Nat → Int32) (mTap : Nat → Int32) (mLwT : Nat → Int32) (mLwD : Nat → Int32) (mLwO : Nat → Int32) (mLwM : Nat → Int32) (mTwT : Nat → Int32) (mSetA : Nat → Int32) (mDri : Nat → Int32) (mOrd : Nat → Int32) (mBst : Nat → Int32) (v1 : Int32) (Q : Int32 → Prop) (hp : p_M_isTown mTn v1 Q) : oKi l yX11_isTown wsX11_isTown { frames := 1, cells := 0, slots := 0, locals := 25 } [.ref (q 0), .int v1] D (mT c) (wM q c mThr mTn mCk mRw mSt mTr mFM mFS mTpN mLw mAt mTwN mBE mBEn mSun mCkT mCkD mCkK mCkA mRow mStT mRun mUp mSta mSty mDly mTri mFnd mTap mLwT mLwD mLwO mLwM mTwT mSetA mDri mOrd mBst) (Unit) (fun r (_ : Unit) => Q r) (fun _ => wM q c mThr mTn mCk mRw mSt mTr mFM mFS mTpN mLw mAt mTwN mBE mBEn mSun mCkT mCkD mCkK mCkA mRow mStT mRun mUp mSta mSty mDly mTri mFnd mTap mLwT mLwD mLwO mLwM mTwT mSetA mDri mOrd mBst) := by
  refine oKi.ofWz (own := RX11) (cc := cX11_isTown) (maxL := 2) (plainFor_of_name (by decide +kernel)) rfl rfl (Nat.le_of_ble_eq_true rfl) (fun p e s m args below meth cd A ls Z hx hb hml hown hts hret ho hl => ?_)
  replace hl : lv_has ls 2 [(0, .ref (q 0)), (1, .int v1)] := hl
  have hinX11 : ∀ w ∈ u_ws RX11 TX11 38, w ∈ wsX11_isTown := by decide +kernel
  have hf87 := hts (.fieldLink RX11 87 "OneTimeModel" "towns" "I") (by decide +kernel)
  unfold p_M_isTown at hp
  refine lv_iload_n hx hb dX11_isTown_0 rfl (lv_at hl 1 rfl) ?_
  refine lv_i2l (v := ((v1 : Int32).toInt64)) hx hb dX11_isTown_1 rfl ?_
  refine lv_lconst (v := 0) hx hb dX11_isTown_2 (by decide) ?_
  refine lv_aload_n hx hb dX11_isTown_3 rfl (lv_at hl 0 rfl) ?_
  refine o_get (ci := 11) (T := TX11) hx hb hts hinX11 hown ho 0 rfl rfl 1 (by decide) hf87 rfl dX11_isTown_4 ?_
  refine lv_iconst (v := 1) hx hb dX11_isTown_7 (by decide) ?_
  refine lv_isub hx hb dX11_isTown_8 ?_
  refine lv_i2l (v := ((mTn - 1 : Int32).toInt64)) hx hb dX11_isTown_9 rfl ?_
  refine o_callSi (rest := []) ⟨hx, hb, hml, hown, hts⟩ ho (c_M_in l D (mT c) (wM q c mThr mTn mCk mRw mSt mTr mFM mFS mTpN mLw mAt mTwN mBE mBEn mSun mCkT mCkD mCkK mCkA mRow mStT mRun mUp mSta mSty mDly mTri mFnd mTap mLwT mLwD mLwO mLwM mTwT mSetA mDri mOrd mBst) ((v1 : Int32).toInt64) 0 ((mTn - 1 : Int32).toInt64) _ hp) (va_cwS 3 hts gX11_isTown_X11_in rfl rfl rfl (by decide +kernel) ⟨(Nat.le_of_ble_eq_true rfl), (Nat.le_of_ble_eq_true rfl)⟩) rfl hl.1 rfl (Nat.le_of_ble_eq_true rfl) dX11_isTown_10 ⟨Nat.zero_le _, Nat.zero_le _⟩ (fun r10 u H locs hp ho => ?_)
  try dsimp only at hp
  replace ho : oW D (mT c) A s.heap s (wM q c mThr mTn mCk mRw mSt mTr mFM mFS mTpN mLw mAt mTwN mBE mBEn mSun mCkT mCkD mCkK mCkA mRow mStT mRun mUp mSta mSty mDly mTri mFnd mTap mLwT mLwD mLwO mLwM mTwT mSetA mDri mOrd mBst) H locs := ho
  exact hret r10 () _ _ _ _ dX11_isTown_13 hp.1 ho hp.2
set_option maxHeartbeats 4000000 in
set_option maxRecDepth 100000 in
theorem c_M_isDay (l : Launch) (D : va_G) (tys : List (ClassId × FieldType)) (ws : va_W)  (v0 : Int32) (Q : Int32 → Prop) (hp : p_M_isDay v0 Q) : oKi l yX11_isDay wsX11_isDay { frames := 1, cells := 0, slots := 0, locals := 25 } [.int v0] D tys ws (Unit) (fun r (_ : Unit) => Q r) (fun _ => ws) := by
  refine oKi.ofWz (own := RX11) (cc := cX11_isDay) (maxL := 1) (plainFor_of_name (by decide +kernel)) rfl rfl (Nat.le_of_ble_eq_true rfl) (fun p e s m args below meth cd A ls Z hx hb hml hown hts hret ho hl => ?_)
  replace hl : lv_has ls 1 [(0, .int v0)] := hl
  have hk94 := hts (.constantLong RX11 94 399) (by decide +kernel)
  unfold p_M_isDay at hp
  refine lv_iload_n hx hb dX11_isDay_0 rfl (lv_at hl 0 rfl) ?_
  refine lv_i2l (v := ((v0 : Int32).toInt64)) hx hb dX11_isDay_1 rfl ?_
  refine lv_lconst (v := 0) hx hb dX11_isDay_2 (by decide) ?_
  refine lv_ldc2 (v := 399) hx hb hown hk94 dX11_isDay_3 ?_
  refine o_callSi (rest := []) ⟨hx, hb, hml, hown, hts⟩ ho (c_M_in l D tys ws ((v0 : Int32).toInt64) 0 399 _ hp) (va_cwS 3 hts gX11_isDay_X11_in rfl rfl rfl (by decide +kernel) ⟨(Nat.le_of_ble_eq_true rfl), (Nat.le_of_ble_eq_true rfl)⟩) rfl hl.1 rfl (Nat.le_of_ble_eq_true rfl) dX11_isDay_6 ⟨Nat.zero_le _, Nat.zero_le _⟩ (fun r6 u H locs hp ho => ?_)
  try dsimp only at hp
  replace ho : oW D tys A s.heap s ws H locs := ho
  exact hret r6 () _ _ _ _ dX11_isDay_9 hp.1 ho hp.2
set_option maxHeartbeats 4000000 in
set_option maxRecDepth 100000 in
theorem c_M_isMinute (l : Launch) (D : va_G) (tys : List (ClassId × FieldType)) (ws : va_W)  (v0 : Int32) (Q : Int32 → Prop) (hp : p_M_isMinute v0 Q) : oKi l yX11_isMinute wsX11_isMinute { frames := 1, cells := 0, slots := 0, locals := 25 } [.int v0] D tys ws (Unit) (fun r (_ : Unit) => Q r) (fun _ => ws) := by
  refine oKi.ofWz (own := RX11) (cc := cX11_isMinute) (maxL := 1) (plainFor_of_name (by decide +kernel)) rfl rfl (Nat.le_of_ble_eq_true rfl) (fun p e s m args below meth cd A ls Z hx hb hml hown hts hret ho hl => ?_)
  replace hl : lv_has ls 1 [(0, .int v0)] := hl
  have hk96 := hts (.constantLong RX11 96 575999) (by decide +kernel)
  unfold p_M_isMinute at hp
  refine lv_iload_n hx hb dX11_isMinute_0 rfl (lv_at hl 0 rfl) ?_
  refine lv_i2l (v := ((v0 : Int32).toInt64)) hx hb dX11_isMinute_1 rfl ?_
  refine lv_lconst (v := 0) hx hb dX11_isMinute_2 (by decide) ?_
  refine lv_ldc2 (v := 575999) hx hb hown hk96 dX11_isMinute_3 ?_
  refine o_callSi (rest := []) ⟨hx, hb, hml, hown, hts⟩ ho (c_M_in l D tys ws ((v0 : Int32).toInt64) 0 575999 _ hp) (va_cwS 3 hts gX11_isMinute_X11_in rfl rfl rfl (by decide +kernel) ⟨(Nat.le_of_ble_eq_true rfl), (Nat.le_of_ble_eq_true rfl)⟩) rfl hl.1 rfl (Nat.le_of_ble_eq_true rfl) dX11_isMinute_6 ⟨Nat.zero_le _, Nat.zero_le _⟩ (fun r6 u H locs hp ho => ?_)
  try dsimp only at hp
  replace ho : oW D tys A s.heap s ws H locs := ho
  exact hret r6 () _ _ _ _ dX11_isMinute_9 hp.1 ho hp.2
set_option maxHeartbeats 4000000 in
set_option maxRecDepth 100000 in
theorem c_M_town (l : Launch) (D : va_G) (q : Nat → Nat) (c : Nat → ClassId) (mThr : Int32) (mTn : Int32) (mCk : Int32) (mRw : Int32) (mSt : Int32) (mTr : Int32) (mFM : Int32) (mFS : Int32) (mTpN : Int32) (mLw : Int32) (mAt : Int32) (mTwN : Int32) (mBE : Int32) (mBEn : Int32) (mSun : Nat → Int32) (mCkT : Nat → Int32) (mCkD : Nat → Int32) (mCkK : Nat → Int32) (mCkA : Nat → Int32) (mRow : Nat → Int32) (mStT : Nat → Int32) (mRun : Nat → Int32) (mUp : Nat → Int32) (mSta : Nat → Int32) (mSty : Nat → Int32) (mDly : Nat → Int32) (mTri : Nat → Int32) (mFnd : Nat → Int32) (mTap : Nat → Int32) (mLwT : Nat → Int32) (mLwD : Nat → Int32) (mLwO : Nat → Int32) (mLwM : Nat → Int32) (mTwT : Nat → Int32) (mSetA : Nat → Int32) (mDri : Nat → Int32) (mOrd : Nat → Int32) (mBst : Nat → Int32) (v1 : Int32) (Q : Int32 → Int32 → Int32 → (Nat → Int32) → Prop) (hp : p_M_town mThr mTn mSun v1 Q) : oKi l yX11_town wsX11_town { frames := 1, cells := 0, slots := 0, locals := 25 } [.ref (q 0), .int v1] D (mT c) (wM q c mThr mTn mCk mRw mSt mTr mFM mFS mTpN mLw mAt mTwN mBE mBEn mSun mCkT mCkD mCkK mCkA mRow mStT mRun mUp mSta mSty mDly mTri mFnd mTap mLwT mLwD mLwO mLwM mTwT mSetA mDri mOrd mBst) (Int32 × Int32 × (Nat → Int32)) (fun r (u : Int32 × Int32 × (Nat → Int32)) => Q r u.1 u.2.1 u.2.2) (fun u => wM q c u.1 u.2.1 mCk mRw mSt mTr mFM mFS mTpN mLw mAt mTwN mBE mBEn u.2.2 mCkT mCkD mCkK mCkA mRow mStT mRun mUp mSta mSty mDly mTri mFnd mTap mLwT mLwD mLwO mLwM mTwT mSetA mDri mOrd mBst) := by
  refine oKi.ofW (own := RX11) (cc := cX11_town) (maxL := 2) (plainFor_of_name (by decide +kernel)) rfl rfl (Nat.le_of_ble_eq_true rfl) (fun p e s m args below meth cd A ls Z hx hb hml hown hts hret ho hl => ?_)
  replace hl : lv_has ls 2 [(0, .ref (q 0)), (1, .int v1)] := hl
  have hinX11 : ∀ w ∈ u_ws RX11 TX11 38, w ∈ wsX11_town := by decide +kernel
  have hf9 := hts (.fieldLink RX11 9 "OneTimeModel" "sun" "[I") (by decide +kernel)
  have hf83 := hts (.fieldLink RX11 83 "OneTimeModel" "thrown" "I") (by decide +kernel)
  have hf87 := hts (.fieldLink RX11 87 "OneTimeModel" "towns" "I") (by decide +kernel)
  have hk98 := hts (.constantLong RX11 98 (-720)) (by decide +kernel)
  have hk100 := hts (.constantLong RX11 100 720) (by decide +kernel)
  unfold p_M_town at hp
  refine lv_aload_n hx hb dX11_town_0 rfl (lv_at hl 0 rfl) ?_
  refine lv_iconst (v := 0) hx hb dX11_town_1 (by decide) ?_
  refine o_put (ci := 11) (T := TX11) hx hb hts hinX11 tyX11_ok nmX11 hown ho 0 rfl rfl 0 (by decide) hf83 rfl (tyX11_ok 0 (by decide)) (Nat.le_of_ble_eq_true rfl) dX11_town_2 (fun H locs ho => ?_)
  replace ho : oW D (mT c) A s.heap s (wM q c 0 mTn mCk mRw mSt mTr mFM mFS mTpN mLw mAt mTwN mBE mBEn mSun mCkT mCkD mCkK mCkA mRow mStT mRun mUp mSta mSty mDly mTri mFnd mTap mLwT mLwD mLwO mLwM mTwT mSetA mDri mOrd mBst) H locs := ho
  refine lv_iload_n hx hb dX11_town_5 rfl (lv_at hl 1 rfl) ?_
  refine lv_i2l (v := ((v1 : Int32).toInt64)) hx hb dX11_town_6 rfl ?_
  refine lv_ldc2 (v := (-720)) hx hb hown hk98 dX11_town_7 ?_
  refine lv_ldc2 (v := 720) hx hb hown hk100 dX11_town_10 ?_
  refine o_callSi (rest := []) ⟨hx, hb, hml, hown, hts⟩ ho (c_M_in l D (mT c) (wM q c 0 mTn mCk mRw mSt mTr mFM mFS mTpN mLw mAt mTwN mBE mBEn mSun mCkT mCkD mCkK mCkA mRow mStT mRun mUp mSta mSty mDly mTri mFnd mTap mLwT mLwD mLwO mLwM mTwT mSetA mDri mOrd mBst) ((v1 : Int32).toInt64) (-720) 720 _ hp) (va_cwS 3 hts gX11_town_X11_in rfl rfl rfl (by decide +kernel) ⟨(Nat.le_of_ble_eq_true rfl), (Nat.le_of_ble_eq_true rfl)⟩) rfl hl.1 rfl (Nat.le_of_ble_eq_true rfl) dX11_town_13 ⟨Nat.zero_le _, Nat.zero_le _⟩ (fun r13 u H locs hp ho => ?_)
  try dsimp only at hp
  replace ho : oW D (mT c) A s.heap s (wM q c 0 mTn mCk mRw mSt mTr mFM mFS mTpN mLw mAt mTwN mBE mBEn mSun mCkT mCkD mCkK mCkA mRow mStT mRun mUp mSta mSty mDly mTri mFnd mTap mLwT mLwD mLwO mLwM mTwT mSetA mDri mOrd mBst) H locs := ho
  refine lv_if_eq (tgt := 28) hx hb dX11_town_16 (by decide) (fun c_16 => ?_) (fun c_16 => ?_)
  · replace hp := hp.1 c_16
    refine lv_iconst (v := (-1)) hx hb dX11_town_28 (by decide) ?_
    exact hret (-1) (0, mTn, mSun) _ _ _ _ dX11_town_29 ho hp
  · replace hp := hp.2 c_16
    refine lv_aload_n hx hb dX11_town_19 rfl (lv_at hl 0 rfl) ?_
    refine o_get (ci := 11) (T := TX11) hx hb hts hinX11 hown ho 0 rfl rfl 1 (by decide) hf87 rfl dX11_town_20 ?_
    refine lv_bipush (v := 16) hx hb dX11_town_23 (by decide) ?_
    refine lv_icmp_ne (tgt := 30) hx hb dX11_town_25 (by decide) (fun c_25 => ?_) (fun c_25 => ?_)
    · replace hp := hp.2 c_25
      refine lv_aload_n hx hb dX11_town_30 rfl (lv_at hl 0 rfl) ?_
      refine o_get (ci := 11) (T := TX11) hx hb hts hinX11 hown ho 0 rfl rfl 2 (by decide) hf9 rfl dX11_town_31 ?_
      refine lv_aload_n hx hb dX11_town_34 rfl (lv_at hl 0 rfl) ?_
      refine o_get (ci := 11) (T := TX11) hx hb hts hinX11 hown ho 0 rfl rfl 1 (by decide) hf87 rfl dX11_town_35 ?_
      refine lv_iload_n hx hb dX11_town_38 rfl (lv_at hl 1 rfl) ?_
      refine o_ist hx hb ho 1 0 rfl rfl hp.1 dX11_town_39 (fun H locs ho => ?_)
      replace hp := hp.2
      replace ho : oW D (mT c) A s.heap s (wM q c 0 mTn mCk mRw mSt mTr mFM mFS mTpN mLw mAt mTwN mBE mBEn (upd mSun mTn.toNatClampNeg v1) mCkT mCkD mCkK mCkA mRow mStT mRun mUp mSta mSty mDly mTri mFnd mTap mLwT mLwD mLwO mLwM mTwT mSetA mDri mOrd mBst) H locs := ho
      refine lv_aload_n hx hb dX11_town_40 rfl (lv_at hl 0 rfl) ?_
      refine lv_dup hx hb dX11_town_41 rfl ?_
      refine o_get (ci := 11) (T := TX11) hx hb hts hinX11 hown ho 0 rfl rfl 1 (by decide) hf87 rfl dX11_town_42 ?_
      refine lv_iconst (v := 1) hx hb dX11_town_45 (by decide) ?_
      refine lv_iadd hx hb dX11_town_46 ?_
      refine lv_topi (fun x47 e_x47 => ?_)
      replace hp := hp x47 e_x47
      refine o_put (ci := 11) (T := TX11) hx hb hts hinX11 tyX11_ok nmX11 hown ho 0 rfl rfl 1 (by decide) hf87 rfl (tyX11_ok 1 (by decide)) (Nat.le_of_ble_eq_true rfl) dX11_town_47 (fun H locs ho => ?_)
      replace ho : oW D (mT c) A s.heap s (wM q c 0 x47 mCk mRw mSt mTr mFM mFS mTpN mLw mAt mTwN mBE mBEn (upd mSun mTn.toNatClampNeg v1) mCkT mCkD mCkK mCkA mRow mStT mRun mUp mSta mSty mDly mTri mFnd mTap mLwT mLwD mLwO mLwM mTwT mSetA mDri mOrd mBst) H locs := ho
      refine lv_aload_n hx hb dX11_town_50 rfl (lv_at hl 0 rfl) ?_
      refine o_get (ci := 11) (T := TX11) hx hb hts hinX11 hown ho 0 rfl rfl 1 (by decide) hf87 rfl dX11_town_51 ?_
      refine lv_iconst (v := 1) hx hb dX11_town_54 (by decide) ?_
      refine lv_isub hx hb dX11_town_55 ?_
      exact hret (x47 - 1) (0, x47, upd mSun mTn.toNatClampNeg v1) _ _ _ _ dX11_town_56 ho hp
    · replace hp := hp.1 c_25
      refine lv_iconst (v := (-1)) hx hb dX11_town_28 (by decide) ?_
      exact hret (-1) (0, mTn, mSun) _ _ _ _ dX11_town_29 ho hp
set_option maxHeartbeats 4000000 in
set_option maxRecDepth 100000 in
theorem c_M_clock (l : Launch) (D : va_G) (q : Nat → Nat) (c : Nat → ClassId) (mThr : Int32) (mTn : Int32) (mCk : Int32) (mRw : Int32) (mSt : Int32) (mTr : Int32) (mFM : Int32) (mFS : Int32) (mTpN : Int32) (mLw : Int32) (mAt : Int32) (mTwN : Int32) (mBE : Int32) (mBEn : Int32) (mSun : Nat → Int32) (mCkT : Nat → Int32) (mCkD : Nat → Int32) (mCkK : Nat → Int32) (mCkA : Nat → Int32) (mRow : Nat → Int32) (mStT : Nat → Int32) (mRun : Nat → Int32) (mUp : Nat → Int32) (mSta : Nat → Int32) (mSty : Nat → Int32) (mDly : Nat → Int32) (mTri : Nat → Int32) (mFnd : Nat → Int32) (mTap : Nat → Int32) (mLwT : Nat → Int32) (mLwD : Nat → Int32) (mLwO : Nat → Int32) (mLwM : Nat → Int32) (mTwT : Nat → Int32) (mSetA : Nat → Int32) (mDri : Nat → Int32) (mOrd : Nat → Int32) (mBst : Nat → Int32) (v1 : Int32) (v2 : Int32) (v3 : Int32) (v4 : Int32) (Q : Int32 → Int32 → Int32 → (Nat → Int32) → (Nat → Int32) → (Nat → Int32) → (Nat → Int32) → Prop) (hp : p_M_clock mTn mThr mCk mCkT mCkD mCkK mCkA v1 v2 v3 v4 Q) : oKi l yX11_clock wsX11_clock { frames := 2, cells := 0, slots := 0, locals := 46 } [.ref (q 0), .int v1, .int v2, .int v3, .int v4] D (mT c) (wM q c mThr mTn mCk mRw mSt mTr mFM mFS mTpN mLw mAt mTwN mBE mBEn mSun mCkT mCkD mCkK mCkA mRow mStT mRun mUp mSta mSty mDly mTri mFnd mTap mLwT mLwD mLwO mLwM mTwT mSetA mDri mOrd mBst) (Int32 × Int32 × (Nat → Int32) × (Nat → Int32) × (Nat → Int32) × (Nat → Int32)) (fun r (u : Int32 × Int32 × (Nat → Int32) × (Nat → Int32) × (Nat → Int32) × (Nat → Int32)) => Q r u.1 u.2.1 u.2.2.1 u.2.2.2.1 u.2.2.2.2.1 u.2.2.2.2.2) (fun u => wM q c u.1 mTn u.2.1 mRw mSt mTr mFM mFS mTpN mLw mAt mTwN mBE mBEn mSun u.2.2.1 u.2.2.2.1 u.2.2.2.2.1 u.2.2.2.2.2 mRow mStT mRun mUp mSta mSty mDly mTri mFnd mTap mLwT mLwD mLwO mLwM mTwT mSetA mDri mOrd mBst) := by
  refine oKi.ofW (own := RX11) (cc := cX11_clock) (maxL := 6) (plainFor_of_name (by decide +kernel)) rfl rfl (Nat.le_of_ble_eq_true rfl) (fun p e s m args below meth cd A ls Z hx hb hml hown hts hret ho hl => ?_)
  replace hl : lv_has ls 6 [(0, .ref (q 0)), (1, .int v1), (2, .int v2), (3, .int v3), (4, .int v4)] := hl
  have hinX11 : ∀ w ∈ u_ws RX11 TX11 38, w ∈ wsX11_clock := by decide +kernel
  have hf13 := hts (.fieldLink RX11 13 "OneTimeModel" "clockTown" "[I") (by decide +kernel)
  have hf16 := hts (.fieldLink RX11 16 "OneTimeModel" "clockDay" "[I") (by decide +kernel)
  have hf19 := hts (.fieldLink RX11 19 "OneTimeModel" "clockKind" "[I") (by decide +kernel)
  have hf22 := hts (.fieldLink RX11 22 "OneTimeModel" "clockArg" "[I") (by decide +kernel)
  have hf83 := hts (.fieldLink RX11 83 "OneTimeModel" "thrown" "I") (by decide +kernel)
  have hf111 := hts (.fieldLink RX11 111 "OneTimeModel" "clocks" "I") (by decide +kernel)
  have hk109 := hts (.constantLong RX11 109 2) (by decide +kernel)
  have hk114 := hts (.constantLong RX11 114 (-12)) (by decide +kernel)
  have hk116 := hts (.constantLong RX11 116 12) (by decide +kernel)
  unfold p_M_clock at hp
  have hJ98 : ∀ (v1 : Int32) (v2 : Int32) (v3 : Int32) (v4 : Int32) (mThr : Int32) (mCk : Int32) (mCkT : Nat → Int32) (mCkD : Nat → Int32) (mCkK : Nat → Int32) (mCkA : Nat → Int32) (s0 : Int32), p_M_clock_J98 mTn v1 v2 v3 v4 mThr mCk mCkT mCkD mCkK mCkA s0 Q → ∀ (H : Heap) (locs : List Loc) (ls : Array Slot), oW D (mT c) A s.heap s (wM q c mThr mTn mCk mRw mSt mTr mFM mFS mTpN mLw mAt mTwN mBE mBEn mSun mCkT mCkD mCkK mCkA mRow mStT mRun mUp mSta mSty mDly mTri mFnd mTap mLwT mLwD mLwO mLwM mTwT mSetA mDri mOrd mBst) H locs → lv_has ls 6 [(0, .ref (q 0)), (1, .int v1), (2, .int v2), (3, .int v3), (4, .int v4)] → W p l e { frames := 2, cells := 0, slots := 0, locals := 46 } s m args below meth cd H locs 0 0 Z (F0 m 98 ls [.int s0]) := by
    intro v1 v2 v3 v4 mThr mCk mCkT mCkD mCkK mCkA s0
    intro hp H locs ls ho hl
    unfold p_M_clock_J98 at hp
    refine lv_istore (lv' := [(5, .int s0), (0, .ref (q 0)), (1, .int v1), (2, .int v2), (3, .int v3), (4, .int v4)]) hx hb dX11_clock_98 hl (by decide) rfl (fun ls hl => ?_)
    refine lv_iload hx hb dX11_clock_100 (lv_at hl 0 rfl) ?_
    refine lv_if_ne (tgt := 107) hx hb dX11_clock_102 (by decide) (fun c_102 => ?_) (fun c_102 => ?_)
    · replace hp := hp.2 c_102
      refine lv_aload_n hx hb dX11_clock_107 rfl (lv_at hl 1 rfl) ?_
      refine o_get (ci := 11) (T := TX11) hx hb hts hinX11 hown ho 0 rfl rfl 4 (by decide) hf13 rfl dX11_clock_108 ?_
      refine lv_aload_n hx hb dX11_clock_111 rfl (lv_at hl 1 rfl) ?_
      refine o_get (ci := 11) (T := TX11) hx hb hts hinX11 hown ho 0 rfl rfl 3 (by decide) hf111 rfl dX11_clock_112 ?_
      refine lv_iload_n hx hb dX11_clock_115 rfl (lv_at hl 2 rfl) ?_
      refine o_ist hx hb ho 2 1 rfl rfl hp.1 dX11_clock_116 (fun H locs ho => ?_)
      replace hp := hp.2
      replace ho : oW D (mT c) A s.heap s (wM q c mThr mTn mCk mRw mSt mTr mFM mFS mTpN mLw mAt mTwN mBE mBEn mSun (upd mCkT mCk.toNatClampNeg v1) mCkD mCkK mCkA mRow mStT mRun mUp mSta mSty mDly mTri mFnd mTap mLwT mLwD mLwO mLwM mTwT mSetA mDri mOrd mBst) H locs := ho
      refine lv_aload_n hx hb dX11_clock_117 rfl (lv_at hl 1 rfl) ?_
      refine o_get (ci := 11) (T := TX11) hx hb hts hinX11 hown ho 0 rfl rfl 5 (by decide) hf16 rfl dX11_clock_118 ?_
      refine lv_aload_n hx hb dX11_clock_121 rfl (lv_at hl 1 rfl) ?_
      refine o_get (ci := 11) (T := TX11) hx hb hts hinX11 hown ho 0 rfl rfl 3 (by decide) hf111 rfl dX11_clock_122 ?_
      refine lv_iload_n hx hb dX11_clock_125 rfl (lv_at hl 3 rfl) ?_
      refine o_ist hx hb ho 3 2 rfl rfl hp.1 dX11_clock_126 (fun H locs ho => ?_)
      replace hp := hp.2
      replace ho : oW D (mT c) A s.heap s (wM q c mThr mTn mCk mRw mSt mTr mFM mFS mTpN mLw mAt mTwN mBE mBEn mSun (upd mCkT mCk.toNatClampNeg v1) (upd mCkD mCk.toNatClampNeg v2) mCkK mCkA mRow mStT mRun mUp mSta mSty mDly mTri mFnd mTap mLwT mLwD mLwO mLwM mTwT mSetA mDri mOrd mBst) H locs := ho
      refine lv_aload_n hx hb dX11_clock_127 rfl (lv_at hl 1 rfl) ?_
      refine o_get (ci := 11) (T := TX11) hx hb hts hinX11 hown ho 0 rfl rfl 6 (by decide) hf19 rfl dX11_clock_128 ?_
      refine lv_aload_n hx hb dX11_clock_131 rfl (lv_at hl 1 rfl) ?_
      refine o_get (ci := 11) (T := TX11) hx hb hts hinX11 hown ho 0 rfl rfl 3 (by decide) hf111 rfl dX11_clock_132 ?_
      refine lv_iload_n hx hb dX11_clock_135 rfl (lv_at hl 4 rfl) ?_
      refine o_ist hx hb ho 4 3 rfl rfl hp.1 dX11_clock_136 (fun H locs ho => ?_)
      replace hp := hp.2
      replace ho : oW D (mT c) A s.heap s (wM q c mThr mTn mCk mRw mSt mTr mFM mFS mTpN mLw mAt mTwN mBE mBEn mSun (upd mCkT mCk.toNatClampNeg v1) (upd mCkD mCk.toNatClampNeg v2) (upd mCkK mCk.toNatClampNeg v3) mCkA mRow mStT mRun mUp mSta mSty mDly mTri mFnd mTap mLwT mLwD mLwO mLwM mTwT mSetA mDri mOrd mBst) H locs := ho
      refine lv_aload_n hx hb dX11_clock_137 rfl (lv_at hl 1 rfl) ?_
      refine o_get (ci := 11) (T := TX11) hx hb hts hinX11 hown ho 0 rfl rfl 7 (by decide) hf22 rfl dX11_clock_138 ?_
      refine lv_aload_n hx hb dX11_clock_141 rfl (lv_at hl 1 rfl) ?_
      refine o_get (ci := 11) (T := TX11) hx hb hts hinX11 hown ho 0 rfl rfl 3 (by decide) hf111 rfl dX11_clock_142 ?_
      refine lv_iload hx hb dX11_clock_145 (lv_at hl 5 rfl) ?_
      refine o_ist hx hb ho 5 4 rfl rfl hp.1 dX11_clock_147 (fun H locs ho => ?_)
      replace hp := hp.2
      replace ho : oW D (mT c) A s.heap s (wM q c mThr mTn mCk mRw mSt mTr mFM mFS mTpN mLw mAt mTwN mBE mBEn mSun (upd mCkT mCk.toNatClampNeg v1) (upd mCkD mCk.toNatClampNeg v2) (upd mCkK mCk.toNatClampNeg v3) (upd mCkA mCk.toNatClampNeg v4) mRow mStT mRun mUp mSta mSty mDly mTri mFnd mTap mLwT mLwD mLwO mLwM mTwT mSetA mDri mOrd mBst) H locs := ho
      refine lv_aload_n hx hb dX11_clock_148 rfl (lv_at hl 1 rfl) ?_
      refine lv_dup hx hb dX11_clock_149 rfl ?_
      refine o_get (ci := 11) (T := TX11) hx hb hts hinX11 hown ho 0 rfl rfl 3 (by decide) hf111 rfl dX11_clock_150 ?_
      refine lv_iconst (v := 1) hx hb dX11_clock_153 (by decide) ?_
      refine lv_iadd hx hb dX11_clock_154 ?_
      refine lv_topi (fun x155 e_x155 => ?_)
      replace hp := hp x155 e_x155
      refine o_put (ci := 11) (T := TX11) hx hb hts hinX11 tyX11_ok nmX11 hown ho 0 rfl rfl 3 (by decide) hf111 rfl (tyX11_ok 3 (by decide)) (Nat.le_of_ble_eq_true rfl) dX11_clock_155 (fun H locs ho => ?_)
      replace ho : oW D (mT c) A s.heap s (wM q c mThr mTn x155 mRw mSt mTr mFM mFS mTpN mLw mAt mTwN mBE mBEn mSun (upd mCkT mCk.toNatClampNeg v1) (upd mCkD mCk.toNatClampNeg v2) (upd mCkK mCk.toNatClampNeg v3) (upd mCkA mCk.toNatClampNeg v4) mRow mStT mRun mUp mSta mSty mDly mTri mFnd mTap mLwT mLwD mLwO mLwM mTwT mSetA mDri mOrd mBst) H locs := ho
      refine lv_aload_n hx hb dX11_clock_158 rfl (lv_at hl 1 rfl) ?_
      refine o_get (ci := 11) (T := TX11) hx hb hts hinX11 hown ho 0 rfl rfl 3 (by decide) hf111 rfl dX11_clock_159 ?_
      exact hret x155 (mThr, x155, upd mCkT mCk.toNatClampNeg v1, upd mCkD mCk.toNatClampNeg v2, upd mCkK mCk.toNatClampNeg v3, upd mCkA mCk.toNatClampNeg v4) _ _ _ _ dX11_clock_162 ho hp
    · replace hp := hp.1 c_102
      refine lv_iconst (v := (-1)) hx hb dX11_clock_105 (by decide) ?_
      exact hret (-1) (mThr, mCk, mCkT, mCkD, mCkK, mCkA) _ _ _ _ dX11_clock_106 ho hp
  have hJ73 : ∀ (v1 : Int32) (v2 : Int32) (v3 : Int32) (v4 : Int32) (mThr : Int32) (mCk : Int32) (mCkT : Nat → Int32) (mCkD : Nat → Int32) (mCkK : Nat → Int32) (mCkA : Nat → Int32), p_M_clock_J73 mTn v1 v2 v3 v4 mThr mCk mCkT mCkD mCkK mCkA Q → ∀ (H : Heap) (locs : List Loc) (ls : Array Slot), oW D (mT c) A s.heap s (wM q c mThr mTn mCk mRw mSt mTr mFM mFS mTpN mLw mAt mTwN mBE mBEn mSun mCkT mCkD mCkK mCkA mRow mStT mRun mUp mSta mSty mDly mTri mFnd mTap mLwT mLwD mLwO mLwM mTwT mSetA mDri mOrd mBst) H locs → lv_has ls 6 [(0, .ref (q 0)), (1, .int v1), (2, .int v2), (3, .int v3), (4, .int v4)] → W p l e { frames := 2, cells := 0, slots := 0, locals := 46 } s m args below meth cd H locs 0 0 Z (F0 m 73 ls []) := by
    intro v1 v2 v3 v4 mThr mCk mCkT mCkD mCkK mCkA
    intro hp H locs ls ho hl
    unfold p_M_clock_J73 at hp
    refine lv_iload_n hx hb dX11_clock_73 rfl (lv_at hl 3 rfl) ?_
    refine lv_iconst (v := 2) hx hb dX11_clock_74 (by decide) ?_
    refine lv_icmp_ne (tgt := 93) hx hb dX11_clock_75 (by decide) (fun c_75 => ?_) (fun c_75 => ?_)
    · replace hp := hp.2 c_75
      refine lv_iconst (v := 1) hx hb dX11_clock_93 (by decide) ?_
      refine lv_goto (tgt := 98) hx hb dX11_clock_94 (by decide) ?_
      exact hJ98 v1 v2 v3 v4 mThr mCk mCkT mCkD mCkK mCkA 1 hp _ _ _ ho (lv_sub hl [0, 1, 2, 3, 4] rfl)
    · replace hp := hp.1 c_75
      refine lv_aload_n hx hb dX11_clock_78 rfl (lv_at hl 0 rfl) ?_
      refine lv_iload hx hb dX11_clock_79 (lv_at hl 4 rfl) ?_
      refine o_callVi (rest := []) (ci := 11) ⟨hx, hb, hml, hown, hts⟩ ho (c_M_isTown l D q c mThr mTn mCk mRw mSt mTr mFM mFS mTpN mLw mAt mTwN mBE mBEn mSun mCkT mCkD mCkK mCkA mRow mStT mRun mUp mSta mSty mDly mTri mFnd mTap mLwT mLwD mLwO mLwM mTwT mSetA mDri mOrd mBst v4 _ hp) (cwV 1 hts gX11_clock_X11_isTown rfl rfl rfl (by decide +kernel) ⟨(Nat.le_of_ble_eq_true rfl), (Nat.le_of_ble_eq_true rfl)⟩) 0 rfl rfl rfl hl.1 rfl (Nat.le_of_ble_eq_true rfl) dX11_clock_81 ⟨Nat.zero_le _, Nat.zero_le _⟩ (fun r81 u H locs hp ho => ?_)
      try dsimp only at hp
      replace ho : oW D (mT c) A s.heap s (wM q c mThr mTn mCk mRw mSt mTr mFM mFS mTpN mLw mAt mTwN mBE mBEn mSun mCkT mCkD mCkK mCkA mRow mStT mRun mUp mSta mSty mDly mTri mFnd mTap mLwT mLwD mLwO mLwM mTwT mSetA mDri mOrd mBst) H locs := ho
      refine lv_if_eq (tgt := 97) hx hb dX11_clock_84 (by decide) (fun c_84 => ?_) (fun c_84 => ?_)
      · replace hp := hp.1 c_84
        refine lv_iconst (v := 0) hx hb dX11_clock_97 (by decide) ?_
        exact hJ98 v1 v2 v3 v4 mThr mCk mCkT mCkD mCkK mCkA 0 hp _ _ _ ho (lv_sub hl [0, 1, 2, 3, 4] rfl)
      · replace hp := hp.2 c_84
        refine lv_iload hx hb dX11_clock_87 (lv_at hl 4 rfl) ?_
        refine lv_iload_n hx hb dX11_clock_89 rfl (lv_at hl 1 rfl) ?_
        refine lv_icmp_eq (tgt := 97) hx hb dX11_clock_90 (by decide) (fun c_90 => ?_) (fun c_90 => ?_)
        · replace hp := hp.1 c_90
          refine lv_iconst (v := 0) hx hb dX11_clock_97 (by decide) ?_
          exact hJ98 v1 v2 v3 v4 mThr mCk mCkT mCkD mCkK mCkA 0 hp _ _ _ ho (lv_sub hl [0, 1, 2, 3, 4] rfl)
        · replace hp := hp.2 c_90
          refine lv_iconst (v := 1) hx hb dX11_clock_93 (by decide) ?_
          refine lv_goto (tgt := 98) hx hb dX11_clock_94 (by decide) ?_
          exact hJ98 v1 v2 v3 v4 mThr mCk mCkT mCkD mCkK mCkA 1 hp _ _ _ ho (lv_sub hl [0, 1, 2, 3, 4] rfl)
  have hJ46 : ∀ (v1 : Int32) (v2 : Int32) (v3 : Int32) (v4 : Int32) (mThr : Int32) (mCk : Int32) (mCkT : Nat → Int32) (mCkD : Nat → Int32) (mCkK : Nat → Int32) (mCkA : Nat → Int32) (s0 : Int32), p_M_clock_J46 mTn v1 v2 v3 v4 mThr mCk mCkT mCkD mCkK mCkA s0 Q → ∀ (H : Heap) (locs : List Loc) (ls : Array Slot), oW D (mT c) A s.heap s (wM q c mThr mTn mCk mRw mSt mTr mFM mFS mTpN mLw mAt mTwN mBE mBEn mSun mCkT mCkD mCkK mCkA mRow mStT mRun mUp mSta mSty mDly mTri mFnd mTap mLwT mLwD mLwO mLwM mTwT mSetA mDri mOrd mBst) H locs → lv_has ls 6 [(0, .ref (q 0)), (1, .int v1), (2, .int v2), (3, .int v3), (4, .int v4)] → W p l e { frames := 2, cells := 0, slots := 0, locals := 46 } s m args below meth cd H locs 0 0 Z (F0 m 46 ls [.int s0]) := by
    intro v1 v2 v3 v4 mThr mCk mCkT mCkD mCkK mCkA s0
    intro hp H locs ls ho hl
    unfold p_M_clock_J46 at hp
    refine lv_istore (lv' := [(5, .int s0), (0, .ref (q 0)), (1, .int v1), (2, .int v2), (3, .int v3), (4, .int v4)]) hx hb dX11_clock_46 hl (by decide) rfl (fun ls hl => ?_)
    refine lv_iload hx hb dX11_clock_48 (lv_at hl 0 rfl) ?_
    refine lv_if_eq (tgt := 97) hx hb dX11_clock_50 (by decide) (fun c_50 => ?_) (fun c_50 => ?_)
    · replace hp := hp.1 c_50
      refine lv_iconst (v := 0) hx hb dX11_clock_97 (by decide) ?_
      exact hJ98 v1 v2 v3 v4 mThr mCk mCkT mCkD mCkK mCkA 0 hp _ _ _ ho (lv_sub hl [1, 2, 3, 4, 5] rfl)
    · replace hp := hp.2 c_50
      refine lv_iload_n hx hb dX11_clock_53 rfl (lv_at hl 4 rfl) ?_
      refine lv_iconst (v := 1) hx hb dX11_clock_54 (by decide) ?_
      refine lv_icmp_ne (tgt := 73) hx hb dX11_clock_55 (by decide) (fun c_55 => ?_) (fun c_55 => ?_)
      · replace hp := hp.2 c_55
        exact hJ73 v1 v2 v3 v4 mThr mCk mCkT mCkD mCkK mCkA hp _ _ _ ho (lv_sub hl [1, 2, 3, 4, 5] rfl)
      · replace hp := hp.1 c_55
        refine lv_iload hx hb dX11_clock_58 (lv_at hl 5 rfl) ?_
        refine lv_i2l (v := ((v4 : Int32).toInt64)) hx hb dX11_clock_60 rfl ?_
        refine lv_ldc2 (v := (-12)) hx hb hown hk114 dX11_clock_61 ?_
        refine lv_ldc2 (v := 12) hx hb hown hk116 dX11_clock_64 ?_
        refine o_callSi (rest := []) ⟨hx, hb, hml, hown, hts⟩ ho (c_M_in l D (mT c) (wM q c mThr mTn mCk mRw mSt mTr mFM mFS mTpN mLw mAt mTwN mBE mBEn mSun mCkT mCkD mCkK mCkA mRow mStT mRun mUp mSta mSty mDly mTri mFnd mTap mLwT mLwD mLwO mLwM mTwT mSetA mDri mOrd mBst) ((v4 : Int32).toInt64) (-12) 12 _ hp) (va_cwS 3 hts gX11_clock_X11_in rfl rfl rfl (by decide +kernel) ⟨(Nat.le_of_ble_eq_true rfl), (Nat.le_of_ble_eq_true rfl)⟩) rfl hl.1 rfl (Nat.le_of_ble_eq_true rfl) dX11_clock_67 ⟨Nat.zero_le _, Nat.zero_le _⟩ (fun r67 u H locs hp ho => ?_)
        try dsimp only at hp
        replace ho : oW D (mT c) A s.heap s (wM q c mThr mTn mCk mRw mSt mTr mFM mFS mTpN mLw mAt mTwN mBE mBEn mSun mCkT mCkD mCkK mCkA mRow mStT mRun mUp mSta mSty mDly mTri mFnd mTap mLwT mLwD mLwO mLwM mTwT mSetA mDri mOrd mBst) H locs := ho
        refine lv_if_eq (tgt := 97) hx hb dX11_clock_70 (by decide) (fun c_70 => ?_) (fun c_70 => ?_)
        · replace hp := hp.1 c_70
          refine lv_iconst (v := 0) hx hb dX11_clock_97 (by decide) ?_
          exact hJ98 v1 v2 v3 v4 mThr mCk mCkT mCkD mCkK mCkA 0 hp _ _ _ ho (lv_sub hl [1, 2, 3, 4, 5] rfl)
        · replace hp := hp.2 c_70
          exact hJ73 v1 v2 v3 v4 mThr mCk mCkT mCkD mCkK mCkA hp _ _ _ ho (lv_sub hl [1, 2, 3, 4, 5] rfl)
  refine lv_aload_n hx hb dX11_clock_0 rfl (lv_at hl 0 rfl) ?_
  refine lv_iconst (v := 0) hx hb dX11_clock_1 (by decide) ?_
  refine o_put (ci := 11) (T := TX11) hx hb hts hinX11 tyX11_ok nmX11 hown ho 0 rfl rfl 0 (by decide) hf83 rfl (tyX11_ok 0 (by decide)) (Nat.le_of_ble_eq_true rfl) dX11_clock_2 (fun H locs ho => ?_)
  replace ho : oW D (mT c) A s.heap s (wM q c 0 mTn mCk mRw mSt mTr mFM mFS mTpN mLw mAt mTwN mBE mBEn mSun mCkT mCkD mCkK mCkA mRow mStT mRun mUp mSta mSty mDly mTri mFnd mTap mLwT mLwD mLwO mLwM mTwT mSetA mDri mOrd mBst) H locs := ho
  refine lv_aload_n hx hb dX11_clock_5 rfl (lv_at hl 0 rfl) ?_
  refine lv_iload_n hx hb dX11_clock_6 rfl (lv_at hl 1 rfl) ?_
  refine o_callVi (rest := []) (ci := 11) ⟨hx, hb, hml, hown, hts⟩ ho (c_M_isTown l D q c 0 mTn mCk mRw mSt mTr mFM mFS mTpN mLw mAt mTwN mBE mBEn mSun mCkT mCkD mCkK mCkA mRow mStT mRun mUp mSta mSty mDly mTri mFnd mTap mLwT mLwD mLwO mLwM mTwT mSetA mDri mOrd mBst v1 _ hp) (cwV 1 hts gX11_clock_X11_isTown rfl rfl rfl (by decide +kernel) ⟨(Nat.le_of_ble_eq_true rfl), (Nat.le_of_ble_eq_true rfl)⟩) 0 rfl rfl rfl hl.1 rfl (Nat.le_of_ble_eq_true rfl) dX11_clock_7 ⟨Nat.zero_le _, Nat.zero_le _⟩ (fun r7 u H locs hp ho => ?_)
  try dsimp only at hp
  replace ho : oW D (mT c) A s.heap s (wM q c 0 mTn mCk mRw mSt mTr mFM mFS mTpN mLw mAt mTwN mBE mBEn mSun mCkT mCkD mCkK mCkA mRow mStT mRun mUp mSta mSty mDly mTri mFnd mTap mLwT mLwD mLwO mLwM mTwT mSetA mDri mOrd mBst) H locs := ho
  refine lv_if_eq (tgt := 45) hx hb dX11_clock_10 (by decide) (fun c_10 => ?_) (fun c_10 => ?_)
  · replace hp := hp.1 c_10
    refine lv_iconst (v := 0) hx hb dX11_clock_45 (by decide) ?_
    exact hJ46 v1 v2 v3 v4 0 mCk mCkT mCkD mCkK mCkA 0 hp _ _ _ ho (lv_sub hl [0, 1, 2, 3, 4] rfl)
  · replace hp := hp.2 c_10
    refine lv_iload_n hx hb dX11_clock_13 rfl (lv_at hl 2 rfl) ?_
    refine o_callSi (rest := []) ⟨hx, hb, hml, hown, hts⟩ ho (c_M_isDay l D (mT c) (wM q c 0 mTn mCk mRw mSt mTr mFM mFS mTpN mLw mAt mTwN mBE mBEn mSun mCkT mCkD mCkK mCkA mRow mStT mRun mUp mSta mSty mDly mTri mFnd mTap mLwT mLwD mLwO mLwM mTwT mSetA mDri mOrd mBst) v2 _ hp) (va_cwS 1 hts gX11_clock_X11_isDay rfl rfl rfl (by decide +kernel) ⟨(Nat.le_of_ble_eq_true rfl), (Nat.le_of_ble_eq_true rfl)⟩) rfl hl.1 rfl (Nat.le_of_ble_eq_true rfl) dX11_clock_14 ⟨Nat.zero_le _, Nat.zero_le _⟩ (fun r14 u H locs hp ho => ?_)
    try dsimp only at hp
    replace ho : oW D (mT c) A s.heap s (wM q c 0 mTn mCk mRw mSt mTr mFM mFS mTpN mLw mAt mTwN mBE mBEn mSun mCkT mCkD mCkK mCkA mRow mStT mRun mUp mSta mSty mDly mTri mFnd mTap mLwT mLwD mLwO mLwM mTwT mSetA mDri mOrd mBst) H locs := ho
    refine lv_if_eq (tgt := 45) hx hb dX11_clock_17 (by decide) (fun c_17 => ?_) (fun c_17 => ?_)
    · replace hp := hp.1 c_17
      refine lv_iconst (v := 0) hx hb dX11_clock_45 (by decide) ?_
      exact hJ46 v1 v2 v3 v4 0 mCk mCkT mCkD mCkK mCkA 0 hp _ _ _ ho (lv_sub hl [0, 1, 2, 3, 4] rfl)
    · replace hp := hp.2 c_17
      refine lv_iload_n hx hb dX11_clock_20 rfl (lv_at hl 3 rfl) ?_
      refine lv_i2l (v := ((v3 : Int32).toInt64)) hx hb dX11_clock_21 rfl ?_
      refine lv_lconst (v := 0) hx hb dX11_clock_22 (by decide) ?_
      refine lv_ldc2 (v := 2) hx hb hown hk109 dX11_clock_23 ?_
      refine o_callSi (rest := []) ⟨hx, hb, hml, hown, hts⟩ ho (c_M_in l D (mT c) (wM q c 0 mTn mCk mRw mSt mTr mFM mFS mTpN mLw mAt mTwN mBE mBEn mSun mCkT mCkD mCkK mCkA mRow mStT mRun mUp mSta mSty mDly mTri mFnd mTap mLwT mLwD mLwO mLwM mTwT mSetA mDri mOrd mBst) ((v3 : Int32).toInt64) 0 2 _ hp) (va_cwS 3 hts gX11_clock_X11_in rfl rfl rfl (by decide +kernel) ⟨(Nat.le_of_ble_eq_true rfl), (Nat.le_of_ble_eq_true rfl)⟩) rfl hl.1 rfl (Nat.le_of_ble_eq_true rfl) dX11_clock_26 ⟨Nat.zero_le _, Nat.zero_le _⟩ (fun r26 u H locs hp ho => ?_)
      try dsimp only at hp
      replace ho : oW D (mT c) A s.heap s (wM q c 0 mTn mCk mRw mSt mTr mFM mFS mTpN mLw mAt mTwN mBE mBEn mSun mCkT mCkD mCkK mCkA mRow mStT mRun mUp mSta mSty mDly mTri mFnd mTap mLwT mLwD mLwO mLwM mTwT mSetA mDri mOrd mBst) H locs := ho
      refine lv_if_eq (tgt := 45) hx hb dX11_clock_29 (by decide) (fun c_29 => ?_) (fun c_29 => ?_)
      · replace hp := hp.1 c_29
        refine lv_iconst (v := 0) hx hb dX11_clock_45 (by decide) ?_
        exact hJ46 v1 v2 v3 v4 0 mCk mCkT mCkD mCkK mCkA 0 hp _ _ _ ho (lv_sub hl [0, 1, 2, 3, 4] rfl)
      · replace hp := hp.2 c_29
        refine lv_aload_n hx hb dX11_clock_32 rfl (lv_at hl 0 rfl) ?_
        refine o_get (ci := 11) (T := TX11) hx hb hts hinX11 hown ho 0 rfl rfl 3 (by decide) hf111 rfl dX11_clock_33 ?_
        refine lv_bipush (v := 60) hx hb dX11_clock_36 (by decide) ?_
        refine lv_icmp_ge (tgt := 45) hx hb dX11_clock_38 (by decide) (fun c_38 => ?_) (fun c_38 => ?_)
        · replace hp := hp.1 c_38
          refine lv_iconst (v := 0) hx hb dX11_clock_45 (by decide) ?_
          exact hJ46 v1 v2 v3 v4 0 mCk mCkT mCkD mCkK mCkA 0 hp _ _ _ ho (lv_sub hl [0, 1, 2, 3, 4] rfl)
        · replace hp := hp.2 c_38
          refine lv_iconst (v := 1) hx hb dX11_clock_41 (by decide) ?_
          refine lv_goto (tgt := 46) hx hb dX11_clock_42 (by decide) ?_
          exact hJ46 v1 v2 v3 v4 0 mCk mCkT mCkD mCkK mCkA 1 hp _ _ _ ho (lv_sub hl [0, 1, 2, 3, 4] rfl)
set_option maxHeartbeats 4000000 in
set_option maxRecDepth 100000 in
theorem c_M_untell (l : Launch) (D : va_G) (q : Nat → Nat) (c : Nat → ClassId) (mThr : Int32) (mTn : Int32) (mCk : Int32) (mRw : Int32) (mSt : Int32) (mTr : Int32) (mFM : Int32) (mFS : Int32) (mTpN : Int32) (mLw : Int32) (mAt : Int32) (mTwN : Int32) (mBE : Int32) (mBEn : Int32) (mSun : Nat → Int32) (mCkT : Nat → Int32) (mCkD : Nat → Int32) (mCkK : Nat → Int32) (mCkA : Nat → Int32) (mRow : Nat → Int32) (mStT : Nat → Int32) (mRun : Nat → Int32) (mUp : Nat → Int32) (mSta : Nat → Int32) (mSty : Nat → Int32) (mDly : Nat → Int32) (mTri : Nat → Int32) (mFnd : Nat → Int32) (mTap : Nat → Int32) (mLwT : Nat → Int32) (mLwD : Nat → Int32) (mLwO : Nat → Int32) (mLwM : Nat → Int32) (mTwT : Nat → Int32) (mSetA : Nat → Int32) (mDri : Nat → Int32) (mOrd : Nat → Int32) (mBst : Nat → Int32)  (Q : Int32 → Int32 → Int32 → Prop) (hp : p_M_untell mThr mCk Q) : oKi l yX11_untell wsX11_untell { frames := 0, cells := 0, slots := 0, locals := 0 } [.ref (q 0)] D (mT c) (wM q c mThr mTn mCk mRw mSt mTr mFM mFS mTpN mLw mAt mTwN mBE mBEn mSun mCkT mCkD mCkK mCkA mRow mStT mRun mUp mSta mSty mDly mTri mFnd mTap mLwT mLwD mLwO mLwM mTwT mSetA mDri mOrd mBst) (Int32 × Int32) (fun r (u : Int32 × Int32) => Q r u.1 u.2) (fun u => wM q c u.1 mTn u.2 mRw mSt mTr mFM mFS mTpN mLw mAt mTwN mBE mBEn mSun mCkT mCkD mCkK mCkA mRow mStT mRun mUp mSta mSty mDly mTri mFnd mTap mLwT mLwD mLwO mLwM mTwT mSetA mDri mOrd mBst) := by
  refine oKi.ofW (own := RX11) (cc := cX11_untell) (maxL := 1) (plainFor_of_name (by decide +kernel)) rfl rfl (Nat.le_of_ble_eq_true rfl) (fun p e s m args below meth cd A ls Z hx hb hml hown hts hret ho hl => ?_)
  replace hl : lv_has ls 1 [(0, .ref (q 0))] := hl
  have hinX11 : ∀ w ∈ u_ws RX11 TX11 38, w ∈ wsX11_untell := by decide +kernel
  have hf83 := hts (.fieldLink RX11 83 "OneTimeModel" "thrown" "I") (by decide +kernel)
  have hf111 := hts (.fieldLink RX11 111 "OneTimeModel" "clocks" "I") (by decide +kernel)
  unfold p_M_untell at hp
  refine lv_aload_n hx hb dX11_untell_0 rfl (lv_at hl 0 rfl) ?_
  refine lv_iconst (v := 0) hx hb dX11_untell_1 (by decide) ?_
  refine o_put (ci := 11) (T := TX11) hx hb hts hinX11 tyX11_ok nmX11 hown ho 0 rfl rfl 0 (by decide) hf83 rfl (tyX11_ok 0 (by decide)) (Nat.le_of_ble_eq_true rfl) dX11_untell_2 (fun H locs ho => ?_)
  replace ho : oW D (mT c) A s.heap s (wM q c 0 mTn mCk mRw mSt mTr mFM mFS mTpN mLw mAt mTwN mBE mBEn mSun mCkT mCkD mCkK mCkA mRow mStT mRun mUp mSta mSty mDly mTri mFnd mTap mLwT mLwD mLwO mLwM mTwT mSetA mDri mOrd mBst) H locs := ho
  refine lv_aload_n hx hb dX11_untell_5 rfl (lv_at hl 0 rfl) ?_
  refine o_get (ci := 11) (T := TX11) hx hb hts hinX11 hown ho 0 rfl rfl 3 (by decide) hf111 rfl dX11_untell_6 ?_
  refine lv_if_ne (tgt := 14) hx hb dX11_untell_9 (by decide) (fun c_9 => ?_) (fun c_9 => ?_)
  · replace hp := hp.2 c_9
    refine lv_aload_n hx hb dX11_untell_14 rfl (lv_at hl 0 rfl) ?_
    refine lv_dup hx hb dX11_untell_15 rfl ?_
    refine o_get (ci := 11) (T := TX11) hx hb hts hinX11 hown ho 0 rfl rfl 3 (by decide) hf111 rfl dX11_untell_16 ?_
    refine lv_iconst (v := 1) hx hb dX11_untell_19 (by decide) ?_
    refine lv_isub hx hb dX11_untell_20 ?_
    refine lv_topi (fun x21 e_x21 => ?_)
    replace hp := hp x21 e_x21
    refine o_put (ci := 11) (T := TX11) hx hb hts hinX11 tyX11_ok nmX11 hown ho 0 rfl rfl 3 (by decide) hf111 rfl (tyX11_ok 3 (by decide)) (Nat.le_of_ble_eq_true rfl) dX11_untell_21 (fun H locs ho => ?_)
    replace ho : oW D (mT c) A s.heap s (wM q c 0 mTn x21 mRw mSt mTr mFM mFS mTpN mLw mAt mTwN mBE mBEn mSun mCkT mCkD mCkK mCkA mRow mStT mRun mUp mSta mSty mDly mTri mFnd mTap mLwT mLwD mLwO mLwM mTwT mSetA mDri mOrd mBst) H locs := ho
    refine lv_aload_n hx hb dX11_untell_24 rfl (lv_at hl 0 rfl) ?_
    refine o_get (ci := 11) (T := TX11) hx hb hts hinX11 hown ho 0 rfl rfl 3 (by decide) hf111 rfl dX11_untell_25 ?_
    exact hret x21 (0, x21) _ _ _ _ dX11_untell_28 ho hp
  · replace hp := hp.1 c_9
    refine lv_iconst (v := (-1)) hx hb dX11_untell_12 (by decide) ?_
    exact hret (-1) (0, mCk) _ _ _ _ dX11_untell_13 ho hp
set_option maxHeartbeats 4000000 in
set_option maxRecDepth 100000 in
theorem c_M_ahead (l : Launch) (D : va_G) (q : Nat → Nat) (c : Nat → ClassId) (mThr : Int32) (mTn : Int32) (mCk : Int32) (mRw : Int32) (mSt : Int32) (mTr : Int32) (mFM : Int32) (mFS : Int32) (mTpN : Int32) (mLw : Int32) (mAt : Int32) (mTwN : Int32) (mBE : Int32) (mBEn : Int32) (mSun : Nat → Int32) (mCkT : Nat → Int32) (mCkD : Nat → Int32) (mCkK : Nat → Int32) (mCkA : Nat → Int32) (mRow : Nat → Int32) (mStT : Nat → Int32) (mRun : Nat → Int32) (mUp : Nat → Int32) (mSta : Nat → Int32) (mSty : Nat → Int32) (mDly : Nat → Int32) (mTri : Nat → Int32) (mFnd : Nat → Int32) (mTap : Nat → Int32) (mLwT : Nat → Int32) (mLwD : Nat → Int32) (mLwO : Nat → Int32) (mLwM : Nat → Int32) (mTwT : Nat → Int32) (mSetA : Nat → Int32) (mDri : Nat → Int32) (mOrd : Nat → Int32) (mBst : Nat → Int32) (v1 : Int32) (v2 : Int32) (Q : Int32 → Prop) (hp : p_M_ahead mCk mSun mCkT mCkD mCkK mCkA v1 v2 Q) : oKi l yX11_ahead wsX11_ahead { frames := 0, cells := 0, slots := 0, locals := 0 } [.ref (q 0), .int v1, .int v2] D (mT c) (wM q c mThr mTn mCk mRw mSt mTr mFM mFS mTpN mLw mAt mTwN mBE mBEn mSun mCkT mCkD mCkK mCkA mRow mStT mRun mUp mSta mSty mDly mTri mFnd mTap mLwT mLwD mLwO mLwM mTwT mSetA mDri mOrd mBst) (Unit) (fun r (_ : Unit) => Q r) (fun _ => wM q c mThr mTn mCk mRw mSt mTr mFM mFS mTpN mLw mAt mTwN mBE mBEn mSun mCkT mCkD mCkK mCkA mRow mStT mRun mUp mSta mSty mDly mTri mFnd mTap mLwT mLwD mLwO mLwM mTwT mSetA mDri mOrd mBst) := by
  refine oKi.ofW (own := RX11) (cc := cX11_ahead) (maxL := 5) (plainFor_of_name (by decide +kernel)) rfl rfl (Nat.le_of_ble_eq_true rfl) (fun p e s m args below meth cd A ls Z hx hb hml hown hts hret ho hl => ?_)
  replace hl : lv_has ls 5 [(0, .ref (q 0)), (1, .int v1), (2, .int v2)] := hl
  have hinX11 : ∀ w ∈ u_ws RX11 TX11 38, w ∈ wsX11_ahead := by decide +kernel
  have hf9 := hts (.fieldLink RX11 9 "OneTimeModel" "sun" "[I") (by decide +kernel)
  have hf13 := hts (.fieldLink RX11 13 "OneTimeModel" "clockTown" "[I") (by decide +kernel)
  have hf16 := hts (.fieldLink RX11 16 "OneTimeModel" "clockDay" "[I") (by decide +kernel)
  have hf19 := hts (.fieldLink RX11 19 "OneTimeModel" "clockKind" "[I") (by decide +kernel)
  have hf22 := hts (.fieldLink RX11 22 "OneTimeModel" "clockArg" "[I") (by decide +kernel)
  have hf111 := hts (.fieldLink RX11 111 "OneTimeModel" "clocks" "I") (by decide +kernel)
  unfold p_M_ahead at hp
  have hL10 : ∀ (v1 : Int32) (v2 : Int32) (v3 : Int32) (v4 : Int32), Lp2 (p_M_ahead_L10 mCk mSun mCkT mCkD mCkK mCkA v1 v2 Q) v3 v4 → ∀ (H : Heap) (locs : List Loc) (ls : Array Slot), oW D (mT c) A s.heap s (wM q c mThr mTn mCk mRw mSt mTr mFM mFS mTpN mLw mAt mTwN mBE mBEn mSun mCkT mCkD mCkK mCkA mRow mStT mRun mUp mSta mSty mDly mTri mFnd mTap mLwT mLwD mLwO mLwM mTwT mSetA mDri mOrd mBst) H locs → lv_has ls 5 [(0, .ref (q 0)), (1, .int v1), (2, .int v2), (3, .int v3), (4, .int v4)] → W p l e { frames := 0, cells := 0, slots := 0, locals := 0 } s m args below meth cd H locs 0 0 Z (F0 m 10 ls []) := by
    intro v1 v2
    refine Lp2.ind (fun rec hrec v3 v4 hp H locs ls ho hl => ?_)
    unfold p_M_ahead_L10 at hp
    refine lv_iload hx hb dX11_ahead_10 (lv_at hl 4 rfl) ?_
    refine lv_if_lt (tgt := 66) hx hb dX11_ahead_12 (by decide) (fun c_12 => ?_) (fun c_12 => ?_)
    · replace hp := hp.1 c_12
      refine lv_iload_n hx hb dX11_ahead_66 rfl (lv_at hl 3 rfl) ?_
      refine lv_if_lt (tgt := 79) hx hb dX11_ahead_67 (by decide) (fun c_67 => ?_) (fun c_67 => ?_)
      · replace hp := hp.1 c_67
        refine lv_aload_n hx hb dX11_ahead_79 rfl (lv_at hl 0 rfl) ?_
        refine o_get (ci := 11) (T := TX11) hx hb hts hinX11 hown ho 0 rfl rfl 2 (by decide) hf9 rfl dX11_ahead_80 ?_
        refine lv_iload_n hx hb dX11_ahead_83 rfl (lv_at hl 1 rfl) ?_
        refine o_ild hx hb ho 1 0 rfl rfl hp.1 dX11_ahead_84 ?_
        replace hp := hp.2
        exact hret (mSun v1.toNatClampNeg) () _ _ _ _ dX11_ahead_85 ho hp
      · replace hp := hp.2 c_67
        refine lv_aload_n hx hb dX11_ahead_70 rfl (lv_at hl 0 rfl) ?_
        refine o_get (ci := 11) (T := TX11) hx hb hts hinX11 hown ho 0 rfl rfl 6 (by decide) hf19 rfl dX11_ahead_71 ?_
        refine lv_iload_n hx hb dX11_ahead_74 rfl (lv_at hl 3 rfl) ?_
        refine o_ild hx hb ho 4 3 rfl rfl hp.1 dX11_ahead_75 ?_
        replace hp := hp.2
        refine lv_if_ne (tgt := 86) hx hb dX11_ahead_76 (by decide) (fun c_76 => ?_) (fun c_76 => ?_)
        · replace hp := hp.2 c_76
          refine lv_aload_n hx hb dX11_ahead_86 rfl (lv_at hl 0 rfl) ?_
          refine o_get (ci := 11) (T := TX11) hx hb hts hinX11 hown ho 0 rfl rfl 6 (by decide) hf19 rfl dX11_ahead_87 ?_
          refine lv_iload_n hx hb dX11_ahead_90 rfl (lv_at hl 3 rfl) ?_
          refine o_ild hx hb ho 4 3 rfl rfl hp.1 dX11_ahead_91 ?_
          replace hp := hp.2
          refine lv_iconst (v := 1) hx hb dX11_ahead_92 (by decide) ?_
          refine lv_icmp_ne (tgt := 108) hx hb dX11_ahead_93 (by decide) (fun c_93 => ?_) (fun c_93 => ?_)
          · replace hp := hp.2 c_93
            refine lv_aload_n hx hb dX11_ahead_108 rfl (lv_at hl 0 rfl) ?_
            refine o_get (ci := 11) (T := TX11) hx hb hts hinX11 hown ho 0 rfl rfl 2 (by decide) hf9 rfl dX11_ahead_109 ?_
            refine lv_aload_n hx hb dX11_ahead_112 rfl (lv_at hl 0 rfl) ?_
            refine o_get (ci := 11) (T := TX11) hx hb hts hinX11 hown ho 0 rfl rfl 7 (by decide) hf22 rfl dX11_ahead_113 ?_
            refine lv_iload_n hx hb dX11_ahead_116 rfl (lv_at hl 3 rfl) ?_
            refine o_ild hx hb ho 5 4 rfl rfl hp.1 dX11_ahead_117 ?_
            replace hp := hp.2
            refine o_ild hx hb ho 1 0 rfl rfl hp.1 dX11_ahead_118 ?_
            replace hp := hp.2
            exact hret (mSun (mCkA v3.toNatClampNeg).toNatClampNeg) () _ _ _ _ dX11_ahead_119 ho hp
          · replace hp := hp.1 c_93
            refine lv_bipush (v := 60) hx hb dX11_ahead_96 (by decide) ?_
            refine lv_aload_n hx hb dX11_ahead_98 rfl (lv_at hl 0 rfl) ?_
            refine o_get (ci := 11) (T := TX11) hx hb hts hinX11 hown ho 0 rfl rfl 7 (by decide) hf22 rfl dX11_ahead_99 ?_
            refine lv_iload_n hx hb dX11_ahead_102 rfl (lv_at hl 3 rfl) ?_
            refine o_ild hx hb ho 5 4 rfl rfl hp.1 dX11_ahead_103 ?_
            replace hp := hp.2
            refine lv_imul hx hb dX11_ahead_104 ?_
            refine lv_goto (tgt := 119) hx hb dX11_ahead_105 (by decide) ?_
            exact hret (60 * (mCkA v3.toNatClampNeg)) () _ _ _ _ dX11_ahead_119 ho hp
        · replace hp := hp.1 c_76
          refine lv_aload_n hx hb dX11_ahead_79 rfl (lv_at hl 0 rfl) ?_
          refine o_get (ci := 11) (T := TX11) hx hb hts hinX11 hown ho 0 rfl rfl 2 (by decide) hf9 rfl dX11_ahead_80 ?_
          refine lv_iload_n hx hb dX11_ahead_83 rfl (lv_at hl 1 rfl) ?_
          refine o_ild hx hb ho 1 0 rfl rfl hp.1 dX11_ahead_84 ?_
          replace hp := hp.2
          exact hret (mSun v1.toNatClampNeg) () _ _ _ _ dX11_ahead_85 ho hp
    · replace hp := hp.2 c_12
      refine lv_aload_n hx hb dX11_ahead_15 rfl (lv_at hl 0 rfl) ?_
      refine o_get (ci := 11) (T := TX11) hx hb hts hinX11 hown ho 0 rfl rfl 4 (by decide) hf13 rfl dX11_ahead_16 ?_
      refine lv_iload hx hb dX11_ahead_19 (lv_at hl 4 rfl) ?_
      refine o_ild hx hb ho 2 1 rfl rfl hp.1 dX11_ahead_21 ?_
      replace hp := hp.2
      refine lv_iload_n hx hb dX11_ahead_22 rfl (lv_at hl 1 rfl) ?_
      refine lv_icmp_ne (tgt := 60) hx hb dX11_ahead_23 (by decide) (fun c_23 => ?_) (fun c_23 => ?_)
      · replace hp := hp.2 c_23
        obtain ⟨x60, e_x60⟩ : ∃ y : Int32, y = v4 + (-1) := ⟨_, rfl⟩
        replace hp := hp x60 e_x60
        refine lv_iinc (v := x60) (lv' := [(4, .int x60), (0, .ref (q 0)), (1, .int v1), (2, .int v2), (3, .int v3)]) hx hb dX11_ahead_60 hl (k := 4) rfl (by rw [e_x60]; rfl) (by decide) rfl (fun ls hl => ?_)
        refine lv_goto (tgt := 10) hx hb dX11_ahead_63 (by decide) ?_
        exact hrec v3 x60 hp _ _ _ ho (lv_sub hl [1, 2, 3, 4, 0] rfl)
      · replace hp := hp.1 c_23
        refine lv_aload_n hx hb dX11_ahead_26 rfl (lv_at hl 0 rfl) ?_
        refine o_get (ci := 11) (T := TX11) hx hb hts hinX11 hown ho 0 rfl rfl 5 (by decide) hf16 rfl dX11_ahead_27 ?_
        refine lv_iload hx hb dX11_ahead_30 (lv_at hl 4 rfl) ?_
        refine o_ild hx hb ho 3 2 rfl rfl hp.1 dX11_ahead_32 ?_
        replace hp := hp.2
        refine lv_iload_n hx hb dX11_ahead_33 rfl (lv_at hl 2 rfl) ?_
        refine lv_icmp_gt (tgt := 60) hx hb dX11_ahead_34 (by decide) (fun c_34 => ?_) (fun c_34 => ?_)
        · replace hp := hp.1 c_34
          obtain ⟨x60, e_x60⟩ : ∃ y : Int32, y = v4 + (-1) := ⟨_, rfl⟩
          replace hp := hp x60 e_x60
          refine lv_iinc (v := x60) (lv' := [(4, .int x60), (0, .ref (q 0)), (1, .int v1), (2, .int v2), (3, .int v3)]) hx hb dX11_ahead_60 hl (k := 4) rfl (by rw [e_x60]; rfl) (by decide) rfl (fun ls hl => ?_)
          refine lv_goto (tgt := 10) hx hb dX11_ahead_63 (by decide) ?_
          exact hrec v3 x60 hp _ _ _ ho (lv_sub hl [1, 2, 3, 4, 0] rfl)
        · replace hp := hp.2 c_34
          refine lv_iload_n hx hb dX11_ahead_37 rfl (lv_at hl 3 rfl) ?_
          refine lv_if_lt (tgt := 57) hx hb dX11_ahead_38 (by decide) (fun c_38 => ?_) (fun c_38 => ?_)
          · replace hp := hp.1 c_38
            refine lv_iload hx hb dX11_ahead_57 (lv_at hl 4 rfl) ?_
            refine lv_istore_n (lv' := [(3, .int v4), (0, .ref (q 0)), (1, .int v1), (2, .int v2), (4, .int v4)]) hx hb dX11_ahead_59 rfl hl (by decide) rfl (fun ls hl => ?_)
            obtain ⟨x60, e_x60⟩ : ∃ y : Int32, y = v4 + (-1) := ⟨_, rfl⟩
            replace hp := hp x60 e_x60
            refine lv_iinc (v := x60) (lv' := [(4, .int x60), (3, .int v4), (0, .ref (q 0)), (1, .int v1), (2, .int v2)]) hx hb dX11_ahead_60 hl (k := 4) rfl (by rw [e_x60]; rfl) (by decide) rfl (fun ls hl => ?_)
            refine lv_goto (tgt := 10) hx hb dX11_ahead_63 (by decide) ?_
            exact hrec v4 x60 hp _ _ _ ho (lv_sub hl [2, 3, 4, 1, 0] rfl)
          · replace hp := hp.2 c_38
            refine lv_aload_n hx hb dX11_ahead_41 rfl (lv_at hl 0 rfl) ?_
            refine o_get (ci := 11) (T := TX11) hx hb hts hinX11 hown ho 0 rfl rfl 5 (by decide) hf16 rfl dX11_ahead_42 ?_
            refine lv_iload hx hb dX11_ahead_45 (lv_at hl 4 rfl) ?_
            refine o_ild hx hb ho 3 2 rfl rfl hp.1 dX11_ahead_47 ?_
            replace hp := hp.2
            refine lv_aload_n hx hb dX11_ahead_48 rfl (lv_at hl 0 rfl) ?_
            refine o_get (ci := 11) (T := TX11) hx hb hts hinX11 hown ho 0 rfl rfl 5 (by decide) hf16 rfl dX11_ahead_49 ?_
            refine lv_iload_n hx hb dX11_ahead_52 rfl (lv_at hl 3 rfl) ?_
            refine o_ild hx hb ho 3 2 rfl rfl hp.1 dX11_ahead_53 ?_
            replace hp := hp.2
            refine lv_icmp_le (tgt := 60) hx hb dX11_ahead_54 (by decide) (fun c_54 => ?_) (fun c_54 => ?_)
            · replace hp := hp.1 c_54
              obtain ⟨x60, e_x60⟩ : ∃ y : Int32, y = v4 + (-1) := ⟨_, rfl⟩
              replace hp := hp x60 e_x60
              refine lv_iinc (v := x60) (lv' := [(4, .int x60), (0, .ref (q 0)), (1, .int v1), (2, .int v2), (3, .int v3)]) hx hb dX11_ahead_60 hl (k := 4) rfl (by rw [e_x60]; rfl) (by decide) rfl (fun ls hl => ?_)
              refine lv_goto (tgt := 10) hx hb dX11_ahead_63 (by decide) ?_
              exact hrec v3 x60 hp _ _ _ ho (lv_sub hl [1, 2, 3, 4, 0] rfl)
            · replace hp := hp.2 c_54
              refine lv_iload hx hb dX11_ahead_57 (lv_at hl 4 rfl) ?_
              refine lv_istore_n (lv' := [(3, .int v4), (0, .ref (q 0)), (1, .int v1), (2, .int v2), (4, .int v4)]) hx hb dX11_ahead_59 rfl hl (by decide) rfl (fun ls hl => ?_)
              obtain ⟨x60, e_x60⟩ : ∃ y : Int32, y = v4 + (-1) := ⟨_, rfl⟩
              replace hp := hp x60 e_x60
              refine lv_iinc (v := x60) (lv' := [(4, .int x60), (3, .int v4), (0, .ref (q 0)), (1, .int v1), (2, .int v2)]) hx hb dX11_ahead_60 hl (k := 4) rfl (by rw [e_x60]; rfl) (by decide) rfl (fun ls hl => ?_)
              refine lv_goto (tgt := 10) hx hb dX11_ahead_63 (by decide) ?_
              exact hrec v4 x60 hp _ _ _ ho (lv_sub hl [2, 3, 4, 1, 0] rfl)
  refine lv_iconst (v := (-1)) hx hb dX11_ahead_0 (by decide) ?_
  refine lv_istore_n (lv' := [(3, .int (-1)), (0, .ref (q 0)), (1, .int v1), (2, .int v2)]) hx hb dX11_ahead_1 rfl hl (by decide) rfl (fun ls hl => ?_)
  refine lv_aload_n hx hb dX11_ahead_2 rfl (lv_at hl 1 rfl) ?_
  refine o_get (ci := 11) (T := TX11) hx hb hts hinX11 hown ho 0 rfl rfl 3 (by decide) hf111 rfl dX11_ahead_3 ?_
  refine lv_iconst (v := 1) hx hb dX11_ahead_6 (by decide) ?_
  refine lv_isub hx hb dX11_ahead_7 ?_
  refine lv_topi (fun x8 e_x8 => ?_)
  replace hp := hp x8 e_x8
  refine lv_istore (lv' := [(4, .int x8), (3, .int (-1)), (0, .ref (q 0)), (1, .int v1), (2, .int v2)]) hx hb dX11_ahead_8 hl (by decide) rfl (fun ls hl => ?_)
  exact hL10 v1 v2 (-1) x8 hp _ _ _ ho (lv_sub hl [2, 3, 4, 1, 0] rfl)
set_option maxHeartbeats 4000000 in
set_option maxRecDepth 100000 in
theorem c_M_count (l : Launch) (D : va_G) (q : Nat → Nat) (c : Nat → ClassId) (mThr : Int32) (mTn : Int32) (mCk : Int32) (mRw : Int32) (mSt : Int32) (mTr : Int32) (mFM : Int32) (mFS : Int32) (mTpN : Int32) (mLw : Int32) (mAt : Int32) (mTwN : Int32) (mBE : Int32) (mBEn : Int32) (mSun : Nat → Int32) (mCkT : Nat → Int32) (mCkD : Nat → Int32) (mCkK : Nat → Int32) (mCkA : Nat → Int32) (mRow : Nat → Int32) (mStT : Nat → Int32) (mRun : Nat → Int32) (mUp : Nat → Int32) (mSta : Nat → Int32) (mSty : Nat → Int32) (mDly : Nat → Int32) (mTri : Nat → Int32) (mFnd : Nat → Int32) (mTap : Nat → Int32) (mLwT : Nat → Int32) (mLwD : Nat → Int32) (mLwO : Nat → Int32) (mLwM : Nat → Int32) (mTwT : Nat → Int32) (mSetA : Nat → Int32) (mDri : Nat → Int32) (mOrd : Nat → Int32) (mBst : Nat → Int32) (v1 : Int32) (Q : Int32 → Int32 → Prop) (hp : p_M_count mTn mCk mRw mSt mTr mTpN mLw mTwN mThr v1 Q) : oKi l yX11_count wsX11_count { frames := 0, cells := 0, slots := 0, locals := 0 } [.ref (q 0), .int v1] D (mT c) (wM q c mThr mTn mCk mRw mSt mTr mFM mFS mTpN mLw mAt mTwN mBE mBEn mSun mCkT mCkD mCkK mCkA mRow mStT mRun mUp mSta mSty mDly mTri mFnd mTap mLwT mLwD mLwO mLwM mTwT mSetA mDri mOrd mBst) (Int32) (fun r (u : Int32) => Q r u) (fun u => wM q c u mTn mCk mRw mSt mTr mFM mFS mTpN mLw mAt mTwN mBE mBEn mSun mCkT mCkD mCkK mCkA mRow mStT mRun mUp mSta mSty mDly mTri mFnd mTap mLwT mLwD mLwO mLwM mTwT mSetA mDri mOrd mBst) := by
  refine oKi.ofW (own := RX11) (cc := cX11_count) (maxL := 2) (plainFor_of_name (by decide +kernel)) rfl rfl (Nat.le_of_ble_eq_true rfl) (fun p e s m args below meth cd A ls Z hx hb hml hown hts hret ho hl => ?_)
  replace hl : lv_has ls 2 [(0, .ref (q 0)), (1, .int v1)] := hl
  have hinX11 : ∀ w ∈ u_ws RX11 TX11 38, w ∈ wsX11_count := by decide +kernel
  have hf83 := hts (.fieldLink RX11 83 "OneTimeModel" "thrown" "I") (by decide +kernel)
  have hf87 := hts (.fieldLink RX11 87 "OneTimeModel" "towns" "I") (by decide +kernel)
  have hf111 := hts (.fieldLink RX11 111 "OneTimeModel" "clocks" "I") (by decide +kernel)
  have hf118 := hts (.fieldLink RX11 118 "OneTimeModel" "stations" "I") (by decide +kernel)
  have hf121 := hts (.fieldLink RX11 121 "OneTimeModel" "trains" "I") (by decide +kernel)
  have hf124 := hts (.fieldLink RX11 124 "OneTimeModel" "laws" "I") (by decide +kernel)
  have hf127 := hts (.fieldLink RX11 127 "OneTimeModel" "towers" "I") (by decide +kernel)
  have hf130 := hts (.fieldLink RX11 130 "OneTimeModel" "rows" "I") (by decide +kernel)
  have hf133 := hts (.fieldLink RX11 133 "OneTimeModel" "taped" "I") (by decide +kernel)
  unfold p_M_count at hp
  refine lv_aload_n hx hb dX11_count_0 rfl (lv_at hl 0 rfl) ?_
  refine lv_iconst (v := 0) hx hb dX11_count_1 (by decide) ?_
  refine o_put (ci := 11) (T := TX11) hx hb hts hinX11 tyX11_ok nmX11 hown ho 0 rfl rfl 0 (by decide) hf83 rfl (tyX11_ok 0 (by decide)) (Nat.le_of_ble_eq_true rfl) dX11_count_2 (fun H locs ho => ?_)
  replace ho : oW D (mT c) A s.heap s (wM q c 0 mTn mCk mRw mSt mTr mFM mFS mTpN mLw mAt mTwN mBE mBEn mSun mCkT mCkD mCkK mCkA mRow mStT mRun mUp mSta mSty mDly mTri mFnd mTap mLwT mLwD mLwO mLwM mTwT mSetA mDri mOrd mBst) H locs := ho
  refine lv_iload_n hx hb dX11_count_5 rfl (lv_at hl 1 rfl) ?_
  by_cases c_6_0 : v1 = 0
  · replace hp := hp.1 c_6_0
    refine lv_tableIn (tgt := 52) (off := 46) hx hb dX11_count_6 (by rw [c_6_0]; decide) (by rw [c_6_0]; decide) (by rw [c_6_0]; rfl) (by decide) ?_
    refine lv_aload_n hx hb dX11_count_52 rfl (lv_at hl 0 rfl) ?_
    refine o_get (ci := 11) (T := TX11) hx hb hts hinX11 hown ho 0 rfl rfl 1 (by decide) hf87 rfl dX11_count_53 ?_
    exact hret mTn 0 _ _ _ _ dX11_count_56 ho hp
  replace hp := hp.2 c_6_0
  by_cases c_6_1 : v1 = 1
  · replace hp := hp.1 c_6_1
    refine lv_tableIn (tgt := 57) (off := 51) hx hb dX11_count_6 (by rw [c_6_1]; decide) (by rw [c_6_1]; decide) (by rw [c_6_1]; rfl) (by decide) ?_
    refine lv_aload_n hx hb dX11_count_57 rfl (lv_at hl 0 rfl) ?_
    refine o_get (ci := 11) (T := TX11) hx hb hts hinX11 hown ho 0 rfl rfl 3 (by decide) hf111 rfl dX11_count_58 ?_
    exact hret mCk 0 _ _ _ _ dX11_count_61 ho hp
  replace hp := hp.2 c_6_1
  by_cases c_6_2 : v1 = 2
  · replace hp := hp.1 c_6_2
    refine lv_tableIn (tgt := 62) (off := 56) hx hb dX11_count_6 (by rw [c_6_2]; decide) (by rw [c_6_2]; decide) (by rw [c_6_2]; rfl) (by decide) ?_
    refine lv_aload_n hx hb dX11_count_62 rfl (lv_at hl 0 rfl) ?_
    refine o_get (ci := 11) (T := TX11) hx hb hts hinX11 hown ho 0 rfl rfl 10 (by decide) hf118 rfl dX11_count_63 ?_
    exact hret mSt 0 _ _ _ _ dX11_count_66 ho hp
  replace hp := hp.2 c_6_2
  by_cases c_6_3 : v1 = 3
  · replace hp := hp.1 c_6_3
    refine lv_tableIn (tgt := 67) (off := 61) hx hb dX11_count_6 (by rw [c_6_3]; decide) (by rw [c_6_3]; decide) (by rw [c_6_3]; rfl) (by decide) ?_
    refine lv_aload_n hx hb dX11_count_67 rfl (lv_at hl 0 rfl) ?_
    refine o_get (ci := 11) (T := TX11) hx hb hts hinX11 hown ho 0 rfl rfl 13 (by decide) hf121 rfl dX11_count_68 ?_
    exact hret mTr 0 _ _ _ _ dX11_count_71 ho hp
  replace hp := hp.2 c_6_3
  by_cases c_6_4 : v1 = 4
  · replace hp := hp.1 c_6_4
    refine lv_tableIn (tgt := 72) (off := 66) hx hb dX11_count_6 (by rw [c_6_4]; decide) (by rw [c_6_4]; decide) (by rw [c_6_4]; rfl) (by decide) ?_
    refine lv_aload_n hx hb dX11_count_72 rfl (lv_at hl 0 rfl) ?_
    refine o_get (ci := 11) (T := TX11) hx hb hts hinX11 hown ho 0 rfl rfl 24 (by decide) hf124 rfl dX11_count_73 ?_
    exact hret mLw 0 _ _ _ _ dX11_count_76 ho hp
  replace hp := hp.2 c_6_4
  by_cases c_6_5 : v1 = 5
  · replace hp := hp.1 c_6_5
    refine lv_tableIn (tgt := 77) (off := 71) hx hb dX11_count_6 (by rw [c_6_5]; decide) (by rw [c_6_5]; decide) (by rw [c_6_5]; rfl) (by decide) ?_
    refine lv_aload_n hx hb dX11_count_77 rfl (lv_at hl 0 rfl) ?_
    refine o_get (ci := 11) (T := TX11) hx hb hts hinX11 hown ho 0 rfl rfl 30 (by decide) hf127 rfl dX11_count_78 ?_
    exact hret mTwN 0 _ _ _ _ dX11_count_81 ho hp
  replace hp := hp.2 c_6_5
  by_cases c_6_6 : v1 = 6
  · replace hp := hp.1 c_6_6
    refine lv_tableIn (tgt := 82) (off := 76) hx hb dX11_count_6 (by rw [c_6_6]; decide) (by rw [c_6_6]; decide) (by rw [c_6_6]; rfl) (by decide) ?_
    refine lv_aload_n hx hb dX11_count_82 rfl (lv_at hl 0 rfl) ?_
    refine o_get (ci := 11) (T := TX11) hx hb hts hinX11 hown ho 0 rfl rfl 8 (by decide) hf130 rfl dX11_count_83 ?_
    exact hret mRw 0 _ _ _ _ dX11_count_86 ho hp
  replace hp := hp.2 c_6_6
  by_cases c_6_7 : v1 = 7
  · replace hp := hp.1 c_6_7
    refine lv_tableIn (tgt := 87) (off := 81) hx hb dX11_count_6 (by rw [c_6_7]; decide) (by rw [c_6_7]; decide) (by rw [c_6_7]; rfl) (by decide) ?_
    refine lv_aload_n hx hb dX11_count_87 rfl (lv_at hl 0 rfl) ?_
    refine o_get (ci := 11) (T := TX11) hx hb hts hinX11 hown ho 0 rfl rfl 23 (by decide) hf133 rfl dX11_count_88 ?_
    exact hret mTpN 0 _ _ _ _ dX11_count_91 ho hp
  replace hp := hp.2 c_6_7
  have n_6_0 := ne_ti 0 (by decide : (0 : Int32).toInt = 0) c_6_0
  have n_6_1 := ne_ti 1 (by decide : (1 : Int32).toInt = 1) c_6_1
  have n_6_2 := ne_ti 2 (by decide : (2 : Int32).toInt = 2) c_6_2
  have n_6_3 := ne_ti 3 (by decide : (3 : Int32).toInt = 3) c_6_3
  have n_6_4 := ne_ti 4 (by decide : (4 : Int32).toInt = 4) c_6_4
  have n_6_5 := ne_ti 5 (by decide : (5 : Int32).toInt = 5) c_6_5
  have n_6_6 := ne_ti 6 (by decide : (6 : Int32).toInt = 6) c_6_6
  have n_6_7 := ne_ti 7 (by decide : (7 : Int32).toInt = 7) c_6_7
  refine lv_tableOut (tgt := 92) hx hb dX11_count_6 (by omega) (by decide) ?_
  refine lv_iconst (v := (-1)) hx hb dX11_count_92 (by decide) ?_
  exact hret (-1) 0 _ _ _ _ dX11_count_93 ho hp
set_option maxHeartbeats 4000000 in
set_option maxRecDepth 100000 in
theorem c_M_read (l : Launch) (D : va_G) (q : Nat → Nat) (c : Nat → ClassId) (mThr : Int32) (mTn : Int32) (mCk : Int32) (mRw : Int32) (mSt : Int32) (mTr : Int32) (mFM : Int32) (mFS : Int32) (mTpN : Int32) (mLw : Int32) (mAt : Int32) (mTwN : Int32) (mBE : Int32) (mBEn : Int32) (mSun : Nat → Int32) (mCkT : Nat → Int32) (mCkD : Nat → Int32) (mCkK : Nat → Int32) (mCkA : Nat → Int32) (mRow : Nat → Int32) (mStT : Nat → Int32) (mRun : Nat → Int32) (mUp : Nat → Int32) (mSta : Nat → Int32) (mSty : Nat → Int32) (mDly : Nat → Int32) (mTri : Nat → Int32) (mFnd : Nat → Int32) (mTap : Nat → Int32) (mLwT : Nat → Int32) (mLwD : Nat → Int32) (mLwO : Nat → Int32) (mLwM : Nat → Int32) (mTwT : Nat → Int32) (mSetA : Nat → Int32) (mDri : Nat → Int32) (mOrd : Nat → Int32) (mBst : Nat → Int32) (v1 : Int32) (v2 : Int32) (Q : Int32 → Int32 → Prop) (hp : p_M_read mTn mCk mSun mCkT mCkD mCkK mCkA mThr v1 v2 Q) : oKi l yX11_read wsX11_read { frames := 2, cells := 0, slots := 0, locals := 46 } [.ref (q 0), .int v1, .int v2] D (mT c) (wM q c mThr mTn mCk mRw mSt mTr mFM mFS mTpN mLw mAt mTwN mBE mBEn mSun mCkT mCkD mCkK mCkA mRow mStT mRun mUp mSta mSty mDly mTri mFnd mTap mLwT mLwD mLwO mLwM mTwT mSetA mDri mOrd mBst) (Int32) (fun r (u : Int32) => Q r u) (fun u => wM q c u mTn mCk mRw mSt mTr mFM mFS mTpN mLw mAt mTwN mBE mBEn mSun mCkT mCkD mCkK mCkA mRow mStT mRun mUp mSta mSty mDly mTri mFnd mTap mLwT mLwD mLwO mLwM mTwT mSetA mDri mOrd mBst) := by
  refine oKi.ofW (own := RX11) (cc := cX11_read) (maxL := 3) (plainFor_of_name (by decide +kernel)) rfl rfl (Nat.le_of_ble_eq_true rfl) (fun p e s m args below meth cd A ls Z hx hb hml hown hts hret ho hl => ?_)
  replace hl : lv_has ls 3 [(0, .ref (q 0)), (1, .int v1), (2, .int v2)] := hl
  have hinX11 : ∀ w ∈ u_ws RX11 TX11 38, w ∈ wsX11_read := by decide +kernel
  have hf83 := hts (.fieldLink RX11 83 "OneTimeModel" "thrown" "I") (by decide +kernel)
  unfold p_M_read at hp
  have hJ35 : ∀ (mThr : Int32), p_M_read_J35 mTn mCk mSun mCkT mCkD mCkK mCkA mThr Q → ∀ (H : Heap) (locs : List Loc) (ls : Array Slot), oW D (mT c) A s.heap s (wM q c mThr mTn mCk mRw mSt mTr mFM mFS mTpN mLw mAt mTwN mBE mBEn mSun mCkT mCkD mCkK mCkA mRow mStT mRun mUp mSta mSty mDly mTri mFnd mTap mLwT mLwD mLwO mLwM mTwT mSetA mDri mOrd mBst) H locs → lv_has ls 3 [(0, .ref (q 0))] → W p l e { frames := 2, cells := 0, slots := 0, locals := 46 } s m args below meth cd H locs 0 0 Z (F0 m 35 ls []) := by
    intro mThr
    intro hp H locs ls ho hl
    unfold p_M_read_J35 at hp
    refine lv_aload_n hx hb dX11_read_35 rfl (lv_at hl 0 rfl) ?_
    refine o_callVi (rest := []) (ci := 11) ⟨hx, hb, hml, hown, hts⟩ ho (c_M_refuse l D q c mThr mTn mCk mRw mSt mTr mFM mFS mTpN mLw mAt mTwN mBE mBEn mSun mCkT mCkD mCkK mCkA mRow mStT mRun mUp mSta mSty mDly mTri mFnd mTap mLwT mLwD mLwO mLwM mTwT mSetA mDri mOrd mBst  _ hp) (cwV 0 hts gX11_read_X11_refuse rfl rfl rfl (by decide +kernel) ⟨(Nat.le_of_ble_eq_true rfl), (Nat.le_of_ble_eq_true rfl)⟩) 0 rfl rfl rfl hl.1 rfl (Nat.le_of_ble_eq_true rfl) dX11_read_36 ⟨Nat.zero_le _, Nat.zero_le _⟩ (fun r36 u H locs hp ho => ?_)
    obtain ⟨mThr_36, rfl⟩ : ∃ z, z = u := ⟨_, rfl⟩
    try dsimp only at hp
    replace ho : oW D (mT c) A s.heap s (wM q c mThr_36 mTn mCk mRw mSt mTr mFM mFS mTpN mLw mAt mTwN mBE mBEn mSun mCkT mCkD mCkK mCkA mRow mStT mRun mUp mSta mSty mDly mTri mFnd mTap mLwT mLwD mLwO mLwM mTwT mSetA mDri mOrd mBst) H locs := ho
    exact hret r36 mThr_36 _ _ _ _ dX11_read_39 ho hp
  refine lv_aload_n hx hb dX11_read_0 rfl (lv_at hl 0 rfl) ?_
  refine lv_iconst (v := 0) hx hb dX11_read_1 (by decide) ?_
  refine o_put (ci := 11) (T := TX11) hx hb hts hinX11 tyX11_ok nmX11 hown ho 0 rfl rfl 0 (by decide) hf83 rfl (tyX11_ok 0 (by decide)) (Nat.le_of_ble_eq_true rfl) dX11_read_2 (fun H locs ho => ?_)
  replace ho : oW D (mT c) A s.heap s (wM q c 0 mTn mCk mRw mSt mTr mFM mFS mTpN mLw mAt mTwN mBE mBEn mSun mCkT mCkD mCkK mCkA mRow mStT mRun mUp mSta mSty mDly mTri mFnd mTap mLwT mLwD mLwO mLwM mTwT mSetA mDri mOrd mBst) H locs := ho
  refine lv_aload_n hx hb dX11_read_5 rfl (lv_at hl 0 rfl) ?_
  refine lv_iload_n hx hb dX11_read_6 rfl (lv_at hl 1 rfl) ?_
  refine o_callVi (rest := []) (ci := 11) ⟨hx, hb, hml, hown, hts⟩ ho (c_M_isTown l D q c 0 mTn mCk mRw mSt mTr mFM mFS mTpN mLw mAt mTwN mBE mBEn mSun mCkT mCkD mCkK mCkA mRow mStT mRun mUp mSta mSty mDly mTri mFnd mTap mLwT mLwD mLwO mLwM mTwT mSetA mDri mOrd mBst v1 _ hp) (cwV 1 hts gX11_read_X11_isTown rfl rfl rfl (by decide +kernel) ⟨(Nat.le_of_ble_eq_true rfl), (Nat.le_of_ble_eq_true rfl)⟩) 0 rfl rfl rfl hl.1 rfl (Nat.le_of_ble_eq_true rfl) dX11_read_7 ⟨Nat.zero_le _, Nat.zero_le _⟩ (fun r7 u H locs hp ho => ?_)
  try dsimp only at hp
  replace ho : oW D (mT c) A s.heap s (wM q c 0 mTn mCk mRw mSt mTr mFM mFS mTpN mLw mAt mTwN mBE mBEn mSun mCkT mCkD mCkK mCkA mRow mStT mRun mUp mSta mSty mDly mTri mFnd mTap mLwT mLwD mLwO mLwM mTwT mSetA mDri mOrd mBst) H locs := ho
  refine lv_if_eq (tgt := 35) hx hb dX11_read_10 (by decide) (fun c_10 => ?_) (fun c_10 => ?_)
  · replace hp := hp.1 c_10
    exact hJ35 0 hp _ _ _ ho (lv_sub hl [0] rfl)
  · replace hp := hp.2 c_10
    refine lv_iload_n hx hb dX11_read_13 rfl (lv_at hl 2 rfl) ?_
    refine o_callSi (rest := []) ⟨hx, hb, hml, hown, hts⟩ ho (c_M_isMinute l D (mT c) (wM q c 0 mTn mCk mRw mSt mTr mFM mFS mTpN mLw mAt mTwN mBE mBEn mSun mCkT mCkD mCkK mCkA mRow mStT mRun mUp mSta mSty mDly mTri mFnd mTap mLwT mLwD mLwO mLwM mTwT mSetA mDri mOrd mBst) v2 _ hp) (va_cwS 1 hts gX11_read_X11_isMinute rfl rfl rfl (by decide +kernel) ⟨(Nat.le_of_ble_eq_true rfl), (Nat.le_of_ble_eq_true rfl)⟩) rfl hl.1 rfl (Nat.le_of_ble_eq_true rfl) dX11_read_14 ⟨Nat.zero_le _, Nat.zero_le _⟩ (fun r14 u H locs hp ho => ?_)
    try dsimp only at hp
    replace ho : oW D (mT c) A s.heap s (wM q c 0 mTn mCk mRw mSt mTr mFM mFS mTpN mLw mAt mTwN mBE mBEn mSun mCkT mCkD mCkK mCkA mRow mStT mRun mUp mSta mSty mDly mTri mFnd mTap mLwT mLwD mLwO mLwM mTwT mSetA mDri mOrd mBst) H locs := ho
    refine lv_if_eq (tgt := 35) hx hb dX11_read_17 (by decide) (fun c_17 => ?_) (fun c_17 => ?_)
    · replace hp := hp.1 c_17
      exact hJ35 0 hp _ _ _ ho (lv_sub hl [0] rfl)
    · replace hp := hp.2 c_17
      refine lv_iload_n hx hb dX11_read_20 rfl (lv_at hl 2 rfl) ?_
      refine lv_aload_n hx hb dX11_read_21 rfl (lv_at hl 0 rfl) ?_
      refine lv_iload_n hx hb dX11_read_22 rfl (lv_at hl 1 rfl) ?_
      refine lv_iload_n hx hb dX11_read_23 rfl (lv_at hl 2 rfl) ?_
      refine lv_sipush (v := 1440) hx hb dX11_read_24 (by decide) ?_
      refine lv_idiv hx hb dX11_read_27 (by decide) ?_
      refine o_callVi (rest := [.int v2]) (ci := 11) ⟨hx, hb, hml, hown, hts⟩ ho (c_M_ahead l D q c 0 mTn mCk mRw mSt mTr mFM mFS mTpN mLw mAt mTwN mBE mBEn mSun mCkT mCkD mCkK mCkA mRow mStT mRun mUp mSta mSty mDly mTri mFnd mTap mLwT mLwD mLwO mLwM mTwT mSetA mDri mOrd mBst v1 (v2 / 1440) _ hp) (cwV 2 hts gX11_read_X11_ahead rfl rfl rfl (by decide +kernel) ⟨(Nat.le_of_ble_eq_true rfl), (Nat.le_of_ble_eq_true rfl)⟩) 0 rfl rfl rfl hl.1 rfl (Nat.le_of_ble_eq_true rfl) dX11_read_28 ⟨Nat.zero_le _, Nat.zero_le _⟩ (fun r28 u H locs hp ho => ?_)
      try dsimp only at hp
      replace ho : oW D (mT c) A s.heap s (wM q c 0 mTn mCk mRw mSt mTr mFM mFS mTpN mLw mAt mTwN mBE mBEn mSun mCkT mCkD mCkK mCkA mRow mStT mRun mUp mSta mSty mDly mTri mFnd mTap mLwT mLwD mLwO mLwM mTwT mSetA mDri mOrd mBst) H locs := ho
      refine lv_iadd hx hb dX11_read_31 ?_
      refine lv_goto (tgt := 39) hx hb dX11_read_32 (by decide) ?_
      exact hret (v2 + r28) 0 _ _ _ _ dX11_read_39 ho hp
set_option maxHeartbeats 4000000 in
set_option maxRecDepth 100000 in
theorem c_M_when (l : Launch) (D : va_G) (q : Nat → Nat) (c : Nat → ClassId) (mThr : Int32) (mTn : Int32) (mCk : Int32) (mRw : Int32) (mSt : Int32) (mTr : Int32) (mFM : Int32) (mFS : Int32) (mTpN : Int32) (mLw : Int32) (mAt : Int32) (mTwN : Int32) (mBE : Int32) (mBEn : Int32) (mSun : Nat → Int32) (mCkT : Nat → Int32) (mCkD : Nat → Int32) (mCkK : Nat → Int32) (mCkA : Nat → Int32) (mRow : Nat → Int32) (mStT : Nat → Int32) (mRun : Nat → Int32) (mUp : Nat → Int32) (mSta : Nat → Int32) (mSty : Nat → Int32) (mDly : Nat → Int32) (mTri : Nat → Int32) (mFnd : Nat → Int32) (mTap : Nat → Int32) (mLwT : Nat → Int32) (mLwD : Nat → Int32) (mLwO : Nat → Int32) (mLwM : Nat → Int32) (mTwT : Nat → Int32) (mSetA : Nat → Int32) (mDri : Nat → Int32) (mOrd : Nat → Int32) (mBst : Nat → Int32) (v1 : Int32) (v2 : Int32) (Q : Int32 → Int32 → Int32 → (Nat → Int32) → Prop) (hp : p_M_when mTn mCk mSun mCkT mCkD mCkK mCkA mThr mRw mRow v1 v2 Q) : oKi l yX11_when wsX11_when { frames := 2, cells := 0, slots := 0, locals := 46 } [.ref (q 0), .int v1, .int v2] D (mT c) (wM q c mThr mTn mCk mRw mSt mTr mFM mFS mTpN mLw mAt mTwN mBE mBEn mSun mCkT mCkD mCkK mCkA mRow mStT mRun mUp mSta mSty mDly mTri mFnd mTap mLwT mLwD mLwO mLwM mTwT mSetA mDri mOrd mBst) (Int32 × Int32 × (Nat → Int32)) (fun r (u : Int32 × Int32 × (Nat → Int32)) => Q r u.1 u.2.1 u.2.2) (fun u => wM q c u.1 mTn mCk u.2.1 mSt mTr mFM mFS mTpN mLw mAt mTwN mBE mBEn mSun mCkT mCkD mCkK mCkA u.2.2 mStT mRun mUp mSta mSty mDly mTri mFnd mTap mLwT mLwD mLwO mLwM mTwT mSetA mDri mOrd mBst) := by
  refine oKi.ofW (own := RX11) (cc := cX11_when) (maxL := 6) (plainFor_of_name (by decide +kernel)) rfl rfl (Nat.le_of_ble_eq_true rfl) (fun p e s m args below meth cd A ls Z hx hb hml hown hts hret ho hl => ?_)
  replace hl : lv_has ls 6 [(0, .ref (q 0)), (1, .int v1), (2, .int v2)] := hl
  have hinX11 : ∀ w ∈ u_ws RX11 TX11 38, w ∈ wsX11_when := by decide +kernel
  have hf25 := hts (.fieldLink RX11 25 "OneTimeModel" "row" "[I") (by decide +kernel)
  have hf83 := hts (.fieldLink RX11 83 "OneTimeModel" "thrown" "I") (by decide +kernel)
  have hf130 := hts (.fieldLink RX11 130 "OneTimeModel" "rows" "I") (by decide +kernel)
  have hk147 := hts (.constantLong RX11 147 1440) (by decide +kernel)
  unfold p_M_when at hp
  have hL22 : ∀ (v1 : Int32) (v2 : Int32) (mThr : Int32) (v3 : Int32) (mRw : Int32) (mRow : Nat → Int32), Lp3 (p_M_when_L22 mTn mCk mSun mCkT mCkD mCkK mCkA v1 v2 mThr Q) v3 mRw mRow → ∀ (H : Heap) (locs : List Loc) (ls : Array Slot), oW D (mT c) A s.heap s (wM q c mThr mTn mCk mRw mSt mTr mFM mFS mTpN mLw mAt mTwN mBE mBEn mSun mCkT mCkD mCkK mCkA mRow mStT mRun mUp mSta mSty mDly mTri mFnd mTap mLwT mLwD mLwO mLwM mTwT mSetA mDri mOrd mBst) H locs → lv_has ls 6 [(0, .ref (q 0)), (1, .int v1), (2, .int v2), (3, .int v3)] → W p l e { frames := 2, cells := 0, slots := 0, locals := 46 } s m args below meth cd H locs 0 0 Z (F0 m 22 ls []) := by
    intro v1 v2 mThr
    refine Lp3.ind (fun rec hrec v3 mRw mRow hp H locs ls ho hl => ?_)
    unfold p_M_when_L22 at hp
    refine lv_iload_n hx hb dX11_when_22 rfl (lv_at hl 3 rfl) ?_
    refine lv_sipush (v := 400) hx hb dX11_when_23 (by decide) ?_
    refine lv_icmp_ge (tgt := 95) hx hb dX11_when_26 (by decide) (fun c_26 => ?_) (fun c_26 => ?_)
    · replace hp := hp.1 c_26
      refine lv_aload_n hx hb dX11_when_95 rfl (lv_at hl 0 rfl) ?_
      refine o_get (ci := 11) (T := TX11) hx hb hts hinX11 hown ho 0 rfl rfl 8 (by decide) hf130 rfl dX11_when_96 ?_
      exact hret mRw (mThr, mRw, mRow) _ _ _ _ dX11_when_99 ho hp
    · replace hp := hp.2 c_26
      refine lv_iload_n hx hb dX11_when_29 rfl (lv_at hl 2 rfl) ?_
      refine lv_i2l (v := ((v2 : Int32).toInt64)) hx hb dX11_when_30 rfl ?_
      refine lv_aload_n hx hb dX11_when_31 rfl (lv_at hl 0 rfl) ?_
      refine lv_iload_n hx hb dX11_when_32 rfl (lv_at hl 1 rfl) ?_
      refine lv_iload_n hx hb dX11_when_33 rfl (lv_at hl 3 rfl) ?_
      refine o_callVi (rest := [.long ((v2 : Int32).toInt64)]) (ci := 11) ⟨hx, hb, hml, hown, hts⟩ ho (c_M_ahead l D q c mThr mTn mCk mRw mSt mTr mFM mFS mTpN mLw mAt mTwN mBE mBEn mSun mCkT mCkD mCkK mCkA mRow mStT mRun mUp mSta mSty mDly mTri mFnd mTap mLwT mLwD mLwO mLwM mTwT mSetA mDri mOrd mBst v1 v3 _ hp) (cwV 2 hts gX11_when_X11_ahead rfl rfl rfl (by decide +kernel) ⟨(Nat.le_of_ble_eq_true rfl), (Nat.le_of_ble_eq_true rfl)⟩) 0 rfl rfl rfl hl.1 rfl (Nat.le_of_ble_eq_true rfl) dX11_when_34 ⟨Nat.zero_le _, Nat.zero_le _⟩ (fun r34 u H locs hp ho => ?_)
      try dsimp only at hp
      replace ho : oW D (mT c) A s.heap s (wM q c mThr mTn mCk mRw mSt mTr mFM mFS mTpN mLw mAt mTwN mBE mBEn mSun mCkT mCkD mCkK mCkA mRow mStT mRun mUp mSta mSty mDly mTri mFnd mTap mLwT mLwD mLwO mLwM mTwT mSetA mDri mOrd mBst) H locs := ho
      refine lv_i2l (v := ((r34 : Int32).toInt64)) hx hb dX11_when_37 rfl ?_
      refine lv_lsub hx hb dX11_when_38 ?_
      refine lv_topl (fun x39 e_x39 => ?_)
      replace hp := hp x39 e_x39
      refine lv_lstore (lv' := [(4, .long x39), (0, .ref (q 0)), (1, .int v1), (2, .int v2), (3, .int v3)]) hx hb dX11_when_39 hl (by decide) rfl (fun ls hl => ?_)
      refine lv_lload hx hb dX11_when_41 (lv_at hl 0 rfl) ?_
      refine lv_iload_n hx hb dX11_when_43 rfl (lv_at hl 4 rfl) ?_
      refine lv_i2l (v := ((v3 : Int32).toInt64)) hx hb dX11_when_44 rfl ?_
      refine lv_ldc2 (v := 1440) hx hb hown hk147 dX11_when_45 ?_
      refine lv_lmul hx hb dX11_when_48 ?_
      refine lv_iload_n hx hb dX11_when_49 rfl (lv_at hl 4 rfl) ?_
      refine lv_i2l (v := ((v3 : Int32).toInt64)) hx hb dX11_when_50 rfl ?_
      refine lv_ldc2 (v := 1440) hx hb hown hk147 dX11_when_51 ?_
      refine lv_lmul hx hb dX11_when_54 ?_
      refine lv_ldc2 (v := 1440) hx hb hown hk147 dX11_when_55 ?_
      refine lv_ladd hx hb dX11_when_58 ?_
      refine lv_lconst (v := 1) hx hb dX11_when_59 (by decide) ?_
      refine lv_lsub hx hb dX11_when_60 ?_
      refine o_callSi (rest := []) ⟨hx, hb, hml, hown, hts⟩ ho (c_M_in l D (mT c) (wM q c mThr mTn mCk mRw mSt mTr mFM mFS mTpN mLw mAt mTwN mBE mBEn mSun mCkT mCkD mCkK mCkA mRow mStT mRun mUp mSta mSty mDly mTri mFnd mTap mLwT mLwD mLwO mLwM mTwT mSetA mDri mOrd mBst) x39 (((v3 : Int32).toInt64) * 1440) (((((v3 : Int32).toInt64) * 1440) + 1440) - 1) _ hp) (va_cwS 3 hts gX11_when_X11_in rfl rfl rfl (by decide +kernel) ⟨(Nat.le_of_ble_eq_true rfl), (Nat.le_of_ble_eq_true rfl)⟩) rfl hl.1 rfl (Nat.le_of_ble_eq_true rfl) dX11_when_61 ⟨Nat.zero_le _, Nat.zero_le _⟩ (fun r61 u H locs hp ho => ?_)
      try dsimp only at hp
      replace ho : oW D (mT c) A s.heap s (wM q c mThr mTn mCk mRw mSt mTr mFM mFS mTpN mLw mAt mTwN mBE mBEn mSun mCkT mCkD mCkK mCkA mRow mStT mRun mUp mSta mSty mDly mTri mFnd mTap mLwT mLwD mLwO mLwM mTwT mSetA mDri mOrd mBst) H locs := ho
      refine lv_if_eq (tgt := 89) hx hb dX11_when_64 (by decide) (fun c_64 => ?_) (fun c_64 => ?_)
      · replace hp := hp.1 c_64
        obtain ⟨x89, e_x89⟩ : ∃ y : Int32, y = v3 + 1 := ⟨_, rfl⟩
        replace hp := hp x89 e_x89
        refine lv_iinc (v := x89) (lv' := [(3, .int x89), (4, .long x39), (0, .ref (q 0)), (1, .int v1), (2, .int v2)]) hx hb dX11_when_89 hl (k := 4) rfl (by rw [e_x89]; rfl) (by decide) rfl (fun ls hl => ?_)
        refine lv_goto (tgt := 22) hx hb dX11_when_92 (by decide) ?_
        exact hrec x89 mRw mRow hp _ _ _ ho (lv_sub hl [2, 3, 4, 0] rfl)
      · replace hp := hp.2 c_64
        refine lv_aload_n hx hb dX11_when_67 rfl (lv_at hl 1 rfl) ?_
        refine o_get (ci := 11) (T := TX11) hx hb hts hinX11 hown ho 0 rfl rfl 9 (by decide) hf25 rfl dX11_when_68 ?_
        refine lv_aload_n hx hb dX11_when_71 rfl (lv_at hl 1 rfl) ?_
        refine o_get (ci := 11) (T := TX11) hx hb hts hinX11 hown ho 0 rfl rfl 8 (by decide) hf130 rfl dX11_when_72 ?_
        refine lv_lload hx hb dX11_when_75 (lv_at hl 0 rfl) ?_
        refine lv_l2i (v := ((x39 : Int64).toInt32)) hx hb dX11_when_77 rfl ?_
        refine o_ist hx hb ho 6 5 rfl rfl hp.1 dX11_when_78 (fun H locs ho => ?_)
        replace hp := hp.2
        replace ho : oW D (mT c) A s.heap s (wM q c mThr mTn mCk mRw mSt mTr mFM mFS mTpN mLw mAt mTwN mBE mBEn mSun mCkT mCkD mCkK mCkA (upd mRow mRw.toNatClampNeg ((x39 : Int64).toInt32)) mStT mRun mUp mSta mSty mDly mTri mFnd mTap mLwT mLwD mLwO mLwM mTwT mSetA mDri mOrd mBst) H locs := ho
        refine lv_aload_n hx hb dX11_when_79 rfl (lv_at hl 1 rfl) ?_
        refine lv_dup hx hb dX11_when_80 rfl ?_
        refine o_get (ci := 11) (T := TX11) hx hb hts hinX11 hown ho 0 rfl rfl 8 (by decide) hf130 rfl dX11_when_81 ?_
        refine lv_iconst (v := 1) hx hb dX11_when_84 (by decide) ?_
        refine lv_iadd hx hb dX11_when_85 ?_
        refine lv_topi (fun x86 e_x86 => ?_)
        replace hp := hp x86 e_x86
        refine o_put (ci := 11) (T := TX11) hx hb hts hinX11 tyX11_ok nmX11 hown ho 0 rfl rfl 8 (by decide) hf130 rfl (tyX11_ok 8 (by decide)) (Nat.le_of_ble_eq_true rfl) dX11_when_86 (fun H locs ho => ?_)
        replace ho : oW D (mT c) A s.heap s (wM q c mThr mTn mCk x86 mSt mTr mFM mFS mTpN mLw mAt mTwN mBE mBEn mSun mCkT mCkD mCkK mCkA (upd mRow mRw.toNatClampNeg ((x39 : Int64).toInt32)) mStT mRun mUp mSta mSty mDly mTri mFnd mTap mLwT mLwD mLwO mLwM mTwT mSetA mDri mOrd mBst) H locs := ho
        obtain ⟨x89, e_x89⟩ : ∃ y : Int32, y = v3 + 1 := ⟨_, rfl⟩
        replace hp := hp x89 e_x89
        refine lv_iinc (v := x89) (lv' := [(3, .int x89), (4, .long x39), (0, .ref (q 0)), (1, .int v1), (2, .int v2)]) hx hb dX11_when_89 hl (k := 4) rfl (by rw [e_x89]; rfl) (by decide) rfl (fun ls hl => ?_)
        refine lv_goto (tgt := 22) hx hb dX11_when_92 (by decide) ?_
        exact hrec x89 x86 (upd mRow mRw.toNatClampNeg ((x39 : Int64).toInt32)) hp _ _ _ ho (lv_sub hl [2, 3, 4, 0] rfl)
  refine lv_aload_n hx hb dX11_when_0 rfl (lv_at hl 0 rfl) ?_
  refine lv_iconst (v := 0) hx hb dX11_when_1 (by decide) ?_
  refine o_put (ci := 11) (T := TX11) hx hb hts hinX11 tyX11_ok nmX11 hown ho 0 rfl rfl 0 (by decide) hf83 rfl (tyX11_ok 0 (by decide)) (Nat.le_of_ble_eq_true rfl) dX11_when_2 (fun H locs ho => ?_)
  replace ho : oW D (mT c) A s.heap s (wM q c 0 mTn mCk mRw mSt mTr mFM mFS mTpN mLw mAt mTwN mBE mBEn mSun mCkT mCkD mCkK mCkA mRow mStT mRun mUp mSta mSty mDly mTri mFnd mTap mLwT mLwD mLwO mLwM mTwT mSetA mDri mOrd mBst) H locs := ho
  refine lv_aload_n hx hb dX11_when_5 rfl (lv_at hl 0 rfl) ?_
  refine lv_iload_n hx hb dX11_when_6 rfl (lv_at hl 1 rfl) ?_
  refine o_callVi (rest := []) (ci := 11) ⟨hx, hb, hml, hown, hts⟩ ho (c_M_isTown l D q c 0 mTn mCk mRw mSt mTr mFM mFS mTpN mLw mAt mTwN mBE mBEn mSun mCkT mCkD mCkK mCkA mRow mStT mRun mUp mSta mSty mDly mTri mFnd mTap mLwT mLwD mLwO mLwM mTwT mSetA mDri mOrd mBst v1 _ hp) (cwV 1 hts gX11_when_X11_isTown rfl rfl rfl (by decide +kernel) ⟨(Nat.le_of_ble_eq_true rfl), (Nat.le_of_ble_eq_true rfl)⟩) 0 rfl rfl rfl hl.1 rfl (Nat.le_of_ble_eq_true rfl) dX11_when_7 ⟨Nat.zero_le _, Nat.zero_le _⟩ (fun r7 u H locs hp ho => ?_)
  try dsimp only at hp
  replace ho : oW D (mT c) A s.heap s (wM q c 0 mTn mCk mRw mSt mTr mFM mFS mTpN mLw mAt mTwN mBE mBEn mSun mCkT mCkD mCkK mCkA mRow mStT mRun mUp mSta mSty mDly mTri mFnd mTap mLwT mLwD mLwO mLwM mTwT mSetA mDri mOrd mBst) H locs := ho
  refine lv_if_ne (tgt := 15) hx hb dX11_when_10 (by decide) (fun c_10 => ?_) (fun c_10 => ?_)
  · replace hp := hp.2 c_10
    refine lv_aload_n hx hb dX11_when_15 rfl (lv_at hl 0 rfl) ?_
    refine lv_iconst (v := 0) hx hb dX11_when_16 (by decide) ?_
    refine o_put (ci := 11) (T := TX11) hx hb hts hinX11 tyX11_ok nmX11 hown ho 0 rfl rfl 8 (by decide) hf130 rfl (tyX11_ok 8 (by decide)) (Nat.le_of_ble_eq_true rfl) dX11_when_17 (fun H locs ho => ?_)
    replace ho : oW D (mT c) A s.heap s (wM q c 0 mTn mCk 0 mSt mTr mFM mFS mTpN mLw mAt mTwN mBE mBEn mSun mCkT mCkD mCkK mCkA mRow mStT mRun mUp mSta mSty mDly mTri mFnd mTap mLwT mLwD mLwO mLwM mTwT mSetA mDri mOrd mBst) H locs := ho
    refine lv_iconst (v := 0) hx hb dX11_when_20 (by decide) ?_
    refine lv_istore_n (lv' := [(3, .int 0), (0, .ref (q 0)), (1, .int v1), (2, .int v2)]) hx hb dX11_when_21 rfl hl (by decide) rfl (fun ls hl => ?_)
    exact hL22 v1 v2 0 0 0 mRow hp _ _ _ ho (lv_sub hl [1, 2, 3, 0] rfl)
  · replace hp := hp.1 c_10
    refine lv_iconst (v := (-1)) hx hb dX11_when_13 (by decide) ?_
    exact hret (-1) (0, mRw, mRow) _ _ _ _ dX11_when_14 ho hp
set_option maxHeartbeats 4000000 in
set_option maxRecDepth 100000 in
theorem c_M_firstAt (l : Launch) (D : va_G) (q : Nat → Nat) (c : Nat → ClassId) (mThr : Int32) (mTn : Int32) (mCk : Int32) (mRw : Int32) (mSt : Int32) (mTr : Int32) (mFM : Int32) (mFS : Int32) (mTpN : Int32) (mLw : Int32) (mAt : Int32) (mTwN : Int32) (mBE : Int32) (mBEn : Int32) (mSun : Nat → Int32) (mCkT : Nat → Int32) (mCkD : Nat → Int32) (mCkK : Nat → Int32) (mCkA : Nat → Int32) (mRow : Nat → Int32) (mStT : Nat → Int32) (mRun : Nat → Int32) (mUp : Nat → Int32) (mSta : Nat → Int32) (mSty : Nat → Int32) (mDly : Nat → Int32) (mTri : Nat → Int32) (mFnd : Nat → Int32) (mTap : Nat → Int32) (mLwT : Nat → Int32) (mLwD : Nat → Int32) (mLwO : Nat → Int32) (mLwM : Nat → Int32) (mTwT : Nat → Int32) (mSetA : Nat → Int32) (mDri : Nat → Int32) (mOrd : Nat → Int32) (mBst : Nat → Int32) (v1 : Int32) (v2 : Int64) (Q : Int32 → Prop) (hp : p_M_firstAt mCk mSun mCkT mCkD mCkK mCkA v1 v2 Q) : oKi l yX11_firstAt wsX11_firstAt { frames := 1, cells := 0, slots := 0, locals := 25 } [.ref (q 0), .int v1, .long v2] D (mT c) (wM q c mThr mTn mCk mRw mSt mTr mFM mFS mTpN mLw mAt mTwN mBE mBEn mSun mCkT mCkD mCkK mCkA mRow mStT mRun mUp mSta mSty mDly mTri mFnd mTap mLwT mLwD mLwO mLwM mTwT mSetA mDri mOrd mBst) (Unit) (fun r (_ : Unit) => Q r) (fun _ => wM q c mThr mTn mCk mRw mSt mTr mFM mFS mTpN mLw mAt mTwN mBE mBEn mSun mCkT mCkD mCkK mCkA mRow mStT mRun mUp mSta mSty mDly mTri mFnd mTap mLwT mLwD mLwO mLwM mTwT mSetA mDri mOrd mBst) := by
  refine oKi.ofW (own := RX11) (cc := cX11_firstAt) (maxL := 7) (plainFor_of_name (by decide +kernel)) rfl rfl (Nat.le_of_ble_eq_true rfl) (fun p e s m args below meth cd A ls Z hx hb hml hown hts hret ho hl => ?_)
  replace hl : lv_has ls 7 [(0, .ref (q 0)), (1, .int v1), (2, .long v2)] := hl
  have hk147 := hts (.constantLong RX11 147 1440) (by decide +kernel)
  unfold p_M_firstAt at hp
  have hL3 : ∀ (v1 : Int32) (v2 : Int64) (v4 : Int32), Lp1 (p_M_firstAt_L3 mCk mSun mCkT mCkD mCkK mCkA v1 v2 Q) v4 → ∀ (H : Heap) (locs : List Loc) (ls : Array Slot), oW D (mT c) A s.heap s (wM q c mThr mTn mCk mRw mSt mTr mFM mFS mTpN mLw mAt mTwN mBE mBEn mSun mCkT mCkD mCkK mCkA mRow mStT mRun mUp mSta mSty mDly mTri mFnd mTap mLwT mLwD mLwO mLwM mTwT mSetA mDri mOrd mBst) H locs → lv_has ls 7 [(0, .ref (q 0)), (1, .int v1), (2, .long v2), (4, .int v4)] → W p l e { frames := 1, cells := 0, slots := 0, locals := 25 } s m args below meth cd H locs 0 0 Z (F0 m 3 ls []) := by
    intro v1 v2
    refine Lp1.ind (fun rec hrec v4 hp H locs ls ho hl => ?_)
    unfold p_M_firstAt_L3 at hp
    refine lv_iload hx hb dX11_firstAt_3 (lv_at hl 3 rfl) ?_
    refine lv_sipush (v := 400) hx hb dX11_firstAt_5 (by decide) ?_
    refine lv_icmp_ge (tgt := 61) hx hb dX11_firstAt_8 (by decide) (fun c_8 => ?_) (fun c_8 => ?_)
    · replace hp := hp.1 c_8
      refine lv_iconst (v := (-1)) hx hb dX11_firstAt_61 (by decide) ?_
      exact hret (-1) () _ _ _ _ dX11_firstAt_62 ho hp
    · replace hp := hp.2 c_8
      refine lv_lload_n hx hb dX11_firstAt_11 rfl (lv_at hl 2 rfl) ?_
      refine lv_aload_n hx hb dX11_firstAt_12 rfl (lv_at hl 0 rfl) ?_
      refine lv_iload_n hx hb dX11_firstAt_13 rfl (lv_at hl 1 rfl) ?_
      refine lv_iload hx hb dX11_firstAt_14 (lv_at hl 3 rfl) ?_
      refine o_callVi (rest := [.long v2]) (ci := 11) ⟨hx, hb, hml, hown, hts⟩ ho (c_M_ahead l D q c mThr mTn mCk mRw mSt mTr mFM mFS mTpN mLw mAt mTwN mBE mBEn mSun mCkT mCkD mCkK mCkA mRow mStT mRun mUp mSta mSty mDly mTri mFnd mTap mLwT mLwD mLwO mLwM mTwT mSetA mDri mOrd mBst v1 v4 _ hp) (cwV 2 hts gX11_firstAt_X11_ahead rfl rfl rfl (by decide +kernel) ⟨(Nat.le_of_ble_eq_true rfl), (Nat.le_of_ble_eq_true rfl)⟩) 0 rfl rfl rfl hl.1 rfl (Nat.le_of_ble_eq_true rfl) dX11_firstAt_16 ⟨Nat.zero_le _, Nat.zero_le _⟩ (fun r16 u H locs hp ho => ?_)
      try dsimp only at hp
      replace ho : oW D (mT c) A s.heap s (wM q c mThr mTn mCk mRw mSt mTr mFM mFS mTpN mLw mAt mTwN mBE mBEn mSun mCkT mCkD mCkK mCkA mRow mStT mRun mUp mSta mSty mDly mTri mFnd mTap mLwT mLwD mLwO mLwM mTwT mSetA mDri mOrd mBst) H locs := ho
      refine lv_i2l (v := ((r16 : Int32).toInt64)) hx hb dX11_firstAt_19 rfl ?_
      refine lv_lsub hx hb dX11_firstAt_20 ?_
      refine lv_topl (fun x21 e_x21 => ?_)
      replace hp := hp x21 e_x21
      refine lv_lstore (lv' := [(5, .long x21), (0, .ref (q 0)), (1, .int v1), (2, .long v2), (4, .int v4)]) hx hb dX11_firstAt_21 hl (by decide) rfl (fun ls hl => ?_)
      refine lv_lload hx hb dX11_firstAt_23 (lv_at hl 0 rfl) ?_
      refine lv_iload hx hb dX11_firstAt_25 (lv_at hl 4 rfl) ?_
      refine lv_i2l (v := ((v4 : Int32).toInt64)) hx hb dX11_firstAt_27 rfl ?_
      refine lv_ldc2 (v := 1440) hx hb hown hk147 dX11_firstAt_28 ?_
      refine lv_lmul hx hb dX11_firstAt_31 ?_
      refine lv_iload hx hb dX11_firstAt_32 (lv_at hl 4 rfl) ?_
      refine lv_i2l (v := ((v4 : Int32).toInt64)) hx hb dX11_firstAt_34 rfl ?_
      refine lv_ldc2 (v := 1440) hx hb hown hk147 dX11_firstAt_35 ?_
      refine lv_lmul hx hb dX11_firstAt_38 ?_
      refine lv_ldc2 (v := 1440) hx hb hown hk147 dX11_firstAt_39 ?_
      refine lv_ladd hx hb dX11_firstAt_42 ?_
      refine lv_lconst (v := 1) hx hb dX11_firstAt_43 (by decide) ?_
      refine lv_lsub hx hb dX11_firstAt_44 ?_
      refine o_callSi (rest := []) ⟨hx, hb, hml, hown, hts⟩ ho (c_M_in l D (mT c) (wM q c mThr mTn mCk mRw mSt mTr mFM mFS mTpN mLw mAt mTwN mBE mBEn mSun mCkT mCkD mCkK mCkA mRow mStT mRun mUp mSta mSty mDly mTri mFnd mTap mLwT mLwD mLwO mLwM mTwT mSetA mDri mOrd mBst) x21 (((v4 : Int32).toInt64) * 1440) (((((v4 : Int32).toInt64) * 1440) + 1440) - 1) _ hp) (va_cwS 3 hts gX11_firstAt_X11_in rfl rfl rfl (by decide +kernel) ⟨(Nat.le_of_ble_eq_true rfl), (Nat.le_of_ble_eq_true rfl)⟩) rfl hl.1 rfl (Nat.le_of_ble_eq_true rfl) dX11_firstAt_45 ⟨Nat.zero_le _, Nat.zero_le _⟩ (fun r45 u H locs hp ho => ?_)
      try dsimp only at hp
      replace ho : oW D (mT c) A s.heap s (wM q c mThr mTn mCk mRw mSt mTr mFM mFS mTpN mLw mAt mTwN mBE mBEn mSun mCkT mCkD mCkK mCkA mRow mStT mRun mUp mSta mSty mDly mTri mFnd mTap mLwT mLwD mLwO mLwM mTwT mSetA mDri mOrd mBst) H locs := ho
      refine lv_if_eq (tgt := 55) hx hb dX11_firstAt_48 (by decide) (fun c_48 => ?_) (fun c_48 => ?_)
      · replace hp := hp.1 c_48
        obtain ⟨x55, e_x55⟩ : ∃ y : Int32, y = v4 + 1 := ⟨_, rfl⟩
        replace hp := hp x55 e_x55
        refine lv_iinc (v := x55) (lv' := [(4, .int x55), (5, .long x21), (0, .ref (q 0)), (1, .int v1), (2, .long v2)]) hx hb dX11_firstAt_55 hl (k := 4) rfl (by rw [e_x55]; rfl) (by decide) rfl (fun ls hl => ?_)
        refine lv_goto (tgt := 3) hx hb dX11_firstAt_58 (by decide) ?_
        exact hrec x55 hp _ _ _ ho (lv_sub hl [2, 3, 4, 0] rfl)
      · replace hp := hp.2 c_48
        refine lv_lload hx hb dX11_firstAt_51 (lv_at hl 0 rfl) ?_
        refine lv_l2i (v := ((x21 : Int64).toInt32)) hx hb dX11_firstAt_53 rfl ?_
        exact hret ((x21 : Int64).toInt32) () _ _ _ _ dX11_firstAt_54 ho hp
  refine lv_iconst (v := 0) hx hb dX11_firstAt_0 (by decide) ?_
  refine lv_istore (lv' := [(4, .int 0), (0, .ref (q 0)), (1, .int v1), (2, .long v2)]) hx hb dX11_firstAt_1 hl (by decide) rfl (fun ls hl => ?_)
  exact hL3 v1 v2 0 hp _ _ _ ho (lv_sub hl [1, 2, 3, 0] rfl)
set_option maxHeartbeats 4000000 in
set_option maxRecDepth 100000 in
theorem c_M_turned (l : Launch) (D : va_G) (q : Nat → Nat) (c : Nat → ClassId) (mThr : Int32) (mTn : Int32) (mCk : Int32) (mRw : Int32) (mSt : Int32) (mTr : Int32) (mFM : Int32) (mFS : Int32) (mTpN : Int32) (mLw : Int32) (mAt : Int32) (mTwN : Int32) (mBE : Int32) (mBEn : Int32) (mSun : Nat → Int32) (mCkT : Nat → Int32) (mCkD : Nat → Int32) (mCkK : Nat → Int32) (mCkA : Nat → Int32) (mRow : Nat → Int32) (mStT : Nat → Int32) (mRun : Nat → Int32) (mUp : Nat → Int32) (mSta : Nat → Int32) (mSty : Nat → Int32) (mDly : Nat → Int32) (mTri : Nat → Int32) (mFnd : Nat → Int32) (mTap : Nat → Int32) (mLwT : Nat → Int32) (mLwD : Nat → Int32) (mLwO : Nat → Int32) (mLwM : Nat → Int32) (mTwT : Nat → Int32) (mSetA : Nat → Int32) (mDri : Nat → Int32) (mOrd : Nat → Int32) (mBst : Nat → Int32) (v1 : Int32) (v2 : Int32) (v3 : Int32) (Q : Int32 → Int32 → Prop) (hp : p_M_turned mTn mCk mSun mCkT mCkD mCkK mCkA mThr v1 v2 v3 Q) : oKi l yX11_turned wsX11_turned { frames := 2, cells := 0, slots := 0, locals := 51 } [.ref (q 0), .int v1, .int v2, .int v3] D (mT c) (wM q c mThr mTn mCk mRw mSt mTr mFM mFS mTpN mLw mAt mTwN mBE mBEn mSun mCkT mCkD mCkK mCkA mRow mStT mRun mUp mSta mSty mDly mTri mFnd mTap mLwT mLwD mLwO mLwM mTwT mSetA mDri mOrd mBst) (Int32) (fun r (u : Int32) => Q r u) (fun u => wM q c u mTn mCk mRw mSt mTr mFM mFS mTpN mLw mAt mTwN mBE mBEn mSun mCkT mCkD mCkK mCkA mRow mStT mRun mUp mSta mSty mDly mTri mFnd mTap mLwT mLwD mLwO mLwM mTwT mSetA mDri mOrd mBst) := by
  refine oKi.ofW (own := RX11) (cc := cX11_turned) (maxL := 5) (plainFor_of_name (by decide +kernel)) rfl rfl (Nat.le_of_ble_eq_true rfl) (fun p e s m args below meth cd A ls Z hx hb hml hown hts hret ho hl => ?_)
  replace hl : lv_has ls 5 [(0, .ref (q 0)), (1, .int v1), (2, .int v2), (3, .int v3)] := hl
  have hinX11 : ∀ w ∈ u_ws RX11 TX11 38, w ∈ wsX11_turned := by decide +kernel
  have hf83 := hts (.fieldLink RX11 83 "OneTimeModel" "thrown" "I") (by decide +kernel)
  unfold p_M_turned at hp
  have hJ32 : ∀ (v3 : Int32) (mThr : Int32) (s0 : Int32), p_M_turned_J32 mTn mCk mSun mCkT mCkD mCkK mCkA v3 mThr s0 Q → ∀ (H : Heap) (locs : List Loc) (ls : Array Slot), oW D (mT c) A s.heap s (wM q c mThr mTn mCk mRw mSt mTr mFM mFS mTpN mLw mAt mTwN mBE mBEn mSun mCkT mCkD mCkK mCkA mRow mStT mRun mUp mSta mSty mDly mTri mFnd mTap mLwT mLwD mLwO mLwM mTwT mSetA mDri mOrd mBst) H locs → lv_has ls 5 [(0, .ref (q 0)), (3, .int v3)] → W p l e { frames := 2, cells := 0, slots := 0, locals := 51 } s m args below meth cd H locs 0 0 Z (F0 m 32 ls [.int s0]) := by
    intro v3 mThr s0
    intro hp H locs ls ho hl
    unfold p_M_turned_J32 at hp
    refine lv_istore (lv' := [(4, .int s0), (0, .ref (q 0)), (3, .int v3)]) hx hb dX11_turned_32 hl (by decide) rfl (fun ls hl => ?_)
    refine lv_iload hx hb dX11_turned_34 (lv_at hl 0 rfl) ?_
    refine lv_if_ge (tgt := 46) hx hb dX11_turned_36 (by decide) (fun c_36 => ?_) (fun c_36 => ?_)
    · replace hp := hp.1 c_36
      refine lv_iload hx hb dX11_turned_46 (lv_at hl 0 rfl) ?_
      refine lv_aload_n hx hb dX11_turned_48 rfl (lv_at hl 1 rfl) ?_
      refine lv_iload_n hx hb dX11_turned_49 rfl (lv_at hl 2 rfl) ?_
      refine lv_iload hx hb dX11_turned_50 (lv_at hl 0 rfl) ?_
      refine lv_sipush (v := 1440) hx hb dX11_turned_52 (by decide) ?_
      refine lv_idiv hx hb dX11_turned_55 (by decide) ?_
      refine o_callVi (rest := [.int s0]) (ci := 11) ⟨hx, hb, hml, hown, hts⟩ ho (c_M_ahead l D q c mThr mTn mCk mRw mSt mTr mFM mFS mTpN mLw mAt mTwN mBE mBEn mSun mCkT mCkD mCkK mCkA mRow mStT mRun mUp mSta mSty mDly mTri mFnd mTap mLwT mLwD mLwO mLwM mTwT mSetA mDri mOrd mBst v3 (s0 / 1440) _ hp) (cwV 2 hts gX11_turned_X11_ahead rfl rfl rfl (by decide +kernel) ⟨(Nat.le_of_ble_eq_true rfl), (Nat.le_of_ble_eq_true rfl)⟩) 0 rfl rfl rfl hl.1 rfl (Nat.le_of_ble_eq_true rfl) dX11_turned_56 ⟨Nat.zero_le _, Nat.zero_le _⟩ (fun r56 u H locs hp ho => ?_)
      try dsimp only at hp
      replace ho : oW D (mT c) A s.heap s (wM q c mThr mTn mCk mRw mSt mTr mFM mFS mTpN mLw mAt mTwN mBE mBEn mSun mCkT mCkD mCkK mCkA mRow mStT mRun mUp mSta mSty mDly mTri mFnd mTap mLwT mLwD mLwO mLwM mTwT mSetA mDri mOrd mBst) H locs := ho
      refine lv_iadd hx hb dX11_turned_59 ?_
      exact hret (s0 + r56) mThr _ _ _ _ dX11_turned_60 ho hp
    · replace hp := hp.2 c_36
      refine lv_aload_n hx hb dX11_turned_39 rfl (lv_at hl 1 rfl) ?_
      refine o_callVi (rest := []) (ci := 11) ⟨hx, hb, hml, hown, hts⟩ ho (c_M_refuse l D q c mThr mTn mCk mRw mSt mTr mFM mFS mTpN mLw mAt mTwN mBE mBEn mSun mCkT mCkD mCkK mCkA mRow mStT mRun mUp mSta mSty mDly mTri mFnd mTap mLwT mLwD mLwO mLwM mTwT mSetA mDri mOrd mBst  _ hp) (cwV 0 hts gX11_turned_X11_refuse rfl rfl rfl (by decide +kernel) ⟨(Nat.le_of_ble_eq_true rfl), (Nat.le_of_ble_eq_true rfl)⟩) 0 rfl rfl rfl hl.1 rfl (Nat.le_of_ble_eq_true rfl) dX11_turned_40 ⟨Nat.zero_le _, Nat.zero_le _⟩ (fun r40 u H locs hp ho => ?_)
      obtain ⟨mThr_40, rfl⟩ : ∃ z, z = u := ⟨_, rfl⟩
      try dsimp only at hp
      replace ho : oW D (mT c) A s.heap s (wM q c mThr_40 mTn mCk mRw mSt mTr mFM mFS mTpN mLw mAt mTwN mBE mBEn mSun mCkT mCkD mCkK mCkA mRow mStT mRun mUp mSta mSty mDly mTri mFnd mTap mLwT mLwD mLwO mLwM mTwT mSetA mDri mOrd mBst) H locs := ho
      refine lv_goto (tgt := 60) hx hb dX11_turned_43 (by decide) ?_
      exact hret r40 mThr_40 _ _ _ _ dX11_turned_60 ho hp
  refine lv_aload_n hx hb dX11_turned_0 rfl (lv_at hl 0 rfl) ?_
  refine lv_iconst (v := 0) hx hb dX11_turned_1 (by decide) ?_
  refine o_put (ci := 11) (T := TX11) hx hb hts hinX11 tyX11_ok nmX11 hown ho 0 rfl rfl 0 (by decide) hf83 rfl (tyX11_ok 0 (by decide)) (Nat.le_of_ble_eq_true rfl) dX11_turned_2 (fun H locs ho => ?_)
  replace ho : oW D (mT c) A s.heap s (wM q c 0 mTn mCk mRw mSt mTr mFM mFS mTpN mLw mAt mTwN mBE mBEn mSun mCkT mCkD mCkK mCkA mRow mStT mRun mUp mSta mSty mDly mTri mFnd mTap mLwT mLwD mLwO mLwM mTwT mSetA mDri mOrd mBst) H locs := ho
  refine lv_aload_n hx hb dX11_turned_5 rfl (lv_at hl 0 rfl) ?_
  refine lv_iload_n hx hb dX11_turned_6 rfl (lv_at hl 1 rfl) ?_
  refine o_callVi (rest := []) (ci := 11) ⟨hx, hb, hml, hown, hts⟩ ho (c_M_isTown l D q c 0 mTn mCk mRw mSt mTr mFM mFS mTpN mLw mAt mTwN mBE mBEn mSun mCkT mCkD mCkK mCkA mRow mStT mRun mUp mSta mSty mDly mTri mFnd mTap mLwT mLwD mLwO mLwM mTwT mSetA mDri mOrd mBst v1 _ hp) (cwV 1 hts gX11_turned_X11_isTown rfl rfl rfl (by decide +kernel) ⟨(Nat.le_of_ble_eq_true rfl), (Nat.le_of_ble_eq_true rfl)⟩) 0 rfl rfl rfl hl.1 rfl (Nat.le_of_ble_eq_true rfl) dX11_turned_7 ⟨Nat.zero_le _, Nat.zero_le _⟩ (fun r7 u H locs hp ho => ?_)
  try dsimp only at hp
  replace ho : oW D (mT c) A s.heap s (wM q c 0 mTn mCk mRw mSt mTr mFM mFS mTpN mLw mAt mTwN mBE mBEn mSun mCkT mCkD mCkK mCkA mRow mStT mRun mUp mSta mSty mDly mTri mFnd mTap mLwT mLwD mLwO mLwM mTwT mSetA mDri mOrd mBst) H locs := ho
  refine lv_if_eq (tgt := 31) hx hb dX11_turned_10 (by decide) (fun c_10 => ?_) (fun c_10 => ?_)
  · replace hp := hp.1 c_10
    refine lv_iconst (v := (-1)) hx hb dX11_turned_31 (by decide) ?_
    exact hJ32 v3 0 (-1) hp _ _ _ ho (lv_sub hl [0, 3] rfl)
  · replace hp := hp.2 c_10
    refine lv_aload_n hx hb dX11_turned_13 rfl (lv_at hl 0 rfl) ?_
    refine lv_iload_n hx hb dX11_turned_14 rfl (lv_at hl 3 rfl) ?_
    refine o_callVi (rest := []) (ci := 11) ⟨hx, hb, hml, hown, hts⟩ ho (c_M_isTown l D q c 0 mTn mCk mRw mSt mTr mFM mFS mTpN mLw mAt mTwN mBE mBEn mSun mCkT mCkD mCkK mCkA mRow mStT mRun mUp mSta mSty mDly mTri mFnd mTap mLwT mLwD mLwO mLwM mTwT mSetA mDri mOrd mBst v3 _ hp) (cwV 1 hts gX11_turned_X11_isTown rfl rfl rfl (by decide +kernel) ⟨(Nat.le_of_ble_eq_true rfl), (Nat.le_of_ble_eq_true rfl)⟩) 0 rfl rfl rfl hl.1 rfl (Nat.le_of_ble_eq_true rfl) dX11_turned_15 ⟨Nat.zero_le _, Nat.zero_le _⟩ (fun r15 u H locs hp ho => ?_)
    try dsimp only at hp
    replace ho : oW D (mT c) A s.heap s (wM q c 0 mTn mCk mRw mSt mTr mFM mFS mTpN mLw mAt mTwN mBE mBEn mSun mCkT mCkD mCkK mCkA mRow mStT mRun mUp mSta mSty mDly mTri mFnd mTap mLwT mLwD mLwO mLwM mTwT mSetA mDri mOrd mBst) H locs := ho
    refine lv_if_eq (tgt := 31) hx hb dX11_turned_18 (by decide) (fun c_18 => ?_) (fun c_18 => ?_)
    · replace hp := hp.1 c_18
      refine lv_iconst (v := (-1)) hx hb dX11_turned_31 (by decide) ?_
      exact hJ32 v3 0 (-1) hp _ _ _ ho (lv_sub hl [0, 3] rfl)
    · replace hp := hp.2 c_18
      refine lv_aload_n hx hb dX11_turned_21 rfl (lv_at hl 0 rfl) ?_
      refine lv_iload_n hx hb dX11_turned_22 rfl (lv_at hl 1 rfl) ?_
      refine lv_iload_n hx hb dX11_turned_23 rfl (lv_at hl 2 rfl) ?_
      refine lv_i2l (v := ((v2 : Int32).toInt64)) hx hb dX11_turned_24 rfl ?_
      refine o_callVi (rest := []) (ci := 11) ⟨hx, hb, hml, hown, hts⟩ ho (c_M_firstAt l D q c 0 mTn mCk mRw mSt mTr mFM mFS mTpN mLw mAt mTwN mBE mBEn mSun mCkT mCkD mCkK mCkA mRow mStT mRun mUp mSta mSty mDly mTri mFnd mTap mLwT mLwD mLwO mLwM mTwT mSetA mDri mOrd mBst v1 ((v2 : Int32).toInt64) _ hp) (cwV 2 hts gX11_turned_X11_firstAt rfl rfl rfl (by decide +kernel) ⟨(Nat.le_of_ble_eq_true rfl), (Nat.le_of_ble_eq_true rfl)⟩) 0 rfl rfl rfl hl.1 rfl (Nat.le_of_ble_eq_true rfl) dX11_turned_25 ⟨Nat.zero_le _, Nat.zero_le _⟩ (fun r25 u H locs hp ho => ?_)
      try dsimp only at hp
      replace ho : oW D (mT c) A s.heap s (wM q c 0 mTn mCk mRw mSt mTr mFM mFS mTpN mLw mAt mTwN mBE mBEn mSun mCkT mCkD mCkK mCkA mRow mStT mRun mUp mSta mSty mDly mTri mFnd mTap mLwT mLwD mLwO mLwM mTwT mSetA mDri mOrd mBst) H locs := ho
      refine lv_goto (tgt := 32) hx hb dX11_turned_28 (by decide) ?_
      exact hJ32 v3 0 r25 hp _ _ _ ho (lv_sub hl [0, 3] rfl)
set_option maxHeartbeats 4000000 in
set_option maxRecDepth 100000 in
theorem c_M_unlike (l : Launch) (D : va_G) (q : Nat → Nat) (c : Nat → ClassId) (mThr : Int32) (mTn : Int32) (mCk : Int32) (mRw : Int32) (mSt : Int32) (mTr : Int32) (mFM : Int32) (mFS : Int32) (mTpN : Int32) (mLw : Int32) (mAt : Int32) (mTwN : Int32) (mBE : Int32) (mBEn : Int32) (mSun : Nat → Int32) (mCkT : Nat → Int32) (mCkD : Nat → Int32) (mCkK : Nat → Int32) (mCkA : Nat → Int32) (mRow : Nat → Int32) (mStT : Nat → Int32) (mRun : Nat → Int32) (mUp : Nat → Int32) (mSta : Nat → Int32) (mSty : Nat → Int32) (mDly : Nat → Int32) (mTri : Nat → Int32) (mFnd : Nat → Int32) (mTap : Nat → Int32) (mLwT : Nat → Int32) (mLwD : Nat → Int32) (mLwO : Nat → Int32) (mLwM : Nat → Int32) (mTwT : Nat → Int32) (mSetA : Nat → Int32) (mDri : Nat → Int32) (mOrd : Nat → Int32) (mBst : Nat → Int32) (v1 : Int32) (v2 : Int32) (Q : Int32 → Int32 → Prop) (hp : p_M_unlike mTn mCk mSun mCkT mCkD mCkK mCkA mThr v1 v2 Q) : oKi l yX11_unlike wsX11_unlike { frames := 2, cells := 0, slots := 0, locals := 46 } [.ref (q 0), .int v1, .int v2] D (mT c) (wM q c mThr mTn mCk mRw mSt mTr mFM mFS mTpN mLw mAt mTwN mBE mBEn mSun mCkT mCkD mCkK mCkA mRow mStT mRun mUp mSta mSty mDly mTri mFnd mTap mLwT mLwD mLwO mLwM mTwT mSetA mDri mOrd mBst) (Int32) (fun r (u : Int32) => Q r u) (fun u => wM q c u mTn mCk mRw mSt mTr mFM mFS mTpN mLw mAt mTwN mBE mBEn mSun mCkT mCkD mCkK mCkA mRow mStT mRun mUp mSta mSty mDly mTri mFnd mTap mLwT mLwD mLwO mLwM mTwT mSetA mDri mOrd mBst) := by
  refine oKi.ofW (own := RX11) (cc := cX11_unlike) (maxL := 5) (plainFor_of_name (by decide +kernel)) rfl rfl (Nat.le_of_ble_eq_true rfl) (fun p e s m args below meth cd A ls Z hx hb hml hown hts hret ho hl => ?_)
  replace hl : lv_has ls 5 [(0, .ref (q 0)), (1, .int v1), (2, .int v2)] := hl
  have hinX11 : ∀ w ∈ u_ws RX11 TX11 38, w ∈ wsX11_unlike := by decide +kernel
  have hf83 := hts (.fieldLink RX11 83 "OneTimeModel" "thrown" "I") (by decide +kernel)
  unfold p_M_unlike at hp
  have hL28 : ∀ (v1 : Int32) (v2 : Int32) (mThr : Int32) (v3 : Int32) (v4 : Int32), Lp2 (p_M_unlike_L28 mTn mCk mSun mCkT mCkD mCkK mCkA v1 v2 mThr Q) v3 v4 → ∀ (H : Heap) (locs : List Loc) (ls : Array Slot), oW D (mT c) A s.heap s (wM q c mThr mTn mCk mRw mSt mTr mFM mFS mTpN mLw mAt mTwN mBE mBEn mSun mCkT mCkD mCkK mCkA mRow mStT mRun mUp mSta mSty mDly mTri mFnd mTap mLwT mLwD mLwO mLwM mTwT mSetA mDri mOrd mBst) H locs → lv_has ls 5 [(0, .ref (q 0)), (1, .int v1), (2, .int v2), (3, .int v3), (4, .int v4)] → W p l e { frames := 2, cells := 0, slots := 0, locals := 46 } s m args below meth cd H locs 0 0 Z (F0 m 28 ls []) := by
    intro v1 v2 mThr
    refine Lp2.ind (fun rec hrec v3 v4 hp H locs ls ho hl => ?_)
    unfold p_M_unlike_L28 at hp
    refine lv_iload hx hb dX11_unlike_28 (lv_at hl 4 rfl) ?_
    refine lv_sipush (v := 400) hx hb dX11_unlike_30 (by decide) ?_
    refine lv_icmp_ge (tgt := 67) hx hb dX11_unlike_33 (by decide) (fun c_33 => ?_) (fun c_33 => ?_)
    · replace hp := hp.1 c_33
      refine lv_iload_n hx hb dX11_unlike_67 rfl (lv_at hl 3 rfl) ?_
      exact hret v3 mThr _ _ _ _ dX11_unlike_68 ho hp
    · replace hp := hp.2 c_33
      refine lv_iload_n hx hb dX11_unlike_36 rfl (lv_at hl 3 rfl) ?_
      refine lv_aload_n hx hb dX11_unlike_37 rfl (lv_at hl 0 rfl) ?_
      refine lv_iload_n hx hb dX11_unlike_38 rfl (lv_at hl 1 rfl) ?_
      refine lv_iload hx hb dX11_unlike_39 (lv_at hl 4 rfl) ?_
      refine o_callVi (rest := [.int v3]) (ci := 11) ⟨hx, hb, hml, hown, hts⟩ ho (c_M_ahead l D q c mThr mTn mCk mRw mSt mTr mFM mFS mTpN mLw mAt mTwN mBE mBEn mSun mCkT mCkD mCkK mCkA mRow mStT mRun mUp mSta mSty mDly mTri mFnd mTap mLwT mLwD mLwO mLwM mTwT mSetA mDri mOrd mBst v1 v4 _ hp) (cwV 2 hts gX11_unlike_X11_ahead rfl rfl rfl (by decide +kernel) ⟨(Nat.le_of_ble_eq_true rfl), (Nat.le_of_ble_eq_true rfl)⟩) 0 rfl rfl rfl hl.1 rfl (Nat.le_of_ble_eq_true rfl) dX11_unlike_41 ⟨Nat.zero_le _, Nat.zero_le _⟩ (fun r41 u H locs hp ho => ?_)
      try dsimp only at hp
      replace ho : oW D (mT c) A s.heap s (wM q c mThr mTn mCk mRw mSt mTr mFM mFS mTpN mLw mAt mTwN mBE mBEn mSun mCkT mCkD mCkK mCkA mRow mStT mRun mUp mSta mSty mDly mTri mFnd mTap mLwT mLwD mLwO mLwM mTwT mSetA mDri mOrd mBst) H locs := ho
      refine lv_aload_n hx hb dX11_unlike_44 rfl (lv_at hl 0 rfl) ?_
      refine lv_iload_n hx hb dX11_unlike_45 rfl (lv_at hl 2 rfl) ?_
      refine lv_iload hx hb dX11_unlike_46 (lv_at hl 4 rfl) ?_
      refine o_callVi (rest := [.int r41, .int v3]) (ci := 11) ⟨hx, hb, hml, hown, hts⟩ ho (c_M_ahead l D q c mThr mTn mCk mRw mSt mTr mFM mFS mTpN mLw mAt mTwN mBE mBEn mSun mCkT mCkD mCkK mCkA mRow mStT mRun mUp mSta mSty mDly mTri mFnd mTap mLwT mLwD mLwO mLwM mTwT mSetA mDri mOrd mBst v2 v4 _ hp) (cwV 2 hts gX11_unlike_X11_ahead rfl rfl rfl (by decide +kernel) ⟨(Nat.le_of_ble_eq_true rfl), (Nat.le_of_ble_eq_true rfl)⟩) 0 rfl rfl rfl hl.1 rfl (Nat.le_of_ble_eq_true rfl) dX11_unlike_48 ⟨Nat.zero_le _, Nat.zero_le _⟩ (fun r48 u H locs hp ho => ?_)
      try dsimp only at hp
      replace ho : oW D (mT c) A s.heap s (wM q c mThr mTn mCk mRw mSt mTr mFM mFS mTpN mLw mAt mTwN mBE mBEn mSun mCkT mCkD mCkK mCkA mRow mStT mRun mUp mSta mSty mDly mTri mFnd mTap mLwT mLwD mLwO mLwM mTwT mSetA mDri mOrd mBst) H locs := ho
      refine lv_icmp_ne (tgt := 58) hx hb dX11_unlike_51 (by decide) (fun c_51 => ?_) (fun c_51 => ?_)
      · replace hp := hp.2 c_51
        refine lv_iconst (v := 1) hx hb dX11_unlike_58 (by decide) ?_
        refine lv_iadd hx hb dX11_unlike_59 ?_
        refine lv_topi (fun x60 e_x60 => ?_)
        replace hp := hp x60 e_x60
        refine lv_istore_n (lv' := [(3, .int x60), (0, .ref (q 0)), (1, .int v1), (2, .int v2), (4, .int v4)]) hx hb dX11_unlike_60 rfl hl (by decide) rfl (fun ls hl => ?_)
        obtain ⟨x61, e_x61⟩ : ∃ y : Int32, y = v4 + 1 := ⟨_, rfl⟩
        replace hp := hp x61 e_x61
        refine lv_iinc (v := x61) (lv' := [(4, .int x61), (3, .int x60), (0, .ref (q 0)), (1, .int v1), (2, .int v2)]) hx hb dX11_unlike_61 hl (k := 4) rfl (by rw [e_x61]; rfl) (by decide) rfl (fun ls hl => ?_)
        refine lv_goto (tgt := 28) hx hb dX11_unlike_64 (by decide) ?_
        exact hrec x60 x61 hp _ _ _ ho (lv_sub hl [2, 3, 4, 1, 0] rfl)
      · replace hp := hp.1 c_51
        refine lv_iconst (v := 0) hx hb dX11_unlike_54 (by decide) ?_
        refine lv_goto (tgt := 59) hx hb dX11_unlike_55 (by decide) ?_
        refine lv_iadd hx hb dX11_unlike_59 ?_
        refine lv_topi (fun x60 e_x60 => ?_)
        replace hp := hp x60 e_x60
        refine lv_istore_n (lv' := [(3, .int x60), (0, .ref (q 0)), (1, .int v1), (2, .int v2), (4, .int v4)]) hx hb dX11_unlike_60 rfl hl (by decide) rfl (fun ls hl => ?_)
        obtain ⟨x61, e_x61⟩ : ∃ y : Int32, y = v4 + 1 := ⟨_, rfl⟩
        replace hp := hp x61 e_x61
        refine lv_iinc (v := x61) (lv' := [(4, .int x61), (3, .int x60), (0, .ref (q 0)), (1, .int v1), (2, .int v2)]) hx hb dX11_unlike_61 hl (k := 4) rfl (by rw [e_x61]; rfl) (by decide) rfl (fun ls hl => ?_)
        refine lv_goto (tgt := 28) hx hb dX11_unlike_64 (by decide) ?_
        exact hrec x60 x61 hp _ _ _ ho (lv_sub hl [2, 3, 4, 1, 0] rfl)
  refine lv_aload_n hx hb dX11_unlike_0 rfl (lv_at hl 0 rfl) ?_
  refine lv_iconst (v := 0) hx hb dX11_unlike_1 (by decide) ?_
  refine o_put (ci := 11) (T := TX11) hx hb hts hinX11 tyX11_ok nmX11 hown ho 0 rfl rfl 0 (by decide) hf83 rfl (tyX11_ok 0 (by decide)) (Nat.le_of_ble_eq_true rfl) dX11_unlike_2 (fun H locs ho => ?_)
  replace ho : oW D (mT c) A s.heap s (wM q c 0 mTn mCk mRw mSt mTr mFM mFS mTpN mLw mAt mTwN mBE mBEn mSun mCkT mCkD mCkK mCkA mRow mStT mRun mUp mSta mSty mDly mTri mFnd mTap mLwT mLwD mLwO mLwM mTwT mSetA mDri mOrd mBst) H locs := ho
  refine lv_aload_n hx hb dX11_unlike_5 rfl (lv_at hl 0 rfl) ?_
  refine lv_iload_n hx hb dX11_unlike_6 rfl (lv_at hl 1 rfl) ?_
  refine o_callVi (rest := []) (ci := 11) ⟨hx, hb, hml, hown, hts⟩ ho (c_M_isTown l D q c 0 mTn mCk mRw mSt mTr mFM mFS mTpN mLw mAt mTwN mBE mBEn mSun mCkT mCkD mCkK mCkA mRow mStT mRun mUp mSta mSty mDly mTri mFnd mTap mLwT mLwD mLwO mLwM mTwT mSetA mDri mOrd mBst v1 _ hp) (cwV 1 hts gX11_unlike_X11_isTown rfl rfl rfl (by decide +kernel) ⟨(Nat.le_of_ble_eq_true rfl), (Nat.le_of_ble_eq_true rfl)⟩) 0 rfl rfl rfl hl.1 rfl (Nat.le_of_ble_eq_true rfl) dX11_unlike_7 ⟨Nat.zero_le _, Nat.zero_le _⟩ (fun r7 u H locs hp ho => ?_)
  try dsimp only at hp
  replace ho : oW D (mT c) A s.heap s (wM q c 0 mTn mCk mRw mSt mTr mFM mFS mTpN mLw mAt mTwN mBE mBEn mSun mCkT mCkD mCkK mCkA mRow mStT mRun mUp mSta mSty mDly mTri mFnd mTap mLwT mLwD mLwO mLwM mTwT mSetA mDri mOrd mBst) H locs := ho
  refine lv_if_eq (tgt := 21) hx hb dX11_unlike_10 (by decide) (fun c_10 => ?_) (fun c_10 => ?_)
  · replace hp := hp.1 c_10
    refine lv_iconst (v := (-1)) hx hb dX11_unlike_21 (by decide) ?_
    exact hret (-1) 0 _ _ _ _ dX11_unlike_22 ho hp
  · replace hp := hp.2 c_10
    refine lv_aload_n hx hb dX11_unlike_13 rfl (lv_at hl 0 rfl) ?_
    refine lv_iload_n hx hb dX11_unlike_14 rfl (lv_at hl 2 rfl) ?_
    refine o_callVi (rest := []) (ci := 11) ⟨hx, hb, hml, hown, hts⟩ ho (c_M_isTown l D q c 0 mTn mCk mRw mSt mTr mFM mFS mTpN mLw mAt mTwN mBE mBEn mSun mCkT mCkD mCkK mCkA mRow mStT mRun mUp mSta mSty mDly mTri mFnd mTap mLwT mLwD mLwO mLwM mTwT mSetA mDri mOrd mBst v2 _ hp) (cwV 1 hts gX11_unlike_X11_isTown rfl rfl rfl (by decide +kernel) ⟨(Nat.le_of_ble_eq_true rfl), (Nat.le_of_ble_eq_true rfl)⟩) 0 rfl rfl rfl hl.1 rfl (Nat.le_of_ble_eq_true rfl) dX11_unlike_15 ⟨Nat.zero_le _, Nat.zero_le _⟩ (fun r15 u H locs hp ho => ?_)
    try dsimp only at hp
    replace ho : oW D (mT c) A s.heap s (wM q c 0 mTn mCk mRw mSt mTr mFM mFS mTpN mLw mAt mTwN mBE mBEn mSun mCkT mCkD mCkK mCkA mRow mStT mRun mUp mSta mSty mDly mTri mFnd mTap mLwT mLwD mLwO mLwM mTwT mSetA mDri mOrd mBst) H locs := ho
    refine lv_if_ne (tgt := 23) hx hb dX11_unlike_18 (by decide) (fun c_18 => ?_) (fun c_18 => ?_)
    · replace hp := hp.2 c_18
      refine lv_iconst (v := 0) hx hb dX11_unlike_23 (by decide) ?_
      refine lv_istore_n (lv' := [(3, .int 0), (0, .ref (q 0)), (1, .int v1), (2, .int v2)]) hx hb dX11_unlike_24 rfl hl (by decide) rfl (fun ls hl => ?_)
      refine lv_iconst (v := 0) hx hb dX11_unlike_25 (by decide) ?_
      refine lv_istore (lv' := [(4, .int 0), (3, .int 0), (0, .ref (q 0)), (1, .int v1), (2, .int v2)]) hx hb dX11_unlike_26 hl (by decide) rfl (fun ls hl => ?_)
      exact hL28 v1 v2 0 0 0 hp _ _ _ ho (lv_sub hl [2, 3, 4, 1, 0] rfl)
    · replace hp := hp.1 c_18
      refine lv_iconst (v := (-1)) hx hb dX11_unlike_21 (by decide) ?_
      exact hret (-1) 0 _ _ _ _ dX11_unlike_22 ho hp
set_option maxHeartbeats 4000000 in
set_option maxRecDepth 100000 in
theorem c_M_one (l : Launch) (D : va_G) (q : Nat → Nat) (c : Nat → ClassId) (mThr : Int32) (mTn : Int32) (mCk : Int32) (mRw : Int32) (mSt : Int32) (mTr : Int32) (mFM : Int32) (mFS : Int32) (mTpN : Int32) (mLw : Int32) (mAt : Int32) (mTwN : Int32) (mBE : Int32) (mBEn : Int32) (mSun : Nat → Int32) (mCkT : Nat → Int32) (mCkD : Nat → Int32) (mCkK : Nat → Int32) (mCkA : Nat → Int32) (mRow : Nat → Int32) (mStT : Nat → Int32) (mRun : Nat → Int32) (mUp : Nat → Int32) (mSta : Nat → Int32) (mSty : Nat → Int32) (mDly : Nat → Int32) (mTri : Nat → Int32) (mFnd : Nat → Int32) (mTap : Nat → Int32) (mLwT : Nat → Int32) (mLwD : Nat → Int32) (mLwO : Nat → Int32) (mLwM : Nat → Int32) (mTwT : Nat → Int32) (mSetA : Nat → Int32) (mDri : Nat → Int32) (mOrd : Nat → Int32) (mBst : Nat → Int32) (v1 : Int32) (Q : Int32 → Int32 → Prop) (hp : p_M_one mTn mCk mSun mCkT mCkD mCkK mCkA mThr v1 Q) : oKi l yX11_one wsX11_one { frames := 2, cells := 0, slots := 0, locals := 45 } [.ref (q 0), .int v1] D (mT c) (wM q c mThr mTn mCk mRw mSt mTr mFM mFS mTpN mLw mAt mTwN mBE mBEn mSun mCkT mCkD mCkK mCkA mRow mStT mRun mUp mSta mSty mDly mTri mFnd mTap mLwT mLwD mLwO mLwM mTwT mSetA mDri mOrd mBst) (Int32) (fun r (u : Int32) => Q r u) (fun u => wM q c u mTn mCk mRw mSt mTr mFM mFS mTpN mLw mAt mTwN mBE mBEn mSun mCkT mCkD mCkK mCkA mRow mStT mRun mUp mSta mSty mDly mTri mFnd mTap mLwT mLwD mLwO mLwM mTwT mSetA mDri mOrd mBst) := by
  refine oKi.ofW (own := RX11) (cc := cX11_one) (maxL := 5) (plainFor_of_name (by decide +kernel)) rfl rfl (Nat.le_of_ble_eq_true rfl) (fun p e s m args below meth cd A ls Z hx hb hml hown hts hret ho hl => ?_)
  replace hl : lv_has ls 5 [(0, .ref (q 0)), (1, .int v1)] := hl
  have hinX11 : ∀ w ∈ u_ws RX11 TX11 38, w ∈ wsX11_one := by decide +kernel
  have hf83 := hts (.fieldLink RX11 83 "OneTimeModel" "thrown" "I") (by decide +kernel)
  have hf87 := hts (.fieldLink RX11 87 "OneTimeModel" "towns" "I") (by decide +kernel)
  unfold p_M_one at hp
  have hL28 : ∀ (v2 : Int32) (mThr : Int32) (k16 : Int32 → Prop) (hk16 : ∀ (v2 : Int32), k16 v2 → ∀ (H : Heap) (locs : List Loc) (ls : Array Slot), oW D (mT c) A s.heap s (wM q c mThr mTn mCk mRw mSt mTr mFM mFS mTpN mLw mAt mTwN mBE mBEn mSun mCkT mCkD mCkK mCkA mRow mStT mRun mUp mSta mSty mDly mTri mFnd mTap mLwT mLwD mLwO mLwM mTwT mSetA mDri mOrd mBst) H locs → lv_has ls 5 [(0, .ref (q 0)), (2, .int v2)] → W p l e { frames := 2, cells := 0, slots := 0, locals := 45 } s m args below meth cd H locs 0 0 Z (F0 m 16 ls [])) (v3 : Int32) (v4 : Int32), Lp2 (p_M_one_L28 mTn mCk mSun mCkT mCkD mCkK mCkA v2 mThr k16 Q) v3 v4 → ∀ (H : Heap) (locs : List Loc) (ls : Array Slot), oW D (mT c) A s.heap s (wM q c mThr mTn mCk mRw mSt mTr mFM mFS mTpN mLw mAt mTwN mBE mBEn mSun mCkT mCkD mCkK mCkA mRow mStT mRun mUp mSta mSty mDly mTri mFnd mTap mLwT mLwD mLwO mLwM mTwT mSetA mDri mOrd mBst) H locs → lv_has ls 5 [(0, .ref (q 0)), (2, .int v2), (3, .int v3), (4, .int v4)] → W p l e { frames := 2, cells := 0, slots := 0, locals := 45 } s m args below meth cd H locs 0 0 Z (F0 m 28 ls []) := by
    intro v2 mThr k16 hk16
    refine Lp2.ind (fun rec hrec v3 v4 hp H locs ls ho hl => ?_)
    unfold p_M_one_L28 at hp
    refine lv_iload hx hb dX11_one_28 (lv_at hl 3 rfl) ?_
    refine lv_aload_n hx hb dX11_one_30 rfl (lv_at hl 0 rfl) ?_
    refine o_get (ci := 11) (T := TX11) hx hb hts hinX11 hown ho 0 rfl rfl 1 (by decide) hf87 rfl dX11_one_31 ?_
    refine lv_icmp_ge (tgt := 69) hx hb dX11_one_34 (by decide) (fun c_34 => ?_) (fun c_34 => ?_)
    · replace hp := hp.1 c_34
      refine lv_iload_n hx hb dX11_one_69 rfl (lv_at hl 2 rfl) ?_
      refine lv_if_eq (tgt := 75) hx hb dX11_one_70 (by decide) (fun c_70 => ?_) (fun c_70 => ?_)
      · replace hp := hp.1 c_70
        obtain ⟨x75, e_x75⟩ : ∃ y : Int32, y = v2 + 1 := ⟨_, rfl⟩
        replace hp := hp x75 e_x75
        refine lv_iinc (v := x75) (lv' := [(2, .int x75), (0, .ref (q 0)), (3, .int v3), (4, .int v4)]) hx hb dX11_one_75 hl (k := 1) rfl (by rw [e_x75]; rfl) (by decide) rfl (fun ls hl => ?_)
        refine lv_goto (tgt := 16) hx hb dX11_one_78 (by decide) ?_
        exact hk16 x75 hp _ _ _ ho (lv_sub hl [1, 0] rfl)
      · replace hp := hp.2 c_70
        refine lv_iload_n hx hb dX11_one_73 rfl (lv_at hl 1 rfl) ?_
        exact hret v2 mThr _ _ _ _ dX11_one_74 ho hp
    · replace hp := hp.2 c_34
      refine lv_iload_n hx hb dX11_one_37 rfl (lv_at hl 2 rfl) ?_
      refine lv_if_eq (tgt := 61) hx hb dX11_one_38 (by decide) (fun c_38 => ?_) (fun c_38 => ?_)
      · replace hp := hp.1 c_38
        refine lv_iconst (v := 0) hx hb dX11_one_61 (by decide) ?_
        refine lv_istore_n (lv' := [(3, .int 0), (0, .ref (q 0)), (2, .int v2), (4, .int v4)]) hx hb dX11_one_62 rfl hl (by decide) rfl (fun ls hl => ?_)
        obtain ⟨x63, e_x63⟩ : ∃ y : Int32, y = v4 + 1 := ⟨_, rfl⟩
        replace hp := hp x63 e_x63
        refine lv_iinc (v := x63) (lv' := [(4, .int x63), (3, .int 0), (0, .ref (q 0)), (2, .int v2)]) hx hb dX11_one_63 hl (k := 3) rfl (by rw [e_x63]; rfl) (by decide) rfl (fun ls hl => ?_)
        refine lv_goto (tgt := 28) hx hb dX11_one_66 (by decide) ?_
        exact hrec 0 x63 hp _ _ _ ho (lv_sub hl [2, 3, 1, 0] rfl)
      · replace hp := hp.2 c_38
        refine lv_aload_n hx hb dX11_one_41 rfl (lv_at hl 0 rfl) ?_
        refine lv_iload hx hb dX11_one_42 (lv_at hl 3 rfl) ?_
        refine lv_iload_n hx hb dX11_one_44 rfl (lv_at hl 1 rfl) ?_
        refine o_callVi (rest := []) (ci := 11) ⟨hx, hb, hml, hown, hts⟩ ho (c_M_ahead l D q c mThr mTn mCk mRw mSt mTr mFM mFS mTpN mLw mAt mTwN mBE mBEn mSun mCkT mCkD mCkK mCkA mRow mStT mRun mUp mSta mSty mDly mTri mFnd mTap mLwT mLwD mLwO mLwM mTwT mSetA mDri mOrd mBst v4 v2 _ hp) (cwV 2 hts gX11_one_X11_ahead rfl rfl rfl (by decide +kernel) ⟨(Nat.le_of_ble_eq_true rfl), (Nat.le_of_ble_eq_true rfl)⟩) 0 rfl rfl rfl hl.1 rfl (Nat.le_of_ble_eq_true rfl) dX11_one_45 ⟨Nat.zero_le _, Nat.zero_le _⟩ (fun r45 u H locs hp ho => ?_)
        try dsimp only at hp
        replace ho : oW D (mT c) A s.heap s (wM q c mThr mTn mCk mRw mSt mTr mFM mFS mTpN mLw mAt mTwN mBE mBEn mSun mCkT mCkD mCkK mCkA mRow mStT mRun mUp mSta mSty mDly mTri mFnd mTap mLwT mLwD mLwO mLwM mTwT mSetA mDri mOrd mBst) H locs := ho
        refine lv_aload_n hx hb dX11_one_48 rfl (lv_at hl 0 rfl) ?_
        refine lv_iconst (v := 0) hx hb dX11_one_49 (by decide) ?_
        refine lv_iload_n hx hb dX11_one_50 rfl (lv_at hl 1 rfl) ?_
        refine o_callVi (rest := [.int r45]) (ci := 11) ⟨hx, hb, hml, hown, hts⟩ ho (c_M_ahead l D q c mThr mTn mCk mRw mSt mTr mFM mFS mTpN mLw mAt mTwN mBE mBEn mSun mCkT mCkD mCkK mCkA mRow mStT mRun mUp mSta mSty mDly mTri mFnd mTap mLwT mLwD mLwO mLwM mTwT mSetA mDri mOrd mBst 0 v2 _ hp) (cwV 2 hts gX11_one_X11_ahead rfl rfl rfl (by decide +kernel) ⟨(Nat.le_of_ble_eq_true rfl), (Nat.le_of_ble_eq_true rfl)⟩) 0 rfl rfl rfl hl.1 rfl (Nat.le_of_ble_eq_true rfl) dX11_one_51 ⟨Nat.zero_le _, Nat.zero_le _⟩ (fun r51 u H locs hp ho => ?_)
        try dsimp only at hp
        replace ho : oW D (mT c) A s.heap s (wM q c mThr mTn mCk mRw mSt mTr mFM mFS mTpN mLw mAt mTwN mBE mBEn mSun mCkT mCkD mCkK mCkA mRow mStT mRun mUp mSta mSty mDly mTri mFnd mTap mLwT mLwD mLwO mLwM mTwT mSetA mDri mOrd mBst) H locs := ho
        refine lv_icmp_ne (tgt := 61) hx hb dX11_one_54 (by decide) (fun c_54 => ?_) (fun c_54 => ?_)
        · replace hp := hp.2 c_54
          refine lv_iconst (v := 0) hx hb dX11_one_61 (by decide) ?_
          refine lv_istore_n (lv' := [(3, .int 0), (0, .ref (q 0)), (2, .int v2), (4, .int v4)]) hx hb dX11_one_62 rfl hl (by decide) rfl (fun ls hl => ?_)
          obtain ⟨x63, e_x63⟩ : ∃ y : Int32, y = v4 + 1 := ⟨_, rfl⟩
          replace hp := hp x63 e_x63
          refine lv_iinc (v := x63) (lv' := [(4, .int x63), (3, .int 0), (0, .ref (q 0)), (2, .int v2)]) hx hb dX11_one_63 hl (k := 3) rfl (by rw [e_x63]; rfl) (by decide) rfl (fun ls hl => ?_)
          refine lv_goto (tgt := 28) hx hb dX11_one_66 (by decide) ?_
          exact hrec 0 x63 hp _ _ _ ho (lv_sub hl [2, 3, 1, 0] rfl)
        · replace hp := hp.1 c_54
          refine lv_iconst (v := 1) hx hb dX11_one_57 (by decide) ?_
          refine lv_goto (tgt := 62) hx hb dX11_one_58 (by decide) ?_
          refine lv_istore_n (lv' := [(3, .int 1), (0, .ref (q 0)), (2, .int v2), (4, .int v4)]) hx hb dX11_one_62 rfl hl (by decide) rfl (fun ls hl => ?_)
          obtain ⟨x63, e_x63⟩ : ∃ y : Int32, y = v4 + 1 := ⟨_, rfl⟩
          replace hp := hp x63 e_x63
          refine lv_iinc (v := x63) (lv' := [(4, .int x63), (3, .int 1), (0, .ref (q 0)), (2, .int v2)]) hx hb dX11_one_63 hl (k := 3) rfl (by rw [e_x63]; rfl) (by decide) rfl (fun ls hl => ?_)
          refine lv_goto (tgt := 28) hx hb dX11_one_66 (by decide) ?_
          exact hrec 1 x63 hp _ _ _ ho (lv_sub hl [2, 3, 1, 0] rfl)
  have hL16 : ∀ (mThr : Int32) (v2 : Int32), Lp1 (p_M_one_L16 mTn mCk mSun mCkT mCkD mCkK mCkA mThr Q) v2 → ∀ (H : Heap) (locs : List Loc) (ls : Array Slot), oW D (mT c) A s.heap s (wM q c mThr mTn mCk mRw mSt mTr mFM mFS mTpN mLw mAt mTwN mBE mBEn mSun mCkT mCkD mCkK mCkA mRow mStT mRun mUp mSta mSty mDly mTri mFnd mTap mLwT mLwD mLwO mLwM mTwT mSetA mDri mOrd mBst) H locs → lv_has ls 5 [(0, .ref (q 0)), (2, .int v2)] → W p l e { frames := 2, cells := 0, slots := 0, locals := 45 } s m args below meth cd H locs 0 0 Z (F0 m 16 ls []) := by
    intro mThr
    refine Lp1.ind (fun rec hrec v2 hp H locs ls ho hl => ?_)
    unfold p_M_one_L16 at hp
    refine lv_iload_n hx hb dX11_one_16 rfl (lv_at hl 1 rfl) ?_
    refine lv_sipush (v := 400) hx hb dX11_one_17 (by decide) ?_
    refine lv_icmp_ge (tgt := 81) hx hb dX11_one_20 (by decide) (fun c_20 => ?_) (fun c_20 => ?_)
    · replace hp := hp.1 c_20
      refine lv_iconst (v := (-1)) hx hb dX11_one_81 (by decide) ?_
      exact hret (-1) mThr _ _ _ _ dX11_one_82 ho hp
    · replace hp := hp.2 c_20
      refine lv_iconst (v := 1) hx hb dX11_one_23 (by decide) ?_
      refine lv_istore_n (lv' := [(3, .int 1), (0, .ref (q 0)), (2, .int v2)]) hx hb dX11_one_24 rfl hl (by decide) rfl (fun ls hl => ?_)
      refine lv_iconst (v := 1) hx hb dX11_one_25 (by decide) ?_
      refine lv_istore (lv' := [(4, .int 1), (3, .int 1), (0, .ref (q 0)), (2, .int v2)]) hx hb dX11_one_26 hl (by decide) rfl (fun ls hl => ?_)
      exact hL28 v2 mThr rec hrec 1 1 hp _ _ _ ho (lv_sub hl [2, 3, 1, 0] rfl)
  refine lv_aload_n hx hb dX11_one_0 rfl (lv_at hl 0 rfl) ?_
  refine lv_iconst (v := 0) hx hb dX11_one_1 (by decide) ?_
  refine o_put (ci := 11) (T := TX11) hx hb hts hinX11 tyX11_ok nmX11 hown ho 0 rfl rfl 0 (by decide) hf83 rfl (tyX11_ok 0 (by decide)) (Nat.le_of_ble_eq_true rfl) dX11_one_2 (fun H locs ho => ?_)
  replace ho : oW D (mT c) A s.heap s (wM q c 0 mTn mCk mRw mSt mTr mFM mFS mTpN mLw mAt mTwN mBE mBEn mSun mCkT mCkD mCkK mCkA mRow mStT mRun mUp mSta mSty mDly mTri mFnd mTap mLwT mLwD mLwO mLwM mTwT mSetA mDri mOrd mBst) H locs := ho
  refine lv_iload_n hx hb dX11_one_5 rfl (lv_at hl 1 rfl) ?_
  refine o_callSi (rest := []) ⟨hx, hb, hml, hown, hts⟩ ho (c_M_isDay l D (mT c) (wM q c 0 mTn mCk mRw mSt mTr mFM mFS mTpN mLw mAt mTwN mBE mBEn mSun mCkT mCkD mCkK mCkA mRow mStT mRun mUp mSta mSty mDly mTri mFnd mTap mLwT mLwD mLwO mLwM mTwT mSetA mDri mOrd mBst) v1 _ hp) (va_cwS 1 hts gX11_one_X11_isDay rfl rfl rfl (by decide +kernel) ⟨(Nat.le_of_ble_eq_true rfl), (Nat.le_of_ble_eq_true rfl)⟩) rfl hl.1 rfl (Nat.le_of_ble_eq_true rfl) dX11_one_6 ⟨Nat.zero_le _, Nat.zero_le _⟩ (fun r6 u H locs hp ho => ?_)
  try dsimp only at hp
  replace ho : oW D (mT c) A s.heap s (wM q c 0 mTn mCk mRw mSt mTr mFM mFS mTpN mLw mAt mTwN mBE mBEn mSun mCkT mCkD mCkK mCkA mRow mStT mRun mUp mSta mSty mDly mTri mFnd mTap mLwT mLwD mLwO mLwM mTwT mSetA mDri mOrd mBst) H locs := ho
  refine lv_if_ne (tgt := 14) hx hb dX11_one_9 (by decide) (fun c_9 => ?_) (fun c_9 => ?_)
  · replace hp := hp.2 c_9
    refine lv_iload_n hx hb dX11_one_14 rfl (lv_at hl 1 rfl) ?_
    refine lv_istore_n (lv' := [(2, .int v1), (0, .ref (q 0)), (1, .int v1)]) hx hb dX11_one_15 rfl hl (by decide) rfl (fun ls hl => ?_)
    exact hL16 0 v1 hp _ _ _ ho (lv_sub hl [1, 0] rfl)
  · replace hp := hp.1 c_9
    refine lv_iconst (v := (-1)) hx hb dX11_one_12 (by decide) ?_
    exact hret (-1) 0 _ _ _ _ dX11_one_13 ho hp
set_option maxHeartbeats 4000000 in
set_option maxRecDepth 100000 in
theorem c_M_station (l : Launch) (D : va_G) (q : Nat → Nat) (c : Nat → ClassId) (mThr : Int32) (mTn : Int32) (mCk : Int32) (mRw : Int32) (mSt : Int32) (mTr : Int32) (mFM : Int32) (mFS : Int32) (mTpN : Int32) (mLw : Int32) (mAt : Int32) (mTwN : Int32) (mBE : Int32) (mBEn : Int32) (mSun : Nat → Int32) (mCkT : Nat → Int32) (mCkD : Nat → Int32) (mCkK : Nat → Int32) (mCkA : Nat → Int32) (mRow : Nat → Int32) (mStT : Nat → Int32) (mRun : Nat → Int32) (mUp : Nat → Int32) (mSta : Nat → Int32) (mSty : Nat → Int32) (mDly : Nat → Int32) (mTri : Nat → Int32) (mFnd : Nat → Int32) (mTap : Nat → Int32) (mLwT : Nat → Int32) (mLwD : Nat → Int32) (mLwO : Nat → Int32) (mLwM : Nat → Int32) (mTwT : Nat → Int32) (mSetA : Nat → Int32) (mDri : Nat → Int32) (mOrd : Nat → Int32) (mBst : Nat → Int32) (v1 : Int32) (v2 : Int32) (Q : Int32 → Int32 → Int32 → (Nat → Int32) → (Nat → Int32) → Prop) (hp : p_M_station mTn mTr mThr mSt mStT mRun v1 v2 Q) : oKi l yX11_station wsX11_station { frames := 2, cells := 0, slots := 0, locals := 46 } [.ref (q 0), .int v1, .int v2] D (mT c) (wM q c mThr mTn mCk mRw mSt mTr mFM mFS mTpN mLw mAt mTwN mBE mBEn mSun mCkT mCkD mCkK mCkA mRow mStT mRun mUp mSta mSty mDly mTri mFnd mTap mLwT mLwD mLwO mLwM mTwT mSetA mDri mOrd mBst) (Int32 × Int32 × (Nat → Int32) × (Nat → Int32)) (fun r (u : Int32 × Int32 × (Nat → Int32) × (Nat → Int32)) => Q r u.1 u.2.1 u.2.2.1 u.2.2.2) (fun u => wM q c u.1 mTn mCk mRw u.2.1 mTr mFM mFS mTpN mLw mAt mTwN mBE mBEn mSun mCkT mCkD mCkK mCkA mRow u.2.2.1 u.2.2.2 mUp mSta mSty mDly mTri mFnd mTap mLwT mLwD mLwO mLwM mTwT mSetA mDri mOrd mBst) := by
  refine oKi.ofW (own := RX11) (cc := cX11_station) (maxL := 3) (plainFor_of_name (by decide +kernel)) rfl rfl (Nat.le_of_ble_eq_true rfl) (fun p e s m args below meth cd A ls Z hx hb hml hown hts hret ho hl => ?_)
  replace hl : lv_has ls 3 [(0, .ref (q 0)), (1, .int v1), (2, .int v2)] := hl
  have hinX11 : ∀ w ∈ u_ws RX11 TX11 38, w ∈ wsX11_station := by decide +kernel
  have hf28 := hts (.fieldLink RX11 28 "OneTimeModel" "stationTown" "[I") (by decide +kernel)
  have hf31 := hts (.fieldLink RX11 31 "OneTimeModel" "run" "[I") (by decide +kernel)
  have hf83 := hts (.fieldLink RX11 83 "OneTimeModel" "thrown" "I") (by decide +kernel)
  have hf118 := hts (.fieldLink RX11 118 "OneTimeModel" "stations" "I") (by decide +kernel)
  have hf121 := hts (.fieldLink RX11 121 "OneTimeModel" "trains" "I") (by decide +kernel)
  have hk153 := hts (.constantLong RX11 153 600) (by decide +kernel)
  unfold p_M_station at hp
  have hJ32 : ∀ (v1 : Int32) (v2 : Int32) (mThr : Int32) (mSt : Int32) (mStT : Nat → Int32) (mRun : Nat → Int32), p_M_station_J32 mTn mTr v1 v2 mThr mSt mStT mRun Q → ∀ (H : Heap) (locs : List Loc) (ls : Array Slot), oW D (mT c) A s.heap s (wM q c mThr mTn mCk mRw mSt mTr mFM mFS mTpN mLw mAt mTwN mBE mBEn mSun mCkT mCkD mCkK mCkA mRow mStT mRun mUp mSta mSty mDly mTri mFnd mTap mLwT mLwD mLwO mLwM mTwT mSetA mDri mOrd mBst) H locs → lv_has ls 3 [(0, .ref (q 0)), (1, .int v1), (2, .int v2)] → W p l e { frames := 2, cells := 0, slots := 0, locals := 46 } s m args below meth cd H locs 0 0 Z (F0 m 32 ls []) := by
    intro v1 v2 mThr mSt mStT mRun
    intro hp H locs ls ho hl
    unfold p_M_station_J32 at hp
    refine lv_aload_n hx hb dX11_station_32 rfl (lv_at hl 0 rfl) ?_
    refine o_get (ci := 11) (T := TX11) hx hb hts hinX11 hown ho 0 rfl rfl 10 (by decide) hf118 rfl dX11_station_33 ?_
    refine lv_bipush (v := 6) hx hb dX11_station_36 (by decide) ?_
    refine lv_icmp_eq (tgt := 48) hx hb dX11_station_38 (by decide) (fun c_38 => ?_) (fun c_38 => ?_)
    · replace hp := hp.1 c_38
      refine lv_iconst (v := (-1)) hx hb dX11_station_48 (by decide) ?_
      exact hret (-1) (mThr, mSt, mStT, mRun) _ _ _ _ dX11_station_49 ho hp
    · replace hp := hp.2 c_38
      refine lv_aload_n hx hb dX11_station_41 rfl (lv_at hl 0 rfl) ?_
      refine o_get (ci := 11) (T := TX11) hx hb hts hinX11 hown ho 0 rfl rfl 13 (by decide) hf121 rfl dX11_station_42 ?_
      refine lv_if_le (tgt := 50) hx hb dX11_station_45 (by decide) (fun c_45 => ?_) (fun c_45 => ?_)
      · replace hp := hp.1 c_45
        refine lv_aload_n hx hb dX11_station_50 rfl (lv_at hl 0 rfl) ?_
        refine o_get (ci := 11) (T := TX11) hx hb hts hinX11 hown ho 0 rfl rfl 11 (by decide) hf28 rfl dX11_station_51 ?_
        refine lv_aload_n hx hb dX11_station_54 rfl (lv_at hl 0 rfl) ?_
        refine o_get (ci := 11) (T := TX11) hx hb hts hinX11 hown ho 0 rfl rfl 10 (by decide) hf118 rfl dX11_station_55 ?_
        refine lv_iload_n hx hb dX11_station_58 rfl (lv_at hl 1 rfl) ?_
        refine o_ist hx hb ho 7 6 rfl rfl hp.1 dX11_station_59 (fun H locs ho => ?_)
        replace hp := hp.2
        replace ho : oW D (mT c) A s.heap s (wM q c mThr mTn mCk mRw mSt mTr mFM mFS mTpN mLw mAt mTwN mBE mBEn mSun mCkT mCkD mCkK mCkA mRow (upd mStT mSt.toNatClampNeg v1) mRun mUp mSta mSty mDly mTri mFnd mTap mLwT mLwD mLwO mLwM mTwT mSetA mDri mOrd mBst) H locs := ho
        refine lv_aload_n hx hb dX11_station_60 rfl (lv_at hl 0 rfl) ?_
        refine o_get (ci := 11) (T := TX11) hx hb hts hinX11 hown ho 0 rfl rfl 12 (by decide) hf31 rfl dX11_station_61 ?_
        refine lv_aload_n hx hb dX11_station_64 rfl (lv_at hl 0 rfl) ?_
        refine o_get (ci := 11) (T := TX11) hx hb hts hinX11 hown ho 0 rfl rfl 10 (by decide) hf118 rfl dX11_station_65 ?_
        refine lv_iload_n hx hb dX11_station_68 rfl (lv_at hl 2 rfl) ?_
        refine o_ist hx hb ho 8 7 rfl rfl hp.1 dX11_station_69 (fun H locs ho => ?_)
        replace hp := hp.2
        replace ho : oW D (mT c) A s.heap s (wM q c mThr mTn mCk mRw mSt mTr mFM mFS mTpN mLw mAt mTwN mBE mBEn mSun mCkT mCkD mCkK mCkA mRow (upd mStT mSt.toNatClampNeg v1) (upd mRun mSt.toNatClampNeg v2) mUp mSta mSty mDly mTri mFnd mTap mLwT mLwD mLwO mLwM mTwT mSetA mDri mOrd mBst) H locs := ho
        refine lv_aload_n hx hb dX11_station_70 rfl (lv_at hl 0 rfl) ?_
        refine lv_dup hx hb dX11_station_71 rfl ?_
        refine o_get (ci := 11) (T := TX11) hx hb hts hinX11 hown ho 0 rfl rfl 10 (by decide) hf118 rfl dX11_station_72 ?_
        refine lv_iconst (v := 1) hx hb dX11_station_75 (by decide) ?_
        refine lv_iadd hx hb dX11_station_76 ?_
        refine lv_topi (fun x77 e_x77 => ?_)
        replace hp := hp x77 e_x77
        refine o_put (ci := 11) (T := TX11) hx hb hts hinX11 tyX11_ok nmX11 hown ho 0 rfl rfl 10 (by decide) hf118 rfl (tyX11_ok 10 (by decide)) (Nat.le_of_ble_eq_true rfl) dX11_station_77 (fun H locs ho => ?_)
        replace ho : oW D (mT c) A s.heap s (wM q c mThr mTn mCk mRw x77 mTr mFM mFS mTpN mLw mAt mTwN mBE mBEn mSun mCkT mCkD mCkK mCkA mRow (upd mStT mSt.toNatClampNeg v1) (upd mRun mSt.toNatClampNeg v2) mUp mSta mSty mDly mTri mFnd mTap mLwT mLwD mLwO mLwM mTwT mSetA mDri mOrd mBst) H locs := ho
        refine lv_aload_n hx hb dX11_station_80 rfl (lv_at hl 0 rfl) ?_
        refine o_get (ci := 11) (T := TX11) hx hb hts hinX11 hown ho 0 rfl rfl 10 (by decide) hf118 rfl dX11_station_81 ?_
        refine lv_iconst (v := 1) hx hb dX11_station_84 (by decide) ?_
        refine lv_isub hx hb dX11_station_85 ?_
        exact hret (x77 - 1) (mThr, x77, upd mStT mSt.toNatClampNeg v1, upd mRun mSt.toNatClampNeg v2) _ _ _ _ dX11_station_86 ho hp
      · replace hp := hp.2 c_45
        refine lv_iconst (v := (-1)) hx hb dX11_station_48 (by decide) ?_
        exact hret (-1) (mThr, mSt, mStT, mRun) _ _ _ _ dX11_station_49 ho hp
  refine lv_aload_n hx hb dX11_station_0 rfl (lv_at hl 0 rfl) ?_
  refine lv_iconst (v := 0) hx hb dX11_station_1 (by decide) ?_
  refine o_put (ci := 11) (T := TX11) hx hb hts hinX11 tyX11_ok nmX11 hown ho 0 rfl rfl 0 (by decide) hf83 rfl (tyX11_ok 0 (by decide)) (Nat.le_of_ble_eq_true rfl) dX11_station_2 (fun H locs ho => ?_)
  replace ho : oW D (mT c) A s.heap s (wM q c 0 mTn mCk mRw mSt mTr mFM mFS mTpN mLw mAt mTwN mBE mBEn mSun mCkT mCkD mCkK mCkA mRow mStT mRun mUp mSta mSty mDly mTri mFnd mTap mLwT mLwD mLwO mLwM mTwT mSetA mDri mOrd mBst) H locs := ho
  refine lv_aload_n hx hb dX11_station_5 rfl (lv_at hl 0 rfl) ?_
  refine lv_iload_n hx hb dX11_station_6 rfl (lv_at hl 1 rfl) ?_
  refine o_callVi (rest := []) (ci := 11) ⟨hx, hb, hml, hown, hts⟩ ho (c_M_isTown l D q c 0 mTn mCk mRw mSt mTr mFM mFS mTpN mLw mAt mTwN mBE mBEn mSun mCkT mCkD mCkK mCkA mRow mStT mRun mUp mSta mSty mDly mTri mFnd mTap mLwT mLwD mLwO mLwM mTwT mSetA mDri mOrd mBst v1 _ hp) (cwV 1 hts gX11_station_X11_isTown rfl rfl rfl (by decide +kernel) ⟨(Nat.le_of_ble_eq_true rfl), (Nat.le_of_ble_eq_true rfl)⟩) 0 rfl rfl rfl hl.1 rfl (Nat.le_of_ble_eq_true rfl) dX11_station_7 ⟨Nat.zero_le _, Nat.zero_le _⟩ (fun r7 u H locs hp ho => ?_)
  try dsimp only at hp
  replace ho : oW D (mT c) A s.heap s (wM q c 0 mTn mCk mRw mSt mTr mFM mFS mTpN mLw mAt mTwN mBE mBEn mSun mCkT mCkD mCkK mCkA mRow mStT mRun mUp mSta mSty mDly mTri mFnd mTap mLwT mLwD mLwO mLwM mTwT mSetA mDri mOrd mBst) H locs := ho
  refine lv_if_eq (tgt := 48) hx hb dX11_station_10 (by decide) (fun c_10 => ?_) (fun c_10 => ?_)
  · replace hp := hp.1 c_10
    refine lv_iconst (v := (-1)) hx hb dX11_station_48 (by decide) ?_
    exact hret (-1) (0, mSt, mStT, mRun) _ _ _ _ dX11_station_49 ho hp
  · replace hp := hp.2 c_10
    refine lv_aload_n hx hb dX11_station_13 rfl (lv_at hl 0 rfl) ?_
    refine o_get (ci := 11) (T := TX11) hx hb hts hinX11 hown ho 0 rfl rfl 10 (by decide) hf118 rfl dX11_station_14 ?_
    refine lv_if_le (tgt := 32) hx hb dX11_station_17 (by decide) (fun c_17 => ?_) (fun c_17 => ?_)
    · replace hp := hp.1 c_17
      exact hJ32 v1 v2 0 mSt mStT mRun hp _ _ _ ho (lv_sub hl [0, 1, 2] rfl)
    · replace hp := hp.2 c_17
      refine lv_iload_n hx hb dX11_station_20 rfl (lv_at hl 2 rfl) ?_
      refine lv_i2l (v := ((v2 : Int32).toInt64)) hx hb dX11_station_21 rfl ?_
      refine lv_lconst (v := 1) hx hb dX11_station_22 (by decide) ?_
      refine lv_ldc2 (v := 600) hx hb hown hk153 dX11_station_23 ?_
      refine o_callSi (rest := []) ⟨hx, hb, hml, hown, hts⟩ ho (c_M_in l D (mT c) (wM q c 0 mTn mCk mRw mSt mTr mFM mFS mTpN mLw mAt mTwN mBE mBEn mSun mCkT mCkD mCkK mCkA mRow mStT mRun mUp mSta mSty mDly mTri mFnd mTap mLwT mLwD mLwO mLwM mTwT mSetA mDri mOrd mBst) ((v2 : Int32).toInt64) 1 600 _ hp) (va_cwS 3 hts gX11_station_X11_in rfl rfl rfl (by decide +kernel) ⟨(Nat.le_of_ble_eq_true rfl), (Nat.le_of_ble_eq_true rfl)⟩) rfl hl.1 rfl (Nat.le_of_ble_eq_true rfl) dX11_station_26 ⟨Nat.zero_le _, Nat.zero_le _⟩ (fun r26 u H locs hp ho => ?_)
      try dsimp only at hp
      replace ho : oW D (mT c) A s.heap s (wM q c 0 mTn mCk mRw mSt mTr mFM mFS mTpN mLw mAt mTwN mBE mBEn mSun mCkT mCkD mCkK mCkA mRow mStT mRun mUp mSta mSty mDly mTri mFnd mTap mLwT mLwD mLwO mLwM mTwT mSetA mDri mOrd mBst) H locs := ho
      refine lv_if_eq (tgt := 48) hx hb dX11_station_29 (by decide) (fun c_29 => ?_) (fun c_29 => ?_)
      · replace hp := hp.1 c_29
        refine lv_iconst (v := (-1)) hx hb dX11_station_48 (by decide) ?_
        exact hret (-1) (0, mSt, mStT, mRun) _ _ _ _ dX11_station_49 ho hp
      · replace hp := hp.2 c_29
        exact hJ32 v1 v2 0 mSt mStT mRun hp _ _ _ ho (lv_sub hl [0, 1, 2] rfl)
set_option maxHeartbeats 4000000 in
set_option maxRecDepth 100000 in
theorem c_M_train (l : Launch) (D : va_G) (q : Nat → Nat) (c : Nat → ClassId) (mThr : Int32) (mTn : Int32) (mCk : Int32) (mRw : Int32) (mSt : Int32) (mTr : Int32) (mFM : Int32) (mFS : Int32) (mTpN : Int32) (mLw : Int32) (mAt : Int32) (mTwN : Int32) (mBE : Int32) (mBEn : Int32) (mSun : Nat → Int32) (mCkT : Nat → Int32) (mCkD : Nat → Int32) (mCkK : Nat → Int32) (mCkA : Nat → Int32) (mRow : Nat → Int32) (mStT : Nat → Int32) (mRun : Nat → Int32) (mUp : Nat → Int32) (mSta : Nat → Int32) (mSty : Nat → Int32) (mDly : Nat → Int32) (mTri : Nat → Int32) (mFnd : Nat → Int32) (mTap : Nat → Int32) (mLwT : Nat → Int32) (mLwD : Nat → Int32) (mLwO : Nat → Int32) (mLwM : Nat → Int32) (mTwT : Nat → Int32) (mSetA : Nat → Int32) (mDri : Nat → Int32) (mOrd : Nat → Int32) (mBst : Nat → Int32) (v1 : Int32) (v2 : Int32) (v3 : Int32) (v4 : Int32) (Q : Int32 → Int32 → Int32 → (Nat → Int32) → (Nat → Int32) → (Nat → Int32) → (Nat → Int32) → Prop) (hp : p_M_train mCk mSt mSun mCkT mCkD mCkK mCkA mStT mThr mTr mUp mSta mSty mDly v1 v2 v3 v4 Q) : oKi l yX11_train wsX11_train { frames := 2, cells := 0, slots := 0, locals := 51 } [.ref (q 0), .int v1, .int v2, .int v3, .int v4] D (mT c) (wM q c mThr mTn mCk mRw mSt mTr mFM mFS mTpN mLw mAt mTwN mBE mBEn mSun mCkT mCkD mCkK mCkA mRow mStT mRun mUp mSta mSty mDly mTri mFnd mTap mLwT mLwD mLwO mLwM mTwT mSetA mDri mOrd mBst) (Int32 × Int32 × (Nat → Int32) × (Nat → Int32) × (Nat → Int32) × (Nat → Int32)) (fun r (u : Int32 × Int32 × (Nat → Int32) × (Nat → Int32) × (Nat → Int32) × (Nat → Int32)) => Q r u.1 u.2.1 u.2.2.1 u.2.2.2.1 u.2.2.2.2.1 u.2.2.2.2.2) (fun u => wM q c u.1 mTn mCk mRw mSt u.2.1 mFM mFS mTpN mLw mAt mTwN mBE mBEn mSun mCkT mCkD mCkK mCkA mRow mStT mRun u.2.2.1 u.2.2.2.1 u.2.2.2.2.1 u.2.2.2.2.2 mTri mFnd mTap mLwT mLwD mLwO mLwM mTwT mSetA mDri mOrd mBst) := by
  refine oKi.ofW (own := RX11) (cc := cX11_train) (maxL := 6) (plainFor_of_name (by decide +kernel)) rfl rfl (Nat.le_of_ble_eq_true rfl) (fun p e s m args below meth cd A ls Z hx hb hml hown hts hret ho hl => ?_)
  replace hl : lv_has ls 6 [(0, .ref (q 0)), (1, .int v1), (2, .int v2), (3, .int v3), (4, .int v4)] := hl
  have hinX11 : ∀ w ∈ u_ws RX11 TX11 38, w ∈ wsX11_train := by decide +kernel
  have hf28 := hts (.fieldLink RX11 28 "OneTimeModel" "stationTown" "[I") (by decide +kernel)
  have hf34 := hts (.fieldLink RX11 34 "OneTimeModel" "isUp" "[Z") (by decide +kernel)
  have hf38 := hts (.fieldLink RX11 38 "OneTimeModel" "start" "[I") (by decide +kernel)
  have hf41 := hts (.fieldLink RX11 41 "OneTimeModel" "stay" "[I") (by decide +kernel)
  have hf44 := hts (.fieldLink RX11 44 "OneTimeModel" "delay" "[I") (by decide +kernel)
  have hf83 := hts (.fieldLink RX11 83 "OneTimeModel" "thrown" "I") (by decide +kernel)
  have hf118 := hts (.fieldLink RX11 118 "OneTimeModel" "stations" "I") (by decide +kernel)
  have hf121 := hts (.fieldLink RX11 121 "OneTimeModel" "trains" "I") (by decide +kernel)
  have hk147 := hts (.constantLong RX11 147 1440) (by decide +kernel)
  have hk155 := hts (.constantLong RX11 155 1439) (by decide +kernel)
  have hk157 := hts (.constantLong RX11 157 60) (by decide +kernel)
  unfold p_M_train at hp
  have hJ75 : ∀ (v1 : Int32) (v2 : Int32) (v3 : Int32) (v4 : Int32) (mThr : Int32) (mTr : Int32) (mUp : Nat → Int32) (mSta : Nat → Int32) (mSty : Nat → Int32) (mDly : Nat → Int32) (s2 : Int32), p_M_train_J75 mCk mSt mSun mCkT mCkD mCkK mCkA mStT v1 v2 v3 v4 mThr mTr mUp mSta mSty mDly s2 Q → ∀ (H : Heap) (locs : List Loc) (ls : Array Slot), oW D (mT c) A s.heap s (wM q c mThr mTn mCk mRw mSt mTr mFM mFS mTpN mLw mAt mTwN mBE mBEn mSun mCkT mCkD mCkK mCkA mRow mStT mRun mUp mSta mSty mDly mTri mFnd mTap mLwT mLwD mLwO mLwM mTwT mSetA mDri mOrd mBst) H locs → lv_has ls 6 [(0, .ref (q 0)), (1, .int v1), (2, .int v2), (3, .int v3), (4, .int v4)] → W p l e { frames := 2, cells := 0, slots := 0, locals := 51 } s m args below meth cd H locs 0 0 Z (F0 m 75 ls [.int s2, .ref (q 7), .ref (q 0)]) := by
    intro v1 v2 v3 v4 mThr mTr mUp mSta mSty mDly s2
    intro hp H locs ls ho hl
    unfold p_M_train_J75 at hp
    refine o_ild hx hb ho 7 6 rfl rfl hp.1 dX11_train_75 ?_
    replace hp := hp.2
    refine lv_iload_n hx hb dX11_train_76 rfl (lv_at hl 2 rfl) ?_
    refine lv_i2l (v := ((v2 : Int32).toInt64)) hx hb dX11_train_77 rfl ?_
    refine lv_ldc2 (v := 1440) hx hb hown hk147 dX11_train_78 ?_
    refine lv_lmul hx hb dX11_train_81 ?_
    refine lv_iload_n hx hb dX11_train_82 rfl (lv_at hl 3 rfl) ?_
    refine lv_i2l (v := ((v3 : Int32).toInt64)) hx hb dX11_train_83 rfl ?_
    refine lv_ladd hx hb dX11_train_84 ?_
    refine o_callVi (rest := []) (ci := 11) ⟨hx, hb, hml, hown, hts⟩ ho (c_M_firstAt l D q c mThr mTn mCk mRw mSt mTr mFM mFS mTpN mLw mAt mTwN mBE mBEn mSun mCkT mCkD mCkK mCkA mRow mStT mRun mUp mSta mSty mDly mTri mFnd mTap mLwT mLwD mLwO mLwM mTwT mSetA mDri mOrd mBst (mStT s2.toNatClampNeg) ((((v2 : Int32).toInt64) * 1440) + ((v3 : Int32).toInt64)) _ hp) (cwV 2 hts gX11_train_X11_firstAt rfl rfl rfl (by decide +kernel) ⟨(Nat.le_of_ble_eq_true rfl), (Nat.le_of_ble_eq_true rfl)⟩) 0 rfl rfl rfl hl.1 rfl (Nat.le_of_ble_eq_true rfl) dX11_train_85 ⟨Nat.zero_le _, Nat.zero_le _⟩ (fun r85 u H locs hp ho => ?_)
    try dsimp only at hp
    replace ho : oW D (mT c) A s.heap s (wM q c mThr mTn mCk mRw mSt mTr mFM mFS mTpN mLw mAt mTwN mBE mBEn mSun mCkT mCkD mCkK mCkA mRow mStT mRun mUp mSta mSty mDly mTri mFnd mTap mLwT mLwD mLwO mLwM mTwT mSetA mDri mOrd mBst) H locs := ho
    refine lv_istore (lv' := [(5, .int r85), (0, .ref (q 0)), (1, .int v1), (2, .int v2), (3, .int v3), (4, .int v4)]) hx hb dX11_train_88 hl (by decide) rfl (fun ls hl => ?_)
    refine lv_iload hx hb dX11_train_90 (lv_at hl 0 rfl) ?_
    refine lv_if_ge (tgt := 97) hx hb dX11_train_92 (by decide) (fun c_92 => ?_) (fun c_92 => ?_)
    · replace hp := hp.1 c_92
      refine lv_aload_n hx hb dX11_train_97 rfl (lv_at hl 1 rfl) ?_
      refine o_get (ci := 11) (T := TX11) hx hb hts hinX11 hown ho 0 rfl rfl 14 (by decide) hf34 rfl dX11_train_98 ?_
      refine lv_aload_n hx hb dX11_train_101 rfl (lv_at hl 1 rfl) ?_
      refine o_get (ci := 11) (T := TX11) hx hb hts hinX11 hown ho 0 rfl rfl 13 (by decide) hf121 rfl dX11_train_102 ?_
      refine lv_iload_n hx hb dX11_train_105 rfl (lv_at hl 2 rfl) ?_
      refine o_zst hx hb ho 9 8 rfl rfl hp.1 dX11_train_106 (fun H locs ho => ?_)
      replace hp := hp.2
      replace ho : oW D (mT c) A s.heap s (wM q c mThr mTn mCk mRw mSt mTr mFM mFS mTpN mLw mAt mTwN mBE mBEn mSun mCkT mCkD mCkK mCkA mRow mStT mRun (upd mUp mTr.toNatClampNeg (vp_nar .boolean v1)) mSta mSty mDly mTri mFnd mTap mLwT mLwD mLwO mLwM mTwT mSetA mDri mOrd mBst) H locs := ho
      refine lv_aload_n hx hb dX11_train_107 rfl (lv_at hl 1 rfl) ?_
      refine o_get (ci := 11) (T := TX11) hx hb hts hinX11 hown ho 0 rfl rfl 15 (by decide) hf38 rfl dX11_train_108 ?_
      refine lv_aload_n hx hb dX11_train_111 rfl (lv_at hl 1 rfl) ?_
      refine o_get (ci := 11) (T := TX11) hx hb hts hinX11 hown ho 0 rfl rfl 13 (by decide) hf121 rfl dX11_train_112 ?_
      refine lv_iload hx hb dX11_train_115 (lv_at hl 0 rfl) ?_
      refine o_ist hx hb ho 10 9 rfl rfl hp.1 dX11_train_117 (fun H locs ho => ?_)
      replace hp := hp.2
      replace ho : oW D (mT c) A s.heap s (wM q c mThr mTn mCk mRw mSt mTr mFM mFS mTpN mLw mAt mTwN mBE mBEn mSun mCkT mCkD mCkK mCkA mRow mStT mRun (upd mUp mTr.toNatClampNeg (vp_nar .boolean v1)) (upd mSta mTr.toNatClampNeg r85) mSty mDly mTri mFnd mTap mLwT mLwD mLwO mLwM mTwT mSetA mDri mOrd mBst) H locs := ho
      refine lv_aload_n hx hb dX11_train_118 rfl (lv_at hl 1 rfl) ?_
      refine o_get (ci := 11) (T := TX11) hx hb hts hinX11 hown ho 0 rfl rfl 16 (by decide) hf41 rfl dX11_train_119 ?_
      refine lv_aload_n hx hb dX11_train_122 rfl (lv_at hl 1 rfl) ?_
      refine o_get (ci := 11) (T := TX11) hx hb hts hinX11 hown ho 0 rfl rfl 13 (by decide) hf121 rfl dX11_train_123 ?_
      refine lv_iload hx hb dX11_train_126 (lv_at hl 5 rfl) ?_
      refine o_ist hx hb ho 11 10 rfl rfl hp.1 dX11_train_128 (fun H locs ho => ?_)
      replace hp := hp.2
      replace ho : oW D (mT c) A s.heap s (wM q c mThr mTn mCk mRw mSt mTr mFM mFS mTpN mLw mAt mTwN mBE mBEn mSun mCkT mCkD mCkK mCkA mRow mStT mRun (upd mUp mTr.toNatClampNeg (vp_nar .boolean v1)) (upd mSta mTr.toNatClampNeg r85) (upd mSty mTr.toNatClampNeg v4) mDly mTri mFnd mTap mLwT mLwD mLwO mLwM mTwT mSetA mDri mOrd mBst) H locs := ho
      refine lv_aload_n hx hb dX11_train_129 rfl (lv_at hl 1 rfl) ?_
      refine o_get (ci := 11) (T := TX11) hx hb hts hinX11 hown ho 0 rfl rfl 17 (by decide) hf44 rfl dX11_train_130 ?_
      refine lv_aload_n hx hb dX11_train_133 rfl (lv_at hl 1 rfl) ?_
      refine o_get (ci := 11) (T := TX11) hx hb hts hinX11 hown ho 0 rfl rfl 13 (by decide) hf121 rfl dX11_train_134 ?_
      refine lv_iconst (v := 0) hx hb dX11_train_137 (by decide) ?_
      refine o_ist hx hb ho 12 11 rfl rfl hp.1 dX11_train_138 (fun H locs ho => ?_)
      replace hp := hp.2
      replace ho : oW D (mT c) A s.heap s (wM q c mThr mTn mCk mRw mSt mTr mFM mFS mTpN mLw mAt mTwN mBE mBEn mSun mCkT mCkD mCkK mCkA mRow mStT mRun (upd mUp mTr.toNatClampNeg (vp_nar .boolean v1)) (upd mSta mTr.toNatClampNeg r85) (upd mSty mTr.toNatClampNeg v4) (upd mDly mTr.toNatClampNeg 0) mTri mFnd mTap mLwT mLwD mLwO mLwM mTwT mSetA mDri mOrd mBst) H locs := ho
      refine lv_aload_n hx hb dX11_train_139 rfl (lv_at hl 1 rfl) ?_
      refine lv_dup hx hb dX11_train_140 rfl ?_
      refine o_get (ci := 11) (T := TX11) hx hb hts hinX11 hown ho 0 rfl rfl 13 (by decide) hf121 rfl dX11_train_141 ?_
      refine lv_iconst (v := 1) hx hb dX11_train_144 (by decide) ?_
      refine lv_iadd hx hb dX11_train_145 ?_
      refine lv_topi (fun x146 e_x146 => ?_)
      replace hp := hp x146 e_x146
      refine o_put (ci := 11) (T := TX11) hx hb hts hinX11 tyX11_ok nmX11 hown ho 0 rfl rfl 13 (by decide) hf121 rfl (tyX11_ok 13 (by decide)) (Nat.le_of_ble_eq_true rfl) dX11_train_146 (fun H locs ho => ?_)
      replace ho : oW D (mT c) A s.heap s (wM q c mThr mTn mCk mRw mSt x146 mFM mFS mTpN mLw mAt mTwN mBE mBEn mSun mCkT mCkD mCkK mCkA mRow mStT mRun (upd mUp mTr.toNatClampNeg (vp_nar .boolean v1)) (upd mSta mTr.toNatClampNeg r85) (upd mSty mTr.toNatClampNeg v4) (upd mDly mTr.toNatClampNeg 0) mTri mFnd mTap mLwT mLwD mLwO mLwM mTwT mSetA mDri mOrd mBst) H locs := ho
      refine lv_aload_n hx hb dX11_train_149 rfl (lv_at hl 1 rfl) ?_
      refine o_get (ci := 11) (T := TX11) hx hb hts hinX11 hown ho 0 rfl rfl 13 (by decide) hf121 rfl dX11_train_150 ?_
      refine lv_iconst (v := 1) hx hb dX11_train_153 (by decide) ?_
      refine lv_isub hx hb dX11_train_154 ?_
      exact hret (x146 - 1) (mThr, x146, upd mUp mTr.toNatClampNeg (vp_nar .boolean v1), upd mSta mTr.toNatClampNeg r85, upd mSty mTr.toNatClampNeg v4, upd mDly mTr.toNatClampNeg 0) _ _ _ _ dX11_train_155 ho hp
    · replace hp := hp.2 c_92
      refine lv_iconst (v := (-1)) hx hb dX11_train_95 (by decide) ?_
      exact hret (-1) (mThr, mTr, mUp, mSta, mSty, mDly) _ _ _ _ dX11_train_96 ho hp
  refine lv_aload_n hx hb dX11_train_0 rfl (lv_at hl 0 rfl) ?_
  refine lv_iconst (v := 0) hx hb dX11_train_1 (by decide) ?_
  refine o_put (ci := 11) (T := TX11) hx hb hts hinX11 tyX11_ok nmX11 hown ho 0 rfl rfl 0 (by decide) hf83 rfl (tyX11_ok 0 (by decide)) (Nat.le_of_ble_eq_true rfl) dX11_train_2 (fun H locs ho => ?_)
  replace ho : oW D (mT c) A s.heap s (wM q c 0 mTn mCk mRw mSt mTr mFM mFS mTpN mLw mAt mTwN mBE mBEn mSun mCkT mCkD mCkK mCkA mRow mStT mRun mUp mSta mSty mDly mTri mFnd mTap mLwT mLwD mLwO mLwM mTwT mSetA mDri mOrd mBst) H locs := ho
  refine lv_iload_n hx hb dX11_train_5 rfl (lv_at hl 2 rfl) ?_
  refine o_callSi (rest := []) ⟨hx, hb, hml, hown, hts⟩ ho (c_M_isDay l D (mT c) (wM q c 0 mTn mCk mRw mSt mTr mFM mFS mTpN mLw mAt mTwN mBE mBEn mSun mCkT mCkD mCkK mCkA mRow mStT mRun mUp mSta mSty mDly mTri mFnd mTap mLwT mLwD mLwO mLwM mTwT mSetA mDri mOrd mBst) v2 _ hp) (va_cwS 1 hts gX11_train_X11_isDay rfl rfl rfl (by decide +kernel) ⟨(Nat.le_of_ble_eq_true rfl), (Nat.le_of_ble_eq_true rfl)⟩) rfl hl.1 rfl (Nat.le_of_ble_eq_true rfl) dX11_train_6 ⟨Nat.zero_le _, Nat.zero_le _⟩ (fun r6 u H locs hp ho => ?_)
  try dsimp only at hp
  replace ho : oW D (mT c) A s.heap s (wM q c 0 mTn mCk mRw mSt mTr mFM mFS mTpN mLw mAt mTwN mBE mBEn mSun mCkT mCkD mCkK mCkA mRow mStT mRun mUp mSta mSty mDly mTri mFnd mTap mLwT mLwD mLwO mLwM mTwT mSetA mDri mOrd mBst) H locs := ho
  refine lv_if_eq (tgt := 54) hx hb dX11_train_9 (by decide) (fun c_9 => ?_) (fun c_9 => ?_)
  · replace hp := hp.1 c_9
    refine lv_iconst (v := (-1)) hx hb dX11_train_54 (by decide) ?_
    exact hret (-1) (0, mTr, mUp, mSta, mSty, mDly) _ _ _ _ dX11_train_55 ho hp
  · replace hp := hp.2 c_9
    refine lv_iload_n hx hb dX11_train_12 rfl (lv_at hl 3 rfl) ?_
    refine lv_i2l (v := ((v3 : Int32).toInt64)) hx hb dX11_train_13 rfl ?_
    refine lv_lconst (v := 0) hx hb dX11_train_14 (by decide) ?_
    refine lv_ldc2 (v := 1439) hx hb hown hk155 dX11_train_15 ?_
    refine o_callSi (rest := []) ⟨hx, hb, hml, hown, hts⟩ ho (c_M_in l D (mT c) (wM q c 0 mTn mCk mRw mSt mTr mFM mFS mTpN mLw mAt mTwN mBE mBEn mSun mCkT mCkD mCkK mCkA mRow mStT mRun mUp mSta mSty mDly mTri mFnd mTap mLwT mLwD mLwO mLwM mTwT mSetA mDri mOrd mBst) ((v3 : Int32).toInt64) 0 1439 _ hp) (va_cwS 3 hts gX11_train_X11_in rfl rfl rfl (by decide +kernel) ⟨(Nat.le_of_ble_eq_true rfl), (Nat.le_of_ble_eq_true rfl)⟩) rfl hl.1 rfl (Nat.le_of_ble_eq_true rfl) dX11_train_18 ⟨Nat.zero_le _, Nat.zero_le _⟩ (fun r18 u H locs hp ho => ?_)
    try dsimp only at hp
    replace ho : oW D (mT c) A s.heap s (wM q c 0 mTn mCk mRw mSt mTr mFM mFS mTpN mLw mAt mTwN mBE mBEn mSun mCkT mCkD mCkK mCkA mRow mStT mRun mUp mSta mSty mDly mTri mFnd mTap mLwT mLwD mLwO mLwM mTwT mSetA mDri mOrd mBst) H locs := ho
    refine lv_if_eq (tgt := 54) hx hb dX11_train_21 (by decide) (fun c_21 => ?_) (fun c_21 => ?_)
    · replace hp := hp.1 c_21
      refine lv_iconst (v := (-1)) hx hb dX11_train_54 (by decide) ?_
      exact hret (-1) (0, mTr, mUp, mSta, mSty, mDly) _ _ _ _ dX11_train_55 ho hp
    · replace hp := hp.2 c_21
      refine lv_iload hx hb dX11_train_24 (lv_at hl 4 rfl) ?_
      refine lv_i2l (v := ((v4 : Int32).toInt64)) hx hb dX11_train_26 rfl ?_
      refine lv_lconst (v := 0) hx hb dX11_train_27 (by decide) ?_
      refine lv_ldc2 (v := 60) hx hb hown hk157 dX11_train_28 ?_
      refine o_callSi (rest := []) ⟨hx, hb, hml, hown, hts⟩ ho (c_M_in l D (mT c) (wM q c 0 mTn mCk mRw mSt mTr mFM mFS mTpN mLw mAt mTwN mBE mBEn mSun mCkT mCkD mCkK mCkA mRow mStT mRun mUp mSta mSty mDly mTri mFnd mTap mLwT mLwD mLwO mLwM mTwT mSetA mDri mOrd mBst) ((v4 : Int32).toInt64) 0 60 _ hp) (va_cwS 3 hts gX11_train_X11_in rfl rfl rfl (by decide +kernel) ⟨(Nat.le_of_ble_eq_true rfl), (Nat.le_of_ble_eq_true rfl)⟩) rfl hl.1 rfl (Nat.le_of_ble_eq_true rfl) dX11_train_31 ⟨Nat.zero_le _, Nat.zero_le _⟩ (fun r31 u H locs hp ho => ?_)
      try dsimp only at hp
      replace ho : oW D (mT c) A s.heap s (wM q c 0 mTn mCk mRw mSt mTr mFM mFS mTpN mLw mAt mTwN mBE mBEn mSun mCkT mCkD mCkK mCkA mRow mStT mRun mUp mSta mSty mDly mTri mFnd mTap mLwT mLwD mLwO mLwM mTwT mSetA mDri mOrd mBst) H locs := ho
      refine lv_if_eq (tgt := 54) hx hb dX11_train_34 (by decide) (fun c_34 => ?_) (fun c_34 => ?_)
      · replace hp := hp.1 c_34
        refine lv_iconst (v := (-1)) hx hb dX11_train_54 (by decide) ?_
        exact hret (-1) (0, mTr, mUp, mSta, mSty, mDly) _ _ _ _ dX11_train_55 ho hp
      · replace hp := hp.2 c_34
        refine lv_aload_n hx hb dX11_train_37 rfl (lv_at hl 0 rfl) ?_
        refine o_get (ci := 11) (T := TX11) hx hb hts hinX11 hown ho 0 rfl rfl 10 (by decide) hf118 rfl dX11_train_38 ?_
        refine lv_iconst (v := 2) hx hb dX11_train_41 (by decide) ?_
        refine lv_icmp_lt (tgt := 54) hx hb dX11_train_42 (by decide) (fun c_42 => ?_) (fun c_42 => ?_)
        · replace hp := hp.1 c_42
          refine lv_iconst (v := (-1)) hx hb dX11_train_54 (by decide) ?_
          exact hret (-1) (0, mTr, mUp, mSta, mSty, mDly) _ _ _ _ dX11_train_55 ho hp
        · replace hp := hp.2 c_42
          refine lv_aload_n hx hb dX11_train_45 rfl (lv_at hl 0 rfl) ?_
          refine o_get (ci := 11) (T := TX11) hx hb hts hinX11 hown ho 0 rfl rfl 13 (by decide) hf121 rfl dX11_train_46 ?_
          refine lv_bipush (v := 6) hx hb dX11_train_49 (by decide) ?_
          refine lv_icmp_ne (tgt := 56) hx hb dX11_train_51 (by decide) (fun c_51 => ?_) (fun c_51 => ?_)
          · replace hp := hp.2 c_51
            refine lv_aload_n hx hb dX11_train_56 rfl (lv_at hl 0 rfl) ?_
            refine lv_aload_n hx hb dX11_train_57 rfl (lv_at hl 0 rfl) ?_
            refine o_get (ci := 11) (T := TX11) hx hb hts hinX11 hown ho 0 rfl rfl 11 (by decide) hf28 rfl dX11_train_58 ?_
            refine lv_iload_n hx hb dX11_train_61 rfl (lv_at hl 1 rfl) ?_
            refine lv_if_eq (tgt := 69) hx hb dX11_train_62 (by decide) (fun c_62 => ?_) (fun c_62 => ?_)
            · replace hp := hp.1 c_62
              refine lv_aload_n hx hb dX11_train_69 rfl (lv_at hl 0 rfl) ?_
              refine o_get (ci := 11) (T := TX11) hx hb hts hinX11 hown ho 0 rfl rfl 10 (by decide) hf118 rfl dX11_train_70 ?_
              refine lv_iconst (v := 1) hx hb dX11_train_73 (by decide) ?_
              refine lv_isub hx hb dX11_train_74 ?_
              exact hJ75 v1 v2 v3 v4 0 mTr mUp mSta mSty mDly (mSt - 1) hp _ _ _ ho (lv_sub hl [0, 1, 2, 3, 4] rfl)
            · replace hp := hp.2 c_62
              refine lv_iconst (v := 0) hx hb dX11_train_65 (by decide) ?_
              refine lv_goto (tgt := 75) hx hb dX11_train_66 (by decide) ?_
              exact hJ75 v1 v2 v3 v4 0 mTr mUp mSta mSty mDly 0 hp _ _ _ ho (lv_sub hl [0, 1, 2, 3, 4] rfl)
          · replace hp := hp.1 c_51
            refine lv_iconst (v := (-1)) hx hb dX11_train_54 (by decide) ?_
            exact hret (-1) (0, mTr, mUp, mSta, mSty, mDly) _ _ _ _ dX11_train_55 ho hp
set_option maxHeartbeats 4000000 in
set_option maxRecDepth 100000 in
theorem c_M_leavesAt (l : Launch) (D : va_G) (q : Nat → Nat) (c : Nat → ClassId) (mThr : Int32) (mTn : Int32) (mCk : Int32) (mRw : Int32) (mSt : Int32) (mTr : Int32) (mFM : Int32) (mFS : Int32) (mTpN : Int32) (mLw : Int32) (mAt : Int32) (mTwN : Int32) (mBE : Int32) (mBEn : Int32) (mSun : Nat → Int32) (mCkT : Nat → Int32) (mCkD : Nat → Int32) (mCkK : Nat → Int32) (mCkA : Nat → Int32) (mRow : Nat → Int32) (mStT : Nat → Int32) (mRun : Nat → Int32) (mUp : Nat → Int32) (mSta : Nat → Int32) (mSty : Nat → Int32) (mDly : Nat → Int32) (mTri : Nat → Int32) (mFnd : Nat → Int32) (mTap : Nat → Int32) (mLwT : Nat → Int32) (mLwD : Nat → Int32) (mLwO : Nat → Int32) (mLwM : Nat → Int32) (mTwT : Nat → Int32) (mSetA : Nat → Int32) (mDri : Nat → Int32) (mOrd : Nat → Int32) (mBst : Nat → Int32) (v1 : Int32) (v2 : Int32) (v3 : Int32) (Q : Int32 → Prop) (hp : p_M_leavesAt mSt mRun mUp mSta mSty v1 v2 v3 Q) : oKi l yX11_leavesAt wsX11_leavesAt { frames := 0, cells := 0, slots := 0, locals := 0 } [.ref (q 0), .int v1, .int v2, .int v3] D (mT c) (wM q c mThr mTn mCk mRw mSt mTr mFM mFS mTpN mLw mAt mTwN mBE mBEn mSun mCkT mCkD mCkK mCkA mRow mStT mRun mUp mSta mSty mDly mTri mFnd mTap mLwT mLwD mLwO mLwM mTwT mSetA mDri mOrd mBst) (Unit) (fun r (_ : Unit) => Q r) (fun _ => wM q c mThr mTn mCk mRw mSt mTr mFM mFS mTpN mLw mAt mTwN mBE mBEn mSun mCkT mCkD mCkK mCkA mRow mStT mRun mUp mSta mSty mDly mTri mFnd mTap mLwT mLwD mLwO mLwM mTwT mSetA mDri mOrd mBst) := by
  refine oKi.ofW (own := RX11) (cc := cX11_leavesAt) (maxL := 6) (plainFor_of_name (by decide +kernel)) rfl rfl (Nat.le_of_ble_eq_true rfl) (fun p e s m args below meth cd A ls Z hx hb hml hown hts hret ho hl => ?_)
  replace hl : lv_has ls 6 [(0, .ref (q 0)), (1, .int v1), (2, .int v2), (3, .int v3)] := hl
  have hinX11 : ∀ w ∈ u_ws RX11 TX11 38, w ∈ wsX11_leavesAt := by decide +kernel
  have hf31 := hts (.fieldLink RX11 31 "OneTimeModel" "run" "[I") (by decide +kernel)
  have hf34 := hts (.fieldLink RX11 34 "OneTimeModel" "isUp" "[Z") (by decide +kernel)
  have hf38 := hts (.fieldLink RX11 38 "OneTimeModel" "start" "[I") (by decide +kernel)
  have hf41 := hts (.fieldLink RX11 41 "OneTimeModel" "stay" "[I") (by decide +kernel)
  have hf118 := hts (.fieldLink RX11 118 "OneTimeModel" "stations" "I") (by decide +kernel)
  unfold p_M_leavesAt at hp
  have hJ46 : ∀ (v1 : Int32) (v2 : Int32) (v5 : Int32) (s0 : Int32) (s2 : Int32) (k13 : Int32 → Int32 → Prop) (hk13 : ∀ (v4 : Int32) (v5 : Int32), k13 v4 v5 → ∀ (H : Heap) (locs : List Loc) (ls : Array Slot), oW D (mT c) A s.heap s (wM q c mThr mTn mCk mRw mSt mTr mFM mFS mTpN mLw mAt mTwN mBE mBEn mSun mCkT mCkD mCkK mCkA mRow mStT mRun mUp mSta mSty mDly mTri mFnd mTap mLwT mLwD mLwO mLwM mTwT mSetA mDri mOrd mBst) H locs → lv_has ls 6 [(0, .ref (q 0)), (1, .int v1), (2, .int v2), (4, .int v4), (5, .int v5)] → W p l e { frames := 0, cells := 0, slots := 0, locals := 0 } s m args below meth cd H locs 0 0 Z (F0 m 13 ls [])), p_M_leavesAt_J46 mSt mRun mUp mSta mSty v1 v2 v5 s0 s2 k13 Q → ∀ (H : Heap) (locs : List Loc) (ls : Array Slot), oW D (mT c) A s.heap s (wM q c mThr mTn mCk mRw mSt mTr mFM mFS mTpN mLw mAt mTwN mBE mBEn mSun mCkT mCkD mCkK mCkA mRow mStT mRun mUp mSta mSty mDly mTri mFnd mTap mLwT mLwD mLwO mLwM mTwT mSetA mDri mOrd mBst) H locs → lv_has ls 6 [(0, .ref (q 0)), (1, .int v1), (2, .int v2), (5, .int v5)] → W p l e { frames := 0, cells := 0, slots := 0, locals := 0 } s m args below meth cd H locs 0 0 Z (F0 m 46 ls [.int s2, .ref (q 8), .int s0]) := by
    intro v1 v2 v5 s0 s2 k13 hk13
    intro hp H locs ls ho hl
    unfold p_M_leavesAt_J46 at hp
    refine o_ild hx hb ho 8 7 rfl rfl hp.1 dX11_leavesAt_46 ?_
    replace hp := hp.2
    refine lv_iload hx hb dX11_leavesAt_47 (lv_at hl 3 rfl) ?_
    refine lv_aload_n hx hb dX11_leavesAt_49 rfl (lv_at hl 0 rfl) ?_
    refine o_get (ci := 11) (T := TX11) hx hb hts hinX11 hown ho 0 rfl rfl 10 (by decide) hf118 rfl dX11_leavesAt_50 ?_
    refine lv_iconst (v := 1) hx hb dX11_leavesAt_53 (by decide) ?_
    refine lv_isub hx hb dX11_leavesAt_54 ?_
    refine lv_icmp_ge (tgt := 67) hx hb dX11_leavesAt_55 (by decide) (fun c_55 => ?_) (fun c_55 => ?_)
    · replace hp := hp.1 c_55
      refine lv_iconst (v := 0) hx hb dX11_leavesAt_67 (by decide) ?_
      refine lv_iadd hx hb dX11_leavesAt_68 ?_
      refine lv_iadd hx hb dX11_leavesAt_69 ?_
      refine lv_topi (fun x70 e_x70 => ?_)
      replace hp := hp x70 e_x70
      refine lv_istore (lv' := [(4, .int x70), (0, .ref (q 0)), (1, .int v1), (2, .int v2), (5, .int v5)]) hx hb dX11_leavesAt_70 hl (by decide) rfl (fun ls hl => ?_)
      obtain ⟨x72, e_x72⟩ : ∃ y : Int32, y = v5 + 1 := ⟨_, rfl⟩
      replace hp := hp x72 e_x72
      refine lv_iinc (v := x72) (lv' := [(5, .int x72), (4, .int x70), (0, .ref (q 0)), (1, .int v1), (2, .int v2)]) hx hb dX11_leavesAt_72 hl (k := 4) rfl (by rw [e_x72]; rfl) (by decide) rfl (fun ls hl => ?_)
      refine lv_goto (tgt := 13) hx hb dX11_leavesAt_75 (by decide) ?_
      exact hk13 x70 x72 hp _ _ _ ho (lv_sub hl [2, 3, 4, 1, 0] rfl)
    · replace hp := hp.2 c_55
      refine lv_aload_n hx hb dX11_leavesAt_58 rfl (lv_at hl 0 rfl) ?_
      refine o_get (ci := 11) (T := TX11) hx hb hts hinX11 hown ho 0 rfl rfl 16 (by decide) hf41 rfl dX11_leavesAt_59 ?_
      refine lv_iload_n hx hb dX11_leavesAt_62 rfl (lv_at hl 1 rfl) ?_
      refine o_ild hx hb ho 11 10 rfl rfl hp.1 dX11_leavesAt_63 ?_
      replace hp := hp.2
      refine lv_goto (tgt := 68) hx hb dX11_leavesAt_64 (by decide) ?_
      refine lv_iadd hx hb dX11_leavesAt_68 ?_
      refine lv_iadd hx hb dX11_leavesAt_69 ?_
      refine lv_topi (fun x70 e_x70 => ?_)
      replace hp := hp x70 e_x70
      refine lv_istore (lv' := [(4, .int x70), (0, .ref (q 0)), (1, .int v1), (2, .int v2), (5, .int v5)]) hx hb dX11_leavesAt_70 hl (by decide) rfl (fun ls hl => ?_)
      obtain ⟨x72, e_x72⟩ : ∃ y : Int32, y = v5 + 1 := ⟨_, rfl⟩
      replace hp := hp x72 e_x72
      refine lv_iinc (v := x72) (lv' := [(5, .int x72), (4, .int x70), (0, .ref (q 0)), (1, .int v1), (2, .int v2)]) hx hb dX11_leavesAt_72 hl (k := 4) rfl (by rw [e_x72]; rfl) (by decide) rfl (fun ls hl => ?_)
      refine lv_goto (tgt := 13) hx hb dX11_leavesAt_75 (by decide) ?_
      exact hk13 x70 x72 hp _ _ _ ho (lv_sub hl [2, 3, 4, 1, 0] rfl)
  have hL13 : ∀ (v1 : Int32) (v2 : Int32) (v4 : Int32) (v5 : Int32), Lp2 (p_M_leavesAt_L13 mSt mRun mUp mSta mSty v1 v2 Q) v4 v5 → ∀ (H : Heap) (locs : List Loc) (ls : Array Slot), oW D (mT c) A s.heap s (wM q c mThr mTn mCk mRw mSt mTr mFM mFS mTpN mLw mAt mTwN mBE mBEn mSun mCkT mCkD mCkK mCkA mRow mStT mRun mUp mSta mSty mDly mTri mFnd mTap mLwT mLwD mLwO mLwM mTwT mSetA mDri mOrd mBst) H locs → lv_has ls 6 [(0, .ref (q 0)), (1, .int v1), (2, .int v2), (4, .int v4), (5, .int v5)] → W p l e { frames := 0, cells := 0, slots := 0, locals := 0 } s m args below meth cd H locs 0 0 Z (F0 m 13 ls []) := by
    intro v1 v2
    refine Lp2.ind (fun rec hrec v4 v5 hp H locs ls ho hl => ?_)
    unfold p_M_leavesAt_L13 at hp
    refine lv_iload hx hb dX11_leavesAt_13 (lv_at hl 4 rfl) ?_
    refine lv_iload_n hx hb dX11_leavesAt_15 rfl (lv_at hl 2 rfl) ?_
    refine lv_icmp_gt (tgt := 78) hx hb dX11_leavesAt_16 (by decide) (fun c_16 => ?_) (fun c_16 => ?_)
    · replace hp := hp.1 c_16
      refine lv_iload hx hb dX11_leavesAt_78 (lv_at hl 3 rfl) ?_
      exact hret v4 () _ _ _ _ dX11_leavesAt_80 ho hp
    · replace hp := hp.2 c_16
      refine lv_iload hx hb dX11_leavesAt_19 (lv_at hl 3 rfl) ?_
      refine lv_aload_n hx hb dX11_leavesAt_21 rfl (lv_at hl 0 rfl) ?_
      refine o_get (ci := 11) (T := TX11) hx hb hts hinX11 hown ho 0 rfl rfl 12 (by decide) hf31 rfl dX11_leavesAt_22 ?_
      refine lv_aload_n hx hb dX11_leavesAt_25 rfl (lv_at hl 0 rfl) ?_
      refine o_get (ci := 11) (T := TX11) hx hb hts hinX11 hown ho 0 rfl rfl 14 (by decide) hf34 rfl dX11_leavesAt_26 ?_
      refine lv_iload_n hx hb dX11_leavesAt_29 rfl (lv_at hl 1 rfl) ?_
      refine o_zld hx hb ho 9 8 rfl rfl hp.1 dX11_leavesAt_30 ?_
      replace hp := hp.2
      refine lv_if_eq (tgt := 39) hx hb dX11_leavesAt_31 (by decide) (fun c_31 => ?_) (fun c_31 => ?_)
      · replace hp := hp.1 c_31
        refine lv_aload_n hx hb dX11_leavesAt_39 rfl (lv_at hl 0 rfl) ?_
        refine o_get (ci := 11) (T := TX11) hx hb hts hinX11 hown ho 0 rfl rfl 10 (by decide) hf118 rfl dX11_leavesAt_40 ?_
        refine lv_iload hx hb dX11_leavesAt_43 (lv_at hl 4 rfl) ?_
        refine lv_isub hx hb dX11_leavesAt_45 ?_
        exact hJ46 v1 v2 v5 v4 (mSt - v5) rec hrec hp _ _ _ ho (lv_sub hl [0, 1, 2, 4] rfl)
      · replace hp := hp.2 c_31
        refine lv_iload hx hb dX11_leavesAt_34 (lv_at hl 4 rfl) ?_
        refine lv_goto (tgt := 46) hx hb dX11_leavesAt_36 (by decide) ?_
        exact hJ46 v1 v2 v5 v4 v5 rec hrec hp _ _ _ ho (lv_sub hl [0, 1, 2, 4] rfl)
  refine lv_aload_n hx hb dX11_leavesAt_0 rfl (lv_at hl 0 rfl) ?_
  refine o_get (ci := 11) (T := TX11) hx hb hts hinX11 hown ho 0 rfl rfl 15 (by decide) hf38 rfl dX11_leavesAt_1 ?_
  refine lv_iload_n hx hb dX11_leavesAt_4 rfl (lv_at hl 1 rfl) ?_
  refine o_ild hx hb ho 10 9 rfl rfl hp.1 dX11_leavesAt_5 ?_
  replace hp := hp.2
  refine lv_iload_n hx hb dX11_leavesAt_6 rfl (lv_at hl 3 rfl) ?_
  refine lv_iadd hx hb dX11_leavesAt_7 ?_
  refine lv_topi (fun x8 e_x8 => ?_)
  replace hp := hp x8 e_x8
  refine lv_istore (lv' := [(4, .int x8), (0, .ref (q 0)), (1, .int v1), (2, .int v2), (3, .int v3)]) hx hb dX11_leavesAt_8 hl (by decide) rfl (fun ls hl => ?_)
  refine lv_iconst (v := 1) hx hb dX11_leavesAt_10 (by decide) ?_
  refine lv_istore (lv' := [(5, .int 1), (4, .int x8), (0, .ref (q 0)), (1, .int v1), (2, .int v2), (3, .int v3)]) hx hb dX11_leavesAt_11 hl (by decide) rfl (fun ls hl => ?_)
  exact hL13 v1 v2 x8 1 hp _ _ _ ho (lv_sub hl [2, 3, 4, 1, 0] rfl)
set_option maxHeartbeats 4000000 in
set_option maxRecDepth 100000 in
theorem c_M_begins (l : Launch) (D : va_G) (q : Nat → Nat) (c : Nat → ClassId) (mThr : Int32) (mTn : Int32) (mCk : Int32) (mRw : Int32) (mSt : Int32) (mTr : Int32) (mFM : Int32) (mFS : Int32) (mTpN : Int32) (mLw : Int32) (mAt : Int32) (mTwN : Int32) (mBE : Int32) (mBEn : Int32) (mSun : Nat → Int32) (mCkT : Nat → Int32) (mCkD : Nat → Int32) (mCkK : Nat → Int32) (mCkA : Nat → Int32) (mRow : Nat → Int32) (mStT : Nat → Int32) (mRun : Nat → Int32) (mUp : Nat → Int32) (mSta : Nat → Int32) (mSty : Nat → Int32) (mDly : Nat → Int32) (mTri : Nat → Int32) (mFnd : Nat → Int32) (mTap : Nat → Int32) (mLwT : Nat → Int32) (mLwD : Nat → Int32) (mLwO : Nat → Int32) (mLwM : Nat → Int32) (mTwT : Nat → Int32) (mSetA : Nat → Int32) (mDri : Nat → Int32) (mOrd : Nat → Int32) (mBst : Nat → Int32) (v1 : Int32) (v2 : Int32) (v3 : Int32) (Q : Int32 → Prop) (hp : p_M_begins mSt mRun mUp mSta mSty v1 v2 v3 Q) : oKi l yX11_begins wsX11_begins { frames := 1, cells := 0, slots := 0, locals := 25 } [.ref (q 0), .int v1, .int v2, .int v3] D (mT c) (wM q c mThr mTn mCk mRw mSt mTr mFM mFS mTpN mLw mAt mTwN mBE mBEn mSun mCkT mCkD mCkK mCkA mRow mStT mRun mUp mSta mSty mDly mTri mFnd mTap mLwT mLwD mLwO mLwM mTwT mSetA mDri mOrd mBst) (Unit) (fun r (_ : Unit) => Q r) (fun _ => wM q c mThr mTn mCk mRw mSt mTr mFM mFS mTpN mLw mAt mTwN mBE mBEn mSun mCkT mCkD mCkK mCkA mRow mStT mRun mUp mSta mSty mDly mTri mFnd mTap mLwT mLwD mLwO mLwM mTwT mSetA mDri mOrd mBst) := by
  refine oKi.ofW (own := RX11) (cc := cX11_begins) (maxL := 4) (plainFor_of_name (by decide +kernel)) rfl rfl (Nat.le_of_ble_eq_true rfl) (fun p e s m args below meth cd A ls Z hx hb hml hown hts hret ho hl => ?_)
  replace hl : lv_has ls 4 [(0, .ref (q 0)), (1, .int v1), (2, .int v2), (3, .int v3)] := hl
  have hinX11 : ∀ w ∈ u_ws RX11 TX11 38, w ∈ wsX11_begins := by decide +kernel
  have hf34 := hts (.fieldLink RX11 34 "OneTimeModel" "isUp" "[Z") (by decide +kernel)
  have hf118 := hts (.fieldLink RX11 118 "OneTimeModel" "stations" "I") (by decide +kernel)
  unfold p_M_begins at hp
  have hJ23 : ∀ (v3 : Int32) (s1 : Int32) (s2 : Int32), p_M_begins_J23 mSt mRun mUp mSta mSty v3 s1 s2 Q → ∀ (H : Heap) (locs : List Loc) (ls : Array Slot), oW D (mT c) A s.heap s (wM q c mThr mTn mCk mRw mSt mTr mFM mFS mTpN mLw mAt mTwN mBE mBEn mSun mCkT mCkD mCkK mCkA mRow mStT mRun mUp mSta mSty mDly mTri mFnd mTap mLwT mLwD mLwO mLwM mTwT mSetA mDri mOrd mBst) H locs → lv_has ls 4 [(3, .int v3)] → W p l e { frames := 1, cells := 0, slots := 0, locals := 25 } s m args below meth cd H locs 0 0 Z (F0 m 23 ls [.int s2, .int s1, .ref (q 0)]) := by
    intro v3 s1 s2
    intro hp H locs ls ho hl
    unfold p_M_begins_J23 at hp
    refine lv_iload_n hx hb dX11_begins_23 rfl (lv_at hl 0 rfl) ?_
    refine o_callVi (rest := []) (ci := 11) ⟨hx, hb, hml, hown, hts⟩ ho (c_M_leavesAt l D q c mThr mTn mCk mRw mSt mTr mFM mFS mTpN mLw mAt mTwN mBE mBEn mSun mCkT mCkD mCkK mCkA mRow mStT mRun mUp mSta mSty mDly mTri mFnd mTap mLwT mLwD mLwO mLwM mTwT mSetA mDri mOrd mBst s1 s2 v3 _ hp) (cwV 3 hts gX11_begins_X11_leavesAt rfl rfl rfl (by decide +kernel) ⟨(Nat.le_of_ble_eq_true rfl), (Nat.le_of_ble_eq_true rfl)⟩) 0 rfl rfl rfl hl.1 rfl (Nat.le_of_ble_eq_true rfl) dX11_begins_24 ⟨Nat.zero_le _, Nat.zero_le _⟩ (fun r24 u H locs hp ho => ?_)
    try dsimp only at hp
    replace ho : oW D (mT c) A s.heap s (wM q c mThr mTn mCk mRw mSt mTr mFM mFS mTpN mLw mAt mTwN mBE mBEn mSun mCkT mCkD mCkK mCkA mRow mStT mRun mUp mSta mSty mDly mTri mFnd mTap mLwT mLwD mLwO mLwM mTwT mSetA mDri mOrd mBst) H locs := ho
    exact hret r24 () _ _ _ _ dX11_begins_27 ho hp
  refine lv_aload_n hx hb dX11_begins_0 rfl (lv_at hl 0 rfl) ?_
  refine lv_iload_n hx hb dX11_begins_1 rfl (lv_at hl 1 rfl) ?_
  refine lv_aload_n hx hb dX11_begins_2 rfl (lv_at hl 0 rfl) ?_
  refine o_get (ci := 11) (T := TX11) hx hb hts hinX11 hown ho 0 rfl rfl 14 (by decide) hf34 rfl dX11_begins_3 ?_
  refine lv_iload_n hx hb dX11_begins_6 rfl (lv_at hl 1 rfl) ?_
  refine o_zld hx hb ho 9 8 rfl rfl hp.1 dX11_begins_7 ?_
  replace hp := hp.2
  refine lv_if_eq (tgt := 15) hx hb dX11_begins_8 (by decide) (fun c_8 => ?_) (fun c_8 => ?_)
  · replace hp := hp.1 c_8
    refine lv_aload_n hx hb dX11_begins_15 rfl (lv_at hl 0 rfl) ?_
    refine o_get (ci := 11) (T := TX11) hx hb hts hinX11 hown ho 0 rfl rfl 10 (by decide) hf118 rfl dX11_begins_16 ?_
    refine lv_iconst (v := 2) hx hb dX11_begins_19 (by decide) ?_
    refine lv_isub hx hb dX11_begins_20 ?_
    refine lv_iload_n hx hb dX11_begins_21 rfl (lv_at hl 2 rfl) ?_
    refine lv_isub hx hb dX11_begins_22 ?_
    exact hJ23 v3 v1 ((mSt - 2) - v2) hp _ _ _ ho (lv_sub hl [3] rfl)
  · replace hp := hp.2 c_8
    refine lv_iload_n hx hb dX11_begins_11 rfl (lv_at hl 2 rfl) ?_
    refine lv_goto (tgt := 23) hx hb dX11_begins_12 (by decide) ?_
    exact hJ23 v3 v1 v2 hp _ _ _ ho (lv_sub hl [3] rfl)
set_option maxHeartbeats 4000000 in
set_option maxRecDepth 100000 in
theorem c_M_isTrain (l : Launch) (D : va_G) (q : Nat → Nat) (c : Nat → ClassId) (mThr : Int32) (mTn : Int32) (mCk : Int32) (mRw : Int32) (mSt : Int32) (mTr : Int32) (mFM : Int32) (mFS : Int32) (mTpN : Int32) (mLw : Int32) (mAt : Int32) (mTwN : Int32) (mBE : Int32) (mBEn : Int32) (mSun : Nat → Int32) (mCkT : Nat → Int32) (mCkD : Nat → Int32) (mCkK : Nat → Int32) (mCkA : Nat → Int32) (mRow : Nat → Int32) (mStT : Nat → Int32) (mRun : Nat → Int32) (mUp : Nat → Int32) (mSta : Nat → Int32) (mSty : Nat → Int32) (mDly : Nat → Int32) (mTri : Nat → Int32) (mFnd : Nat → Int32) (mTap : Nat → Int32) (mLwT : Nat → Int32) (mLwD : Nat → Int32) (mLwO : Nat → Int32) (mLwM : Nat → Int32) (mTwT : Nat → Int32) (mSetA : Nat → Int32) (mDri : Nat → Int32) (mOrd : Nat → Int32) (mBst : Nat → Int32) (v1 : Int32) (Q : Int32 → Prop) (hp : p_M_isTrain mTr v1 Q) : oKi l yX11_isTrain wsX11_isTrain { frames := 1, cells := 0, slots := 0, locals := 25 } [.ref (q 0), .int v1] D (mT c) (wM q c mThr mTn mCk mRw mSt mTr mFM mFS mTpN mLw mAt mTwN mBE mBEn mSun mCkT mCkD mCkK mCkA mRow mStT mRun mUp mSta mSty mDly mTri mFnd mTap mLwT mLwD mLwO mLwM mTwT mSetA mDri mOrd mBst) (Unit) (fun r (_ : Unit) => Q r) (fun _ => wM q c mThr mTn mCk mRw mSt mTr mFM mFS mTpN mLw mAt mTwN mBE mBEn mSun mCkT mCkD mCkK mCkA mRow mStT mRun mUp mSta mSty mDly mTri mFnd mTap mLwT mLwD mLwO mLwM mTwT mSetA mDri mOrd mBst) := by
  refine oKi.ofWz (own := RX11) (cc := cX11_isTrain) (maxL := 2) (plainFor_of_name (by decide +kernel)) rfl rfl (Nat.le_of_ble_eq_true rfl) (fun p e s m args below meth cd A ls Z hx hb hml hown hts hret ho hl => ?_)
  replace hl : lv_has ls 2 [(0, .ref (q 0)), (1, .int v1)] := hl
  have hinX11 : ∀ w ∈ u_ws RX11 TX11 38, w ∈ wsX11_isTrain := by decide +kernel
  have hf121 := hts (.fieldLink RX11 121 "OneTimeModel" "trains" "I") (by decide +kernel)
  unfold p_M_isTrain at hp
  refine lv_iload_n hx hb dX11_isTrain_0 rfl (lv_at hl 1 rfl) ?_
  refine lv_i2l (v := ((v1 : Int32).toInt64)) hx hb dX11_isTrain_1 rfl ?_
  refine lv_lconst (v := 0) hx hb dX11_isTrain_2 (by decide) ?_
  refine lv_aload_n hx hb dX11_isTrain_3 rfl (lv_at hl 0 rfl) ?_
  refine o_get (ci := 11) (T := TX11) hx hb hts hinX11 hown ho 0 rfl rfl 13 (by decide) hf121 rfl dX11_isTrain_4 ?_
  refine lv_iconst (v := 1) hx hb dX11_isTrain_7 (by decide) ?_
  refine lv_isub hx hb dX11_isTrain_8 ?_
  refine lv_i2l (v := ((mTr - 1 : Int32).toInt64)) hx hb dX11_isTrain_9 rfl ?_
  refine o_callSi (rest := []) ⟨hx, hb, hml, hown, hts⟩ ho (c_M_in l D (mT c) (wM q c mThr mTn mCk mRw mSt mTr mFM mFS mTpN mLw mAt mTwN mBE mBEn mSun mCkT mCkD mCkK mCkA mRow mStT mRun mUp mSta mSty mDly mTri mFnd mTap mLwT mLwD mLwO mLwM mTwT mSetA mDri mOrd mBst) ((v1 : Int32).toInt64) 0 ((mTr - 1 : Int32).toInt64) _ hp) (va_cwS 3 hts gX11_isTrain_X11_in rfl rfl rfl (by decide +kernel) ⟨(Nat.le_of_ble_eq_true rfl), (Nat.le_of_ble_eq_true rfl)⟩) rfl hl.1 rfl (Nat.le_of_ble_eq_true rfl) dX11_isTrain_10 ⟨Nat.zero_le _, Nat.zero_le _⟩ (fun r10 u H locs hp ho => ?_)
  try dsimp only at hp
  replace ho : oW D (mT c) A s.heap s (wM q c mThr mTn mCk mRw mSt mTr mFM mFS mTpN mLw mAt mTwN mBE mBEn mSun mCkT mCkD mCkK mCkA mRow mStT mRun mUp mSta mSty mDly mTri mFnd mTap mLwT mLwD mLwO mLwM mTwT mSetA mDri mOrd mBst) H locs := ho
  exact hret r10 () _ _ _ _ dX11_isTrain_13 hp.1 ho hp.2
set_option maxHeartbeats 4000000 in
set_option maxRecDepth 100000 in
theorem c_M_leaves (l : Launch) (D : va_G) (q : Nat → Nat) (c : Nat → ClassId) (mThr : Int32) (mTn : Int32) (mCk : Int32) (mRw : Int32) (mSt : Int32) (mTr : Int32) (mFM : Int32) (mFS : Int32) (mTpN : Int32) (mLw : Int32) (mAt : Int32) (mTwN : Int32) (mBE : Int32) (mBEn : Int32) (mSun : Nat → Int32) (mCkT : Nat → Int32) (mCkD : Nat → Int32) (mCkK : Nat → Int32) (mCkA : Nat → Int32) (mRow : Nat → Int32) (mStT : Nat → Int32) (mRun : Nat → Int32) (mUp : Nat → Int32) (mSta : Nat → Int32) (mSty : Nat → Int32) (mDly : Nat → Int32) (mTri : Nat → Int32) (mFnd : Nat → Int32) (mTap : Nat → Int32) (mLwT : Nat → Int32) (mLwD : Nat → Int32) (mLwO : Nat → Int32) (mLwM : Nat → Int32) (mTwT : Nat → Int32) (mSetA : Nat → Int32) (mDri : Nat → Int32) (mOrd : Nat → Int32) (mBst : Nat → Int32) (v1 : Int32) (v2 : Int32) (Q : Int32 → Int32 → Prop) (hp : p_M_leaves mSt mTr mRun mUp mSta mSty mDly mThr v1 v2 Q) : oKi l yX11_leaves wsX11_leaves { frames := 2, cells := 0, slots := 0, locals := 46 } [.ref (q 0), .int v1, .int v2] D (mT c) (wM q c mThr mTn mCk mRw mSt mTr mFM mFS mTpN mLw mAt mTwN mBE mBEn mSun mCkT mCkD mCkK mCkA mRow mStT mRun mUp mSta mSty mDly mTri mFnd mTap mLwT mLwD mLwO mLwM mTwT mSetA mDri mOrd mBst) (Int32) (fun r (u : Int32) => Q r u) (fun u => wM q c u mTn mCk mRw mSt mTr mFM mFS mTpN mLw mAt mTwN mBE mBEn mSun mCkT mCkD mCkK mCkA mRow mStT mRun mUp mSta mSty mDly mTri mFnd mTap mLwT mLwD mLwO mLwM mTwT mSetA mDri mOrd mBst) := by
  refine oKi.ofW (own := RX11) (cc := cX11_leaves) (maxL := 3) (plainFor_of_name (by decide +kernel)) rfl rfl (Nat.le_of_ble_eq_true rfl) (fun p e s m args below meth cd A ls Z hx hb hml hown hts hret ho hl => ?_)
  replace hl : lv_has ls 3 [(0, .ref (q 0)), (1, .int v1), (2, .int v2)] := hl
  have hinX11 : ∀ w ∈ u_ws RX11 TX11 38, w ∈ wsX11_leaves := by decide +kernel
  have hf34 := hts (.fieldLink RX11 34 "OneTimeModel" "isUp" "[Z") (by decide +kernel)
  have hf44 := hts (.fieldLink RX11 44 "OneTimeModel" "delay" "[I") (by decide +kernel)
  have hf83 := hts (.fieldLink RX11 83 "OneTimeModel" "thrown" "I") (by decide +kernel)
  have hf118 := hts (.fieldLink RX11 118 "OneTimeModel" "stations" "I") (by decide +kernel)
  unfold p_M_leaves at hp
  have hJ54 : ∀ (v1 : Int32) (mThr : Int32) (s1 : Int32) (s2 : Int32), p_M_leaves_J54 mSt mTr mRun mUp mSta mSty mDly v1 mThr s1 s2 Q → ∀ (H : Heap) (locs : List Loc) (ls : Array Slot), oW D (mT c) A s.heap s (wM q c mThr mTn mCk mRw mSt mTr mFM mFS mTpN mLw mAt mTwN mBE mBEn mSun mCkT mCkD mCkK mCkA mRow mStT mRun mUp mSta mSty mDly mTri mFnd mTap mLwT mLwD mLwO mLwM mTwT mSetA mDri mOrd mBst) H locs → lv_has ls 3 [(0, .ref (q 0)), (1, .int v1)] → W p l e { frames := 2, cells := 0, slots := 0, locals := 46 } s m args below meth cd H locs 0 0 Z (F0 m 54 ls [.int s2, .int s1, .ref (q 0)]) := by
    intro v1 mThr s1 s2
    intro hp H locs ls ho hl
    unfold p_M_leaves_J54 at hp
    refine lv_aload_n hx hb dX11_leaves_54 rfl (lv_at hl 0 rfl) ?_
    refine o_get (ci := 11) (T := TX11) hx hb hts hinX11 hown ho 0 rfl rfl 17 (by decide) hf44 rfl dX11_leaves_55 ?_
    refine lv_iload_n hx hb dX11_leaves_58 rfl (lv_at hl 1 rfl) ?_
    refine o_ild hx hb ho 12 11 rfl rfl hp.1 dX11_leaves_59 ?_
    replace hp := hp.2
    refine o_callVi (rest := []) (ci := 11) ⟨hx, hb, hml, hown, hts⟩ ho (c_M_leavesAt l D q c mThr mTn mCk mRw mSt mTr mFM mFS mTpN mLw mAt mTwN mBE mBEn mSun mCkT mCkD mCkK mCkA mRow mStT mRun mUp mSta mSty mDly mTri mFnd mTap mLwT mLwD mLwO mLwM mTwT mSetA mDri mOrd mBst s1 s2 (mDly v1.toNatClampNeg) _ hp) (cwV 3 hts gX11_leaves_X11_leavesAt rfl rfl rfl (by decide +kernel) ⟨(Nat.le_of_ble_eq_true rfl), (Nat.le_of_ble_eq_true rfl)⟩) 0 rfl rfl rfl hl.1 rfl (Nat.le_of_ble_eq_true rfl) dX11_leaves_60 ⟨Nat.zero_le _, Nat.zero_le _⟩ (fun r60 u H locs hp ho => ?_)
    try dsimp only at hp
    replace ho : oW D (mT c) A s.heap s (wM q c mThr mTn mCk mRw mSt mTr mFM mFS mTpN mLw mAt mTwN mBE mBEn mSun mCkT mCkD mCkK mCkA mRow mStT mRun mUp mSta mSty mDly mTri mFnd mTap mLwT mLwD mLwO mLwM mTwT mSetA mDri mOrd mBst) H locs := ho
    exact hret r60 mThr _ _ _ _ dX11_leaves_63 ho hp
  refine lv_aload_n hx hb dX11_leaves_0 rfl (lv_at hl 0 rfl) ?_
  refine lv_iconst (v := 0) hx hb dX11_leaves_1 (by decide) ?_
  refine o_put (ci := 11) (T := TX11) hx hb hts hinX11 tyX11_ok nmX11 hown ho 0 rfl rfl 0 (by decide) hf83 rfl (tyX11_ok 0 (by decide)) (Nat.le_of_ble_eq_true rfl) dX11_leaves_2 (fun H locs ho => ?_)
  replace ho : oW D (mT c) A s.heap s (wM q c 0 mTn mCk mRw mSt mTr mFM mFS mTpN mLw mAt mTwN mBE mBEn mSun mCkT mCkD mCkK mCkA mRow mStT mRun mUp mSta mSty mDly mTri mFnd mTap mLwT mLwD mLwO mLwM mTwT mSetA mDri mOrd mBst) H locs := ho
  refine lv_aload_n hx hb dX11_leaves_5 rfl (lv_at hl 0 rfl) ?_
  refine lv_iload_n hx hb dX11_leaves_6 rfl (lv_at hl 1 rfl) ?_
  refine o_callVi (rest := []) (ci := 11) ⟨hx, hb, hml, hown, hts⟩ ho (c_M_isTrain l D q c 0 mTn mCk mRw mSt mTr mFM mFS mTpN mLw mAt mTwN mBE mBEn mSun mCkT mCkD mCkK mCkA mRow mStT mRun mUp mSta mSty mDly mTri mFnd mTap mLwT mLwD mLwO mLwM mTwT mSetA mDri mOrd mBst v1 _ hp) (cwV 1 hts gX11_leaves_X11_isTrain rfl rfl rfl (by decide +kernel) ⟨(Nat.le_of_ble_eq_true rfl), (Nat.le_of_ble_eq_true rfl)⟩) 0 rfl rfl rfl hl.1 rfl (Nat.le_of_ble_eq_true rfl) dX11_leaves_7 ⟨Nat.zero_le _, Nat.zero_le _⟩ (fun r7 u H locs hp ho => ?_)
  try dsimp only at hp
  replace ho : oW D (mT c) A s.heap s (wM q c 0 mTn mCk mRw mSt mTr mFM mFS mTpN mLw mAt mTwN mBE mBEn mSun mCkT mCkD mCkK mCkA mRow mStT mRun mUp mSta mSty mDly mTri mFnd mTap mLwT mLwD mLwO mLwM mTwT mSetA mDri mOrd mBst) H locs := ho
  refine lv_if_eq (tgt := 29) hx hb dX11_leaves_10 (by decide) (fun c_10 => ?_) (fun c_10 => ?_)
  · replace hp := hp.1 c_10
    refine lv_iconst (v := (-1)) hx hb dX11_leaves_29 (by decide) ?_
    exact hret (-1) 0 _ _ _ _ dX11_leaves_30 ho hp
  · replace hp := hp.2 c_10
    refine lv_iload_n hx hb dX11_leaves_13 rfl (lv_at hl 2 rfl) ?_
    refine lv_i2l (v := ((v2 : Int32).toInt64)) hx hb dX11_leaves_14 rfl ?_
    refine lv_lconst (v := 0) hx hb dX11_leaves_15 (by decide) ?_
    refine lv_aload_n hx hb dX11_leaves_16 rfl (lv_at hl 0 rfl) ?_
    refine o_get (ci := 11) (T := TX11) hx hb hts hinX11 hown ho 0 rfl rfl 10 (by decide) hf118 rfl dX11_leaves_17 ?_
    refine lv_iconst (v := 1) hx hb dX11_leaves_20 (by decide) ?_
    refine lv_isub hx hb dX11_leaves_21 ?_
    refine lv_i2l (v := ((mSt - 1 : Int32).toInt64)) hx hb dX11_leaves_22 rfl ?_
    refine o_callSi (rest := []) ⟨hx, hb, hml, hown, hts⟩ ho (c_M_in l D (mT c) (wM q c 0 mTn mCk mRw mSt mTr mFM mFS mTpN mLw mAt mTwN mBE mBEn mSun mCkT mCkD mCkK mCkA mRow mStT mRun mUp mSta mSty mDly mTri mFnd mTap mLwT mLwD mLwO mLwM mTwT mSetA mDri mOrd mBst) ((v2 : Int32).toInt64) 0 ((mSt - 1 : Int32).toInt64) _ hp) (va_cwS 3 hts gX11_leaves_X11_in rfl rfl rfl (by decide +kernel) ⟨(Nat.le_of_ble_eq_true rfl), (Nat.le_of_ble_eq_true rfl)⟩) rfl hl.1 rfl (Nat.le_of_ble_eq_true rfl) dX11_leaves_23 ⟨Nat.zero_le _, Nat.zero_le _⟩ (fun r23 u H locs hp ho => ?_)
    try dsimp only at hp
    replace ho : oW D (mT c) A s.heap s (wM q c 0 mTn mCk mRw mSt mTr mFM mFS mTpN mLw mAt mTwN mBE mBEn mSun mCkT mCkD mCkK mCkA mRow mStT mRun mUp mSta mSty mDly mTri mFnd mTap mLwT mLwD mLwO mLwM mTwT mSetA mDri mOrd mBst) H locs := ho
    refine lv_if_ne (tgt := 31) hx hb dX11_leaves_26 (by decide) (fun c_26 => ?_) (fun c_26 => ?_)
    · replace hp := hp.2 c_26
      refine lv_aload_n hx hb dX11_leaves_31 rfl (lv_at hl 0 rfl) ?_
      refine lv_iload_n hx hb dX11_leaves_32 rfl (lv_at hl 1 rfl) ?_
      refine lv_aload_n hx hb dX11_leaves_33 rfl (lv_at hl 0 rfl) ?_
      refine o_get (ci := 11) (T := TX11) hx hb hts hinX11 hown ho 0 rfl rfl 14 (by decide) hf34 rfl dX11_leaves_34 ?_
      refine lv_iload_n hx hb dX11_leaves_37 rfl (lv_at hl 1 rfl) ?_
      refine o_zld hx hb ho 9 8 rfl rfl hp.1 dX11_leaves_38 ?_
      replace hp := hp.2
      refine lv_if_eq (tgt := 46) hx hb dX11_leaves_39 (by decide) (fun c_39 => ?_) (fun c_39 => ?_)
      · replace hp := hp.1 c_39
        refine lv_aload_n hx hb dX11_leaves_46 rfl (lv_at hl 0 rfl) ?_
        refine o_get (ci := 11) (T := TX11) hx hb hts hinX11 hown ho 0 rfl rfl 10 (by decide) hf118 rfl dX11_leaves_47 ?_
        refine lv_iconst (v := 1) hx hb dX11_leaves_50 (by decide) ?_
        refine lv_isub hx hb dX11_leaves_51 ?_
        refine lv_iload_n hx hb dX11_leaves_52 rfl (lv_at hl 2 rfl) ?_
        refine lv_isub hx hb dX11_leaves_53 ?_
        exact hJ54 v1 0 v1 ((mSt - 1) - v2) hp _ _ _ ho (lv_sub hl [0, 1] rfl)
      · replace hp := hp.2 c_39
        refine lv_iload_n hx hb dX11_leaves_42 rfl (lv_at hl 2 rfl) ?_
        refine lv_goto (tgt := 54) hx hb dX11_leaves_43 (by decide) ?_
        exact hJ54 v1 0 v1 v2 hp _ _ _ ho (lv_sub hl [0, 1] rfl)
    · replace hp := hp.1 c_26
      refine lv_iconst (v := (-1)) hx hb dX11_leaves_29 (by decide) ?_
      exact hret (-1) 0 _ _ _ _ dX11_leaves_30 ho hp
set_option maxHeartbeats 4000000 in
set_option maxRecDepth 100000 in
theorem c_M_delay (l : Launch) (D : va_G) (q : Nat → Nat) (c : Nat → ClassId) (mThr : Int32) (mTn : Int32) (mCk : Int32) (mRw : Int32) (mSt : Int32) (mTr : Int32) (mFM : Int32) (mFS : Int32) (mTpN : Int32) (mLw : Int32) (mAt : Int32) (mTwN : Int32) (mBE : Int32) (mBEn : Int32) (mSun : Nat → Int32) (mCkT : Nat → Int32) (mCkD : Nat → Int32) (mCkK : Nat → Int32) (mCkA : Nat → Int32) (mRow : Nat → Int32) (mStT : Nat → Int32) (mRun : Nat → Int32) (mUp : Nat → Int32) (mSta : Nat → Int32) (mSty : Nat → Int32) (mDly : Nat → Int32) (mTri : Nat → Int32) (mFnd : Nat → Int32) (mTap : Nat → Int32) (mLwT : Nat → Int32) (mLwD : Nat → Int32) (mLwO : Nat → Int32) (mLwM : Nat → Int32) (mTwT : Nat → Int32) (mSetA : Nat → Int32) (mDri : Nat → Int32) (mOrd : Nat → Int32) (mBst : Nat → Int32) (v1 : Int32) (v2 : Int32) (Q : Int32 → Int32 → (Nat → Int32) → Prop) (hp : p_M_delay mTr mThr mDly v1 v2 Q) : oKi l yX11_delay wsX11_delay { frames := 2, cells := 0, slots := 0, locals := 46 } [.ref (q 0), .int v1, .int v2] D (mT c) (wM q c mThr mTn mCk mRw mSt mTr mFM mFS mTpN mLw mAt mTwN mBE mBEn mSun mCkT mCkD mCkK mCkA mRow mStT mRun mUp mSta mSty mDly mTri mFnd mTap mLwT mLwD mLwO mLwM mTwT mSetA mDri mOrd mBst) (Int32 × (Nat → Int32)) (fun r (u : Int32 × (Nat → Int32)) => Q r u.1 u.2) (fun u => wM q c u.1 mTn mCk mRw mSt mTr mFM mFS mTpN mLw mAt mTwN mBE mBEn mSun mCkT mCkD mCkK mCkA mRow mStT mRun mUp mSta mSty u.2 mTri mFnd mTap mLwT mLwD mLwO mLwM mTwT mSetA mDri mOrd mBst) := by
  refine oKi.ofWz (own := RX11) (cc := cX11_delay) (maxL := 3) (plainFor_of_name (by decide +kernel)) rfl rfl (Nat.le_of_ble_eq_true rfl) (fun p e s m args below meth cd A ls Z hx hb hml hown hts hret ho hl => ?_)
  replace hl : lv_has ls 3 [(0, .ref (q 0)), (1, .int v1), (2, .int v2)] := hl
  have hinX11 : ∀ w ∈ u_ws RX11 TX11 38, w ∈ wsX11_delay := by decide +kernel
  have hf44 := hts (.fieldLink RX11 44 "OneTimeModel" "delay" "[I") (by decide +kernel)
  have hf83 := hts (.fieldLink RX11 83 "OneTimeModel" "thrown" "I") (by decide +kernel)
  have hk166 := hts (.constantLong RX11 166 30) (by decide +kernel)
  unfold p_M_delay at hp
  refine lv_aload_n hx hb dX11_delay_0 rfl (lv_at hl 0 rfl) ?_
  refine lv_iconst (v := 0) hx hb dX11_delay_1 (by decide) ?_
  refine o_put (ci := 11) (T := TX11) hx hb hts hinX11 tyX11_ok nmX11 hown ho 0 rfl rfl 0 (by decide) hf83 rfl (tyX11_ok 0 (by decide)) (Nat.le_of_ble_eq_true rfl) dX11_delay_2 (fun H locs ho => ?_)
  replace ho : oW D (mT c) A s.heap s (wM q c 0 mTn mCk mRw mSt mTr mFM mFS mTpN mLw mAt mTwN mBE mBEn mSun mCkT mCkD mCkK mCkA mRow mStT mRun mUp mSta mSty mDly mTri mFnd mTap mLwT mLwD mLwO mLwM mTwT mSetA mDri mOrd mBst) H locs := ho
  refine lv_aload_n hx hb dX11_delay_5 rfl (lv_at hl 0 rfl) ?_
  refine lv_iload_n hx hb dX11_delay_6 rfl (lv_at hl 1 rfl) ?_
  refine o_callVi (rest := []) (ci := 11) ⟨hx, hb, hml, hown, hts⟩ ho (c_M_isTrain l D q c 0 mTn mCk mRw mSt mTr mFM mFS mTpN mLw mAt mTwN mBE mBEn mSun mCkT mCkD mCkK mCkA mRow mStT mRun mUp mSta mSty mDly mTri mFnd mTap mLwT mLwD mLwO mLwM mTwT mSetA mDri mOrd mBst v1 _ hp) (cwV 1 hts gX11_delay_X11_isTrain rfl rfl rfl (by decide +kernel) ⟨(Nat.le_of_ble_eq_true rfl), (Nat.le_of_ble_eq_true rfl)⟩) 0 rfl rfl rfl hl.1 rfl (Nat.le_of_ble_eq_true rfl) dX11_delay_7 ⟨Nat.zero_le _, Nat.zero_le _⟩ (fun r7 u H locs hp ho => ?_)
  try dsimp only at hp
  replace ho : oW D (mT c) A s.heap s (wM q c 0 mTn mCk mRw mSt mTr mFM mFS mTpN mLw mAt mTwN mBE mBEn mSun mCkT mCkD mCkK mCkA mRow mStT mRun mUp mSta mSty mDly mTri mFnd mTap mLwT mLwD mLwO mLwM mTwT mSetA mDri mOrd mBst) H locs := ho
  refine lv_if_eq (tgt := 25) hx hb dX11_delay_10 (by decide) (fun c_10 => ?_) (fun c_10 => ?_)
  · replace hp := hp.1 c_10
    refine lv_iconst (v := 0) hx hb dX11_delay_25 (by decide) ?_
    exact hret 0 (0, mDly) _ _ _ _ dX11_delay_26 (Or.inl rfl) ho hp
  · replace hp := hp.2 c_10
    refine lv_iload_n hx hb dX11_delay_13 rfl (lv_at hl 2 rfl) ?_
    refine lv_i2l (v := ((v2 : Int32).toInt64)) hx hb dX11_delay_14 rfl ?_
    refine lv_lconst (v := 0) hx hb dX11_delay_15 (by decide) ?_
    refine lv_ldc2 (v := 30) hx hb hown hk166 dX11_delay_16 ?_
    refine o_callSi (rest := []) ⟨hx, hb, hml, hown, hts⟩ ho (c_M_in l D (mT c) (wM q c 0 mTn mCk mRw mSt mTr mFM mFS mTpN mLw mAt mTwN mBE mBEn mSun mCkT mCkD mCkK mCkA mRow mStT mRun mUp mSta mSty mDly mTri mFnd mTap mLwT mLwD mLwO mLwM mTwT mSetA mDri mOrd mBst) ((v2 : Int32).toInt64) 0 30 _ hp) (va_cwS 3 hts gX11_delay_X11_in rfl rfl rfl (by decide +kernel) ⟨(Nat.le_of_ble_eq_true rfl), (Nat.le_of_ble_eq_true rfl)⟩) rfl hl.1 rfl (Nat.le_of_ble_eq_true rfl) dX11_delay_19 ⟨Nat.zero_le _, Nat.zero_le _⟩ (fun r19 u H locs hp ho => ?_)
    try dsimp only at hp
    replace ho : oW D (mT c) A s.heap s (wM q c 0 mTn mCk mRw mSt mTr mFM mFS mTpN mLw mAt mTwN mBE mBEn mSun mCkT mCkD mCkK mCkA mRow mStT mRun mUp mSta mSty mDly mTri mFnd mTap mLwT mLwD mLwO mLwM mTwT mSetA mDri mOrd mBst) H locs := ho
    refine lv_if_ne (tgt := 27) hx hb dX11_delay_22 (by decide) (fun c_22 => ?_) (fun c_22 => ?_)
    · replace hp := hp.2 c_22
      refine lv_aload_n hx hb dX11_delay_27 rfl (lv_at hl 0 rfl) ?_
      refine o_get (ci := 11) (T := TX11) hx hb hts hinX11 hown ho 0 rfl rfl 17 (by decide) hf44 rfl dX11_delay_28 ?_
      refine lv_iload_n hx hb dX11_delay_31 rfl (lv_at hl 1 rfl) ?_
      refine lv_iload_n hx hb dX11_delay_32 rfl (lv_at hl 2 rfl) ?_
      refine o_ist hx hb ho 12 11 rfl rfl hp.1 dX11_delay_33 (fun H locs ho => ?_)
      replace hp := hp.2
      replace ho : oW D (mT c) A s.heap s (wM q c 0 mTn mCk mRw mSt mTr mFM mFS mTpN mLw mAt mTwN mBE mBEn mSun mCkT mCkD mCkK mCkA mRow mStT mRun mUp mSta mSty (upd mDly v1.toNatClampNeg v2) mTri mFnd mTap mLwT mLwD mLwO mLwM mTwT mSetA mDri mOrd mBst) H locs := ho
      refine lv_iconst (v := 1) hx hb dX11_delay_34 (by decide) ?_
      exact hret 1 (0, upd mDly v1.toNatClampNeg v2) _ _ _ _ dX11_delay_35 (Or.inr rfl) ho hp
    · replace hp := hp.1 c_22
      refine lv_iconst (v := 0) hx hb dX11_delay_25 (by decide) ?_
      exact hret 0 (0, mDly) _ _ _ _ dX11_delay_26 (Or.inl rfl) ho hp
set_option maxHeartbeats 4000000 in
set_option maxRecDepth 100000 in
theorem c_M_meeting (l : Launch) (D : va_G) (q : Nat → Nat) (c : Nat → ClassId) (mThr : Int32) (mTn : Int32) (mCk : Int32) (mRw : Int32) (mSt : Int32) (mTr : Int32) (mFM : Int32) (mFS : Int32) (mTpN : Int32) (mLw : Int32) (mAt : Int32) (mTwN : Int32) (mBE : Int32) (mBEn : Int32) (mSun : Nat → Int32) (mCkT : Nat → Int32) (mCkD : Nat → Int32) (mCkK : Nat → Int32) (mCkA : Nat → Int32) (mRow : Nat → Int32) (mStT : Nat → Int32) (mRun : Nat → Int32) (mUp : Nat → Int32) (mSta : Nat → Int32) (mSty : Nat → Int32) (mDly : Nat → Int32) (mTri : Nat → Int32) (mFnd : Nat → Int32) (mTap : Nat → Int32) (mLwT : Nat → Int32) (mLwD : Nat → Int32) (mLwO : Nat → Int32) (mLwM : Nat → Int32) (mTwT : Nat → Int32) (mSetA : Nat → Int32) (mDri : Nat → Int32) (mOrd : Nat → Int32) (mBst : Nat → Int32) (v1 : Int32) (v2 : Int32) (v3 : Int32) (v4 : Int32) (Q : Int32 → Prop) (hp : p_M_meeting mSt mRun mUp mSta mSty v1 v2 v3 v4 Q) : oKi l yX11_meeting wsX11_meeting { frames := 2, cells := 0, slots := 0, locals := 48 } [.ref (q 0), .int v1, .int v2, .int v3, .int v4] D (mT c) (wM q c mThr mTn mCk mRw mSt mTr mFM mFS mTpN mLw mAt mTwN mBE mBEn mSun mCkT mCkD mCkK mCkA mRow mStT mRun mUp mSta mSty mDly mTri mFnd mTap mLwT mLwD mLwO mLwM mTwT mSetA mDri mOrd mBst) (Unit) (fun r (_ : Unit) => Q r) (fun _ => wM q c mThr mTn mCk mRw mSt mTr mFM mFS mTpN mLw mAt mTwN mBE mBEn mSun mCkT mCkD mCkK mCkA mRow mStT mRun mUp mSta mSty mDly mTri mFnd mTap mLwT mLwD mLwO mLwM mTwT mSetA mDri mOrd mBst) := by
  refine oKi.ofW (own := RX11) (cc := cX11_meeting) (maxL := 8) (plainFor_of_name (by decide +kernel)) rfl rfl (Nat.le_of_ble_eq_true rfl) (fun p e s m args below meth cd A ls Z hx hb hml hown hts hret ho hl => ?_)
  replace hl : lv_has ls 8 [(0, .ref (q 0)), (1, .int v1), (2, .int v2), (3, .int v3), (4, .int v4)] := hl
  have hinX11 : ∀ w ∈ u_ws RX11 TX11 38, w ∈ wsX11_meeting := by decide +kernel
  have hf31 := hts (.fieldLink RX11 31 "OneTimeModel" "run" "[I") (by decide +kernel)
  have hf118 := hts (.fieldLink RX11 118 "OneTimeModel" "stations" "I") (by decide +kernel)
  unfold p_M_meeting at hp
  have hL3 : ∀ (v1 : Int32) (v2 : Int32) (v3 : Int32) (v4 : Int32) (v5 : Int32), Lp1 (p_M_meeting_L3 mSt mRun mUp mSta mSty v1 v2 v3 v4 Q) v5 → ∀ (H : Heap) (locs : List Loc) (ls : Array Slot), oW D (mT c) A s.heap s (wM q c mThr mTn mCk mRw mSt mTr mFM mFS mTpN mLw mAt mTwN mBE mBEn mSun mCkT mCkD mCkK mCkA mRow mStT mRun mUp mSta mSty mDly mTri mFnd mTap mLwT mLwD mLwO mLwM mTwT mSetA mDri mOrd mBst) H locs → lv_has ls 8 [(0, .ref (q 0)), (1, .int v1), (2, .int v2), (3, .int v3), (4, .int v4), (5, .int v5)] → W p l e { frames := 2, cells := 0, slots := 0, locals := 48 } s m args below meth cd H locs 0 0 Z (F0 m 3 ls []) := by
    intro v1 v2 v3 v4
    refine Lp1.ind (fun rec hrec v5 hp H locs ls ho hl => ?_)
    unfold p_M_meeting_L3 at hp
    refine lv_iload hx hb dX11_meeting_3 (lv_at hl 5 rfl) ?_
    refine lv_iconst (v := 1) hx hb dX11_meeting_5 (by decide) ?_
    refine lv_iadd hx hb dX11_meeting_6 ?_
    refine lv_aload_n hx hb dX11_meeting_7 rfl (lv_at hl 0 rfl) ?_
    refine o_get (ci := 11) (T := TX11) hx hb hts hinX11 hown ho 0 rfl rfl 10 (by decide) hf118 rfl dX11_meeting_8 ?_
    refine lv_icmp_ge (tgt := 71) hx hb dX11_meeting_11 (by decide) (fun c_11 => ?_) (fun c_11 => ?_)
    · replace hp := hp.1 c_11
      refine lv_iconst (v := (-1)) hx hb dX11_meeting_71 (by decide) ?_
      exact hret (-1) () _ _ _ _ dX11_meeting_72 ho hp
    · replace hp := hp.2 c_11
      refine lv_aload_n hx hb dX11_meeting_14 rfl (lv_at hl 0 rfl) ?_
      refine lv_iload_n hx hb dX11_meeting_15 rfl (lv_at hl 1 rfl) ?_
      refine lv_iload hx hb dX11_meeting_16 (lv_at hl 5 rfl) ?_
      refine lv_iload_n hx hb dX11_meeting_18 rfl (lv_at hl 2 rfl) ?_
      refine o_callVi (rest := []) (ci := 11) ⟨hx, hb, hml, hown, hts⟩ ho (c_M_begins l D q c mThr mTn mCk mRw mSt mTr mFM mFS mTpN mLw mAt mTwN mBE mBEn mSun mCkT mCkD mCkK mCkA mRow mStT mRun mUp mSta mSty mDly mTri mFnd mTap mLwT mLwD mLwO mLwM mTwT mSetA mDri mOrd mBst v1 v5 v2 _ hp) (cwV 3 hts gX11_meeting_X11_begins rfl rfl rfl (by decide +kernel) ⟨(Nat.le_of_ble_eq_true rfl), (Nat.le_of_ble_eq_true rfl)⟩) 0 rfl rfl rfl hl.1 rfl (Nat.le_of_ble_eq_true rfl) dX11_meeting_19 ⟨Nat.zero_le _, Nat.zero_le _⟩ (fun r19 u H locs hp ho => ?_)
      try dsimp only at hp
      replace ho : oW D (mT c) A s.heap s (wM q c mThr mTn mCk mRw mSt mTr mFM mFS mTpN mLw mAt mTwN mBE mBEn mSun mCkT mCkD mCkK mCkA mRow mStT mRun mUp mSta mSty mDly mTri mFnd mTap mLwT mLwD mLwO mLwM mTwT mSetA mDri mOrd mBst) H locs := ho
      refine lv_istore (lv' := [(6, .int r19), (0, .ref (q 0)), (1, .int v1), (2, .int v2), (3, .int v3), (4, .int v4), (5, .int v5)]) hx hb dX11_meeting_22 hl (by decide) rfl (fun ls hl => ?_)
      refine lv_aload_n hx hb dX11_meeting_24 rfl (lv_at hl 1 rfl) ?_
      refine lv_iload_n hx hb dX11_meeting_25 rfl (lv_at hl 4 rfl) ?_
      refine lv_iload hx hb dX11_meeting_26 (lv_at hl 6 rfl) ?_
      refine lv_iload hx hb dX11_meeting_28 (lv_at hl 5 rfl) ?_
      refine o_callVi (rest := []) (ci := 11) ⟨hx, hb, hml, hown, hts⟩ ho (c_M_begins l D q c mThr mTn mCk mRw mSt mTr mFM mFS mTpN mLw mAt mTwN mBE mBEn mSun mCkT mCkD mCkK mCkA mRow mStT mRun mUp mSta mSty mDly mTri mFnd mTap mLwT mLwD mLwO mLwM mTwT mSetA mDri mOrd mBst v3 v5 v4 _ hp) (cwV 3 hts gX11_meeting_X11_begins rfl rfl rfl (by decide +kernel) ⟨(Nat.le_of_ble_eq_true rfl), (Nat.le_of_ble_eq_true rfl)⟩) 0 rfl rfl rfl hl.1 rfl (Nat.le_of_ble_eq_true rfl) dX11_meeting_30 ⟨Nat.zero_le _, Nat.zero_le _⟩ (fun r30 u H locs hp ho => ?_)
      try dsimp only at hp
      replace ho : oW D (mT c) A s.heap s (wM q c mThr mTn mCk mRw mSt mTr mFM mFS mTpN mLw mAt mTwN mBE mBEn mSun mCkT mCkD mCkK mCkA mRow mStT mRun mUp mSta mSty mDly mTri mFnd mTap mLwT mLwD mLwO mLwM mTwT mSetA mDri mOrd mBst) H locs := ho
      refine lv_istore (lv' := [(7, .int r30), (6, .int r19), (0, .ref (q 0)), (1, .int v1), (2, .int v2), (3, .int v3), (4, .int v4), (5, .int v5)]) hx hb dX11_meeting_33 hl (by decide) rfl (fun ls hl => ?_)
      refine lv_iload hx hb dX11_meeting_35 (lv_at hl 1 rfl) ?_
      refine lv_iload hx hb dX11_meeting_37 (lv_at hl 0 rfl) ?_
      refine va_mmax hx hb (hml.trans hl.1.symm) hown (hts (.methodLink RX11 171 Lib.Math.max.name) (by decide +kernel)) (hts (.static Lib.Math.max.name) (by decide +kernel)) (hts (.initialized "java/lang/Math") (by decide +kernel)) (hts (.code Lib.Math.max.name Lib.Math.max.code 2 (some .int)) (by decide +kernel)) (Nat.le_of_ble_eq_true rfl) (Nat.le_of_ble_eq_true rfl) (Nat.zero_le _) (Nat.zero_le _) dX11_meeting_39 ?_
      refine lv_iload hx hb dX11_meeting_42 (lv_at hl 1 rfl) ?_
      refine lv_iload hx hb dX11_meeting_44 (lv_at hl 0 rfl) ?_
      refine va_mmin hx hb (hml.trans hl.1.symm) hown (hts (.methodLink RX11 176 Lib.Math.min.name) (by decide +kernel)) (hts (.static Lib.Math.min.name) (by decide +kernel)) (hts (.initialized "java/lang/Math") (by decide +kernel)) (hts (.code Lib.Math.min.name Lib.Math.min.code 2 (some .int)) (by decide +kernel)) (Nat.le_of_ble_eq_true rfl) (Nat.le_of_ble_eq_true rfl) (Nat.zero_le _) (Nat.zero_le _) dX11_meeting_46 ?_
      refine lv_aload_n hx hb dX11_meeting_49 rfl (lv_at hl 2 rfl) ?_
      refine o_get (ci := 11) (T := TX11) hx hb hts hinX11 hown ho 0 rfl rfl 12 (by decide) hf31 rfl dX11_meeting_50 ?_
      refine lv_iload hx hb dX11_meeting_53 (lv_at hl 7 rfl) ?_
      refine lv_iconst (v := 1) hx hb dX11_meeting_55 (by decide) ?_
      refine lv_iadd hx hb dX11_meeting_56 ?_
      refine o_ild hx hb ho 8 7 rfl rfl hp.1 dX11_meeting_57 ?_
      replace hp := hp.2
      refine lv_iadd hx hb dX11_meeting_58 ?_
      refine lv_icmp_ge (tgt := 65) hx hb dX11_meeting_59 (by decide) (fun c_59 => ?_) (fun c_59 => ?_)
      · replace hp := hp.1 c_59
        obtain ⟨x65, e_x65⟩ : ∃ y : Int32, y = v5 + 1 := ⟨_, rfl⟩
        replace hp := hp x65 e_x65
        refine lv_iinc (v := x65) (lv' := [(5, .int x65), (7, .int r30), (6, .int r19), (0, .ref (q 0)), (1, .int v1), (2, .int v2), (3, .int v3), (4, .int v4)]) hx hb dX11_meeting_65 hl (k := 7) rfl (by rw [e_x65]; rfl) (by decide) rfl (fun ls hl => ?_)
        refine lv_goto (tgt := 3) hx hb dX11_meeting_68 (by decide) ?_
        exact hrec x65 hp _ _ _ ho (lv_sub hl [3, 4, 5, 6, 7, 0] rfl)
      · replace hp := hp.2 c_59
        refine lv_iload hx hb dX11_meeting_62 (lv_at hl 7 rfl) ?_
        exact hret v5 () _ _ _ _ dX11_meeting_64 ho hp
  refine lv_iconst (v := 0) hx hb dX11_meeting_0 (by decide) ?_
  refine lv_istore (lv' := [(5, .int 0), (0, .ref (q 0)), (1, .int v1), (2, .int v2), (3, .int v3), (4, .int v4)]) hx hb dX11_meeting_1 hl (by decide) rfl (fun ls hl => ?_)
  exact hL3 v1 v2 v3 v4 0 hp _ _ _ ho (lv_sub hl [1, 2, 3, 4, 5, 0] rfl)
set_option maxHeartbeats 4000000 in
set_option maxRecDepth 100000 in
theorem c_M_meet (l : Launch) (D : va_G) (q : Nat → Nat) (c : Nat → ClassId) (mThr : Int32) (mTn : Int32) (mCk : Int32) (mRw : Int32) (mSt : Int32) (mTr : Int32) (mFM : Int32) (mFS : Int32) (mTpN : Int32) (mLw : Int32) (mAt : Int32) (mTwN : Int32) (mBE : Int32) (mBEn : Int32) (mSun : Nat → Int32) (mCkT : Nat → Int32) (mCkD : Nat → Int32) (mCkK : Nat → Int32) (mCkA : Nat → Int32) (mRow : Nat → Int32) (mStT : Nat → Int32) (mRun : Nat → Int32) (mUp : Nat → Int32) (mSta : Nat → Int32) (mSty : Nat → Int32) (mDly : Nat → Int32) (mTri : Nat → Int32) (mFnd : Nat → Int32) (mTap : Nat → Int32) (mLwT : Nat → Int32) (mLwD : Nat → Int32) (mLwO : Nat → Int32) (mLwM : Nat → Int32) (mTwT : Nat → Int32) (mSetA : Nat → Int32) (mDri : Nat → Int32) (mOrd : Nat → Int32) (mBst : Nat → Int32)  (Q : Int32 → Int32 → Int32 → (Nat → Int32) → Prop) (hp : p_M_meet mSt mTr mRun mUp mSta mSty mDly mThr mRw mRow Q) : oKi l yX11_meet wsX11_meet { frames := 3, cells := 0, slots := 0, locals := 75 } [.ref (q 0)] D (mT c) (wM q c mThr mTn mCk mRw mSt mTr mFM mFS mTpN mLw mAt mTwN mBE mBEn mSun mCkT mCkD mCkK mCkA mRow mStT mRun mUp mSta mSty mDly mTri mFnd mTap mLwT mLwD mLwO mLwM mTwT mSetA mDri mOrd mBst) (Int32 × Int32 × (Nat → Int32)) (fun r (u : Int32 × Int32 × (Nat → Int32)) => Q r u.1 u.2.1 u.2.2) (fun u => wM q c u.1 mTn mCk u.2.1 mSt mTr mFM mFS mTpN mLw mAt mTwN mBE mBEn mSun mCkT mCkD mCkK mCkA u.2.2 mStT mRun mUp mSta mSty mDly mTri mFnd mTap mLwT mLwD mLwO mLwM mTwT mSetA mDri mOrd mBst) := by
  refine oKi.ofW (own := RX11) (cc := cX11_meet) (maxL := 4) (plainFor_of_name (by decide +kernel)) rfl rfl (Nat.le_of_ble_eq_true rfl) (fun p e s m args below meth cd A ls Z hx hb hml hown hts hret ho hl => ?_)
  replace hl : lv_has ls 4 [(0, .ref (q 0))] := hl
  have hinX11 : ∀ w ∈ u_ws RX11 TX11 38, w ∈ wsX11_meet := by decide +kernel
  have hf25 := hts (.fieldLink RX11 25 "OneTimeModel" "row" "[I") (by decide +kernel)
  have hf44 := hts (.fieldLink RX11 44 "OneTimeModel" "delay" "[I") (by decide +kernel)
  have hf83 := hts (.fieldLink RX11 83 "OneTimeModel" "thrown" "I") (by decide +kernel)
  have hf121 := hts (.fieldLink RX11 121 "OneTimeModel" "trains" "I") (by decide +kernel)
  have hf130 := hts (.fieldLink RX11 130 "OneTimeModel" "rows" "I") (by decide +kernel)
  unfold p_M_meet at hp
  have hL19 : ∀ (v1 : Int32) (mThr : Int32) (mRw : Int32) (mRow : Nat → Int32) (k7 : Int32 → Prop) (hk7 : ∀ (v1 : Int32), k7 v1 → ∀ (H : Heap) (locs : List Loc) (ls : Array Slot), oW D (mT c) A s.heap s (wM q c mThr mTn mCk mRw mSt mTr mFM mFS mTpN mLw mAt mTwN mBE mBEn mSun mCkT mCkD mCkK mCkA mRow mStT mRun mUp mSta mSty mDly mTri mFnd mTap mLwT mLwD mLwO mLwM mTwT mSetA mDri mOrd mBst) H locs → lv_has ls 4 [(0, .ref (q 0)), (1, .int v1)] → W p l e { frames := 3, cells := 0, slots := 0, locals := 75 } s m args below meth cd H locs 0 0 Z (F0 m 7 ls [])) (v2 : Int32), Lp1 (p_M_meet_L19 mSt mTr mRun mUp mSta mSty mDly v1 mThr mRw mRow k7 Q) v2 → ∀ (H : Heap) (locs : List Loc) (ls : Array Slot), oW D (mT c) A s.heap s (wM q c mThr mTn mCk mRw mSt mTr mFM mFS mTpN mLw mAt mTwN mBE mBEn mSun mCkT mCkD mCkK mCkA mRow mStT mRun mUp mSta mSty mDly mTri mFnd mTap mLwT mLwD mLwO mLwM mTwT mSetA mDri mOrd mBst) H locs → lv_has ls 4 [(0, .ref (q 0)), (1, .int v1), (2, .int v2)] → W p l e { frames := 3, cells := 0, slots := 0, locals := 75 } s m args below meth cd H locs 0 0 Z (F0 m 19 ls []) := by
    intro v1 mThr mRw mRow k7 hk7
    refine Lp1.ind (fun rec hrec v2 hp H locs ls ho hl => ?_)
    unfold p_M_meet_L19 at hp
    refine lv_iload_n hx hb dX11_meet_19 rfl (lv_at hl 2 rfl) ?_
    refine lv_aload_n hx hb dX11_meet_20 rfl (lv_at hl 0 rfl) ?_
    refine o_get (ci := 11) (T := TX11) hx hb hts hinX11 hown ho 0 rfl rfl 13 (by decide) hf121 rfl dX11_meet_21 ?_
    refine lv_icmp_ge (tgt := 84) hx hb dX11_meet_24 (by decide) (fun c_24 => ?_) (fun c_24 => ?_)
    · replace hp := hp.1 c_24
      obtain ⟨x84, e_x84⟩ : ∃ y : Int32, y = v1 + 1 := ⟨_, rfl⟩
      replace hp := hp x84 e_x84
      refine lv_iinc (v := x84) (lv' := [(1, .int x84), (0, .ref (q 0)), (2, .int v2)]) hx hb dX11_meet_84 hl (k := 1) rfl (by rw [e_x84]; rfl) (by decide) rfl (fun ls hl => ?_)
      refine lv_goto (tgt := 7) hx hb dX11_meet_87 (by decide) ?_
      exact hk7 x84 hp _ _ _ ho (lv_sub hl [1, 0] rfl)
    · replace hp := hp.2 c_24
      refine lv_aload_n hx hb dX11_meet_27 rfl (lv_at hl 0 rfl) ?_
      refine lv_iload_n hx hb dX11_meet_28 rfl (lv_at hl 1 rfl) ?_
      refine lv_aload_n hx hb dX11_meet_29 rfl (lv_at hl 0 rfl) ?_
      refine o_get (ci := 11) (T := TX11) hx hb hts hinX11 hown ho 0 rfl rfl 17 (by decide) hf44 rfl dX11_meet_30 ?_
      refine lv_iload_n hx hb dX11_meet_33 rfl (lv_at hl 1 rfl) ?_
      refine o_ild hx hb ho 12 11 rfl rfl hp.1 dX11_meet_34 ?_
      replace hp := hp.2
      refine lv_iload_n hx hb dX11_meet_35 rfl (lv_at hl 2 rfl) ?_
      refine lv_aload_n hx hb dX11_meet_36 rfl (lv_at hl 0 rfl) ?_
      refine o_get (ci := 11) (T := TX11) hx hb hts hinX11 hown ho 0 rfl rfl 17 (by decide) hf44 rfl dX11_meet_37 ?_
      refine lv_iload_n hx hb dX11_meet_40 rfl (lv_at hl 2 rfl) ?_
      refine o_ild hx hb ho 12 11 rfl rfl hp.1 dX11_meet_41 ?_
      replace hp := hp.2
      refine o_callVi (rest := []) (ci := 11) ⟨hx, hb, hml, hown, hts⟩ ho (c_M_meeting l D q c mThr mTn mCk mRw mSt mTr mFM mFS mTpN mLw mAt mTwN mBE mBEn mSun mCkT mCkD mCkK mCkA mRow mStT mRun mUp mSta mSty mDly mTri mFnd mTap mLwT mLwD mLwO mLwM mTwT mSetA mDri mOrd mBst v1 (mDly v1.toNatClampNeg) v2 (mDly v2.toNatClampNeg) _ hp) (cwV 4 hts gX11_meet_X11_meeting rfl rfl rfl (by decide +kernel) ⟨(Nat.le_of_ble_eq_true rfl), (Nat.le_of_ble_eq_true rfl)⟩) 0 rfl rfl rfl hl.1 rfl (Nat.le_of_ble_eq_true rfl) dX11_meet_42 ⟨Nat.zero_le _, Nat.zero_le _⟩ (fun r42 u H locs hp ho => ?_)
      try dsimp only at hp
      replace ho : oW D (mT c) A s.heap s (wM q c mThr mTn mCk mRw mSt mTr mFM mFS mTpN mLw mAt mTwN mBE mBEn mSun mCkT mCkD mCkK mCkA mRow mStT mRun mUp mSta mSty mDly mTri mFnd mTap mLwT mLwD mLwO mLwM mTwT mSetA mDri mOrd mBst) H locs := ho
      refine lv_istore_n (lv' := [(3, .int r42), (0, .ref (q 0)), (1, .int v1), (2, .int v2)]) hx hb dX11_meet_45 rfl hl (by decide) rfl (fun ls hl => ?_)
      refine lv_iload_n hx hb dX11_meet_46 rfl (lv_at hl 0 rfl) ?_
      refine lv_if_lt (tgt := 78) hx hb dX11_meet_47 (by decide) (fun c_47 => ?_) (fun c_47 => ?_)
      · replace hp := hp.1 c_47
        obtain ⟨x78, e_x78⟩ : ∃ y : Int32, y = v2 + 1 := ⟨_, rfl⟩
        replace hp := hp x78 e_x78
        refine lv_iinc (v := x78) (lv' := [(2, .int x78), (3, .int r42), (0, .ref (q 0)), (1, .int v1)]) hx hb dX11_meet_78 hl (k := 3) rfl (by rw [e_x78]; rfl) (by decide) rfl (fun ls hl => ?_)
        refine lv_goto (tgt := 19) hx hb dX11_meet_81 (by decide) ?_
        exact hrec x78 hp _ _ _ ho (lv_sub hl [2, 3, 0] rfl)
      · replace hp := hp.2 c_47
        refine lv_aload_n hx hb dX11_meet_50 rfl (lv_at hl 1 rfl) ?_
        refine lv_iconst (v := 3) hx hb dX11_meet_51 (by decide) ?_
        refine o_put (ci := 11) (T := TX11) hx hb hts hinX11 tyX11_ok nmX11 hown ho 0 rfl rfl 8 (by decide) hf130 rfl (tyX11_ok 8 (by decide)) (Nat.le_of_ble_eq_true rfl) dX11_meet_52 (fun H locs ho => ?_)
        replace ho : oW D (mT c) A s.heap s (wM q c mThr mTn mCk 3 mSt mTr mFM mFS mTpN mLw mAt mTwN mBE mBEn mSun mCkT mCkD mCkK mCkA mRow mStT mRun mUp mSta mSty mDly mTri mFnd mTap mLwT mLwD mLwO mLwM mTwT mSetA mDri mOrd mBst) H locs := ho
        refine lv_aload_n hx hb dX11_meet_55 rfl (lv_at hl 1 rfl) ?_
        refine o_get (ci := 11) (T := TX11) hx hb hts hinX11 hown ho 0 rfl rfl 9 (by decide) hf25 rfl dX11_meet_56 ?_
        refine lv_iconst (v := 0) hx hb dX11_meet_59 (by decide) ?_
        refine lv_iload_n hx hb dX11_meet_60 rfl (lv_at hl 2 rfl) ?_
        refine o_ist hx hb ho 6 5 rfl rfl hp.1 dX11_meet_61 (fun H locs ho => ?_)
        replace hp := hp.2
        replace ho : oW D (mT c) A s.heap s (wM q c mThr mTn mCk 3 mSt mTr mFM mFS mTpN mLw mAt mTwN mBE mBEn mSun mCkT mCkD mCkK mCkA (upd mRow (0 : Int32).toNatClampNeg v1) mStT mRun mUp mSta mSty mDly mTri mFnd mTap mLwT mLwD mLwO mLwM mTwT mSetA mDri mOrd mBst) H locs := ho
        refine lv_aload_n hx hb dX11_meet_62 rfl (lv_at hl 1 rfl) ?_
        refine o_get (ci := 11) (T := TX11) hx hb hts hinX11 hown ho 0 rfl rfl 9 (by decide) hf25 rfl dX11_meet_63 ?_
        refine lv_iconst (v := 1) hx hb dX11_meet_66 (by decide) ?_
        refine lv_iload_n hx hb dX11_meet_67 rfl (lv_at hl 3 rfl) ?_
        refine o_ist hx hb ho 6 5 rfl rfl hp.1 dX11_meet_68 (fun H locs ho => ?_)
        replace hp := hp.2
        replace ho : oW D (mT c) A s.heap s (wM q c mThr mTn mCk 3 mSt mTr mFM mFS mTpN mLw mAt mTwN mBE mBEn mSun mCkT mCkD mCkK mCkA (upd (upd mRow (0 : Int32).toNatClampNeg v1) (1 : Int32).toNatClampNeg v2) mStT mRun mUp mSta mSty mDly mTri mFnd mTap mLwT mLwD mLwO mLwM mTwT mSetA mDri mOrd mBst) H locs := ho
        refine lv_aload_n hx hb dX11_meet_69 rfl (lv_at hl 1 rfl) ?_
        refine o_get (ci := 11) (T := TX11) hx hb hts hinX11 hown ho 0 rfl rfl 9 (by decide) hf25 rfl dX11_meet_70 ?_
        refine lv_iconst (v := 2) hx hb dX11_meet_73 (by decide) ?_
        refine lv_iload_n hx hb dX11_meet_74 rfl (lv_at hl 0 rfl) ?_
        refine o_ist hx hb ho 6 5 rfl rfl hp.1 dX11_meet_75 (fun H locs ho => ?_)
        replace hp := hp.2
        replace ho : oW D (mT c) A s.heap s (wM q c mThr mTn mCk 3 mSt mTr mFM mFS mTpN mLw mAt mTwN mBE mBEn mSun mCkT mCkD mCkK mCkA (upd (upd (upd mRow (0 : Int32).toNatClampNeg v1) (1 : Int32).toNatClampNeg v2) (2 : Int32).toNatClampNeg r42) mStT mRun mUp mSta mSty mDly mTri mFnd mTap mLwT mLwD mLwO mLwM mTwT mSetA mDri mOrd mBst) H locs := ho
        refine lv_iconst (v := 1) hx hb dX11_meet_76 (by decide) ?_
        exact hret 1 (mThr, 3, upd (upd (upd mRow (0 : Int32).toNatClampNeg v1) (1 : Int32).toNatClampNeg v2) (2 : Int32).toNatClampNeg r42) _ _ _ _ dX11_meet_77 ho hp
  have hL7 : ∀ (mThr : Int32) (mRw : Int32) (mRow : Nat → Int32) (v1 : Int32), Lp1 (p_M_meet_L7 mSt mTr mRun mUp mSta mSty mDly mThr mRw mRow Q) v1 → ∀ (H : Heap) (locs : List Loc) (ls : Array Slot), oW D (mT c) A s.heap s (wM q c mThr mTn mCk mRw mSt mTr mFM mFS mTpN mLw mAt mTwN mBE mBEn mSun mCkT mCkD mCkK mCkA mRow mStT mRun mUp mSta mSty mDly mTri mFnd mTap mLwT mLwD mLwO mLwM mTwT mSetA mDri mOrd mBst) H locs → lv_has ls 4 [(0, .ref (q 0)), (1, .int v1)] → W p l e { frames := 3, cells := 0, slots := 0, locals := 75 } s m args below meth cd H locs 0 0 Z (F0 m 7 ls []) := by
    intro mThr mRw mRow
    refine Lp1.ind (fun rec hrec v1 hp H locs ls ho hl => ?_)
    unfold p_M_meet_L7 at hp
    refine lv_iload_n hx hb dX11_meet_7 rfl (lv_at hl 1 rfl) ?_
    refine lv_aload_n hx hb dX11_meet_8 rfl (lv_at hl 0 rfl) ?_
    refine o_get (ci := 11) (T := TX11) hx hb hts hinX11 hown ho 0 rfl rfl 13 (by decide) hf121 rfl dX11_meet_9 ?_
    refine lv_icmp_ge (tgt := 90) hx hb dX11_meet_12 (by decide) (fun c_12 => ?_) (fun c_12 => ?_)
    · replace hp := hp.1 c_12
      refine lv_iconst (v := 0) hx hb dX11_meet_90 (by decide) ?_
      exact hret 0 (mThr, mRw, mRow) _ _ _ _ dX11_meet_91 ho hp
    · replace hp := hp.2 c_12
      refine lv_iload_n hx hb dX11_meet_15 rfl (lv_at hl 1 rfl) ?_
      refine lv_iconst (v := 1) hx hb dX11_meet_16 (by decide) ?_
      refine lv_iadd hx hb dX11_meet_17 ?_
      refine lv_topi (fun x18 e_x18 => ?_)
      replace hp := hp x18 e_x18
      refine lv_istore_n (lv' := [(2, .int x18), (0, .ref (q 0)), (1, .int v1)]) hx hb dX11_meet_18 rfl hl (by decide) rfl (fun ls hl => ?_)
      exact hL19 v1 mThr mRw mRow rec hrec x18 hp _ _ _ ho (lv_sub hl [1, 2, 0] rfl)
  refine lv_aload_n hx hb dX11_meet_0 rfl (lv_at hl 0 rfl) ?_
  refine lv_iconst (v := 0) hx hb dX11_meet_1 (by decide) ?_
  refine o_put (ci := 11) (T := TX11) hx hb hts hinX11 tyX11_ok nmX11 hown ho 0 rfl rfl 0 (by decide) hf83 rfl (tyX11_ok 0 (by decide)) (Nat.le_of_ble_eq_true rfl) dX11_meet_2 (fun H locs ho => ?_)
  replace ho : oW D (mT c) A s.heap s (wM q c 0 mTn mCk mRw mSt mTr mFM mFS mTpN mLw mAt mTwN mBE mBEn mSun mCkT mCkD mCkK mCkA mRow mStT mRun mUp mSta mSty mDly mTri mFnd mTap mLwT mLwD mLwO mLwM mTwT mSetA mDri mOrd mBst) H locs := ho
  refine lv_iconst (v := 0) hx hb dX11_meet_5 (by decide) ?_
  refine lv_istore_n (lv' := [(1, .int 0), (0, .ref (q 0))]) hx hb dX11_meet_6 rfl hl (by decide) rfl (fun ls hl => ?_)
  exact hL7 0 mRw mRow 0 hp _ _ _ ho (lv_sub hl [1, 0] rfl)
set_option maxHeartbeats 4000000 in
set_option maxRecDepth 100000 in
theorem c_M_delays (l : Launch) (D : va_G) (q : Nat → Nat) (c : Nat → ClassId) : ∀ (d : Nat) (mThr : Int32) (mTn : Int32) (mCk : Int32) (mRw : Int32) (mSt : Int32) (mTr : Int32) (mFM : Int32) (mFS : Int32) (mTpN : Int32) (mLw : Int32) (mAt : Int32) (mTwN : Int32) (mBE : Int32) (mBEn : Int32) (mSun : Nat → Int32) (mCkT : Nat → Int32) (mCkD : Nat → Int32) (mCkK : Nat → Int32) (mCkA : Nat → Int32) (mRow : Nat → Int32) (mStT : Nat → Int32) (mRun : Nat → Int32) (mUp : Nat → Int32) (mSta : Nat → Int32) (mSty : Nat → Int32) (mDly : Nat → Int32) (mTri : Nat → Int32) (mFnd : Nat → Int32) (mTap : Nat → Int32) (mLwT : Nat → Int32) (mLwD : Nat → Int32) (mLwO : Nat → Int32) (mLwM : Nat → Int32) (mTwT : Nat → Int32) (mSetA : Nat → Int32) (mDri : Nat → Int32) (mOrd : Nat → Int32) (mBst : Nat → Int32) (v1 : Int32) (v2 : Int32) (v3 : Int32) (Q : Int32 → Int32 → (Nat → Int32) → (Nat → Int32) → Prop), p_M_delays mSt mTr mRun mUp mSta mSty d mFM mFS mTri mFnd v1 v2 v3 Q → oKv l yX11_delays wsX11_delays { frames := 3 + d, cells := 0, slots := 0, locals := 75 + d * 26 } [.ref (q 0), .int v1, .int v2, .int v3] D (mT c) (wM q c mThr mTn mCk mRw mSt mTr mFM mFS mTpN mLw mAt mTwN mBE mBEn mSun mCkT mCkD mCkK mCkA mRow mStT mRun mUp mSta mSty mDly mTri mFnd mTap mLwT mLwD mLwO mLwM mTwT mSetA mDri mOrd mBst) (Int32 × Int32 × (Nat → Int32) × (Nat → Int32)) (fun (u : Int32 × Int32 × (Nat → Int32) × (Nat → Int32)) => Q u.1 u.2.1 u.2.2.1 u.2.2.2) (fun u => wM q c mThr mTn mCk mRw mSt mTr u.1 u.2.1 mTpN mLw mAt mTwN mBE mBEn mSun mCkT mCkD mCkK mCkA mRow mStT mRun mUp mSta mSty mDly u.2.2.1 u.2.2.2 mTap mLwT mLwD mLwO mLwM mTwT mSetA mDri mOrd mBst) := by
  intro d
  induction d with
  | zero =>
    intro mThr mTn mCk mRw mSt mTr mFM mFS mTpN mLw mAt mTwN mBE mBEn mSun mCkT mCkD mCkK mCkA mRow mStT mRun mUp mSta mSty mDly mTri mFnd mTap mLwT mLwD mLwO mLwM mTwT mSetA mDri mOrd mBst v1 v2 v3 Q hp
    exact absurd hp (fun h => h)
  | succ d ih =>
    intro mThr mTn mCk mRw mSt mTr mFM mFS mTpN mLw mAt mTwN mBE mBEn mSun mCkT mCkD mCkK mCkA mRow mStT mRun mUp mSta mSty mDly mTri mFnd mTap mLwT mLwD mLwO mLwM mTwT mSetA mDri mOrd mBst v1 v2 v3 Q hp
    replace hp : p_M_delays_B mSt mTr mRun mUp mSta mSty (p_M_delays mSt mTr mRun mUp mSta mSty d) mFM mFS mTri mFnd v1 v2 v3 Q := hp
    refine oKv.ofW (own := RX11) (cc := cX11_delays) (maxL := 7) (plainFor_of_name (by decide +kernel)) rfl rfl (Nat.le_of_ble_eq_true rfl) (fun p e s m args below meth cd A ls Z hx hb hml hown hts hret ho hl => ?_)
    replace hl : lv_has ls 7 [(0, .ref (q 0)), (1, .int v1), (2, .int v2), (3, .int v3)] := hl
    have hinX11 : ∀ w ∈ u_ws RX11 TX11 38, w ∈ wsX11_delays := by decide +kernel
    have hf47 := hts (.fieldLink RX11 47 "OneTimeModel" "trial" "[I") (by decide +kernel)
    have hf50 := hts (.fieldLink RX11 50 "OneTimeModel" "found" "[I") (by decide +kernel)
    have hf121 := hts (.fieldLink RX11 121 "OneTimeModel" "trains" "I") (by decide +kernel)
    have hf183 := hts (.fieldLink RX11 183 "OneTimeModel" "foundMoved" "I") (by decide +kernel)
    have hf186 := hts (.fieldLink RX11 186 "OneTimeModel" "foundSum" "I") (by decide +kernel)
    unfold p_M_delays_B at hp
    have hJ163 : ∀ (v1 : Int32) (v2 : Int32) (v3 : Int32) (v4 : Int32) (mFM : Int32) (mFS : Int32) (mTri : Nat → Int32) (mFnd : Nat → Int32) (s1 : Int32) (s2 : Int32) (s3 : Int32) (k79 : Int32 → Int32 → Int32 → (Nat → Int32) → (Nat → Int32) → Prop) (hk79 : ∀ (v4 : Int32) (mFM : Int32) (mFS : Int32) (mTri : Nat → Int32) (mFnd : Nat → Int32), k79 v4 mFM mFS mTri mFnd → ∀ (H : Heap) (locs : List Loc) (ls : Array Slot), oW D (mT c) A s.heap s (wM q c mThr mTn mCk mRw mSt mTr mFM mFS mTpN mLw mAt mTwN mBE mBEn mSun mCkT mCkD mCkK mCkA mRow mStT mRun mUp mSta mSty mDly mTri mFnd mTap mLwT mLwD mLwO mLwM mTwT mSetA mDri mOrd mBst) H locs → lv_has ls 7 [(0, .ref (q 0)), (1, .int v1), (2, .int v2), (3, .int v3), (4, .int v4)] → W p l e { frames := 3 + (d + 1), cells := 0, slots := 0, locals := 75 + (d + 1) * 26 } s m args below meth cd H locs 0 0 Z (F0 m 79 ls [])), p_M_delays_J163 mSt mTr mRun mUp mSta mSty (p_M_delays mSt mTr mRun mUp mSta mSty d) v1 v2 v3 v4 mFM mFS mTri mFnd s1 s2 s3 k79 Q → ∀ (H : Heap) (locs : List Loc) (ls : Array Slot), oW D (mT c) A s.heap s (wM q c mThr mTn mCk mRw mSt mTr mFM mFS mTpN mLw mAt mTwN mBE mBEn mSun mCkT mCkD mCkK mCkA mRow mStT mRun mUp mSta mSty mDly mTri mFnd mTap mLwT mLwD mLwO mLwM mTwT mSetA mDri mOrd mBst) H locs → lv_has ls 7 [(0, .ref (q 0)), (1, .int v1), (2, .int v2), (3, .int v3), (4, .int v4)] → W p l e { frames := 3 + (d + 1), cells := 0, slots := 0, locals := 75 + (d + 1) * 26 } s m args below meth cd H locs 0 0 Z (F0 m 163 ls [.int s3, .int s2, .int s1, .ref (q 0)]) := by
      intro v1 v2 v3 v4 mFM mFS mTri mFnd s1 s2 s3 k79 hk79
      intro hp H locs ls ho hl
      unfold p_M_delays_J163 at hp
      refine lv_iadd hx hb dX11_delays_163 ?_
      refine lv_iload_n hx hb dX11_delays_164 rfl (lv_at hl 3 rfl) ?_
      refine lv_iload hx hb dX11_delays_165 (lv_at hl 4 rfl) ?_
      refine lv_iadd hx hb dX11_delays_167 ?_
      refine o_callVv (rest := []) (ci := 11) ⟨hx, hb, hml, hown, hts⟩ ho (ih mThr mTn mCk mRw mSt mTr mFM mFS mTpN mLw mAt mTwN mBE mBEn mSun mCkT mCkD mCkK mCkA mRow mStT mRun mUp mSta mSty mDly mTri mFnd mTap mLwT mLwD mLwO mLwM mTwT mSetA mDri mOrd mBst s1 (s2 + s3) (v3 + v4) _ hp) (cwV 3 hts gX11_delays_X11_delays rfl rfl rfl (by decide +kernel) ⟨(by dsimp only; omega), (by dsimp only; omega)⟩) 0 rfl rfl rfl hl.1 rfl (Nat.le_of_ble_eq_true rfl) dX11_delays_168 ⟨Nat.zero_le _, Nat.zero_le _⟩ (fun u H locs hp ho => ?_)
      obtain ⟨mFM_168, mFS_168, mTri_168, mFnd_168⟩ := u
      try dsimp only at hp
      replace ho : oW D (mT c) A s.heap s (wM q c mThr mTn mCk mRw mSt mTr mFM_168 mFS_168 mTpN mLw mAt mTwN mBE mBEn mSun mCkT mCkD mCkK mCkA mRow mStT mRun mUp mSta mSty mDly mTri_168 mFnd_168 mTap mLwT mLwD mLwO mLwM mTwT mSetA mDri mOrd mBst) H locs := ho
      obtain ⟨x171, e_x171⟩ : ∃ y : Int32, y = v4 + 5 := ⟨_, rfl⟩
      replace hp := hp x171 e_x171
      refine lv_iinc (v := x171) (lv' := [(4, .int x171), (0, .ref (q 0)), (1, .int v1), (2, .int v2), (3, .int v3)]) hx hb dX11_delays_171 hl (k := 4) rfl (by rw [e_x171]; rfl) (by decide) rfl (fun ls hl => ?_)
      refine lv_goto (tgt := 79) hx hb dX11_delays_174 (by decide) ?_
      exact hk79 x171 mFM_168 mFS_168 mTri_168 mFnd_168 hp _ _ _ ho (lv_sub hl [1, 2, 3, 4, 0] rfl)
    have hJ135 : ∀ (v1 : Int32) (v2 : Int32) (v3 : Int32) (v4 : Int32) (v5 : Int32) (mFM : Int32) (mFS : Int32) (mTri : Nat → Int32) (mFnd : Nat → Int32) (k79 : Int32 → Int32 → Int32 → (Nat → Int32) → (Nat → Int32) → Prop) (hk79 : ∀ (v4 : Int32) (mFM : Int32) (mFS : Int32) (mTri : Nat → Int32) (mFnd : Nat → Int32), k79 v4 mFM mFS mTri mFnd → ∀ (H : Heap) (locs : List Loc) (ls : Array Slot), oW D (mT c) A s.heap s (wM q c mThr mTn mCk mRw mSt mTr mFM mFS mTpN mLw mAt mTwN mBE mBEn mSun mCkT mCkD mCkK mCkA mRow mStT mRun mUp mSta mSty mDly mTri mFnd mTap mLwT mLwD mLwO mLwM mTwT mSetA mDri mOrd mBst) H locs → lv_has ls 7 [(0, .ref (q 0)), (1, .int v1), (2, .int v2), (3, .int v3), (4, .int v4)] → W p l e { frames := 3 + (d + 1), cells := 0, slots := 0, locals := 75 + (d + 1) * 26 } s m args below meth cd H locs 0 0 Z (F0 m 79 ls [])), p_M_delays_J135 mSt mTr mRun mUp mSta mSty (p_M_delays mSt mTr mRun mUp mSta mSty d) v1 v2 v3 v4 v5 mFM mFS mTri mFnd k79 Q → ∀ (H : Heap) (locs : List Loc) (ls : Array Slot), oW D (mT c) A s.heap s (wM q c mThr mTn mCk mRw mSt mTr mFM mFS mTpN mLw mAt mTwN mBE mBEn mSun mCkT mCkD mCkK mCkA mRow mStT mRun mUp mSta mSty mDly mTri mFnd mTap mLwT mLwD mLwO mLwM mTwT mSetA mDri mOrd mBst) H locs → lv_has ls 7 [(0, .ref (q 0)), (1, .int v1), (2, .int v2), (3, .int v3), (4, .int v4), (5, .int v5)] → W p l e { frames := 3 + (d + 1), cells := 0, slots := 0, locals := 75 + (d + 1) * 26 } s m args below meth cd H locs 0 0 Z (F0 m 135 ls []) := by
      intro v1 v2 v3 v4 v5 mFM mFS mTri mFnd k79 hk79
      intro hp H locs ls ho hl
      unfold p_M_delays_J135 at hp
      refine lv_iload hx hb dX11_delays_135 (lv_at hl 5 rfl) ?_
      refine lv_if_eq (tgt := 171) hx hb dX11_delays_137 (by decide) (fun c_137 => ?_) (fun c_137 => ?_)
      · replace hp := hp.1 c_137
        obtain ⟨x171, e_x171⟩ : ∃ y : Int32, y = v4 + 5 := ⟨_, rfl⟩
        replace hp := hp x171 e_x171
        refine lv_iinc (v := x171) (lv' := [(4, .int x171), (0, .ref (q 0)), (1, .int v1), (2, .int v2), (3, .int v3), (5, .int v5)]) hx hb dX11_delays_171 hl (k := 4) rfl (by rw [e_x171]; rfl) (by decide) rfl (fun ls hl => ?_)
        refine lv_goto (tgt := 79) hx hb dX11_delays_174 (by decide) ?_
        exact hk79 x171 mFM mFS mTri mFnd hp _ _ _ ho (lv_sub hl [1, 2, 3, 4, 0] rfl)
      · replace hp := hp.2 c_137
        refine lv_aload_n hx hb dX11_delays_140 rfl (lv_at hl 0 rfl) ?_
        refine o_get (ci := 11) (T := TX11) hx hb hts hinX11 hown ho 0 rfl rfl 18 (by decide) hf47 rfl dX11_delays_141 ?_
        refine lv_iload_n hx hb dX11_delays_144 rfl (lv_at hl 1 rfl) ?_
        refine lv_iload hx hb dX11_delays_145 (lv_at hl 4 rfl) ?_
        refine o_ist hx hb ho 13 12 rfl rfl hp.1 dX11_delays_147 (fun H locs ho => ?_)
        replace hp := hp.2
        replace ho : oW D (mT c) A s.heap s (wM q c mThr mTn mCk mRw mSt mTr mFM mFS mTpN mLw mAt mTwN mBE mBEn mSun mCkT mCkD mCkK mCkA mRow mStT mRun mUp mSta mSty mDly (upd mTri v1.toNatClampNeg v4) mFnd mTap mLwT mLwD mLwO mLwM mTwT mSetA mDri mOrd mBst) H locs := ho
        refine lv_aload_n hx hb dX11_delays_148 rfl (lv_at hl 0 rfl) ?_
        refine lv_iload_n hx hb dX11_delays_149 rfl (lv_at hl 1 rfl) ?_
        refine lv_iconst (v := 1) hx hb dX11_delays_150 (by decide) ?_
        refine lv_iadd hx hb dX11_delays_151 ?_
        refine lv_iload_n hx hb dX11_delays_152 rfl (lv_at hl 2 rfl) ?_
        refine lv_iload hx hb dX11_delays_153 (lv_at hl 4 rfl) ?_
        refine lv_if_le (tgt := 162) hx hb dX11_delays_155 (by decide) (fun c_155 => ?_) (fun c_155 => ?_)
        · replace hp := hp.1 c_155
          refine lv_iconst (v := 0) hx hb dX11_delays_162 (by decide) ?_
          exact hJ163 v1 v2 v3 v4 mFM mFS (upd mTri v1.toNatClampNeg v4) mFnd (v1 + 1) v2 0 k79 hk79 hp _ _ _ ho (lv_sub hl [0, 1, 2, 3, 4] rfl)
        · replace hp := hp.2 c_155
          refine lv_iconst (v := 1) hx hb dX11_delays_158 (by decide) ?_
          refine lv_goto (tgt := 163) hx hb dX11_delays_159 (by decide) ?_
          exact hJ163 v1 v2 v3 v4 mFM mFS (upd mTri v1.toNatClampNeg v4) mFnd (v1 + 1) v2 1 k79 hk79 hp _ _ _ ho (lv_sub hl [0, 1, 2, 3, 4] rfl)
    have hL92 : ∀ (v1 : Int32) (v2 : Int32) (v3 : Int32) (v4 : Int32) (mFM : Int32) (mFS : Int32) (mTri : Nat → Int32) (mFnd : Nat → Int32) (k79 : Int32 → Int32 → Int32 → (Nat → Int32) → (Nat → Int32) → Prop) (hk79 : ∀ (v4 : Int32) (mFM : Int32) (mFS : Int32) (mTri : Nat → Int32) (mFnd : Nat → Int32), k79 v4 mFM mFS mTri mFnd → ∀ (H : Heap) (locs : List Loc) (ls : Array Slot), oW D (mT c) A s.heap s (wM q c mThr mTn mCk mRw mSt mTr mFM mFS mTpN mLw mAt mTwN mBE mBEn mSun mCkT mCkD mCkK mCkA mRow mStT mRun mUp mSta mSty mDly mTri mFnd mTap mLwT mLwD mLwO mLwM mTwT mSetA mDri mOrd mBst) H locs → lv_has ls 7 [(0, .ref (q 0)), (1, .int v1), (2, .int v2), (3, .int v3), (4, .int v4)] → W p l e { frames := 3 + (d + 1), cells := 0, slots := 0, locals := 75 + (d + 1) * 26 } s m args below meth cd H locs 0 0 Z (F0 m 79 ls [])) (v5 : Int32) (v6 : Int32), Lp2 (p_M_delays_L92 mSt mTr mRun mUp mSta mSty (p_M_delays mSt mTr mRun mUp mSta mSty d) v1 v2 v3 v4 mFM mFS mTri mFnd k79 Q) v5 v6 → ∀ (H : Heap) (locs : List Loc) (ls : Array Slot), oW D (mT c) A s.heap s (wM q c mThr mTn mCk mRw mSt mTr mFM mFS mTpN mLw mAt mTwN mBE mBEn mSun mCkT mCkD mCkK mCkA mRow mStT mRun mUp mSta mSty mDly mTri mFnd mTap mLwT mLwD mLwO mLwM mTwT mSetA mDri mOrd mBst) H locs → lv_has ls 7 [(0, .ref (q 0)), (1, .int v1), (2, .int v2), (3, .int v3), (4, .int v4), (5, .int v5), (6, .int v6)] → W p l e { frames := 3 + (d + 1), cells := 0, slots := 0, locals := 75 + (d + 1) * 26 } s m args below meth cd H locs 0 0 Z (F0 m 92 ls []) := by
      intro v1 v2 v3 v4 mFM mFS mTri mFnd k79 hk79
      refine Lp2.ind (fun rec hrec v5 v6 hp H locs ls ho hl => ?_)
      unfold p_M_delays_L92 at hp
      refine lv_iload hx hb dX11_delays_92 (lv_at hl 6 rfl) ?_
      refine lv_iload_n hx hb dX11_delays_94 rfl (lv_at hl 1 rfl) ?_
      refine lv_icmp_ge (tgt := 135) hx hb dX11_delays_95 (by decide) (fun c_95 => ?_) (fun c_95 => ?_)
      · replace hp := hp.1 c_95
        exact hJ135 v1 v2 v3 v4 v5 mFM mFS mTri mFnd k79 hk79 hp _ _ _ ho (lv_sub hl [0, 1, 2, 3, 4, 5] rfl)
      · replace hp := hp.2 c_95
        refine lv_iload hx hb dX11_delays_98 (lv_at hl 5 rfl) ?_
        refine lv_if_eq (tgt := 135) hx hb dX11_delays_100 (by decide) (fun c_100 => ?_) (fun c_100 => ?_)
        · replace hp := hp.1 c_100
          exact hJ135 v1 v2 v3 v4 v5 mFM mFS mTri mFnd k79 hk79 hp _ _ _ ho (lv_sub hl [0, 1, 2, 3, 4, 5] rfl)
        · replace hp := hp.2 c_100
          refine lv_aload_n hx hb dX11_delays_103 rfl (lv_at hl 0 rfl) ?_
          refine lv_iload hx hb dX11_delays_104 (lv_at hl 6 rfl) ?_
          refine lv_aload_n hx hb dX11_delays_106 rfl (lv_at hl 0 rfl) ?_
          refine o_get (ci := 11) (T := TX11) hx hb hts hinX11 hown ho 0 rfl rfl 18 (by decide) hf47 rfl dX11_delays_107 ?_
          refine lv_iload hx hb dX11_delays_110 (lv_at hl 6 rfl) ?_
          refine o_ild hx hb ho 13 12 rfl rfl hp.1 dX11_delays_112 ?_
          replace hp := hp.2
          refine lv_iload_n hx hb dX11_delays_113 rfl (lv_at hl 1 rfl) ?_
          refine lv_iload hx hb dX11_delays_114 (lv_at hl 4 rfl) ?_
          refine o_callVi (rest := []) (ci := 11) ⟨hx, hb, hml, hown, hts⟩ ho (c_M_meeting l D q c mThr mTn mCk mRw mSt mTr mFM mFS mTpN mLw mAt mTwN mBE mBEn mSun mCkT mCkD mCkK mCkA mRow mStT mRun mUp mSta mSty mDly mTri mFnd mTap mLwT mLwD mLwO mLwM mTwT mSetA mDri mOrd mBst v6 (mTri v6.toNatClampNeg) v1 v4 _ hp) (cwV 4 hts gX11_delays_X11_meeting rfl rfl rfl (by decide +kernel) ⟨(by dsimp only; omega), (by dsimp only; omega)⟩) 0 rfl rfl rfl hl.1 rfl (Nat.le_of_ble_eq_true rfl) dX11_delays_116 ⟨Nat.zero_le _, Nat.zero_le _⟩ (fun r116 u H locs hp ho => ?_)
          try dsimp only at hp
          replace ho : oW D (mT c) A s.heap s (wM q c mThr mTn mCk mRw mSt mTr mFM mFS mTpN mLw mAt mTwN mBE mBEn mSun mCkT mCkD mCkK mCkA mRow mStT mRun mUp mSta mSty mDly mTri mFnd mTap mLwT mLwD mLwO mLwM mTwT mSetA mDri mOrd mBst) H locs := ho
          refine lv_if_ge (tgt := 126) hx hb dX11_delays_119 (by decide) (fun c_119 => ?_) (fun c_119 => ?_)
          · replace hp := hp.1 c_119
            refine lv_iconst (v := 0) hx hb dX11_delays_126 (by decide) ?_
            refine lv_istore (lv' := [(5, .int 0), (0, .ref (q 0)), (1, .int v1), (2, .int v2), (3, .int v3), (4, .int v4), (6, .int v6)]) hx hb dX11_delays_127 hl (by decide) rfl (fun ls hl => ?_)
            obtain ⟨x129, e_x129⟩ : ∃ y : Int32, y = v6 + 1 := ⟨_, rfl⟩
            replace hp := hp x129 e_x129
            refine lv_iinc (v := x129) (lv' := [(6, .int x129), (5, .int 0), (0, .ref (q 0)), (1, .int v1), (2, .int v2), (3, .int v3), (4, .int v4)]) hx hb dX11_delays_129 hl (k := 6) rfl (by rw [e_x129]; rfl) (by decide) rfl (fun ls hl => ?_)
            refine lv_goto (tgt := 92) hx hb dX11_delays_132 (by decide) ?_
            exact hrec 0 x129 hp _ _ _ ho (lv_sub hl [2, 3, 4, 5, 6, 1, 0] rfl)
          · replace hp := hp.2 c_119
            refine lv_iconst (v := 1) hx hb dX11_delays_122 (by decide) ?_
            refine lv_goto (tgt := 127) hx hb dX11_delays_123 (by decide) ?_
            refine lv_istore (lv' := [(5, .int 1), (0, .ref (q 0)), (1, .int v1), (2, .int v2), (3, .int v3), (4, .int v4), (6, .int v6)]) hx hb dX11_delays_127 hl (by decide) rfl (fun ls hl => ?_)
            obtain ⟨x129, e_x129⟩ : ∃ y : Int32, y = v6 + 1 := ⟨_, rfl⟩
            replace hp := hp x129 e_x129
            refine lv_iinc (v := x129) (lv' := [(6, .int x129), (5, .int 1), (0, .ref (q 0)), (1, .int v1), (2, .int v2), (3, .int v3), (4, .int v4)]) hx hb dX11_delays_129 hl (k := 6) rfl (by rw [e_x129]; rfl) (by decide) rfl (fun ls hl => ?_)
            refine lv_goto (tgt := 92) hx hb dX11_delays_132 (by decide) ?_
            exact hrec 1 x129 hp _ _ _ ho (lv_sub hl [2, 3, 4, 5, 6, 1, 0] rfl)
    have hL79 : ∀ (v1 : Int32) (v2 : Int32) (v3 : Int32) (v4 : Int32) (mFM : Int32) (mFS : Int32) (mTri : Nat → Int32) (mFnd : Nat → Int32), Lp5 (p_M_delays_L79 mSt mTr mRun mUp mSta mSty (p_M_delays mSt mTr mRun mUp mSta mSty d) v1 v2 v3 Q) v4 mFM mFS mTri mFnd → ∀ (H : Heap) (locs : List Loc) (ls : Array Slot), oW D (mT c) A s.heap s (wM q c mThr mTn mCk mRw mSt mTr mFM mFS mTpN mLw mAt mTwN mBE mBEn mSun mCkT mCkD mCkK mCkA mRow mStT mRun mUp mSta mSty mDly mTri mFnd mTap mLwT mLwD mLwO mLwM mTwT mSetA mDri mOrd mBst) H locs → lv_has ls 7 [(0, .ref (q 0)), (1, .int v1), (2, .int v2), (3, .int v3), (4, .int v4)] → W p l e { frames := 3 + (d + 1), cells := 0, slots := 0, locals := 75 + (d + 1) * 26 } s m args below meth cd H locs 0 0 Z (F0 m 79 ls []) := by
      intro v1 v2 v3
      refine Lp5.ind (fun rec hrec v4 mFM mFS mTri mFnd hp H locs ls ho hl => ?_)
      unfold p_M_delays_L79 at hp
      refine lv_iload hx hb dX11_delays_79 (lv_at hl 4 rfl) ?_
      refine lv_bipush (v := 30) hx hb dX11_delays_81 (by decide) ?_
      refine lv_icmp_gt (tgt := 177) hx hb dX11_delays_83 (by decide) (fun c_83 => ?_) (fun c_83 => ?_)
      · replace hp := hp.1 c_83
        exact hret (mFM, mFS, mTri, mFnd) _ _ _ _ dX11_delays_177 ho hp
      · replace hp := hp.2 c_83
        refine lv_iconst (v := 1) hx hb dX11_delays_86 (by decide) ?_
        refine lv_istore (lv' := [(5, .int 1), (0, .ref (q 0)), (1, .int v1), (2, .int v2), (3, .int v3), (4, .int v4)]) hx hb dX11_delays_87 hl (by decide) rfl (fun ls hl => ?_)
        refine lv_iconst (v := 0) hx hb dX11_delays_89 (by decide) ?_
        refine lv_istore (lv' := [(6, .int 0), (5, .int 1), (0, .ref (q 0)), (1, .int v1), (2, .int v2), (3, .int v3), (4, .int v4)]) hx hb dX11_delays_90 hl (by decide) rfl (fun ls hl => ?_)
        exact hL92 v1 v2 v3 v4 mFM mFS mTri mFnd rec hrec 1 0 hp _ _ _ ho (lv_sub hl [2, 3, 4, 5, 6, 1, 0] rfl)
    have hL46 : ∀ (mFM : Int32) (mFS : Int32) (mTri : Nat → Int32) (v4 : Int32) (mFnd : Nat → Int32), Lp2 (p_M_delays_L46 mSt mTr mRun mUp mSta mSty (p_M_delays mSt mTr mRun mUp mSta mSty d) mFM mFS mTri Q) v4 mFnd → ∀ (H : Heap) (locs : List Loc) (ls : Array Slot), oW D (mT c) A s.heap s (wM q c mThr mTn mCk mRw mSt mTr mFM mFS mTpN mLw mAt mTwN mBE mBEn mSun mCkT mCkD mCkK mCkA mRow mStT mRun mUp mSta mSty mDly mTri mFnd mTap mLwT mLwD mLwO mLwM mTwT mSetA mDri mOrd mBst) H locs → lv_has ls 7 [(0, .ref (q 0)), (4, .int v4)] → W p l e { frames := 3 + (d + 1), cells := 0, slots := 0, locals := 75 + (d + 1) * 26 } s m args below meth cd H locs 0 0 Z (F0 m 46 ls []) := by
      intro mFM mFS mTri
      refine Lp2.ind (fun rec hrec v4 mFnd hp H locs ls ho hl => ?_)
      unfold p_M_delays_L46 at hp
      refine lv_iload hx hb dX11_delays_46 (lv_at hl 1 rfl) ?_
      refine lv_aload_n hx hb dX11_delays_48 rfl (lv_at hl 0 rfl) ?_
      refine o_get (ci := 11) (T := TX11) hx hb hts hinX11 hown ho 0 rfl rfl 13 (by decide) hf121 rfl dX11_delays_49 ?_
      refine lv_icmp_ge (tgt := 75) hx hb dX11_delays_52 (by decide) (fun c_52 => ?_) (fun c_52 => ?_)
      · replace hp := hp.1 c_52
        exact hret (mFM, mFS, mTri, mFnd) _ _ _ _ dX11_delays_75 ho hp
      · replace hp := hp.2 c_52
        refine lv_aload_n hx hb dX11_delays_55 rfl (lv_at hl 0 rfl) ?_
        refine o_get (ci := 11) (T := TX11) hx hb hts hinX11 hown ho 0 rfl rfl 19 (by decide) hf50 rfl dX11_delays_56 ?_
        refine lv_iload hx hb dX11_delays_59 (lv_at hl 1 rfl) ?_
        refine lv_aload_n hx hb dX11_delays_61 rfl (lv_at hl 0 rfl) ?_
        refine o_get (ci := 11) (T := TX11) hx hb hts hinX11 hown ho 0 rfl rfl 18 (by decide) hf47 rfl dX11_delays_62 ?_
        refine lv_iload hx hb dX11_delays_65 (lv_at hl 1 rfl) ?_
        refine o_ild hx hb ho 13 12 rfl rfl hp.1 dX11_delays_67 ?_
        replace hp := hp.2
        refine o_ist hx hb ho 14 13 rfl rfl hp.1 dX11_delays_68 (fun H locs ho => ?_)
        replace hp := hp.2
        replace ho : oW D (mT c) A s.heap s (wM q c mThr mTn mCk mRw mSt mTr mFM mFS mTpN mLw mAt mTwN mBE mBEn mSun mCkT mCkD mCkK mCkA mRow mStT mRun mUp mSta mSty mDly mTri (upd mFnd v4.toNatClampNeg (mTri v4.toNatClampNeg)) mTap mLwT mLwD mLwO mLwM mTwT mSetA mDri mOrd mBst) H locs := ho
        obtain ⟨x69, e_x69⟩ : ∃ y : Int32, y = v4 + 1 := ⟨_, rfl⟩
        replace hp := hp x69 e_x69
        refine lv_iinc (v := x69) (lv' := [(4, .int x69), (0, .ref (q 0))]) hx hb dX11_delays_69 hl (k := 1) rfl (by rw [e_x69]; rfl) (by decide) rfl (fun ls hl => ?_)
        refine lv_goto (tgt := 46) hx hb dX11_delays_72 (by decide) ?_
        exact hrec x69 (upd mFnd v4.toNatClampNeg (mTri v4.toNatClampNeg)) hp _ _ _ ho (lv_sub hl [1, 0] rfl)
    have hJ25 : ∀ (v1 : Int32) (v2 : Int32) (v3 : Int32) (mFM : Int32) (mFS : Int32) (mTri : Nat → Int32) (mFnd : Nat → Int32), p_M_delays_J25 mSt mTr mRun mUp mSta mSty (p_M_delays mSt mTr mRun mUp mSta mSty d) v1 v2 v3 mFM mFS mTri mFnd Q → ∀ (H : Heap) (locs : List Loc) (ls : Array Slot), oW D (mT c) A s.heap s (wM q c mThr mTn mCk mRw mSt mTr mFM mFS mTpN mLw mAt mTwN mBE mBEn mSun mCkT mCkD mCkK mCkA mRow mStT mRun mUp mSta mSty mDly mTri mFnd mTap mLwT mLwD mLwO mLwM mTwT mSetA mDri mOrd mBst) H locs → lv_has ls 7 [(0, .ref (q 0)), (1, .int v1), (2, .int v2), (3, .int v3)] → W p l e { frames := 3 + (d + 1), cells := 0, slots := 0, locals := 75 + (d + 1) * 26 } s m args below meth cd H locs 0 0 Z (F0 m 25 ls []) := by
      intro v1 v2 v3 mFM mFS mTri mFnd
      intro hp H locs ls ho hl
      unfold p_M_delays_J25 at hp
      refine lv_iload_n hx hb dX11_delays_25 rfl (lv_at hl 1 rfl) ?_
      refine lv_aload_n hx hb dX11_delays_26 rfl (lv_at hl 0 rfl) ?_
      refine o_get (ci := 11) (T := TX11) hx hb hts hinX11 hown ho 0 rfl rfl 13 (by decide) hf121 rfl dX11_delays_27 ?_
      refine lv_icmp_ne (tgt := 76) hx hb dX11_delays_30 (by decide) (fun c_30 => ?_) (fun c_30 => ?_)
      · replace hp := hp.2 c_30
        refine lv_iconst (v := 0) hx hb dX11_delays_76 (by decide) ?_
        refine lv_istore (lv' := [(4, .int 0), (0, .ref (q 0)), (1, .int v1), (2, .int v2), (3, .int v3)]) hx hb dX11_delays_77 hl (by decide) rfl (fun ls hl => ?_)
        exact hL79 v1 v2 v3 0 mFM mFS mTri mFnd hp _ _ _ ho (lv_sub hl [1, 2, 3, 4, 0] rfl)
      · replace hp := hp.1 c_30
        refine lv_aload_n hx hb dX11_delays_33 rfl (lv_at hl 0 rfl) ?_
        refine lv_iload_n hx hb dX11_delays_34 rfl (lv_at hl 2 rfl) ?_
        refine o_put (ci := 11) (T := TX11) hx hb hts hinX11 tyX11_ok nmX11 hown ho 0 rfl rfl 20 (by decide) hf183 rfl (tyX11_ok 20 (by decide)) (Nat.le_of_ble_eq_true rfl) dX11_delays_35 (fun H locs ho => ?_)
        replace ho : oW D (mT c) A s.heap s (wM q c mThr mTn mCk mRw mSt mTr v2 mFS mTpN mLw mAt mTwN mBE mBEn mSun mCkT mCkD mCkK mCkA mRow mStT mRun mUp mSta mSty mDly mTri mFnd mTap mLwT mLwD mLwO mLwM mTwT mSetA mDri mOrd mBst) H locs := ho
        refine lv_aload_n hx hb dX11_delays_38 rfl (lv_at hl 0 rfl) ?_
        refine lv_iload_n hx hb dX11_delays_39 rfl (lv_at hl 3 rfl) ?_
        refine o_put (ci := 11) (T := TX11) hx hb hts hinX11 tyX11_ok nmX11 hown ho 0 rfl rfl 21 (by decide) hf186 rfl (tyX11_ok 21 (by decide)) (Nat.le_of_ble_eq_true rfl) dX11_delays_40 (fun H locs ho => ?_)
        replace ho : oW D (mT c) A s.heap s (wM q c mThr mTn mCk mRw mSt mTr v2 v3 mTpN mLw mAt mTwN mBE mBEn mSun mCkT mCkD mCkK mCkA mRow mStT mRun mUp mSta mSty mDly mTri mFnd mTap mLwT mLwD mLwO mLwM mTwT mSetA mDri mOrd mBst) H locs := ho
        refine lv_iconst (v := 0) hx hb dX11_delays_43 (by decide) ?_
        refine lv_istore (lv' := [(4, .int 0), (0, .ref (q 0)), (1, .int v1), (2, .int v2), (3, .int v3)]) hx hb dX11_delays_44 hl (by decide) rfl (fun ls hl => ?_)
        exact hL46 v2 v3 mTri 0 mFnd hp _ _ _ ho (lv_sub hl [1, 0] rfl)
    refine lv_iload_n hx hb dX11_delays_0 rfl (lv_at hl 2 rfl) ?_
    refine lv_aload_n hx hb dX11_delays_1 rfl (lv_at hl 0 rfl) ?_
    refine o_get (ci := 11) (T := TX11) hx hb hts hinX11 hown ho 0 rfl rfl 20 (by decide) hf183 rfl dX11_delays_2 ?_
    refine lv_icmp_gt (tgt := 24) hx hb dX11_delays_5 (by decide) (fun c_5 => ?_) (fun c_5 => ?_)
    · replace hp := hp.1 c_5
      exact hret (mFM, mFS, mTri, mFnd) _ _ _ _ dX11_delays_24 ho hp
    · replace hp := hp.2 c_5
      refine lv_iload_n hx hb dX11_delays_8 rfl (lv_at hl 2 rfl) ?_
      refine lv_aload_n hx hb dX11_delays_9 rfl (lv_at hl 0 rfl) ?_
      refine o_get (ci := 11) (T := TX11) hx hb hts hinX11 hown ho 0 rfl rfl 20 (by decide) hf183 rfl dX11_delays_10 ?_
      refine lv_icmp_ne (tgt := 25) hx hb dX11_delays_13 (by decide) (fun c_13 => ?_) (fun c_13 => ?_)
      · replace hp := hp.2 c_13
        exact hJ25 v1 v2 v3 mFM mFS mTri mFnd hp _ _ _ ho (lv_sub hl [0, 1, 2, 3] rfl)
      · replace hp := hp.1 c_13
        refine lv_iload_n hx hb dX11_delays_16 rfl (lv_at hl 3 rfl) ?_
        refine lv_aload_n hx hb dX11_delays_17 rfl (lv_at hl 0 rfl) ?_
        refine o_get (ci := 11) (T := TX11) hx hb hts hinX11 hown ho 0 rfl rfl 21 (by decide) hf186 rfl dX11_delays_18 ?_
        refine lv_icmp_lt (tgt := 25) hx hb dX11_delays_21 (by decide) (fun c_21 => ?_) (fun c_21 => ?_)
        · replace hp := hp.1 c_21
          exact hJ25 v1 v2 v3 mFM mFS mTri mFnd hp _ _ _ ho (lv_sub hl [0, 1, 2, 3] rfl)
        · replace hp := hp.2 c_21
          exact hret (mFM, mFS, mTri, mFnd) _ _ _ _ dX11_delays_24 ho hp
set_option maxHeartbeats 4000000 in
set_option maxRecDepth 100000 in
theorem c_M_free (l : Launch) (D : va_G) (q : Nat → Nat) (c : Nat → ClassId) (mThr : Int32) (mTn : Int32) (mCk : Int32) (mRw : Int32) (mSt : Int32) (mTr : Int32) (mFM : Int32) (mFS : Int32) (mTpN : Int32) (mLw : Int32) (mAt : Int32) (mTwN : Int32) (mBE : Int32) (mBEn : Int32) (mSun : Nat → Int32) (mCkT : Nat → Int32) (mCkD : Nat → Int32) (mCkK : Nat → Int32) (mCkA : Nat → Int32) (mRow : Nat → Int32) (mStT : Nat → Int32) (mRun : Nat → Int32) (mUp : Nat → Int32) (mSta : Nat → Int32) (mSty : Nat → Int32) (mDly : Nat → Int32) (mTri : Nat → Int32) (mFnd : Nat → Int32) (mTap : Nat → Int32) (mLwT : Nat → Int32) (mLwD : Nat → Int32) (mLwO : Nat → Int32) (mLwM : Nat → Int32) (mTwT : Nat → Int32) (mSetA : Nat → Int32) (mDri : Nat → Int32) (mOrd : Nat → Int32) (mBst : Nat → Int32)  (Q : Int32 → Int32 → Int32 → Int32 → (Nat → Int32) → (Nat → Int32) → (Nat → Int32) → Prop) (hp : p_M_free mSt mTr mRun mUp mSta mSty mThr mFM mFS mDly mTri mFnd Q) : oKi l yX11_free wsX11_free { frames := 11, cells := 0, slots := 0, locals := 283 } [.ref (q 0)] D (mT c) (wM q c mThr mTn mCk mRw mSt mTr mFM mFS mTpN mLw mAt mTwN mBE mBEn mSun mCkT mCkD mCkK mCkA mRow mStT mRun mUp mSta mSty mDly mTri mFnd mTap mLwT mLwD mLwO mLwM mTwT mSetA mDri mOrd mBst) (Int32 × Int32 × Int32 × (Nat → Int32) × (Nat → Int32) × (Nat → Int32)) (fun r (u : Int32 × Int32 × Int32 × (Nat → Int32) × (Nat → Int32) × (Nat → Int32)) => Q r u.1 u.2.1 u.2.2.1 u.2.2.2.1 u.2.2.2.2.1 u.2.2.2.2.2) (fun u => wM q c u.1 mTn mCk mRw mSt mTr u.2.1 u.2.2.1 mTpN mLw mAt mTwN mBE mBEn mSun mCkT mCkD mCkK mCkA mRow mStT mRun mUp mSta mSty u.2.2.2.1 u.2.2.2.2.1 u.2.2.2.2.2 mTap mLwT mLwD mLwO mLwM mTwT mSetA mDri mOrd mBst) := by
  refine oKi.ofW (own := RX11) (cc := cX11_free) (maxL := 2) (plainFor_of_name (by decide +kernel)) rfl rfl (Nat.le_of_ble_eq_true rfl) (fun p e s m args below meth cd A ls Z hx hb hml hown hts hret ho hl => ?_)
  replace hl : lv_has ls 2 [(0, .ref (q 0))] := hl
  have hinX11 : ∀ w ∈ u_ws RX11 TX11 38, w ∈ wsX11_free := by decide +kernel
  have hf44 := hts (.fieldLink RX11 44 "OneTimeModel" "delay" "[I") (by decide +kernel)
  have hf50 := hts (.fieldLink RX11 50 "OneTimeModel" "found" "[I") (by decide +kernel)
  have hf83 := hts (.fieldLink RX11 83 "OneTimeModel" "thrown" "I") (by decide +kernel)
  have hf121 := hts (.fieldLink RX11 121 "OneTimeModel" "trains" "I") (by decide +kernel)
  have hf183 := hts (.fieldLink RX11 183 "OneTimeModel" "foundMoved" "I") (by decide +kernel)
  have hf186 := hts (.fieldLink RX11 186 "OneTimeModel" "foundSum" "I") (by decide +kernel)
  have hk193 := hts (.constant RX11 193 1073741824) (by decide +kernel)
  unfold p_M_free at hp
  have hL37 : ∀ (mThr : Int32) (mFM : Int32) (mFS : Int32) (mTri : Nat → Int32) (mFnd : Nat → Int32) (v1 : Int32) (mDly : Nat → Int32), Lp2 (p_M_free_L37 mSt mTr mRun mUp mSta mSty mThr mFM mFS mTri mFnd Q) v1 mDly → ∀ (H : Heap) (locs : List Loc) (ls : Array Slot), oW D (mT c) A s.heap s (wM q c mThr mTn mCk mRw mSt mTr mFM mFS mTpN mLw mAt mTwN mBE mBEn mSun mCkT mCkD mCkK mCkA mRow mStT mRun mUp mSta mSty mDly mTri mFnd mTap mLwT mLwD mLwO mLwM mTwT mSetA mDri mOrd mBst) H locs → lv_has ls 2 [(0, .ref (q 0)), (1, .int v1)] → W p l e { frames := 11, cells := 0, slots := 0, locals := 283 } s m args below meth cd H locs 0 0 Z (F0 m 37 ls []) := by
    intro mThr mFM mFS mTri mFnd
    refine Lp2.ind (fun rec hrec v1 mDly hp H locs ls ho hl => ?_)
    unfold p_M_free_L37 at hp
    refine lv_iload_n hx hb dX11_free_37 rfl (lv_at hl 1 rfl) ?_
    refine lv_aload_n hx hb dX11_free_38 rfl (lv_at hl 0 rfl) ?_
    refine o_get (ci := 11) (T := TX11) hx hb hts hinX11 hown ho 0 rfl rfl 13 (by decide) hf121 rfl dX11_free_39 ?_
    refine lv_icmp_ge (tgt := 63) hx hb dX11_free_42 (by decide) (fun c_42 => ?_) (fun c_42 => ?_)
    · replace hp := hp.1 c_42
      refine lv_aload_n hx hb dX11_free_63 rfl (lv_at hl 0 rfl) ?_
      refine o_get (ci := 11) (T := TX11) hx hb hts hinX11 hown ho 0 rfl rfl 20 (by decide) hf183 rfl dX11_free_64 ?_
      exact hret mFM (mThr, mFM, mFS, mDly, mTri, mFnd) _ _ _ _ dX11_free_67 ho hp
    · replace hp := hp.2 c_42
      refine lv_aload_n hx hb dX11_free_45 rfl (lv_at hl 0 rfl) ?_
      refine o_get (ci := 11) (T := TX11) hx hb hts hinX11 hown ho 0 rfl rfl 17 (by decide) hf44 rfl dX11_free_46 ?_
      refine lv_iload_n hx hb dX11_free_49 rfl (lv_at hl 1 rfl) ?_
      refine lv_aload_n hx hb dX11_free_50 rfl (lv_at hl 0 rfl) ?_
      refine o_get (ci := 11) (T := TX11) hx hb hts hinX11 hown ho 0 rfl rfl 19 (by decide) hf50 rfl dX11_free_51 ?_
      refine lv_iload_n hx hb dX11_free_54 rfl (lv_at hl 1 rfl) ?_
      refine o_ild hx hb ho 14 13 rfl rfl hp.1 dX11_free_55 ?_
      replace hp := hp.2
      refine o_ist hx hb ho 12 11 rfl rfl hp.1 dX11_free_56 (fun H locs ho => ?_)
      replace hp := hp.2
      replace ho : oW D (mT c) A s.heap s (wM q c mThr mTn mCk mRw mSt mTr mFM mFS mTpN mLw mAt mTwN mBE mBEn mSun mCkT mCkD mCkK mCkA mRow mStT mRun mUp mSta mSty (upd mDly v1.toNatClampNeg (mFnd v1.toNatClampNeg)) mTri mFnd mTap mLwT mLwD mLwO mLwM mTwT mSetA mDri mOrd mBst) H locs := ho
      obtain ⟨x57, e_x57⟩ : ∃ y : Int32, y = v1 + 1 := ⟨_, rfl⟩
      replace hp := hp x57 e_x57
      refine lv_iinc (v := x57) (lv' := [(1, .int x57), (0, .ref (q 0))]) hx hb dX11_free_57 hl (k := 1) rfl (by rw [e_x57]; rfl) (by decide) rfl (fun ls hl => ?_)
      refine lv_goto (tgt := 37) hx hb dX11_free_60 (by decide) ?_
      exact hrec x57 (upd mDly v1.toNatClampNeg (mFnd v1.toNatClampNeg)) hp _ _ _ ho (lv_sub hl [1, 0] rfl)
  refine lv_aload_n hx hb dX11_free_0 rfl (lv_at hl 0 rfl) ?_
  refine lv_iconst (v := 0) hx hb dX11_free_1 (by decide) ?_
  refine o_put (ci := 11) (T := TX11) hx hb hts hinX11 tyX11_ok nmX11 hown ho 0 rfl rfl 0 (by decide) hf83 rfl (tyX11_ok 0 (by decide)) (Nat.le_of_ble_eq_true rfl) dX11_free_2 (fun H locs ho => ?_)
  replace ho : oW D (mT c) A s.heap s (wM q c 0 mTn mCk mRw mSt mTr mFM mFS mTpN mLw mAt mTwN mBE mBEn mSun mCkT mCkD mCkK mCkA mRow mStT mRun mUp mSta mSty mDly mTri mFnd mTap mLwT mLwD mLwO mLwM mTwT mSetA mDri mOrd mBst) H locs := ho
  refine lv_aload_n hx hb dX11_free_5 rfl (lv_at hl 0 rfl) ?_
  refine lv_ldc (v := 1073741824) hx hb hown hk193 dX11_free_6 ?_
  refine o_put (ci := 11) (T := TX11) hx hb hts hinX11 tyX11_ok nmX11 hown ho 0 rfl rfl 20 (by decide) hf183 rfl (tyX11_ok 20 (by decide)) (Nat.le_of_ble_eq_true rfl) dX11_free_8 (fun H locs ho => ?_)
  replace ho : oW D (mT c) A s.heap s (wM q c 0 mTn mCk mRw mSt mTr 1073741824 mFS mTpN mLw mAt mTwN mBE mBEn mSun mCkT mCkD mCkK mCkA mRow mStT mRun mUp mSta mSty mDly mTri mFnd mTap mLwT mLwD mLwO mLwM mTwT mSetA mDri mOrd mBst) H locs := ho
  refine lv_aload_n hx hb dX11_free_11 rfl (lv_at hl 0 rfl) ?_
  refine lv_ldc (v := 1073741824) hx hb hown hk193 dX11_free_12 ?_
  refine o_put (ci := 11) (T := TX11) hx hb hts hinX11 tyX11_ok nmX11 hown ho 0 rfl rfl 21 (by decide) hf186 rfl (tyX11_ok 21 (by decide)) (Nat.le_of_ble_eq_true rfl) dX11_free_14 (fun H locs ho => ?_)
  replace ho : oW D (mT c) A s.heap s (wM q c 0 mTn mCk mRw mSt mTr 1073741824 1073741824 mTpN mLw mAt mTwN mBE mBEn mSun mCkT mCkD mCkK mCkA mRow mStT mRun mUp mSta mSty mDly mTri mFnd mTap mLwT mLwD mLwO mLwM mTwT mSetA mDri mOrd mBst) H locs := ho
  refine lv_aload_n hx hb dX11_free_17 rfl (lv_at hl 0 rfl) ?_
  refine lv_iconst (v := 0) hx hb dX11_free_18 (by decide) ?_
  refine lv_iconst (v := 0) hx hb dX11_free_19 (by decide) ?_
  refine lv_iconst (v := 0) hx hb dX11_free_20 (by decide) ?_
  refine o_callVv (rest := []) (ci := 11) ⟨hx, hb, hml, hown, hts⟩ ho (c_M_delays l D q c 7 0 mTn mCk mRw mSt mTr 1073741824 1073741824 mTpN mLw mAt mTwN mBE mBEn mSun mCkT mCkD mCkK mCkA mRow mStT mRun mUp mSta mSty mDly mTri mFnd mTap mLwT mLwD mLwO mLwM mTwT mSetA mDri mOrd mBst 0 0 0 _ hp) (cwV 3 hts gX11_free_X11_delays rfl rfl rfl (by decide +kernel) ⟨(Nat.le_of_ble_eq_true rfl), (Nat.le_of_ble_eq_true rfl)⟩) 0 rfl rfl rfl hl.1 rfl (Nat.le_of_ble_eq_true rfl) dX11_free_21 ⟨Nat.zero_le _, Nat.zero_le _⟩ (fun u H locs hp ho => ?_)
  obtain ⟨mFM_21, mFS_21, mTri_21, mFnd_21⟩ := u
  try dsimp only at hp
  replace ho : oW D (mT c) A s.heap s (wM q c 0 mTn mCk mRw mSt mTr mFM_21 mFS_21 mTpN mLw mAt mTwN mBE mBEn mSun mCkT mCkD mCkK mCkA mRow mStT mRun mUp mSta mSty mDly mTri_21 mFnd_21 mTap mLwT mLwD mLwO mLwM mTwT mSetA mDri mOrd mBst) H locs := ho
  refine lv_aload_n hx hb dX11_free_24 rfl (lv_at hl 0 rfl) ?_
  refine o_get (ci := 11) (T := TX11) hx hb hts hinX11 hown ho 0 rfl rfl 20 (by decide) hf183 rfl dX11_free_25 ?_
  refine lv_ldc (v := 1073741824) hx hb hown hk193 dX11_free_28 ?_
  refine lv_icmp_ne (tgt := 35) hx hb dX11_free_30 (by decide) (fun c_30 => ?_) (fun c_30 => ?_)
  · replace hp := hp.2 c_30
    refine lv_iconst (v := 0) hx hb dX11_free_35 (by decide) ?_
    refine lv_istore_n (lv' := [(1, .int 0), (0, .ref (q 0))]) hx hb dX11_free_36 rfl hl (by decide) rfl (fun ls hl => ?_)
    exact hL37 0 mFM_21 mFS_21 mTri_21 mFnd_21 0 mDly hp _ _ _ ho (lv_sub hl [1, 0] rfl)
  · replace hp := hp.1 c_30
    refine lv_iconst (v := (-1)) hx hb dX11_free_33 (by decide) ?_
    exact hret (-1) (0, mFM_21, mFS_21, mDly, mTri_21, mFnd_21) _ _ _ _ dX11_free_34 ho hp
set_option maxHeartbeats 4000000 in
set_option maxRecDepth 100000 in
theorem c_M_close (l : Launch) (D : va_G) (q : Nat → Nat) (c : Nat → ClassId) (mThr : Int32) (mTn : Int32) (mCk : Int32) (mRw : Int32) (mSt : Int32) (mTr : Int32) (mFM : Int32) (mFS : Int32) (mTpN : Int32) (mLw : Int32) (mAt : Int32) (mTwN : Int32) (mBE : Int32) (mBEn : Int32) (mSun : Nat → Int32) (mCkT : Nat → Int32) (mCkD : Nat → Int32) (mCkK : Nat → Int32) (mCkA : Nat → Int32) (mRow : Nat → Int32) (mStT : Nat → Int32) (mRun : Nat → Int32) (mUp : Nat → Int32) (mSta : Nat → Int32) (mSty : Nat → Int32) (mDly : Nat → Int32) (mTri : Nat → Int32) (mFnd : Nat → Int32) (mTap : Nat → Int32) (mLwT : Nat → Int32) (mLwD : Nat → Int32) (mLwO : Nat → Int32) (mLwM : Nat → Int32) (mTwT : Nat → Int32) (mSetA : Nat → Int32) (mDri : Nat → Int32) (mOrd : Nat → Int32) (mBst : Nat → Int32)  (Q : Int32 → Int32 → Int32 → Int32 → Prop) (hp : p_M_close mThr mSt mTr Q) : oKi l yX11_close wsX11_close { frames := 0, cells := 0, slots := 0, locals := 0 } [.ref (q 0)] D (mT c) (wM q c mThr mTn mCk mRw mSt mTr mFM mFS mTpN mLw mAt mTwN mBE mBEn mSun mCkT mCkD mCkK mCkA mRow mStT mRun mUp mSta mSty mDly mTri mFnd mTap mLwT mLwD mLwO mLwM mTwT mSetA mDri mOrd mBst) (Int32 × Int32 × Int32) (fun r (u : Int32 × Int32 × Int32) => Q r u.1 u.2.1 u.2.2) (fun u => wM q c u.1 mTn mCk mRw u.2.1 u.2.2 mFM mFS mTpN mLw mAt mTwN mBE mBEn mSun mCkT mCkD mCkK mCkA mRow mStT mRun mUp mSta mSty mDly mTri mFnd mTap mLwT mLwD mLwO mLwM mTwT mSetA mDri mOrd mBst) := by
  refine oKi.ofW (own := RX11) (cc := cX11_close) (maxL := 2) (plainFor_of_name (by decide +kernel)) rfl rfl (Nat.le_of_ble_eq_true rfl) (fun p e s m args below meth cd A ls Z hx hb hml hown hts hret ho hl => ?_)
  replace hl : lv_has ls 2 [(0, .ref (q 0))] := hl
  have hinX11 : ∀ w ∈ u_ws RX11 TX11 38, w ∈ wsX11_close := by decide +kernel
  have hf83 := hts (.fieldLink RX11 83 "OneTimeModel" "thrown" "I") (by decide +kernel)
  have hf118 := hts (.fieldLink RX11 118 "OneTimeModel" "stations" "I") (by decide +kernel)
  have hf121 := hts (.fieldLink RX11 121 "OneTimeModel" "trains" "I") (by decide +kernel)
  unfold p_M_close at hp
  refine lv_aload_n hx hb dX11_close_0 rfl (lv_at hl 0 rfl) ?_
  refine lv_iconst (v := 0) hx hb dX11_close_1 (by decide) ?_
  refine o_put (ci := 11) (T := TX11) hx hb hts hinX11 tyX11_ok nmX11 hown ho 0 rfl rfl 0 (by decide) hf83 rfl (tyX11_ok 0 (by decide)) (Nat.le_of_ble_eq_true rfl) dX11_close_2 (fun H locs ho => ?_)
  replace ho : oW D (mT c) A s.heap s (wM q c 0 mTn mCk mRw mSt mTr mFM mFS mTpN mLw mAt mTwN mBE mBEn mSun mCkT mCkD mCkK mCkA mRow mStT mRun mUp mSta mSty mDly mTri mFnd mTap mLwT mLwD mLwO mLwM mTwT mSetA mDri mOrd mBst) H locs := ho
  refine lv_aload_n hx hb dX11_close_5 rfl (lv_at hl 0 rfl) ?_
  refine o_get (ci := 11) (T := TX11) hx hb hts hinX11 hown ho 0 rfl rfl 13 (by decide) hf121 rfl dX11_close_6 ?_
  refine lv_istore_n (lv' := [(1, .int mTr), (0, .ref (q 0))]) hx hb dX11_close_9 rfl hl (by decide) rfl (fun ls hl => ?_)
  refine lv_aload_n hx hb dX11_close_10 rfl (lv_at hl 1 rfl) ?_
  refine lv_iconst (v := 0) hx hb dX11_close_11 (by decide) ?_
  refine o_put (ci := 11) (T := TX11) hx hb hts hinX11 tyX11_ok nmX11 hown ho 0 rfl rfl 13 (by decide) hf121 rfl (tyX11_ok 13 (by decide)) (Nat.le_of_ble_eq_true rfl) dX11_close_12 (fun H locs ho => ?_)
  replace ho : oW D (mT c) A s.heap s (wM q c 0 mTn mCk mRw mSt 0 mFM mFS mTpN mLw mAt mTwN mBE mBEn mSun mCkT mCkD mCkK mCkA mRow mStT mRun mUp mSta mSty mDly mTri mFnd mTap mLwT mLwD mLwO mLwM mTwT mSetA mDri mOrd mBst) H locs := ho
  refine lv_aload_n hx hb dX11_close_15 rfl (lv_at hl 1 rfl) ?_
  refine lv_iconst (v := 0) hx hb dX11_close_16 (by decide) ?_
  refine o_put (ci := 11) (T := TX11) hx hb hts hinX11 tyX11_ok nmX11 hown ho 0 rfl rfl 10 (by decide) hf118 rfl (tyX11_ok 10 (by decide)) (Nat.le_of_ble_eq_true rfl) dX11_close_17 (fun H locs ho => ?_)
  replace ho : oW D (mT c) A s.heap s (wM q c 0 mTn mCk mRw 0 0 mFM mFS mTpN mLw mAt mTwN mBE mBEn mSun mCkT mCkD mCkK mCkA mRow mStT mRun mUp mSta mSty mDly mTri mFnd mTap mLwT mLwD mLwO mLwM mTwT mSetA mDri mOrd mBst) H locs := ho
  refine lv_iload_n hx hb dX11_close_20 rfl (lv_at hl 0 rfl) ?_
  exact hret mTr (0, 0, 0) _ _ _ _ dX11_close_21 ho hp
set_option maxHeartbeats 4000000 in
set_option maxRecDepth 100000 in
theorem c_M_sign (l : Launch) (D : va_G) (q : Nat → Nat) (c : Nat → ClassId) (mThr : Int32) (mTn : Int32) (mCk : Int32) (mRw : Int32) (mSt : Int32) (mTr : Int32) (mFM : Int32) (mFS : Int32) (mTpN : Int32) (mLw : Int32) (mAt : Int32) (mTwN : Int32) (mBE : Int32) (mBEn : Int32) (mSun : Nat → Int32) (mCkT : Nat → Int32) (mCkD : Nat → Int32) (mCkK : Nat → Int32) (mCkA : Nat → Int32) (mRow : Nat → Int32) (mStT : Nat → Int32) (mRun : Nat → Int32) (mUp : Nat → Int32) (mSta : Nat → Int32) (mSty : Nat → Int32) (mDly : Nat → Int32) (mTri : Nat → Int32) (mFnd : Nat → Int32) (mTap : Nat → Int32) (mLwT : Nat → Int32) (mLwD : Nat → Int32) (mLwO : Nat → Int32) (mLwM : Nat → Int32) (mTwT : Nat → Int32) (mSetA : Nat → Int32) (mDri : Nat → Int32) (mOrd : Nat → Int32) (mBst : Nat → Int32) (v1 : Int32) (Q : Int32 → Int32 → Int32 → (Nat → Int32) → Prop) (hp : p_M_sign mThr mTpN mTap v1 Q) : oKi l yX11_sign wsX11_sign { frames := 0, cells := 0, slots := 0, locals := 0 } [.ref (q 0), .int v1] D (mT c) (wM q c mThr mTn mCk mRw mSt mTr mFM mFS mTpN mLw mAt mTwN mBE mBEn mSun mCkT mCkD mCkK mCkA mRow mStT mRun mUp mSta mSty mDly mTri mFnd mTap mLwT mLwD mLwO mLwM mTwT mSetA mDri mOrd mBst) (Int32 × Int32 × (Nat → Int32)) (fun r (u : Int32 × Int32 × (Nat → Int32)) => Q r u.1 u.2.1 u.2.2) (fun u => wM q c u.1 mTn mCk mRw mSt mTr mFM mFS u.2.1 mLw mAt mTwN mBE mBEn mSun mCkT mCkD mCkK mCkA mRow mStT mRun mUp mSta mSty mDly mTri mFnd u.2.2 mLwT mLwD mLwO mLwM mTwT mSetA mDri mOrd mBst) := by
  refine oKi.ofW (own := RX11) (cc := cX11_sign) (maxL := 3) (plainFor_of_name (by decide +kernel)) rfl rfl (Nat.le_of_ble_eq_true rfl) (fun p e s m args below meth cd A ls Z hx hb hml hown hts hret ho hl => ?_)
  replace hl : lv_has ls 3 [(0, .ref (q 0)), (1, .int v1)] := hl
  have hinX11 : ∀ w ∈ u_ws RX11 TX11 38, w ∈ wsX11_sign := by decide +kernel
  have hf53 := hts (.fieldLink RX11 53 "OneTimeModel" "tape" "[I") (by decide +kernel)
  have hf83 := hts (.fieldLink RX11 83 "OneTimeModel" "thrown" "I") (by decide +kernel)
  have hf133 := hts (.fieldLink RX11 133 "OneTimeModel" "taped" "I") (by decide +kernel)
  unfold p_M_sign at hp
  have hL18 : ∀ (v1 : Int32) (mThr : Int32) (mTpN : Int32) (v2 : Int32) (mTap : Nat → Int32), Lp2 (p_M_sign_L18 v1 mThr mTpN Q) v2 mTap → ∀ (H : Heap) (locs : List Loc) (ls : Array Slot), oW D (mT c) A s.heap s (wM q c mThr mTn mCk mRw mSt mTr mFM mFS mTpN mLw mAt mTwN mBE mBEn mSun mCkT mCkD mCkK mCkA mRow mStT mRun mUp mSta mSty mDly mTri mFnd mTap mLwT mLwD mLwO mLwM mTwT mSetA mDri mOrd mBst) H locs → lv_has ls 3 [(0, .ref (q 0)), (1, .int v1), (2, .int v2)] → W p l e { frames := 0, cells := 0, slots := 0, locals := 0 } s m args below meth cd H locs 0 0 Z (F0 m 18 ls []) := by
    intro v1 mThr mTpN
    refine Lp2.ind (fun rec hrec v2 mTap hp H locs ls ho hl => ?_)
    unfold p_M_sign_L18 at hp
    refine lv_iload_n hx hb dX11_sign_18 rfl (lv_at hl 2 rfl) ?_
    refine lv_iconst (v := 4) hx hb dX11_sign_19 (by decide) ?_
    refine lv_icmp_ge (tgt := 53) hx hb dX11_sign_20 (by decide) (fun c_20 => ?_) (fun c_20 => ?_)
    · replace hp := hp.1 c_20
      refine lv_aload_n hx hb dX11_sign_53 rfl (lv_at hl 0 rfl) ?_
      refine lv_dup hx hb dX11_sign_54 rfl ?_
      refine o_get (ci := 11) (T := TX11) hx hb hts hinX11 hown ho 0 rfl rfl 23 (by decide) hf133 rfl dX11_sign_55 ?_
      refine lv_iconst (v := 4) hx hb dX11_sign_58 (by decide) ?_
      refine lv_iadd hx hb dX11_sign_59 ?_
      refine lv_topi (fun x60 e_x60 => ?_)
      replace hp := hp x60 e_x60
      refine o_put (ci := 11) (T := TX11) hx hb hts hinX11 tyX11_ok nmX11 hown ho 0 rfl rfl 23 (by decide) hf133 rfl (tyX11_ok 23 (by decide)) (Nat.le_of_ble_eq_true rfl) dX11_sign_60 (fun H locs ho => ?_)
      replace ho : oW D (mT c) A s.heap s (wM q c mThr mTn mCk mRw mSt mTr mFM mFS x60 mLw mAt mTwN mBE mBEn mSun mCkT mCkD mCkK mCkA mRow mStT mRun mUp mSta mSty mDly mTri mFnd mTap mLwT mLwD mLwO mLwM mTwT mSetA mDri mOrd mBst) H locs := ho
      refine lv_aload_n hx hb dX11_sign_63 rfl (lv_at hl 0 rfl) ?_
      refine o_get (ci := 11) (T := TX11) hx hb hts hinX11 hown ho 0 rfl rfl 23 (by decide) hf133 rfl dX11_sign_64 ?_
      exact hret x60 (mThr, x60, mTap) _ _ _ _ dX11_sign_67 ho hp
    · replace hp := hp.2 c_20
      refine lv_aload_n hx hb dX11_sign_23 rfl (lv_at hl 0 rfl) ?_
      refine o_get (ci := 11) (T := TX11) hx hb hts hinX11 hown ho 0 rfl rfl 22 (by decide) hf53 rfl dX11_sign_24 ?_
      refine lv_aload_n hx hb dX11_sign_27 rfl (lv_at hl 0 rfl) ?_
      refine o_get (ci := 11) (T := TX11) hx hb hts hinX11 hown ho 0 rfl rfl 23 (by decide) hf133 rfl dX11_sign_28 ?_
      refine lv_iload_n hx hb dX11_sign_31 rfl (lv_at hl 2 rfl) ?_
      refine lv_iadd hx hb dX11_sign_32 ?_
      refine lv_iload_n hx hb dX11_sign_33 rfl (lv_at hl 1 rfl) ?_
      refine lv_bipush (v := 24) hx hb dX11_sign_34 (by decide) ?_
      refine lv_bipush (v := 8) hx hb dX11_sign_36 (by decide) ?_
      refine lv_iload_n hx hb dX11_sign_38 rfl (lv_at hl 2 rfl) ?_
      refine lv_imul hx hb dX11_sign_39 ?_
      refine lv_isub hx hb dX11_sign_40 ?_
      refine lv_ishr hx hb dX11_sign_41 ?_
      refine lv_sipush (v := 255) hx hb dX11_sign_42 (by decide) ?_
      refine lv_iand hx hb dX11_sign_45 ?_
      refine o_ist hx hb ho 15 14 rfl rfl hp.1 dX11_sign_46 (fun H locs ho => ?_)
      replace hp := hp.2
      replace ho : oW D (mT c) A s.heap s (wM q c mThr mTn mCk mRw mSt mTr mFM mFS mTpN mLw mAt mTwN mBE mBEn mSun mCkT mCkD mCkK mCkA mRow mStT mRun mUp mSta mSty mDly mTri mFnd (upd mTap (mTpN + v2).toNatClampNeg ((v1 >>> ((24 - (8 * v2)) &&& 31)) &&& 255)) mLwT mLwD mLwO mLwM mTwT mSetA mDri mOrd mBst) H locs := ho
      obtain ⟨x47, e_x47⟩ : ∃ y : Int32, y = v2 + 1 := ⟨_, rfl⟩
      replace hp := hp x47 e_x47
      refine lv_iinc (v := x47) (lv' := [(2, .int x47), (0, .ref (q 0)), (1, .int v1)]) hx hb dX11_sign_47 hl (k := 2) rfl (by rw [e_x47]; rfl) (by decide) rfl (fun ls hl => ?_)
      refine lv_goto (tgt := 18) hx hb dX11_sign_50 (by decide) ?_
      exact hrec x47 (upd mTap (mTpN + v2).toNatClampNeg ((v1 >>> ((24 - (8 * v2)) &&& 31)) &&& 255)) hp _ _ _ ho (lv_sub hl [1, 2, 0] rfl)
  refine lv_aload_n hx hb dX11_sign_0 rfl (lv_at hl 0 rfl) ?_
  refine lv_iconst (v := 0) hx hb dX11_sign_1 (by decide) ?_
  refine o_put (ci := 11) (T := TX11) hx hb hts hinX11 tyX11_ok nmX11 hown ho 0 rfl rfl 0 (by decide) hf83 rfl (tyX11_ok 0 (by decide)) (Nat.le_of_ble_eq_true rfl) dX11_sign_2 (fun H locs ho => ?_)
  replace ho : oW D (mT c) A s.heap s (wM q c 0 mTn mCk mRw mSt mTr mFM mFS mTpN mLw mAt mTwN mBE mBEn mSun mCkT mCkD mCkK mCkA mRow mStT mRun mUp mSta mSty mDly mTri mFnd mTap mLwT mLwD mLwO mLwM mTwT mSetA mDri mOrd mBst) H locs := ho
  refine lv_aload_n hx hb dX11_sign_5 rfl (lv_at hl 0 rfl) ?_
  refine o_get (ci := 11) (T := TX11) hx hb hts hinX11 hown ho 0 rfl rfl 23 (by decide) hf133 rfl dX11_sign_6 ?_
  refine lv_bipush (v := 96) hx hb dX11_sign_9 (by decide) ?_
  refine lv_icmp_le (tgt := 16) hx hb dX11_sign_11 (by decide) (fun c_11 => ?_) (fun c_11 => ?_)
  · replace hp := hp.1 c_11
    refine lv_iconst (v := 0) hx hb dX11_sign_16 (by decide) ?_
    refine lv_istore_n (lv' := [(2, .int 0), (0, .ref (q 0)), (1, .int v1)]) hx hb dX11_sign_17 rfl hl (by decide) rfl (fun ls hl => ?_)
    exact hL18 v1 0 mTpN 0 mTap hp _ _ _ ho (lv_sub hl [1, 2, 0] rfl)
  · replace hp := hp.2 c_11
    refine lv_iconst (v := (-1)) hx hb dX11_sign_14 (by decide) ?_
    exact hret (-1) (0, mTpN, mTap) _ _ _ _ dX11_sign_15 ho hp
set_option maxHeartbeats 4000000 in
set_option maxRecDepth 100000 in
theorem c_M_end (l : Launch) (D : va_G) (q : Nat → Nat) (c : Nat → ClassId) (mThr : Int32) (mTn : Int32) (mCk : Int32) (mRw : Int32) (mSt : Int32) (mTr : Int32) (mFM : Int32) (mFS : Int32) (mTpN : Int32) (mLw : Int32) (mAt : Int32) (mTwN : Int32) (mBE : Int32) (mBEn : Int32) (mSun : Nat → Int32) (mCkT : Nat → Int32) (mCkD : Nat → Int32) (mCkK : Nat → Int32) (mCkA : Nat → Int32) (mRow : Nat → Int32) (mStT : Nat → Int32) (mRun : Nat → Int32) (mUp : Nat → Int32) (mSta : Nat → Int32) (mSty : Nat → Int32) (mDly : Nat → Int32) (mTri : Nat → Int32) (mFnd : Nat → Int32) (mTap : Nat → Int32) (mLwT : Nat → Int32) (mLwD : Nat → Int32) (mLwO : Nat → Int32) (mLwM : Nat → Int32) (mTwT : Nat → Int32) (mSetA : Nat → Int32) (mDri : Nat → Int32) (mOrd : Nat → Int32) (mBst : Nat → Int32) (v1 : Int32) (Q : Int32 → Int32 → Int32 → Prop) (hp : p_M_end mThr mTpN v1 Q) : oKi l yX11_end wsX11_end { frames := 1, cells := 0, slots := 0, locals := 25 } [.ref (q 0), .int v1] D (mT c) (wM q c mThr mTn mCk mRw mSt mTr mFM mFS mTpN mLw mAt mTwN mBE mBEn mSun mCkT mCkD mCkK mCkA mRow mStT mRun mUp mSta mSty mDly mTri mFnd mTap mLwT mLwD mLwO mLwM mTwT mSetA mDri mOrd mBst) (Int32 × Int32) (fun r (u : Int32 × Int32) => Q r u.1 u.2) (fun u => wM q c u.1 mTn mCk mRw mSt mTr mFM mFS u.2 mLw mAt mTwN mBE mBEn mSun mCkT mCkD mCkK mCkA mRow mStT mRun mUp mSta mSty mDly mTri mFnd mTap mLwT mLwD mLwO mLwM mTwT mSetA mDri mOrd mBst) := by
  refine oKi.ofWz (own := RX11) (cc := cX11_end) (maxL := 2) (plainFor_of_name (by decide +kernel)) rfl rfl (Nat.le_of_ble_eq_true rfl) (fun p e s m args below meth cd A ls Z hx hb hml hown hts hret ho hl => ?_)
  replace hl : lv_has ls 2 [(0, .ref (q 0)), (1, .int v1)] := hl
  have hinX11 : ∀ w ∈ u_ws RX11 TX11 38, w ∈ wsX11_end := by decide +kernel
  have hf83 := hts (.fieldLink RX11 83 "OneTimeModel" "thrown" "I") (by decide +kernel)
  have hf133 := hts (.fieldLink RX11 133 "OneTimeModel" "taped" "I") (by decide +kernel)
  unfold p_M_end at hp
  refine lv_aload_n hx hb dX11_end_0 rfl (lv_at hl 0 rfl) ?_
  refine lv_iconst (v := 0) hx hb dX11_end_1 (by decide) ?_
  refine o_put (ci := 11) (T := TX11) hx hb hts hinX11 tyX11_ok nmX11 hown ho 0 rfl rfl 0 (by decide) hf83 rfl (tyX11_ok 0 (by decide)) (Nat.le_of_ble_eq_true rfl) dX11_end_2 (fun H locs ho => ?_)
  replace ho : oW D (mT c) A s.heap s (wM q c 0 mTn mCk mRw mSt mTr mFM mFS mTpN mLw mAt mTwN mBE mBEn mSun mCkT mCkD mCkK mCkA mRow mStT mRun mUp mSta mSty mDly mTri mFnd mTap mLwT mLwD mLwO mLwM mTwT mSetA mDri mOrd mBst) H locs := ho
  refine lv_iload_n hx hb dX11_end_5 rfl (lv_at hl 1 rfl) ?_
  refine lv_i2l (v := ((v1 : Int32).toInt64)) hx hb dX11_end_6 rfl ?_
  refine lv_lconst (v := 0) hx hb dX11_end_7 (by decide) ?_
  refine lv_aload_n hx hb dX11_end_8 rfl (lv_at hl 0 rfl) ?_
  refine o_get (ci := 11) (T := TX11) hx hb hts hinX11 hown ho 0 rfl rfl 23 (by decide) hf133 rfl dX11_end_9 ?_
  refine lv_i2l (v := ((mTpN : Int32).toInt64)) hx hb dX11_end_12 rfl ?_
  refine o_callSi (rest := []) ⟨hx, hb, hml, hown, hts⟩ ho (c_M_in l D (mT c) (wM q c 0 mTn mCk mRw mSt mTr mFM mFS mTpN mLw mAt mTwN mBE mBEn mSun mCkT mCkD mCkK mCkA mRow mStT mRun mUp mSta mSty mDly mTri mFnd mTap mLwT mLwD mLwO mLwM mTwT mSetA mDri mOrd mBst) ((v1 : Int32).toInt64) 0 ((mTpN : Int32).toInt64) _ hp) (va_cwS 3 hts gX11_end_X11_in rfl rfl rfl (by decide +kernel) ⟨(Nat.le_of_ble_eq_true rfl), (Nat.le_of_ble_eq_true rfl)⟩) rfl hl.1 rfl (Nat.le_of_ble_eq_true rfl) dX11_end_13 ⟨Nat.zero_le _, Nat.zero_le _⟩ (fun r13 u H locs hp ho => ?_)
  try dsimp only at hp
  replace ho : oW D (mT c) A s.heap s (wM q c 0 mTn mCk mRw mSt mTr mFM mFS mTpN mLw mAt mTwN mBE mBEn mSun mCkT mCkD mCkK mCkA mRow mStT mRun mUp mSta mSty mDly mTri mFnd mTap mLwT mLwD mLwO mLwM mTwT mSetA mDri mOrd mBst) H locs := ho
  refine lv_if_ne (tgt := 21) hx hb dX11_end_16 (by decide) (fun c_16 => ?_) (fun c_16 => ?_)
  · replace hp := hp.2 c_16
    refine lv_aload_n hx hb dX11_end_21 rfl (lv_at hl 0 rfl) ?_
    refine lv_iload_n hx hb dX11_end_22 rfl (lv_at hl 1 rfl) ?_
    refine o_put (ci := 11) (T := TX11) hx hb hts hinX11 tyX11_ok nmX11 hown ho 0 rfl rfl 23 (by decide) hf133 rfl (tyX11_ok 23 (by decide)) (Nat.le_of_ble_eq_true rfl) dX11_end_23 (fun H locs ho => ?_)
    replace ho : oW D (mT c) A s.heap s (wM q c 0 mTn mCk mRw mSt mTr mFM mFS v1 mLw mAt mTwN mBE mBEn mSun mCkT mCkD mCkK mCkA mRow mStT mRun mUp mSta mSty mDly mTri mFnd mTap mLwT mLwD mLwO mLwM mTwT mSetA mDri mOrd mBst) H locs := ho
    refine lv_iconst (v := 1) hx hb dX11_end_26 (by decide) ?_
    exact hret 1 (0, v1) _ _ _ _ dX11_end_27 (Or.inr rfl) ho hp
  · replace hp := hp.1 c_16
    refine lv_iconst (v := 0) hx hb dX11_end_19 (by decide) ?_
    exact hret 0 (0, mTpN) _ _ _ _ dX11_end_20 (Or.inl rfl) ho hp
set_option maxHeartbeats 4000000 in
set_option maxRecDepth 100000 in
theorem c_M_more (l : Launch) (D : va_G) (q : Nat → Nat) (c : Nat → ClassId) (mThr : Int32) (mTn : Int32) (mCk : Int32) (mRw : Int32) (mSt : Int32) (mTr : Int32) (mFM : Int32) (mFS : Int32) (mTpN : Int32) (mLw : Int32) (mAt : Int32) (mTwN : Int32) (mBE : Int32) (mBEn : Int32) (mSun : Nat → Int32) (mCkT : Nat → Int32) (mCkD : Nat → Int32) (mCkK : Nat → Int32) (mCkA : Nat → Int32) (mRow : Nat → Int32) (mStT : Nat → Int32) (mRun : Nat → Int32) (mUp : Nat → Int32) (mSta : Nat → Int32) (mSty : Nat → Int32) (mDly : Nat → Int32) (mTri : Nat → Int32) (mFnd : Nat → Int32) (mTap : Nat → Int32) (mLwT : Nat → Int32) (mLwD : Nat → Int32) (mLwO : Nat → Int32) (mLwM : Nat → Int32) (mTwT : Nat → Int32) (mSetA : Nat → Int32) (mDri : Nat → Int32) (mOrd : Nat → Int32) (mBst : Nat → Int32) (v1 : Int32) (v2 : Int32) (v3 : Int32) (Q : Int32 → Prop) (hp : p_M_more mCk mLw mSun mCkT mCkD mCkK mCkA mLwT mLwD mLwO mLwM v1 v2 v3 Q) : oKi l yX11_more wsX11_more { frames := 1, cells := 0, slots := 0, locals := 24 } [.ref (q 0), .int v1, .int v2, .int v3] D (mT c) (wM q c mThr mTn mCk mRw mSt mTr mFM mFS mTpN mLw mAt mTwN mBE mBEn mSun mCkT mCkD mCkK mCkA mRow mStT mRun mUp mSta mSty mDly mTri mFnd mTap mLwT mLwD mLwO mLwM mTwT mSetA mDri mOrd mBst) (Unit) (fun r (_ : Unit) => Q r) (fun _ => wM q c mThr mTn mCk mRw mSt mTr mFM mFS mTpN mLw mAt mTwN mBE mBEn mSun mCkT mCkD mCkK mCkA mRow mStT mRun mUp mSta mSty mDly mTri mFnd mTap mLwT mLwD mLwO mLwM mTwT mSetA mDri mOrd mBst) := by
  refine oKi.ofW (own := RX11) (cc := cX11_more) (maxL := 7) (plainFor_of_name (by decide +kernel)) rfl rfl (Nat.le_of_ble_eq_true rfl) (fun p e s m args below meth cd A ls Z hx hb hml hown hts hret ho hl => ?_)
  replace hl : lv_has ls 7 [(0, .ref (q 0)), (1, .int v1), (2, .int v2), (3, .int v3)] := hl
  have hinX11 : ∀ w ∈ u_ws RX11 TX11 38, w ∈ wsX11_more := by decide +kernel
  have hf9 := hts (.fieldLink RX11 9 "OneTimeModel" "sun" "[I") (by decide +kernel)
  have hf56 := hts (.fieldLink RX11 56 "OneTimeModel" "lawTown" "[I") (by decide +kernel)
  have hf59 := hts (.fieldLink RX11 59 "OneTimeModel" "lawDay" "[I") (by decide +kernel)
  have hf62 := hts (.fieldLink RX11 62 "OneTimeModel" "lawOf" "[I") (by decide +kernel)
  have hf65 := hts (.fieldLink RX11 65 "OneTimeModel" "lawMore" "[I") (by decide +kernel)
  have hf124 := hts (.fieldLink RX11 124 "OneTimeModel" "laws" "I") (by decide +kernel)
  unfold p_M_more at hp
  have hJ154 : ∀ (v2 : Int32) (v4 : Int32) (s0 : Int32), p_M_more_J154 mCk mLw mSun mCkT mCkD mCkK mCkA mLwT mLwD mLwO mLwM v2 v4 s0 Q → ∀ (H : Heap) (locs : List Loc) (ls : Array Slot), oW D (mT c) A s.heap s (wM q c mThr mTn mCk mRw mSt mTr mFM mFS mTpN mLw mAt mTwN mBE mBEn mSun mCkT mCkD mCkK mCkA mRow mStT mRun mUp mSta mSty mDly mTri mFnd mTap mLwT mLwD mLwO mLwM mTwT mSetA mDri mOrd mBst) H locs → lv_has ls 7 [(0, .ref (q 0)), (2, .int v2), (4, .int v4)] → W p l e { frames := 1, cells := 0, slots := 0, locals := 24 } s m args below meth cd H locs 0 0 Z (F0 m 154 ls [.int s0]) := by
    intro v2 v4 s0
    intro hp H locs ls ho hl
    unfold p_M_more_J154 at hp
    refine lv_istore (lv' := [(6, .int s0), (0, .ref (q 0)), (2, .int v2), (4, .int v4)]) hx hb dX11_more_154 hl (by decide) rfl (fun ls hl => ?_)
    refine lv_iload hx hb dX11_more_156 (lv_at hl 0 rfl) ?_
    refine lv_aload_n hx hb dX11_more_158 rfl (lv_at hl 1 rfl) ?_
    refine o_get (ci := 11) (T := TX11) hx hb hts hinX11 hown ho 0 rfl rfl 28 (by decide) hf65 rfl dX11_more_159 ?_
    refine lv_bipush (v := 6) hx hb dX11_more_162 (by decide) ?_
    refine lv_iload hx hb dX11_more_164 (lv_at hl 3 rfl) ?_
    refine lv_imul hx hb dX11_more_166 ?_
    refine lv_iload_n hx hb dX11_more_167 rfl (lv_at hl 2 rfl) ?_
    refine lv_iadd hx hb dX11_more_168 ?_
    refine o_ild hx hb ho 19 18 rfl rfl hp.1 dX11_more_169 ?_
    replace hp := hp.2
    refine lv_iadd hx hb dX11_more_170 ?_
    exact hret (s0 + (mLwM ((6 * v4) + v2).toNatClampNeg)) () _ _ _ _ dX11_more_171 ho hp
  have hJ91 : ∀ (v1 : Int32) (v2 : Int32) (v3 : Int32) (v4 : Int32) (s0 : Int32), p_M_more_J91 mCk mLw mSun mCkT mCkD mCkK mCkA mLwT mLwD mLwO mLwM v1 v2 v3 v4 s0 Q → ∀ (H : Heap) (locs : List Loc) (ls : Array Slot), oW D (mT c) A s.heap s (wM q c mThr mTn mCk mRw mSt mTr mFM mFS mTpN mLw mAt mTwN mBE mBEn mSun mCkT mCkD mCkK mCkA mRow mStT mRun mUp mSta mSty mDly mTri mFnd mTap mLwT mLwD mLwO mLwM mTwT mSetA mDri mOrd mBst) H locs → lv_has ls 7 [(0, .ref (q 0)), (1, .int v1), (2, .int v2), (3, .int v3), (4, .int v4)] → W p l e { frames := 1, cells := 0, slots := 0, locals := 24 } s m args below meth cd H locs 0 0 Z (F0 m 91 ls [.int s0]) := by
    intro v1 v2 v3 v4 s0
    intro hp H locs ls ho hl
    unfold p_M_more_J91 at hp
    refine lv_istore (lv' := [(5, .int s0), (0, .ref (q 0)), (1, .int v1), (2, .int v2), (3, .int v3), (4, .int v4)]) hx hb dX11_more_91 hl (by decide) rfl (fun ls hl => ?_)
    refine lv_iload hx hb dX11_more_93 (lv_at hl 0 rfl) ?_
    refine lv_if_ne (tgt := 105) hx hb dX11_more_95 (by decide) (fun c_95 => ?_) (fun c_95 => ?_)
    · replace hp := hp.2 c_95
      refine lv_iload hx hb dX11_more_105 (lv_at hl 0 rfl) ?_
      refine lv_bipush (v := 108) hx hb dX11_more_107 (by decide) ?_
      refine lv_icmp_ne (tgt := 121) hx hb dX11_more_109 (by decide) (fun c_109 => ?_) (fun c_109 => ?_)
      · replace hp := hp.2 c_109
        refine lv_iload hx hb dX11_more_121 (lv_at hl 0 rfl) ?_
        refine lv_bipush (v := 99) hx hb dX11_more_123 (by decide) ?_
        refine lv_icmp_ne (tgt := 137) hx hb dX11_more_125 (by decide) (fun c_125 => ?_) (fun c_125 => ?_)
        · replace hp := hp.2 c_125
          refine lv_bipush (v := 60) hx hb dX11_more_137 (by decide) ?_
          refine lv_aload_n hx hb dX11_more_139 rfl (lv_at hl 1 rfl) ?_
          refine o_get (ci := 11) (T := TX11) hx hb hts hinX11 hown ho 0 rfl rfl 2 (by decide) hf9 rfl dX11_more_140 ?_
          refine lv_iload_n hx hb dX11_more_143 rfl (lv_at hl 2 rfl) ?_
          refine o_ild hx hb ho 1 0 rfl rfl hp.1 dX11_more_144 ?_
          replace hp := hp.2
          refine lv_bipush (v := 30) hx hb dX11_more_145 (by decide) ?_
          refine lv_iadd hx hb dX11_more_147 ?_
          refine lv_bipush (v := 60) hx hb dX11_more_148 (by decide) ?_
          refine o_callSi (rest := [.int 60]) ⟨hx, hb, hml, hown, hts⟩ ho (c_Jm_floorDiv l D (mT c) (wM q c mThr mTn mCk mRw mSt mTr mFM mFS mTpN mLw mAt mTwN mBE mBEn mSun mCkT mCkD mCkK mCkA mRow mStT mRun mUp mSta mSty mDly mTri mFnd mTap mLwT mLwD mLwO mLwM mTwT mSetA mDri mOrd mBst) ((mSun v1.toNatClampNeg) + 30) 60 _ hp) (va_cwS 2 hts gX11_more_J9_floorDiv_7cf53 rfl rfl rfl (by decide +kernel) ⟨(Nat.le_of_ble_eq_true rfl), (Nat.le_of_ble_eq_true rfl)⟩) rfl hl.1 rfl (Nat.le_of_ble_eq_true rfl) dX11_more_150 ⟨Nat.zero_le _, Nat.zero_le _⟩ (fun r150 u H locs hp ho => ?_)
          try dsimp only at hp
          replace ho : oW D (mT c) A s.heap s (wM q c mThr mTn mCk mRw mSt mTr mFM mFS mTpN mLw mAt mTwN mBE mBEn mSun mCkT mCkD mCkK mCkA mRow mStT mRun mUp mSta mSty mDly mTri mFnd mTap mLwT mLwD mLwO mLwM mTwT mSetA mDri mOrd mBst) H locs := ho
          refine lv_imul hx hb dX11_more_153 ?_
          exact hJ154 v2 v4 (60 * r150) hp _ _ _ ho (lv_sub hl [1, 3, 5] rfl)
        · replace hp := hp.1 c_125
          refine lv_aload_n hx hb dX11_more_128 rfl (lv_at hl 1 rfl) ?_
          refine lv_iload_n hx hb dX11_more_129 rfl (lv_at hl 2 rfl) ?_
          refine lv_iload_n hx hb dX11_more_130 rfl (lv_at hl 4 rfl) ?_
          refine o_callVi (rest := []) (ci := 11) ⟨hx, hb, hml, hown, hts⟩ ho (c_M_ahead l D q c mThr mTn mCk mRw mSt mTr mFM mFS mTpN mLw mAt mTwN mBE mBEn mSun mCkT mCkD mCkK mCkA mRow mStT mRun mUp mSta mSty mDly mTri mFnd mTap mLwT mLwD mLwO mLwM mTwT mSetA mDri mOrd mBst v1 v3 _ hp) (cwV 2 hts gX11_more_X11_ahead rfl rfl rfl (by decide +kernel) ⟨(Nat.le_of_ble_eq_true rfl), (Nat.le_of_ble_eq_true rfl)⟩) 0 rfl rfl rfl hl.1 rfl (Nat.le_of_ble_eq_true rfl) dX11_more_131 ⟨Nat.zero_le _, Nat.zero_le _⟩ (fun r131 u H locs hp ho => ?_)
          try dsimp only at hp
          replace ho : oW D (mT c) A s.heap s (wM q c mThr mTn mCk mRw mSt mTr mFM mFS mTpN mLw mAt mTwN mBE mBEn mSun mCkT mCkD mCkK mCkA mRow mStT mRun mUp mSta mSty mDly mTri mFnd mTap mLwT mLwD mLwO mLwM mTwT mSetA mDri mOrd mBst) H locs := ho
          refine lv_goto (tgt := 154) hx hb dX11_more_134 (by decide) ?_
          exact hJ154 v2 v4 r131 hp _ _ _ ho (lv_sub hl [1, 3, 5] rfl)
      · replace hp := hp.1 c_109
        refine lv_aload_n hx hb dX11_more_112 rfl (lv_at hl 1 rfl) ?_
        refine o_get (ci := 11) (T := TX11) hx hb hts hinX11 hown ho 0 rfl rfl 2 (by decide) hf9 rfl dX11_more_113 ?_
        refine lv_iload_n hx hb dX11_more_116 rfl (lv_at hl 2 rfl) ?_
        refine o_ild hx hb ho 1 0 rfl rfl hp.1 dX11_more_117 ?_
        replace hp := hp.2
        refine lv_goto (tgt := 154) hx hb dX11_more_118 (by decide) ?_
        exact hJ154 v2 v4 (mSun v1.toNatClampNeg) hp _ _ _ ho (lv_sub hl [1, 3, 5] rfl)
    · replace hp := hp.1 c_95
      refine lv_aload_n hx hb dX11_more_98 rfl (lv_at hl 1 rfl) ?_
      refine lv_iload_n hx hb dX11_more_99 rfl (lv_at hl 2 rfl) ?_
      refine lv_iload_n hx hb dX11_more_100 rfl (lv_at hl 4 rfl) ?_
      refine o_callVi (rest := []) (ci := 11) ⟨hx, hb, hml, hown, hts⟩ ho (c_M_ahead l D q c mThr mTn mCk mRw mSt mTr mFM mFS mTpN mLw mAt mTwN mBE mBEn mSun mCkT mCkD mCkK mCkA mRow mStT mRun mUp mSta mSty mDly mTri mFnd mTap mLwT mLwD mLwO mLwM mTwT mSetA mDri mOrd mBst v1 v3 _ hp) (cwV 2 hts gX11_more_X11_ahead rfl rfl rfl (by decide +kernel) ⟨(Nat.le_of_ble_eq_true rfl), (Nat.le_of_ble_eq_true rfl)⟩) 0 rfl rfl rfl hl.1 rfl (Nat.le_of_ble_eq_true rfl) dX11_more_101 ⟨Nat.zero_le _, Nat.zero_le _⟩ (fun r101 u H locs hp ho => ?_)
      try dsimp only at hp
      replace ho : oW D (mT c) A s.heap s (wM q c mThr mTn mCk mRw mSt mTr mFM mFS mTpN mLw mAt mTwN mBE mBEn mSun mCkT mCkD mCkK mCkA mRow mStT mRun mUp mSta mSty mDly mTri mFnd mTap mLwT mLwD mLwO mLwM mTwT mSetA mDri mOrd mBst) H locs := ho
      exact hret r101 () _ _ _ _ dX11_more_104 ho hp
  have hL11 : ∀ (v1 : Int32) (v2 : Int32) (v3 : Int32) (v4 : Int32) (v5 : Int32), Lp2 (p_M_more_L11 mCk mLw mSun mCkT mCkD mCkK mCkA mLwT mLwD mLwO mLwM v1 v2 v3 Q) v4 v5 → ∀ (H : Heap) (locs : List Loc) (ls : Array Slot), oW D (mT c) A s.heap s (wM q c mThr mTn mCk mRw mSt mTr mFM mFS mTpN mLw mAt mTwN mBE mBEn mSun mCkT mCkD mCkK mCkA mRow mStT mRun mUp mSta mSty mDly mTri mFnd mTap mLwT mLwD mLwO mLwM mTwT mSetA mDri mOrd mBst) H locs → lv_has ls 7 [(0, .ref (q 0)), (1, .int v1), (2, .int v2), (3, .int v3), (4, .int v4), (5, .int v5)] → W p l e { frames := 1, cells := 0, slots := 0, locals := 24 } s m args below meth cd H locs 0 0 Z (F0 m 11 ls []) := by
    intro v1 v2 v3
    refine Lp2.ind (fun rec hrec v4 v5 hp H locs ls ho hl => ?_)
    unfold p_M_more_L11 at hp
    refine lv_iload hx hb dX11_more_11 (lv_at hl 5 rfl) ?_
    refine lv_if_lt (tgt := 70) hx hb dX11_more_13 (by decide) (fun c_13 => ?_) (fun c_13 => ?_)
    · replace hp := hp.1 c_13
      refine lv_iload hx hb dX11_more_70 (lv_at hl 4 rfl) ?_
      refine lv_if_ge (tgt := 79) hx hb dX11_more_72 (by decide) (fun c_72 => ?_) (fun c_72 => ?_)
      · replace hp := hp.1 c_72
        refine lv_aload_n hx hb dX11_more_79 rfl (lv_at hl 0 rfl) ?_
        refine o_get (ci := 11) (T := TX11) hx hb hts hinX11 hown ho 0 rfl rfl 27 (by decide) hf62 rfl dX11_more_80 ?_
        refine lv_bipush (v := 6) hx hb dX11_more_83 (by decide) ?_
        refine lv_iload hx hb dX11_more_85 (lv_at hl 4 rfl) ?_
        refine lv_imul hx hb dX11_more_87 ?_
        refine lv_iload_n hx hb dX11_more_88 rfl (lv_at hl 2 rfl) ?_
        refine lv_iadd hx hb dX11_more_89 ?_
        refine o_ild hx hb ho 18 17 rfl rfl hp.1 dX11_more_90 ?_
        replace hp := hp.2
        exact hJ91 v1 v2 v3 v4 (mLwO ((6 * v4) + v2).toNatClampNeg) hp _ _ _ ho (lv_sub hl [0, 1, 2, 3, 4] rfl)
      · replace hp := hp.2 c_72
        refine lv_iconst (v := 0) hx hb dX11_more_75 (by decide) ?_
        refine lv_goto (tgt := 91) hx hb dX11_more_76 (by decide) ?_
        exact hJ91 v1 v2 v3 v4 0 hp _ _ _ ho (lv_sub hl [0, 1, 2, 3, 4] rfl)
    · replace hp := hp.2 c_13
      refine lv_aload_n hx hb dX11_more_16 rfl (lv_at hl 0 rfl) ?_
      refine o_get (ci := 11) (T := TX11) hx hb hts hinX11 hown ho 0 rfl rfl 25 (by decide) hf56 rfl dX11_more_17 ?_
      refine lv_iload hx hb dX11_more_20 (lv_at hl 5 rfl) ?_
      refine o_ild hx hb ho 16 15 rfl rfl hp.1 dX11_more_22 ?_
      replace hp := hp.2
      refine lv_iload_n hx hb dX11_more_23 rfl (lv_at hl 1 rfl) ?_
      refine lv_icmp_ne (tgt := 64) hx hb dX11_more_24 (by decide) (fun c_24 => ?_) (fun c_24 => ?_)
      · replace hp := hp.2 c_24
        obtain ⟨x64, e_x64⟩ : ∃ y : Int32, y = v5 + (-1) := ⟨_, rfl⟩
        replace hp := hp x64 e_x64
        refine lv_iinc (v := x64) (lv' := [(5, .int x64), (0, .ref (q 0)), (1, .int v1), (2, .int v2), (3, .int v3), (4, .int v4)]) hx hb dX11_more_64 hl (k := 5) rfl (by rw [e_x64]; rfl) (by decide) rfl (fun ls hl => ?_)
        refine lv_goto (tgt := 11) hx hb dX11_more_67 (by decide) ?_
        exact hrec v4 x64 hp _ _ _ ho (lv_sub hl [1, 2, 3, 4, 5, 0] rfl)
      · replace hp := hp.1 c_24
        refine lv_aload_n hx hb dX11_more_27 rfl (lv_at hl 0 rfl) ?_
        refine o_get (ci := 11) (T := TX11) hx hb hts hinX11 hown ho 0 rfl rfl 26 (by decide) hf59 rfl dX11_more_28 ?_
        refine lv_iload hx hb dX11_more_31 (lv_at hl 5 rfl) ?_
        refine o_ild hx hb ho 17 16 rfl rfl hp.1 dX11_more_33 ?_
        replace hp := hp.2
        refine lv_iload_n hx hb dX11_more_34 rfl (lv_at hl 3 rfl) ?_
        refine lv_icmp_gt (tgt := 64) hx hb dX11_more_35 (by decide) (fun c_35 => ?_) (fun c_35 => ?_)
        · replace hp := hp.1 c_35
          obtain ⟨x64, e_x64⟩ : ∃ y : Int32, y = v5 + (-1) := ⟨_, rfl⟩
          replace hp := hp x64 e_x64
          refine lv_iinc (v := x64) (lv' := [(5, .int x64), (0, .ref (q 0)), (1, .int v1), (2, .int v2), (3, .int v3), (4, .int v4)]) hx hb dX11_more_64 hl (k := 5) rfl (by rw [e_x64]; rfl) (by decide) rfl (fun ls hl => ?_)
          refine lv_goto (tgt := 11) hx hb dX11_more_67 (by decide) ?_
          exact hrec v4 x64 hp _ _ _ ho (lv_sub hl [1, 2, 3, 4, 5, 0] rfl)
        · replace hp := hp.2 c_35
          refine lv_iload hx hb dX11_more_38 (lv_at hl 4 rfl) ?_
          refine lv_if_lt (tgt := 60) hx hb dX11_more_40 (by decide) (fun c_40 => ?_) (fun c_40 => ?_)
          · replace hp := hp.1 c_40
            refine lv_iload hx hb dX11_more_60 (lv_at hl 5 rfl) ?_
            refine lv_istore (lv' := [(4, .int v5), (0, .ref (q 0)), (1, .int v1), (2, .int v2), (3, .int v3), (5, .int v5)]) hx hb dX11_more_62 hl (by decide) rfl (fun ls hl => ?_)
            obtain ⟨x64, e_x64⟩ : ∃ y : Int32, y = v5 + (-1) := ⟨_, rfl⟩
            replace hp := hp x64 e_x64
            refine lv_iinc (v := x64) (lv' := [(5, .int x64), (4, .int v5), (0, .ref (q 0)), (1, .int v1), (2, .int v2), (3, .int v3)]) hx hb dX11_more_64 hl (k := 5) rfl (by rw [e_x64]; rfl) (by decide) rfl (fun ls hl => ?_)
            refine lv_goto (tgt := 11) hx hb dX11_more_67 (by decide) ?_
            exact hrec v5 x64 hp _ _ _ ho (lv_sub hl [2, 3, 4, 5, 1, 0] rfl)
          · replace hp := hp.2 c_40
            refine lv_aload_n hx hb dX11_more_43 rfl (lv_at hl 0 rfl) ?_
            refine o_get (ci := 11) (T := TX11) hx hb hts hinX11 hown ho 0 rfl rfl 26 (by decide) hf59 rfl dX11_more_44 ?_
            refine lv_iload hx hb dX11_more_47 (lv_at hl 5 rfl) ?_
            refine o_ild hx hb ho 17 16 rfl rfl hp.1 dX11_more_49 ?_
            replace hp := hp.2
            refine lv_aload_n hx hb dX11_more_50 rfl (lv_at hl 0 rfl) ?_
            refine o_get (ci := 11) (T := TX11) hx hb hts hinX11 hown ho 0 rfl rfl 26 (by decide) hf59 rfl dX11_more_51 ?_
            refine lv_iload hx hb dX11_more_54 (lv_at hl 4 rfl) ?_
            refine o_ild hx hb ho 17 16 rfl rfl hp.1 dX11_more_56 ?_
            replace hp := hp.2
            refine lv_icmp_le (tgt := 64) hx hb dX11_more_57 (by decide) (fun c_57 => ?_) (fun c_57 => ?_)
            · replace hp := hp.1 c_57
              obtain ⟨x64, e_x64⟩ : ∃ y : Int32, y = v5 + (-1) := ⟨_, rfl⟩
              replace hp := hp x64 e_x64
              refine lv_iinc (v := x64) (lv' := [(5, .int x64), (0, .ref (q 0)), (1, .int v1), (2, .int v2), (3, .int v3), (4, .int v4)]) hx hb dX11_more_64 hl (k := 5) rfl (by rw [e_x64]; rfl) (by decide) rfl (fun ls hl => ?_)
              refine lv_goto (tgt := 11) hx hb dX11_more_67 (by decide) ?_
              exact hrec v4 x64 hp _ _ _ ho (lv_sub hl [1, 2, 3, 4, 5, 0] rfl)
            · replace hp := hp.2 c_57
              refine lv_iload hx hb dX11_more_60 (lv_at hl 5 rfl) ?_
              refine lv_istore (lv' := [(4, .int v5), (0, .ref (q 0)), (1, .int v1), (2, .int v2), (3, .int v3), (5, .int v5)]) hx hb dX11_more_62 hl (by decide) rfl (fun ls hl => ?_)
              obtain ⟨x64, e_x64⟩ : ∃ y : Int32, y = v5 + (-1) := ⟨_, rfl⟩
              replace hp := hp x64 e_x64
              refine lv_iinc (v := x64) (lv' := [(5, .int x64), (4, .int v5), (0, .ref (q 0)), (1, .int v1), (2, .int v2), (3, .int v3)]) hx hb dX11_more_64 hl (k := 5) rfl (by rw [e_x64]; rfl) (by decide) rfl (fun ls hl => ?_)
              refine lv_goto (tgt := 11) hx hb dX11_more_67 (by decide) ?_
              exact hrec v5 x64 hp _ _ _ ho (lv_sub hl [2, 3, 4, 5, 1, 0] rfl)
  refine lv_iconst (v := (-1)) hx hb dX11_more_0 (by decide) ?_
  refine lv_istore (lv' := [(4, .int (-1)), (0, .ref (q 0)), (1, .int v1), (2, .int v2), (3, .int v3)]) hx hb dX11_more_1 hl (by decide) rfl (fun ls hl => ?_)
  refine lv_aload_n hx hb dX11_more_3 rfl (lv_at hl 1 rfl) ?_
  refine o_get (ci := 11) (T := TX11) hx hb hts hinX11 hown ho 0 rfl rfl 24 (by decide) hf124 rfl dX11_more_4 ?_
  refine lv_iconst (v := 1) hx hb dX11_more_7 (by decide) ?_
  refine lv_isub hx hb dX11_more_8 ?_
  refine lv_topi (fun x9 e_x9 => ?_)
  replace hp := hp x9 e_x9
  refine lv_istore (lv' := [(5, .int x9), (4, .int (-1)), (0, .ref (q 0)), (1, .int v1), (2, .int v2), (3, .int v3)]) hx hb dX11_more_9 hl (by decide) rfl (fun ls hl => ?_)
  exact hL11 v1 v2 v3 (-1) x9 hp _ _ _ ho (lv_sub hl [2, 3, 4, 5, 1, 0] rfl)
set_option maxHeartbeats 4000000 in
set_option maxRecDepth 100000 in
theorem c_M_isMatter (l : Launch) (D : va_G) (q : Nat → Nat) (c : Nat → ClassId) (mThr : Int32) (mTn : Int32) (mCk : Int32) (mRw : Int32) (mSt : Int32) (mTr : Int32) (mFM : Int32) (mFS : Int32) (mTpN : Int32) (mLw : Int32) (mAt : Int32) (mTwN : Int32) (mBE : Int32) (mBEn : Int32) (mSun : Nat → Int32) (mCkT : Nat → Int32) (mCkD : Nat → Int32) (mCkK : Nat → Int32) (mCkA : Nat → Int32) (mRow : Nat → Int32) (mStT : Nat → Int32) (mRun : Nat → Int32) (mUp : Nat → Int32) (mSta : Nat → Int32) (mSty : Nat → Int32) (mDly : Nat → Int32) (mTri : Nat → Int32) (mFnd : Nat → Int32) (mTap : Nat → Int32) (mLwT : Nat → Int32) (mLwD : Nat → Int32) (mLwO : Nat → Int32) (mLwM : Nat → Int32) (mTwT : Nat → Int32) (mSetA : Nat → Int32) (mDri : Nat → Int32) (mOrd : Nat → Int32) (mBst : Nat → Int32) (v1 : Int32) (v2 : Int32) (Q : Int32 → Prop) (hp : p_M_isMatter mTn v1 v2 Q) : oKi l yX11_isMatter wsX11_isMatter { frames := 2, cells := 0, slots := 0, locals := 46 } [.ref (q 0), .int v1, .int v2] D (mT c) (wM q c mThr mTn mCk mRw mSt mTr mFM mFS mTpN mLw mAt mTwN mBE mBEn mSun mCkT mCkD mCkK mCkA mRow mStT mRun mUp mSta mSty mDly mTri mFnd mTap mLwT mLwD mLwO mLwM mTwT mSetA mDri mOrd mBst) (Unit) (fun r (_ : Unit) => Q r) (fun _ => wM q c mThr mTn mCk mRw mSt mTr mFM mFS mTpN mLw mAt mTwN mBE mBEn mSun mCkT mCkD mCkK mCkA mRow mStT mRun mUp mSta mSty mDly mTri mFnd mTap mLwT mLwD mLwO mLwM mTwT mSetA mDri mOrd mBst) := by
  refine oKi.ofWz (own := RX11) (cc := cX11_isMatter) (maxL := 3) (plainFor_of_name (by decide +kernel)) rfl rfl (Nat.le_of_ble_eq_true rfl) (fun p e s m args below meth cd A ls Z hx hb hml hown hts hret ho hl => ?_)
  replace hl : lv_has ls 3 [(0, .ref (q 0)), (1, .int v1), (2, .int v2)] := hl
  have hk228 := hts (.constantLong RX11 228 5) (by decide +kernel)
  unfold p_M_isMatter at hp
  refine lv_aload_n hx hb dX11_isMatter_0 rfl (lv_at hl 0 rfl) ?_
  refine lv_iload_n hx hb dX11_isMatter_1 rfl (lv_at hl 1 rfl) ?_
  refine o_callVi (rest := []) (ci := 11) ⟨hx, hb, hml, hown, hts⟩ ho (c_M_isTown l D q c mThr mTn mCk mRw mSt mTr mFM mFS mTpN mLw mAt mTwN mBE mBEn mSun mCkT mCkD mCkK mCkA mRow mStT mRun mUp mSta mSty mDly mTri mFnd mTap mLwT mLwD mLwO mLwM mTwT mSetA mDri mOrd mBst v1 _ hp) (cwV 1 hts gX11_isMatter_X11_isTown rfl rfl rfl (by decide +kernel) ⟨(Nat.le_of_ble_eq_true rfl), (Nat.le_of_ble_eq_true rfl)⟩) 0 rfl rfl rfl hl.1 rfl (Nat.le_of_ble_eq_true rfl) dX11_isMatter_2 ⟨Nat.zero_le _, Nat.zero_le _⟩ (fun r2 u H locs hp ho => ?_)
  try dsimp only at hp
  replace ho : oW D (mT c) A s.heap s (wM q c mThr mTn mCk mRw mSt mTr mFM mFS mTpN mLw mAt mTwN mBE mBEn mSun mCkT mCkD mCkK mCkA mRow mStT mRun mUp mSta mSty mDly mTri mFnd mTap mLwT mLwD mLwO mLwM mTwT mSetA mDri mOrd mBst) H locs := ho
  refine lv_if_eq (tgt := 24) hx hb dX11_isMatter_5 (by decide) (fun c_5 => ?_) (fun c_5 => ?_)
  · replace hp := hp.1 c_5
    refine lv_iconst (v := 0) hx hb dX11_isMatter_24 (by decide) ?_
    exact hret 0 () _ _ _ _ dX11_isMatter_25 (Or.inl rfl) ho hp
  · replace hp := hp.2 c_5
    refine lv_iload_n hx hb dX11_isMatter_8 rfl (lv_at hl 2 rfl) ?_
    refine lv_i2l (v := ((v2 : Int32).toInt64)) hx hb dX11_isMatter_9 rfl ?_
    refine lv_lconst (v := 0) hx hb dX11_isMatter_10 (by decide) ?_
    refine lv_ldc2 (v := 5) hx hb hown hk228 dX11_isMatter_11 ?_
    refine o_callSi (rest := []) ⟨hx, hb, hml, hown, hts⟩ ho (c_M_in l D (mT c) (wM q c mThr mTn mCk mRw mSt mTr mFM mFS mTpN mLw mAt mTwN mBE mBEn mSun mCkT mCkD mCkK mCkA mRow mStT mRun mUp mSta mSty mDly mTri mFnd mTap mLwT mLwD mLwO mLwM mTwT mSetA mDri mOrd mBst) ((v2 : Int32).toInt64) 0 5 _ hp) (va_cwS 3 hts gX11_isMatter_X11_in rfl rfl rfl (by decide +kernel) ⟨(Nat.le_of_ble_eq_true rfl), (Nat.le_of_ble_eq_true rfl)⟩) rfl hl.1 rfl (Nat.le_of_ble_eq_true rfl) dX11_isMatter_14 ⟨Nat.zero_le _, Nat.zero_le _⟩ (fun r14 u H locs hp ho => ?_)
    try dsimp only at hp
    replace ho : oW D (mT c) A s.heap s (wM q c mThr mTn mCk mRw mSt mTr mFM mFS mTpN mLw mAt mTwN mBE mBEn mSun mCkT mCkD mCkK mCkA mRow mStT mRun mUp mSta mSty mDly mTri mFnd mTap mLwT mLwD mLwO mLwM mTwT mSetA mDri mOrd mBst) H locs := ho
    refine lv_if_eq (tgt := 24) hx hb dX11_isMatter_17 (by decide) (fun c_17 => ?_) (fun c_17 => ?_)
    · replace hp := hp.1 c_17
      refine lv_iconst (v := 0) hx hb dX11_isMatter_24 (by decide) ?_
      exact hret 0 () _ _ _ _ dX11_isMatter_25 (Or.inl rfl) ho hp
    · replace hp := hp.2 c_17
      refine lv_iconst (v := 1) hx hb dX11_isMatter_20 (by decide) ?_
      refine lv_goto (tgt := 25) hx hb dX11_isMatter_21 (by decide) ?_
      exact hret 1 () _ _ _ _ dX11_isMatter_25 (Or.inr rfl) ho hp
set_option maxHeartbeats 4000000 in
set_option maxRecDepth 100000 in
theorem c_M_judged (l : Launch) (D : va_G) (q : Nat → Nat) (c : Nat → ClassId) (mThr : Int32) (mTn : Int32) (mCk : Int32) (mRw : Int32) (mSt : Int32) (mTr : Int32) (mFM : Int32) (mFS : Int32) (mTpN : Int32) (mLw : Int32) (mAt : Int32) (mTwN : Int32) (mBE : Int32) (mBEn : Int32) (mSun : Nat → Int32) (mCkT : Nat → Int32) (mCkD : Nat → Int32) (mCkK : Nat → Int32) (mCkA : Nat → Int32) (mRow : Nat → Int32) (mStT : Nat → Int32) (mRun : Nat → Int32) (mUp : Nat → Int32) (mSta : Nat → Int32) (mSty : Nat → Int32) (mDly : Nat → Int32) (mTri : Nat → Int32) (mFnd : Nat → Int32) (mTap : Nat → Int32) (mLwT : Nat → Int32) (mLwD : Nat → Int32) (mLwO : Nat → Int32) (mLwM : Nat → Int32) (mTwT : Nat → Int32) (mSetA : Nat → Int32) (mDri : Nat → Int32) (mOrd : Nat → Int32) (mBst : Nat → Int32) (v1 : Int32) (v2 : Int32) (v3 : Int32) (Q : Int32 → Int32 → Prop) (hp : p_M_judged mTn mCk mLw mSun mCkT mCkD mCkK mCkA mLwT mLwD mLwO mLwM mThr v1 v2 v3 Q) : oKi l yX11_judged wsX11_judged { frames := 3, cells := 0, slots := 0, locals := 68 } [.ref (q 0), .int v1, .int v2, .int v3] D (mT c) (wM q c mThr mTn mCk mRw mSt mTr mFM mFS mTpN mLw mAt mTwN mBE mBEn mSun mCkT mCkD mCkK mCkA mRow mStT mRun mUp mSta mSty mDly mTri mFnd mTap mLwT mLwD mLwO mLwM mTwT mSetA mDri mOrd mBst) (Int32) (fun r (u : Int32) => Q r u) (fun u => wM q c u mTn mCk mRw mSt mTr mFM mFS mTpN mLw mAt mTwN mBE mBEn mSun mCkT mCkD mCkK mCkA mRow mStT mRun mUp mSta mSty mDly mTri mFnd mTap mLwT mLwD mLwO mLwM mTwT mSetA mDri mOrd mBst) := by
  refine oKi.ofW (own := RX11) (cc := cX11_judged) (maxL := 4) (plainFor_of_name (by decide +kernel)) rfl rfl (Nat.le_of_ble_eq_true rfl) (fun p e s m args below meth cd A ls Z hx hb hml hown hts hret ho hl => ?_)
  replace hl : lv_has ls 4 [(0, .ref (q 0)), (1, .int v1), (2, .int v2), (3, .int v3)] := hl
  have hinX11 : ∀ w ∈ u_ws RX11 TX11 38, w ∈ wsX11_judged := by decide +kernel
  have hf83 := hts (.fieldLink RX11 83 "OneTimeModel" "thrown" "I") (by decide +kernel)
  unfold p_M_judged at hp
  have hJ37 : ∀ (mThr : Int32), p_M_judged_J37 mTn mCk mLw mSun mCkT mCkD mCkK mCkA mLwT mLwD mLwO mLwM mThr Q → ∀ (H : Heap) (locs : List Loc) (ls : Array Slot), oW D (mT c) A s.heap s (wM q c mThr mTn mCk mRw mSt mTr mFM mFS mTpN mLw mAt mTwN mBE mBEn mSun mCkT mCkD mCkK mCkA mRow mStT mRun mUp mSta mSty mDly mTri mFnd mTap mLwT mLwD mLwO mLwM mTwT mSetA mDri mOrd mBst) H locs → lv_has ls 4 [(0, .ref (q 0))] → W p l e { frames := 3, cells := 0, slots := 0, locals := 68 } s m args below meth cd H locs 0 0 Z (F0 m 37 ls []) := by
    intro mThr
    intro hp H locs ls ho hl
    unfold p_M_judged_J37 at hp
    refine lv_aload_n hx hb dX11_judged_37 rfl (lv_at hl 0 rfl) ?_
    refine o_callVi (rest := []) (ci := 11) ⟨hx, hb, hml, hown, hts⟩ ho (c_M_refuse l D q c mThr mTn mCk mRw mSt mTr mFM mFS mTpN mLw mAt mTwN mBE mBEn mSun mCkT mCkD mCkK mCkA mRow mStT mRun mUp mSta mSty mDly mTri mFnd mTap mLwT mLwD mLwO mLwM mTwT mSetA mDri mOrd mBst  _ hp) (cwV 0 hts gX11_judged_X11_refuse rfl rfl rfl (by decide +kernel) ⟨(Nat.le_of_ble_eq_true rfl), (Nat.le_of_ble_eq_true rfl)⟩) 0 rfl rfl rfl hl.1 rfl (Nat.le_of_ble_eq_true rfl) dX11_judged_38 ⟨Nat.zero_le _, Nat.zero_le _⟩ (fun r38 u H locs hp ho => ?_)
    obtain ⟨mThr_38, rfl⟩ : ∃ z, z = u := ⟨_, rfl⟩
    try dsimp only at hp
    replace ho : oW D (mT c) A s.heap s (wM q c mThr_38 mTn mCk mRw mSt mTr mFM mFS mTpN mLw mAt mTwN mBE mBEn mSun mCkT mCkD mCkK mCkA mRow mStT mRun mUp mSta mSty mDly mTri mFnd mTap mLwT mLwD mLwO mLwM mTwT mSetA mDri mOrd mBst) H locs := ho
    exact hret r38 mThr_38 _ _ _ _ dX11_judged_41 ho hp
  refine lv_aload_n hx hb dX11_judged_0 rfl (lv_at hl 0 rfl) ?_
  refine lv_iconst (v := 0) hx hb dX11_judged_1 (by decide) ?_
  refine o_put (ci := 11) (T := TX11) hx hb hts hinX11 tyX11_ok nmX11 hown ho 0 rfl rfl 0 (by decide) hf83 rfl (tyX11_ok 0 (by decide)) (Nat.le_of_ble_eq_true rfl) dX11_judged_2 (fun H locs ho => ?_)
  replace ho : oW D (mT c) A s.heap s (wM q c 0 mTn mCk mRw mSt mTr mFM mFS mTpN mLw mAt mTwN mBE mBEn mSun mCkT mCkD mCkK mCkA mRow mStT mRun mUp mSta mSty mDly mTri mFnd mTap mLwT mLwD mLwO mLwM mTwT mSetA mDri mOrd mBst) H locs := ho
  refine lv_aload_n hx hb dX11_judged_5 rfl (lv_at hl 0 rfl) ?_
  refine lv_iload_n hx hb dX11_judged_6 rfl (lv_at hl 1 rfl) ?_
  refine lv_iload_n hx hb dX11_judged_7 rfl (lv_at hl 2 rfl) ?_
  refine o_callVi (rest := []) (ci := 11) ⟨hx, hb, hml, hown, hts⟩ ho (c_M_isMatter l D q c 0 mTn mCk mRw mSt mTr mFM mFS mTpN mLw mAt mTwN mBE mBEn mSun mCkT mCkD mCkK mCkA mRow mStT mRun mUp mSta mSty mDly mTri mFnd mTap mLwT mLwD mLwO mLwM mTwT mSetA mDri mOrd mBst v1 v2 _ hp) (cwV 2 hts gX11_judged_X11_isMatter rfl rfl rfl (by decide +kernel) ⟨(Nat.le_of_ble_eq_true rfl), (Nat.le_of_ble_eq_true rfl)⟩) 0 rfl rfl rfl hl.1 rfl (Nat.le_of_ble_eq_true rfl) dX11_judged_8 ⟨Nat.zero_le _, Nat.zero_le _⟩ (fun r8 u H locs hp ho => ?_)
  try dsimp only at hp
  replace ho : oW D (mT c) A s.heap s (wM q c 0 mTn mCk mRw mSt mTr mFM mFS mTpN mLw mAt mTwN mBE mBEn mSun mCkT mCkD mCkK mCkA mRow mStT mRun mUp mSta mSty mDly mTri mFnd mTap mLwT mLwD mLwO mLwM mTwT mSetA mDri mOrd mBst) H locs := ho
  refine lv_if_eq (tgt := 37) hx hb dX11_judged_11 (by decide) (fun c_11 => ?_) (fun c_11 => ?_)
  · replace hp := hp.1 c_11
    exact hJ37 0 hp _ _ _ ho (lv_sub hl [0] rfl)
  · replace hp := hp.2 c_11
    refine lv_iload_n hx hb dX11_judged_14 rfl (lv_at hl 3 rfl) ?_
    refine o_callSi (rest := []) ⟨hx, hb, hml, hown, hts⟩ ho (c_M_isMinute l D (mT c) (wM q c 0 mTn mCk mRw mSt mTr mFM mFS mTpN mLw mAt mTwN mBE mBEn mSun mCkT mCkD mCkK mCkA mRow mStT mRun mUp mSta mSty mDly mTri mFnd mTap mLwT mLwD mLwO mLwM mTwT mSetA mDri mOrd mBst) v3 _ hp) (va_cwS 1 hts gX11_judged_X11_isMinute rfl rfl rfl (by decide +kernel) ⟨(Nat.le_of_ble_eq_true rfl), (Nat.le_of_ble_eq_true rfl)⟩) rfl hl.1 rfl (Nat.le_of_ble_eq_true rfl) dX11_judged_15 ⟨Nat.zero_le _, Nat.zero_le _⟩ (fun r15 u H locs hp ho => ?_)
    try dsimp only at hp
    replace ho : oW D (mT c) A s.heap s (wM q c 0 mTn mCk mRw mSt mTr mFM mFS mTpN mLw mAt mTwN mBE mBEn mSun mCkT mCkD mCkK mCkA mRow mStT mRun mUp mSta mSty mDly mTri mFnd mTap mLwT mLwD mLwO mLwM mTwT mSetA mDri mOrd mBst) H locs := ho
    refine lv_if_eq (tgt := 37) hx hb dX11_judged_18 (by decide) (fun c_18 => ?_) (fun c_18 => ?_)
    · replace hp := hp.1 c_18
      exact hJ37 0 hp _ _ _ ho (lv_sub hl [0] rfl)
    · replace hp := hp.2 c_18
      refine lv_iload_n hx hb dX11_judged_21 rfl (lv_at hl 3 rfl) ?_
      refine lv_aload_n hx hb dX11_judged_22 rfl (lv_at hl 0 rfl) ?_
      refine lv_iload_n hx hb dX11_judged_23 rfl (lv_at hl 1 rfl) ?_
      refine lv_iload_n hx hb dX11_judged_24 rfl (lv_at hl 2 rfl) ?_
      refine lv_iload_n hx hb dX11_judged_25 rfl (lv_at hl 3 rfl) ?_
      refine lv_sipush (v := 1440) hx hb dX11_judged_26 (by decide) ?_
      refine lv_idiv hx hb dX11_judged_29 (by decide) ?_
      refine o_callVi (rest := [.int v3]) (ci := 11) ⟨hx, hb, hml, hown, hts⟩ ho (c_M_more l D q c 0 mTn mCk mRw mSt mTr mFM mFS mTpN mLw mAt mTwN mBE mBEn mSun mCkT mCkD mCkK mCkA mRow mStT mRun mUp mSta mSty mDly mTri mFnd mTap mLwT mLwD mLwO mLwM mTwT mSetA mDri mOrd mBst v1 v2 (v3 / 1440) _ hp) (cwV 3 hts gX11_judged_X11_more rfl rfl rfl (by decide +kernel) ⟨(Nat.le_of_ble_eq_true rfl), (Nat.le_of_ble_eq_true rfl)⟩) 0 rfl rfl rfl hl.1 rfl (Nat.le_of_ble_eq_true rfl) dX11_judged_30 ⟨Nat.zero_le _, Nat.zero_le _⟩ (fun r30 u H locs hp ho => ?_)
      try dsimp only at hp
      replace ho : oW D (mT c) A s.heap s (wM q c 0 mTn mCk mRw mSt mTr mFM mFS mTpN mLw mAt mTwN mBE mBEn mSun mCkT mCkD mCkK mCkA mRow mStT mRun mUp mSta mSty mDly mTri mFnd mTap mLwT mLwD mLwO mLwM mTwT mSetA mDri mOrd mBst) H locs := ho
      refine lv_iadd hx hb dX11_judged_33 ?_
      refine lv_goto (tgt := 41) hx hb dX11_judged_34 (by decide) ?_
      exact hret (v3 + r30) 0 _ _ _ _ dX11_judged_41 ho hp
set_option maxHeartbeats 4000000 in
set_option maxRecDepth 100000 in
theorem c_M_late (l : Launch) (D : va_G) (q : Nat → Nat) (c : Nat → ClassId) (mThr : Int32) (mTn : Int32) (mCk : Int32) (mRw : Int32) (mSt : Int32) (mTr : Int32) (mFM : Int32) (mFS : Int32) (mTpN : Int32) (mLw : Int32) (mAt : Int32) (mTwN : Int32) (mBE : Int32) (mBEn : Int32) (mSun : Nat → Int32) (mCkT : Nat → Int32) (mCkD : Nat → Int32) (mCkK : Nat → Int32) (mCkA : Nat → Int32) (mRow : Nat → Int32) (mStT : Nat → Int32) (mRun : Nat → Int32) (mUp : Nat → Int32) (mSta : Nat → Int32) (mSty : Nat → Int32) (mDly : Nat → Int32) (mTri : Nat → Int32) (mFnd : Nat → Int32) (mTap : Nat → Int32) (mLwT : Nat → Int32) (mLwD : Nat → Int32) (mLwO : Nat → Int32) (mLwM : Nat → Int32) (mTwT : Nat → Int32) (mSetA : Nat → Int32) (mDri : Nat → Int32) (mOrd : Nat → Int32) (mBst : Nat → Int32) (v1 : Int32) (v2 : Int32) (v3 : Int32) (v4 : Int32) (v5 : Int32) (v6 : Int32) (Q : Int32 → Int32 → Prop) (hp : p_M_late mTn mCk mLw mSun mCkT mCkD mCkK mCkA mLwT mLwD mLwO mLwM mThr v1 v2 v3 v4 v5 v6 Q) : oKi l yX11_late wsX11_late { frames := 3, cells := 0, slots := 0, locals := 68 } [.ref (q 0), .int v1, .int v2, .int v3, .int v4, .int v5, .int v6] D (mT c) (wM q c mThr mTn mCk mRw mSt mTr mFM mFS mTpN mLw mAt mTwN mBE mBEn mSun mCkT mCkD mCkK mCkA mRow mStT mRun mUp mSta mSty mDly mTri mFnd mTap mLwT mLwD mLwO mLwM mTwT mSetA mDri mOrd mBst) (Int32) (fun r (u : Int32) => Q r u) (fun u => wM q c u mTn mCk mRw mSt mTr mFM mFS mTpN mLw mAt mTwN mBE mBEn mSun mCkT mCkD mCkK mCkA mRow mStT mRun mUp mSta mSty mDly mTri mFnd mTap mLwT mLwD mLwO mLwM mTwT mSetA mDri mOrd mBst) := by
  refine oKi.ofW (own := RX11) (cc := cX11_late) (maxL := 9) (plainFor_of_name (by decide +kernel)) rfl rfl (Nat.le_of_ble_eq_true rfl) (fun p e s m args below meth cd A ls Z hx hb hml hown hts hret ho hl => ?_)
  replace hl : lv_has ls 9 [(0, .ref (q 0)), (1, .int v1), (2, .int v2), (3, .int v3), (4, .int v4), (5, .int v5), (6, .int v6)] := hl
  have hinX11 : ∀ w ∈ u_ws RX11 TX11 38, w ∈ wsX11_late := by decide +kernel
  have hf83 := hts (.fieldLink RX11 83 "OneTimeModel" "thrown" "I") (by decide +kernel)
  have hk155 := hts (.constantLong RX11 155 1439) (by decide +kernel)
  unfold p_M_late at hp
  have hL69 : ∀ (v1 : Int32) (v2 : Int32) (v4 : Int32) (v5 : Int32) (v6 : Int32) (mThr : Int32) (v7 : Int32) (v8 : Int32), Lp2 (p_M_late_L69 mTn mCk mLw mSun mCkT mCkD mCkK mCkA mLwT mLwD mLwO mLwM v1 v2 v4 v5 v6 mThr Q) v7 v8 → ∀ (H : Heap) (locs : List Loc) (ls : Array Slot), oW D (mT c) A s.heap s (wM q c mThr mTn mCk mRw mSt mTr mFM mFS mTpN mLw mAt mTwN mBE mBEn mSun mCkT mCkD mCkK mCkA mRow mStT mRun mUp mSta mSty mDly mTri mFnd mTap mLwT mLwD mLwO mLwM mTwT mSetA mDri mOrd mBst) H locs → lv_has ls 9 [(0, .ref (q 0)), (1, .int v1), (2, .int v2), (4, .int v4), (5, .int v5), (6, .int v6), (7, .int v7), (8, .int v8)] → W p l e { frames := 3, cells := 0, slots := 0, locals := 68 } s m args below meth cd H locs 0 0 Z (F0 m 69 ls []) := by
    intro v1 v2 v4 v5 v6 mThr
    refine Lp2.ind (fun rec hrec v7 v8 hp H locs ls ho hl => ?_)
    unfold p_M_late_L69 at hp
    refine lv_iload hx hb dX11_late_69 (lv_at hl 7 rfl) ?_
    refine lv_iload hx hb dX11_late_71 (lv_at hl 3 rfl) ?_
    refine lv_icmp_gt (tgt := 114) hx hb dX11_late_73 (by decide) (fun c_73 => ?_) (fun c_73 => ?_)
    · replace hp := hp.1 c_73
      refine lv_iload hx hb dX11_late_114 (lv_at hl 6 rfl) ?_
      exact hret v7 mThr _ _ _ _ dX11_late_116 ho hp
    · replace hp := hp.2 c_73
      refine lv_iload hx hb dX11_late_76 (lv_at hl 6 rfl) ?_
      refine lv_iload hx hb dX11_late_78 (lv_at hl 4 rfl) ?_
      refine lv_aload_n hx hb dX11_late_80 rfl (lv_at hl 0 rfl) ?_
      refine lv_iload_n hx hb dX11_late_81 rfl (lv_at hl 1 rfl) ?_
      refine lv_iload_n hx hb dX11_late_82 rfl (lv_at hl 2 rfl) ?_
      refine lv_iload hx hb dX11_late_83 (lv_at hl 7 rfl) ?_
      refine o_callVi (rest := [.int v5, .int v7]) (ci := 11) ⟨hx, hb, hml, hown, hts⟩ ho (c_M_more l D q c mThr mTn mCk mRw mSt mTr mFM mFS mTpN mLw mAt mTwN mBE mBEn mSun mCkT mCkD mCkK mCkA mRow mStT mRun mUp mSta mSty mDly mTri mFnd mTap mLwT mLwD mLwO mLwM mTwT mSetA mDri mOrd mBst v1 v2 v8 _ hp) (cwV 3 hts gX11_late_X11_more rfl rfl rfl (by decide +kernel) ⟨(Nat.le_of_ble_eq_true rfl), (Nat.le_of_ble_eq_true rfl)⟩) 0 rfl rfl rfl hl.1 rfl (Nat.le_of_ble_eq_true rfl) dX11_late_85 ⟨Nat.zero_le _, Nat.zero_le _⟩ (fun r85 u H locs hp ho => ?_)
      try dsimp only at hp
      replace ho : oW D (mT c) A s.heap s (wM q c mThr mTn mCk mRw mSt mTr mFM mFS mTpN mLw mAt mTwN mBE mBEn mSun mCkT mCkD mCkK mCkA mRow mStT mRun mUp mSta mSty mDly mTri mFnd mTap mLwT mLwD mLwO mLwM mTwT mSetA mDri mOrd mBst) H locs := ho
      refine lv_iadd hx hb dX11_late_88 ?_
      refine lv_sipush (v := 1440) hx hb dX11_late_89 (by decide) ?_
      refine o_callSi (rest := [.int v7]) ⟨hx, hb, hml, hown, hts⟩ ho (c_Jm_floorMod l D (mT c) (wM q c mThr mTn mCk mRw mSt mTr mFM mFS mTpN mLw mAt mTwN mBE mBEn mSun mCkT mCkD mCkK mCkA mRow mStT mRun mUp mSta mSty mDly mTri mFnd mTap mLwT mLwD mLwO mLwM mTwT mSetA mDri mOrd mBst) (v5 + r85) 1440 _ hp) (va_cwS 2 hts gX11_late_J9_floorMod_7cf53 rfl rfl rfl (by decide +kernel) ⟨(Nat.le_of_ble_eq_true rfl), (Nat.le_of_ble_eq_true rfl)⟩) rfl hl.1 rfl (Nat.le_of_ble_eq_true rfl) dX11_late_92 ⟨Nat.zero_le _, Nat.zero_le _⟩ (fun r92 u H locs hp ho => ?_)
      try dsimp only at hp
      replace ho : oW D (mT c) A s.heap s (wM q c mThr mTn mCk mRw mSt mTr mFM mFS mTpN mLw mAt mTwN mBE mBEn mSun mCkT mCkD mCkK mCkA mRow mStT mRun mUp mSta mSty mDly mTri mFnd mTap mLwT mLwD mLwO mLwM mTwT mSetA mDri mOrd mBst) H locs := ho
      refine lv_iload hx hb dX11_late_95 (lv_at hl 5 rfl) ?_
      refine lv_icmp_le (tgt := 104) hx hb dX11_late_97 (by decide) (fun c_97 => ?_) (fun c_97 => ?_)
      · replace hp := hp.1 c_97
        refine lv_iconst (v := 0) hx hb dX11_late_104 (by decide) ?_
        refine lv_iadd hx hb dX11_late_105 ?_
        refine lv_topi (fun x106 e_x106 => ?_)
        replace hp := hp x106 e_x106
        refine lv_istore (lv' := [(7, .int x106), (0, .ref (q 0)), (1, .int v1), (2, .int v2), (4, .int v4), (5, .int v5), (6, .int v6), (8, .int v8)]) hx hb dX11_late_106 hl (by decide) rfl (fun ls hl => ?_)
        obtain ⟨x108, e_x108⟩ : ∃ y : Int32, y = v8 + 1 := ⟨_, rfl⟩
        replace hp := hp x108 e_x108
        refine lv_iinc (v := x108) (lv' := [(8, .int x108), (7, .int x106), (0, .ref (q 0)), (1, .int v1), (2, .int v2), (4, .int v4), (5, .int v5), (6, .int v6)]) hx hb dX11_late_108 hl (k := 7) rfl (by rw [e_x108]; rfl) (by decide) rfl (fun ls hl => ?_)
        refine lv_goto (tgt := 69) hx hb dX11_late_111 (by decide) ?_
        exact hrec x106 x108 hp _ _ _ ho (lv_sub hl [2, 3, 4, 5, 6, 7, 1, 0] rfl)
      · replace hp := hp.2 c_97
        refine lv_iconst (v := 1) hx hb dX11_late_100 (by decide) ?_
        refine lv_goto (tgt := 105) hx hb dX11_late_101 (by decide) ?_
        refine lv_iadd hx hb dX11_late_105 ?_
        refine lv_topi (fun x106 e_x106 => ?_)
        replace hp := hp x106 e_x106
        refine lv_istore (lv' := [(7, .int x106), (0, .ref (q 0)), (1, .int v1), (2, .int v2), (4, .int v4), (5, .int v5), (6, .int v6), (8, .int v8)]) hx hb dX11_late_106 hl (by decide) rfl (fun ls hl => ?_)
        obtain ⟨x108, e_x108⟩ : ∃ y : Int32, y = v8 + 1 := ⟨_, rfl⟩
        replace hp := hp x108 e_x108
        refine lv_iinc (v := x108) (lv' := [(8, .int x108), (7, .int x106), (0, .ref (q 0)), (1, .int v1), (2, .int v2), (4, .int v4), (5, .int v5), (6, .int v6)]) hx hb dX11_late_108 hl (k := 7) rfl (by rw [e_x108]; rfl) (by decide) rfl (fun ls hl => ?_)
        refine lv_goto (tgt := 69) hx hb dX11_late_111 (by decide) ?_
        exact hrec x106 x108 hp _ _ _ ho (lv_sub hl [2, 3, 4, 5, 6, 7, 1, 0] rfl)
  refine lv_aload_n hx hb dX11_late_0 rfl (lv_at hl 0 rfl) ?_
  refine lv_iconst (v := 0) hx hb dX11_late_1 (by decide) ?_
  refine o_put (ci := 11) (T := TX11) hx hb hts hinX11 tyX11_ok nmX11 hown ho 0 rfl rfl 0 (by decide) hf83 rfl (tyX11_ok 0 (by decide)) (Nat.le_of_ble_eq_true rfl) dX11_late_2 (fun H locs ho => ?_)
  replace ho : oW D (mT c) A s.heap s (wM q c 0 mTn mCk mRw mSt mTr mFM mFS mTpN mLw mAt mTwN mBE mBEn mSun mCkT mCkD mCkK mCkA mRow mStT mRun mUp mSta mSty mDly mTri mFnd mTap mLwT mLwD mLwO mLwM mTwT mSetA mDri mOrd mBst) H locs := ho
  refine lv_aload_n hx hb dX11_late_5 rfl (lv_at hl 0 rfl) ?_
  refine lv_iload_n hx hb dX11_late_6 rfl (lv_at hl 1 rfl) ?_
  refine lv_iload_n hx hb dX11_late_7 rfl (lv_at hl 2 rfl) ?_
  refine o_callVi (rest := []) (ci := 11) ⟨hx, hb, hml, hown, hts⟩ ho (c_M_isMatter l D q c 0 mTn mCk mRw mSt mTr mFM mFS mTpN mLw mAt mTwN mBE mBEn mSun mCkT mCkD mCkK mCkA mRow mStT mRun mUp mSta mSty mDly mTri mFnd mTap mLwT mLwD mLwO mLwM mTwT mSetA mDri mOrd mBst v1 v2 _ hp) (cwV 2 hts gX11_late_X11_isMatter rfl rfl rfl (by decide +kernel) ⟨(Nat.le_of_ble_eq_true rfl), (Nat.le_of_ble_eq_true rfl)⟩) 0 rfl rfl rfl hl.1 rfl (Nat.le_of_ble_eq_true rfl) dX11_late_8 ⟨Nat.zero_le _, Nat.zero_le _⟩ (fun r8 u H locs hp ho => ?_)
  try dsimp only at hp
  replace ho : oW D (mT c) A s.heap s (wM q c 0 mTn mCk mRw mSt mTr mFM mFS mTpN mLw mAt mTwN mBE mBEn mSun mCkT mCkD mCkK mCkA mRow mStT mRun mUp mSta mSty mDly mTri mFnd mTap mLwT mLwD mLwO mLwM mTwT mSetA mDri mOrd mBst) H locs := ho
  refine lv_if_eq (tgt := 61) hx hb dX11_late_11 (by decide) (fun c_11 => ?_) (fun c_11 => ?_)
  · replace hp := hp.1 c_11
    refine lv_iconst (v := (-1)) hx hb dX11_late_61 (by decide) ?_
    exact hret (-1) 0 _ _ _ _ dX11_late_62 ho hp
  · replace hp := hp.2 c_11
    refine lv_iload_n hx hb dX11_late_14 rfl (lv_at hl 3 rfl) ?_
    refine o_callSi (rest := []) ⟨hx, hb, hml, hown, hts⟩ ho (c_M_isDay l D (mT c) (wM q c 0 mTn mCk mRw mSt mTr mFM mFS mTpN mLw mAt mTwN mBE mBEn mSun mCkT mCkD mCkK mCkA mRow mStT mRun mUp mSta mSty mDly mTri mFnd mTap mLwT mLwD mLwO mLwM mTwT mSetA mDri mOrd mBst) v3 _ hp) (va_cwS 1 hts gX11_late_X11_isDay rfl rfl rfl (by decide +kernel) ⟨(Nat.le_of_ble_eq_true rfl), (Nat.le_of_ble_eq_true rfl)⟩) rfl hl.1 rfl (Nat.le_of_ble_eq_true rfl) dX11_late_15 ⟨Nat.zero_le _, Nat.zero_le _⟩ (fun r15 u H locs hp ho => ?_)
    try dsimp only at hp
    replace ho : oW D (mT c) A s.heap s (wM q c 0 mTn mCk mRw mSt mTr mFM mFS mTpN mLw mAt mTwN mBE mBEn mSun mCkT mCkD mCkK mCkA mRow mStT mRun mUp mSta mSty mDly mTri mFnd mTap mLwT mLwD mLwO mLwM mTwT mSetA mDri mOrd mBst) H locs := ho
    refine lv_if_eq (tgt := 61) hx hb dX11_late_18 (by decide) (fun c_18 => ?_) (fun c_18 => ?_)
    · replace hp := hp.1 c_18
      refine lv_iconst (v := (-1)) hx hb dX11_late_61 (by decide) ?_
      exact hret (-1) 0 _ _ _ _ dX11_late_62 ho hp
    · replace hp := hp.2 c_18
      refine lv_iload hx hb dX11_late_21 (lv_at hl 4 rfl) ?_
      refine o_callSi (rest := []) ⟨hx, hb, hml, hown, hts⟩ ho (c_M_isDay l D (mT c) (wM q c 0 mTn mCk mRw mSt mTr mFM mFS mTpN mLw mAt mTwN mBE mBEn mSun mCkT mCkD mCkK mCkA mRow mStT mRun mUp mSta mSty mDly mTri mFnd mTap mLwT mLwD mLwO mLwM mTwT mSetA mDri mOrd mBst) v4 _ hp) (va_cwS 1 hts gX11_late_X11_isDay rfl rfl rfl (by decide +kernel) ⟨(Nat.le_of_ble_eq_true rfl), (Nat.le_of_ble_eq_true rfl)⟩) rfl hl.1 rfl (Nat.le_of_ble_eq_true rfl) dX11_late_23 ⟨Nat.zero_le _, Nat.zero_le _⟩ (fun r23 u H locs hp ho => ?_)
      try dsimp only at hp
      replace ho : oW D (mT c) A s.heap s (wM q c 0 mTn mCk mRw mSt mTr mFM mFS mTpN mLw mAt mTwN mBE mBEn mSun mCkT mCkD mCkK mCkA mRow mStT mRun mUp mSta mSty mDly mTri mFnd mTap mLwT mLwD mLwO mLwM mTwT mSetA mDri mOrd mBst) H locs := ho
      refine lv_if_eq (tgt := 61) hx hb dX11_late_26 (by decide) (fun c_26 => ?_) (fun c_26 => ?_)
      · replace hp := hp.1 c_26
        refine lv_iconst (v := (-1)) hx hb dX11_late_61 (by decide) ?_
        exact hret (-1) 0 _ _ _ _ dX11_late_62 ho hp
      · replace hp := hp.2 c_26
        refine lv_iload_n hx hb dX11_late_29 rfl (lv_at hl 3 rfl) ?_
        refine lv_iload hx hb dX11_late_30 (lv_at hl 4 rfl) ?_
        refine lv_icmp_gt (tgt := 61) hx hb dX11_late_32 (by decide) (fun c_32 => ?_) (fun c_32 => ?_)
        · replace hp := hp.1 c_32
          refine lv_iconst (v := (-1)) hx hb dX11_late_61 (by decide) ?_
          exact hret (-1) 0 _ _ _ _ dX11_late_62 ho hp
        · replace hp := hp.2 c_32
          refine lv_iload hx hb dX11_late_35 (lv_at hl 5 rfl) ?_
          refine lv_i2l (v := ((v5 : Int32).toInt64)) hx hb dX11_late_37 rfl ?_
          refine lv_lconst (v := 0) hx hb dX11_late_38 (by decide) ?_
          refine lv_ldc2 (v := 1439) hx hb hown hk155 dX11_late_39 ?_
          refine o_callSi (rest := []) ⟨hx, hb, hml, hown, hts⟩ ho (c_M_in l D (mT c) (wM q c 0 mTn mCk mRw mSt mTr mFM mFS mTpN mLw mAt mTwN mBE mBEn mSun mCkT mCkD mCkK mCkA mRow mStT mRun mUp mSta mSty mDly mTri mFnd mTap mLwT mLwD mLwO mLwM mTwT mSetA mDri mOrd mBst) ((v5 : Int32).toInt64) 0 1439 _ hp) (va_cwS 3 hts gX11_late_X11_in rfl rfl rfl (by decide +kernel) ⟨(Nat.le_of_ble_eq_true rfl), (Nat.le_of_ble_eq_true rfl)⟩) rfl hl.1 rfl (Nat.le_of_ble_eq_true rfl) dX11_late_42 ⟨Nat.zero_le _, Nat.zero_le _⟩ (fun r42 u H locs hp ho => ?_)
          try dsimp only at hp
          replace ho : oW D (mT c) A s.heap s (wM q c 0 mTn mCk mRw mSt mTr mFM mFS mTpN mLw mAt mTwN mBE mBEn mSun mCkT mCkD mCkK mCkA mRow mStT mRun mUp mSta mSty mDly mTri mFnd mTap mLwT mLwD mLwO mLwM mTwT mSetA mDri mOrd mBst) H locs := ho
          refine lv_if_eq (tgt := 61) hx hb dX11_late_45 (by decide) (fun c_45 => ?_) (fun c_45 => ?_)
          · replace hp := hp.1 c_45
            refine lv_iconst (v := (-1)) hx hb dX11_late_61 (by decide) ?_
            exact hret (-1) 0 _ _ _ _ dX11_late_62 ho hp
          · replace hp := hp.2 c_45
            refine lv_iload hx hb dX11_late_48 (lv_at hl 6 rfl) ?_
            refine lv_i2l (v := ((v6 : Int32).toInt64)) hx hb dX11_late_50 rfl ?_
            refine lv_lconst (v := 0) hx hb dX11_late_51 (by decide) ?_
            refine lv_ldc2 (v := 1439) hx hb hown hk155 dX11_late_52 ?_
            refine o_callSi (rest := []) ⟨hx, hb, hml, hown, hts⟩ ho (c_M_in l D (mT c) (wM q c 0 mTn mCk mRw mSt mTr mFM mFS mTpN mLw mAt mTwN mBE mBEn mSun mCkT mCkD mCkK mCkA mRow mStT mRun mUp mSta mSty mDly mTri mFnd mTap mLwT mLwD mLwO mLwM mTwT mSetA mDri mOrd mBst) ((v6 : Int32).toInt64) 0 1439 _ hp) (va_cwS 3 hts gX11_late_X11_in rfl rfl rfl (by decide +kernel) ⟨(Nat.le_of_ble_eq_true rfl), (Nat.le_of_ble_eq_true rfl)⟩) rfl hl.1 rfl (Nat.le_of_ble_eq_true rfl) dX11_late_55 ⟨Nat.zero_le _, Nat.zero_le _⟩ (fun r55 u H locs hp ho => ?_)
            try dsimp only at hp
            replace ho : oW D (mT c) A s.heap s (wM q c 0 mTn mCk mRw mSt mTr mFM mFS mTpN mLw mAt mTwN mBE mBEn mSun mCkT mCkD mCkK mCkA mRow mStT mRun mUp mSta mSty mDly mTri mFnd mTap mLwT mLwD mLwO mLwM mTwT mSetA mDri mOrd mBst) H locs := ho
            refine lv_if_ne (tgt := 63) hx hb dX11_late_58 (by decide) (fun c_58 => ?_) (fun c_58 => ?_)
            · replace hp := hp.2 c_58
              refine lv_iconst (v := 0) hx hb dX11_late_63 (by decide) ?_
              refine lv_istore (lv' := [(7, .int 0), (0, .ref (q 0)), (1, .int v1), (2, .int v2), (3, .int v3), (4, .int v4), (5, .int v5), (6, .int v6)]) hx hb dX11_late_64 hl (by decide) rfl (fun ls hl => ?_)
              refine lv_iload_n hx hb dX11_late_66 rfl (lv_at hl 4 rfl) ?_
              refine lv_istore (lv' := [(8, .int v3), (7, .int 0), (0, .ref (q 0)), (1, .int v1), (2, .int v2), (3, .int v3), (4, .int v4), (5, .int v5), (6, .int v6)]) hx hb dX11_late_67 hl (by decide) rfl (fun ls hl => ?_)
              exact hL69 v1 v2 v4 v5 v6 0 0 v3 hp _ _ _ ho (lv_sub hl [2, 3, 4, 6, 7, 8, 1, 0] rfl)
            · replace hp := hp.1 c_58
              refine lv_iconst (v := (-1)) hx hb dX11_late_61 (by decide) ?_
              exact hret (-1) 0 _ _ _ _ dX11_late_62 ho hp
set_option maxHeartbeats 4000000 in
set_option maxRecDepth 100000 in
theorem c_M_tower (l : Launch) (D : va_G) (q : Nat → Nat) (c : Nat → ClassId) (mThr : Int32) (mTn : Int32) (mCk : Int32) (mRw : Int32) (mSt : Int32) (mTr : Int32) (mFM : Int32) (mFS : Int32) (mTpN : Int32) (mLw : Int32) (mAt : Int32) (mTwN : Int32) (mBE : Int32) (mBEn : Int32) (mSun : Nat → Int32) (mCkT : Nat → Int32) (mCkD : Nat → Int32) (mCkK : Nat → Int32) (mCkA : Nat → Int32) (mRow : Nat → Int32) (mStT : Nat → Int32) (mRun : Nat → Int32) (mUp : Nat → Int32) (mSta : Nat → Int32) (mSty : Nat → Int32) (mDly : Nat → Int32) (mTri : Nat → Int32) (mFnd : Nat → Int32) (mTap : Nat → Int32) (mLwT : Nat → Int32) (mLwD : Nat → Int32) (mLwO : Nat → Int32) (mLwM : Nat → Int32) (mTwT : Nat → Int32) (mSetA : Nat → Int32) (mDri : Nat → Int32) (mOrd : Nat → Int32) (mBst : Nat → Int32) (v1 : Int32) (v2 : Int32) (v3 : Int32) (Q : Int32 → Int32 → Int32 → (Nat → Int32) → (Nat → Int32) → (Nat → Int32) → Prop) (hp : p_M_tower mTn mThr mTwN mTwT mSetA mDri v1 v2 v3 Q) : oKi l yX11_tower wsX11_tower { frames := 2, cells := 0, slots := 0, locals := 46 } [.ref (q 0), .int v1, .int v2, .int v3] D (mT c) (wM q c mThr mTn mCk mRw mSt mTr mFM mFS mTpN mLw mAt mTwN mBE mBEn mSun mCkT mCkD mCkK mCkA mRow mStT mRun mUp mSta mSty mDly mTri mFnd mTap mLwT mLwD mLwO mLwM mTwT mSetA mDri mOrd mBst) (Int32 × Int32 × (Nat → Int32) × (Nat → Int32) × (Nat → Int32)) (fun r (u : Int32 × Int32 × (Nat → Int32) × (Nat → Int32) × (Nat → Int32)) => Q r u.1 u.2.1 u.2.2.1 u.2.2.2.1 u.2.2.2.2) (fun u => wM q c u.1 mTn mCk mRw mSt mTr mFM mFS mTpN mLw mAt u.2.1 mBE mBEn mSun mCkT mCkD mCkK mCkA mRow mStT mRun mUp mSta mSty mDly mTri mFnd mTap mLwT mLwD mLwO mLwM u.2.2.1 u.2.2.2.1 u.2.2.2.2 mOrd mBst) := by
  refine oKi.ofW (own := RX11) (cc := cX11_tower) (maxL := 4) (plainFor_of_name (by decide +kernel)) rfl rfl (Nat.le_of_ble_eq_true rfl) (fun p e s m args below meth cd A ls Z hx hb hml hown hts hret ho hl => ?_)
  replace hl : lv_has ls 4 [(0, .ref (q 0)), (1, .int v1), (2, .int v2), (3, .int v3)] := hl
  have hinX11 : ∀ w ∈ u_ws RX11 TX11 38, w ∈ wsX11_tower := by decide +kernel
  have hf68 := hts (.fieldLink RX11 68 "OneTimeModel" "towerTown" "[I") (by decide +kernel)
  have hf71 := hts (.fieldLink RX11 71 "OneTimeModel" "setAt" "[I") (by decide +kernel)
  have hf74 := hts (.fieldLink RX11 74 "OneTimeModel" "drift" "[I") (by decide +kernel)
  have hf83 := hts (.fieldLink RX11 83 "OneTimeModel" "thrown" "I") (by decide +kernel)
  have hf127 := hts (.fieldLink RX11 127 "OneTimeModel" "towers" "I") (by decide +kernel)
  have hk153 := hts (.constantLong RX11 153 600) (by decide +kernel)
  have hk240 := hts (.constantLong RX11 240 (-600)) (by decide +kernel)
  unfold p_M_tower at hp
  refine lv_aload_n hx hb dX11_tower_0 rfl (lv_at hl 0 rfl) ?_
  refine lv_iconst (v := 0) hx hb dX11_tower_1 (by decide) ?_
  refine o_put (ci := 11) (T := TX11) hx hb hts hinX11 tyX11_ok nmX11 hown ho 0 rfl rfl 0 (by decide) hf83 rfl (tyX11_ok 0 (by decide)) (Nat.le_of_ble_eq_true rfl) dX11_tower_2 (fun H locs ho => ?_)
  replace ho : oW D (mT c) A s.heap s (wM q c 0 mTn mCk mRw mSt mTr mFM mFS mTpN mLw mAt mTwN mBE mBEn mSun mCkT mCkD mCkK mCkA mRow mStT mRun mUp mSta mSty mDly mTri mFnd mTap mLwT mLwD mLwO mLwM mTwT mSetA mDri mOrd mBst) H locs := ho
  refine lv_aload_n hx hb dX11_tower_5 rfl (lv_at hl 0 rfl) ?_
  refine lv_iload_n hx hb dX11_tower_6 rfl (lv_at hl 1 rfl) ?_
  refine o_callVi (rest := []) (ci := 11) ⟨hx, hb, hml, hown, hts⟩ ho (c_M_isTown l D q c 0 mTn mCk mRw mSt mTr mFM mFS mTpN mLw mAt mTwN mBE mBEn mSun mCkT mCkD mCkK mCkA mRow mStT mRun mUp mSta mSty mDly mTri mFnd mTap mLwT mLwD mLwO mLwM mTwT mSetA mDri mOrd mBst v1 _ hp) (cwV 1 hts gX11_tower_X11_isTown rfl rfl rfl (by decide +kernel) ⟨(Nat.le_of_ble_eq_true rfl), (Nat.le_of_ble_eq_true rfl)⟩) 0 rfl rfl rfl hl.1 rfl (Nat.le_of_ble_eq_true rfl) dX11_tower_7 ⟨Nat.zero_le _, Nat.zero_le _⟩ (fun r7 u H locs hp ho => ?_)
  try dsimp only at hp
  replace ho : oW D (mT c) A s.heap s (wM q c 0 mTn mCk mRw mSt mTr mFM mFS mTpN mLw mAt mTwN mBE mBEn mSun mCkT mCkD mCkK mCkA mRow mStT mRun mUp mSta mSty mDly mTri mFnd mTap mLwT mLwD mLwO mLwM mTwT mSetA mDri mOrd mBst) H locs := ho
  refine lv_if_eq (tgt := 43) hx hb dX11_tower_10 (by decide) (fun c_10 => ?_) (fun c_10 => ?_)
  · replace hp := hp.1 c_10
    refine lv_iconst (v := (-1)) hx hb dX11_tower_43 (by decide) ?_
    exact hret (-1) (0, mTwN, mTwT, mSetA, mDri) _ _ _ _ dX11_tower_44 ho hp
  · replace hp := hp.2 c_10
    refine lv_iload_n hx hb dX11_tower_13 rfl (lv_at hl 2 rfl) ?_
    refine o_callSi (rest := []) ⟨hx, hb, hml, hown, hts⟩ ho (c_M_isMinute l D (mT c) (wM q c 0 mTn mCk mRw mSt mTr mFM mFS mTpN mLw mAt mTwN mBE mBEn mSun mCkT mCkD mCkK mCkA mRow mStT mRun mUp mSta mSty mDly mTri mFnd mTap mLwT mLwD mLwO mLwM mTwT mSetA mDri mOrd mBst) v2 _ hp) (va_cwS 1 hts gX11_tower_X11_isMinute rfl rfl rfl (by decide +kernel) ⟨(Nat.le_of_ble_eq_true rfl), (Nat.le_of_ble_eq_true rfl)⟩) rfl hl.1 rfl (Nat.le_of_ble_eq_true rfl) dX11_tower_14 ⟨Nat.zero_le _, Nat.zero_le _⟩ (fun r14 u H locs hp ho => ?_)
    try dsimp only at hp
    replace ho : oW D (mT c) A s.heap s (wM q c 0 mTn mCk mRw mSt mTr mFM mFS mTpN mLw mAt mTwN mBE mBEn mSun mCkT mCkD mCkK mCkA mRow mStT mRun mUp mSta mSty mDly mTri mFnd mTap mLwT mLwD mLwO mLwM mTwT mSetA mDri mOrd mBst) H locs := ho
    refine lv_if_eq (tgt := 43) hx hb dX11_tower_17 (by decide) (fun c_17 => ?_) (fun c_17 => ?_)
    · replace hp := hp.1 c_17
      refine lv_iconst (v := (-1)) hx hb dX11_tower_43 (by decide) ?_
      exact hret (-1) (0, mTwN, mTwT, mSetA, mDri) _ _ _ _ dX11_tower_44 ho hp
    · replace hp := hp.2 c_17
      refine lv_iload_n hx hb dX11_tower_20 rfl (lv_at hl 3 rfl) ?_
      refine lv_i2l (v := ((v3 : Int32).toInt64)) hx hb dX11_tower_21 rfl ?_
      refine lv_ldc2 (v := (-600)) hx hb hown hk240 dX11_tower_22 ?_
      refine lv_ldc2 (v := 600) hx hb hown hk153 dX11_tower_25 ?_
      refine o_callSi (rest := []) ⟨hx, hb, hml, hown, hts⟩ ho (c_M_in l D (mT c) (wM q c 0 mTn mCk mRw mSt mTr mFM mFS mTpN mLw mAt mTwN mBE mBEn mSun mCkT mCkD mCkK mCkA mRow mStT mRun mUp mSta mSty mDly mTri mFnd mTap mLwT mLwD mLwO mLwM mTwT mSetA mDri mOrd mBst) ((v3 : Int32).toInt64) (-600) 600 _ hp) (va_cwS 3 hts gX11_tower_X11_in rfl rfl rfl (by decide +kernel) ⟨(Nat.le_of_ble_eq_true rfl), (Nat.le_of_ble_eq_true rfl)⟩) rfl hl.1 rfl (Nat.le_of_ble_eq_true rfl) dX11_tower_28 ⟨Nat.zero_le _, Nat.zero_le _⟩ (fun r28 u H locs hp ho => ?_)
      try dsimp only at hp
      replace ho : oW D (mT c) A s.heap s (wM q c 0 mTn mCk mRw mSt mTr mFM mFS mTpN mLw mAt mTwN mBE mBEn mSun mCkT mCkD mCkK mCkA mRow mStT mRun mUp mSta mSty mDly mTri mFnd mTap mLwT mLwD mLwO mLwM mTwT mSetA mDri mOrd mBst) H locs := ho
      refine lv_if_eq (tgt := 43) hx hb dX11_tower_31 (by decide) (fun c_31 => ?_) (fun c_31 => ?_)
      · replace hp := hp.1 c_31
        refine lv_iconst (v := (-1)) hx hb dX11_tower_43 (by decide) ?_
        exact hret (-1) (0, mTwN, mTwT, mSetA, mDri) _ _ _ _ dX11_tower_44 ho hp
      · replace hp := hp.2 c_31
        refine lv_aload_n hx hb dX11_tower_34 rfl (lv_at hl 0 rfl) ?_
        refine o_get (ci := 11) (T := TX11) hx hb hts hinX11 hown ho 0 rfl rfl 30 (by decide) hf127 rfl dX11_tower_35 ?_
        refine lv_bipush (v := 7) hx hb dX11_tower_38 (by decide) ?_
        refine lv_icmp_ne (tgt := 45) hx hb dX11_tower_40 (by decide) (fun c_40 => ?_) (fun c_40 => ?_)
        · replace hp := hp.2 c_40
          refine lv_aload_n hx hb dX11_tower_45 rfl (lv_at hl 0 rfl) ?_
          refine o_get (ci := 11) (T := TX11) hx hb hts hinX11 hown ho 0 rfl rfl 31 (by decide) hf68 rfl dX11_tower_46 ?_
          refine lv_aload_n hx hb dX11_tower_49 rfl (lv_at hl 0 rfl) ?_
          refine o_get (ci := 11) (T := TX11) hx hb hts hinX11 hown ho 0 rfl rfl 30 (by decide) hf127 rfl dX11_tower_50 ?_
          refine lv_iload_n hx hb dX11_tower_53 rfl (lv_at hl 1 rfl) ?_
          refine o_ist hx hb ho 20 19 rfl rfl hp.1 dX11_tower_54 (fun H locs ho => ?_)
          replace hp := hp.2
          replace ho : oW D (mT c) A s.heap s (wM q c 0 mTn mCk mRw mSt mTr mFM mFS mTpN mLw mAt mTwN mBE mBEn mSun mCkT mCkD mCkK mCkA mRow mStT mRun mUp mSta mSty mDly mTri mFnd mTap mLwT mLwD mLwO mLwM (upd mTwT mTwN.toNatClampNeg v1) mSetA mDri mOrd mBst) H locs := ho
          refine lv_aload_n hx hb dX11_tower_55 rfl (lv_at hl 0 rfl) ?_
          refine o_get (ci := 11) (T := TX11) hx hb hts hinX11 hown ho 0 rfl rfl 32 (by decide) hf71 rfl dX11_tower_56 ?_
          refine lv_aload_n hx hb dX11_tower_59 rfl (lv_at hl 0 rfl) ?_
          refine o_get (ci := 11) (T := TX11) hx hb hts hinX11 hown ho 0 rfl rfl 30 (by decide) hf127 rfl dX11_tower_60 ?_
          refine lv_iload_n hx hb dX11_tower_63 rfl (lv_at hl 2 rfl) ?_
          refine o_ist hx hb ho 21 20 rfl rfl hp.1 dX11_tower_64 (fun H locs ho => ?_)
          replace hp := hp.2
          replace ho : oW D (mT c) A s.heap s (wM q c 0 mTn mCk mRw mSt mTr mFM mFS mTpN mLw mAt mTwN mBE mBEn mSun mCkT mCkD mCkK mCkA mRow mStT mRun mUp mSta mSty mDly mTri mFnd mTap mLwT mLwD mLwO mLwM (upd mTwT mTwN.toNatClampNeg v1) (upd mSetA mTwN.toNatClampNeg v2) mDri mOrd mBst) H locs := ho
          refine lv_aload_n hx hb dX11_tower_65 rfl (lv_at hl 0 rfl) ?_
          refine o_get (ci := 11) (T := TX11) hx hb hts hinX11 hown ho 0 rfl rfl 33 (by decide) hf74 rfl dX11_tower_66 ?_
          refine lv_aload_n hx hb dX11_tower_69 rfl (lv_at hl 0 rfl) ?_
          refine o_get (ci := 11) (T := TX11) hx hb hts hinX11 hown ho 0 rfl rfl 30 (by decide) hf127 rfl dX11_tower_70 ?_
          refine lv_iload_n hx hb dX11_tower_73 rfl (lv_at hl 3 rfl) ?_
          refine o_ist hx hb ho 22 21 rfl rfl hp.1 dX11_tower_74 (fun H locs ho => ?_)
          replace hp := hp.2
          replace ho : oW D (mT c) A s.heap s (wM q c 0 mTn mCk mRw mSt mTr mFM mFS mTpN mLw mAt mTwN mBE mBEn mSun mCkT mCkD mCkK mCkA mRow mStT mRun mUp mSta mSty mDly mTri mFnd mTap mLwT mLwD mLwO mLwM (upd mTwT mTwN.toNatClampNeg v1) (upd mSetA mTwN.toNatClampNeg v2) (upd mDri mTwN.toNatClampNeg v3) mOrd mBst) H locs := ho
          refine lv_aload_n hx hb dX11_tower_75 rfl (lv_at hl 0 rfl) ?_
          refine lv_dup hx hb dX11_tower_76 rfl ?_
          refine o_get (ci := 11) (T := TX11) hx hb hts hinX11 hown ho 0 rfl rfl 30 (by decide) hf127 rfl dX11_tower_77 ?_
          refine lv_iconst (v := 1) hx hb dX11_tower_80 (by decide) ?_
          refine lv_iadd hx hb dX11_tower_81 ?_
          refine lv_topi (fun x82 e_x82 => ?_)
          replace hp := hp x82 e_x82
          refine o_put (ci := 11) (T := TX11) hx hb hts hinX11 tyX11_ok nmX11 hown ho 0 rfl rfl 30 (by decide) hf127 rfl (tyX11_ok 30 (by decide)) (Nat.le_of_ble_eq_true rfl) dX11_tower_82 (fun H locs ho => ?_)
          replace ho : oW D (mT c) A s.heap s (wM q c 0 mTn mCk mRw mSt mTr mFM mFS mTpN mLw mAt x82 mBE mBEn mSun mCkT mCkD mCkK mCkA mRow mStT mRun mUp mSta mSty mDly mTri mFnd mTap mLwT mLwD mLwO mLwM (upd mTwT mTwN.toNatClampNeg v1) (upd mSetA mTwN.toNatClampNeg v2) (upd mDri mTwN.toNatClampNeg v3) mOrd mBst) H locs := ho
          refine lv_aload_n hx hb dX11_tower_85 rfl (lv_at hl 0 rfl) ?_
          refine o_get (ci := 11) (T := TX11) hx hb hts hinX11 hown ho 0 rfl rfl 30 (by decide) hf127 rfl dX11_tower_86 ?_
          refine lv_iconst (v := 1) hx hb dX11_tower_89 (by decide) ?_
          refine lv_isub hx hb dX11_tower_90 ?_
          exact hret (x82 - 1) (0, x82, upd mTwT mTwN.toNatClampNeg v1, upd mSetA mTwN.toNatClampNeg v2, upd mDri mTwN.toNatClampNeg v3) _ _ _ _ dX11_tower_91 ho hp
        · replace hp := hp.1 c_40
          refine lv_iconst (v := (-1)) hx hb dX11_tower_43 (by decide) ?_
          exact hret (-1) (0, mTwN, mTwT, mSetA, mDri) _ _ _ _ dX11_tower_44 ho hp
set_option maxHeartbeats 4000000 in
set_option maxRecDepth 100000 in
theorem c_M_errorOf (l : Launch) (D : va_G) (q : Nat → Nat) (c : Nat → ClassId) (mThr : Int32) (mTn : Int32) (mCk : Int32) (mRw : Int32) (mSt : Int32) (mTr : Int32) (mFM : Int32) (mFS : Int32) (mTpN : Int32) (mLw : Int32) (mAt : Int32) (mTwN : Int32) (mBE : Int32) (mBEn : Int32) (mSun : Nat → Int32) (mCkT : Nat → Int32) (mCkD : Nat → Int32) (mCkK : Nat → Int32) (mCkA : Nat → Int32) (mRow : Nat → Int32) (mStT : Nat → Int32) (mRun : Nat → Int32) (mUp : Nat → Int32) (mSta : Nat → Int32) (mSty : Nat → Int32) (mDly : Nat → Int32) (mTri : Nat → Int32) (mFnd : Nat → Int32) (mTap : Nat → Int32) (mLwT : Nat → Int32) (mLwD : Nat → Int32) (mLwO : Nat → Int32) (mLwM : Nat → Int32) (mTwT : Nat → Int32) (mSetA : Nat → Int32) (mDri : Nat → Int32) (mOrd : Nat → Int32) (mBst : Nat → Int32) (v1 : Int32) (v2 : Int32) (Q : Int32 → Prop) (hp : p_M_errorOf mSetA mDri v1 v2 Q) : oKi l yX11_errorOf wsX11_errorOf { frames := 0, cells := 0, slots := 0, locals := 0 } [.ref (q 0), .int v1, .int v2] D (mT c) (wM q c mThr mTn mCk mRw mSt mTr mFM mFS mTpN mLw mAt mTwN mBE mBEn mSun mCkT mCkD mCkK mCkA mRow mStT mRun mUp mSta mSty mDly mTri mFnd mTap mLwT mLwD mLwO mLwM mTwT mSetA mDri mOrd mBst) (Unit) (fun r (_ : Unit) => Q r) (fun _ => wM q c mThr mTn mCk mRw mSt mTr mFM mFS mTpN mLw mAt mTwN mBE mBEn mSun mCkT mCkD mCkK mCkA mRow mStT mRun mUp mSta mSty mDly mTri mFnd mTap mLwT mLwD mLwO mLwM mTwT mSetA mDri mOrd mBst) := by
  refine oKi.ofW (own := RX11) (cc := cX11_errorOf) (maxL := 3) (plainFor_of_name (by decide +kernel)) rfl rfl (Nat.le_of_ble_eq_true rfl) (fun p e s m args below meth cd A ls Z hx hb hml hown hts hret ho hl => ?_)
  replace hl : lv_has ls 3 [(0, .ref (q 0)), (1, .int v1), (2, .int v2)] := hl
  have hinX11 : ∀ w ∈ u_ws RX11 TX11 38, w ∈ wsX11_errorOf := by decide +kernel
  have hf71 := hts (.fieldLink RX11 71 "OneTimeModel" "setAt" "[I") (by decide +kernel)
  have hf74 := hts (.fieldLink RX11 74 "OneTimeModel" "drift" "[I") (by decide +kernel)
  have hk147 := hts (.constantLong RX11 147 1440) (by decide +kernel)
  unfold p_M_errorOf at hp
  refine lv_aload_n hx hb dX11_errorOf_0 rfl (lv_at hl 0 rfl) ?_
  refine o_get (ci := 11) (T := TX11) hx hb hts hinX11 hown ho 0 rfl rfl 33 (by decide) hf74 rfl dX11_errorOf_1 ?_
  refine lv_iload_n hx hb dX11_errorOf_4 rfl (lv_at hl 1 rfl) ?_
  refine o_ild hx hb ho 22 21 rfl rfl hp.1 dX11_errorOf_5 ?_
  replace hp := hp.2
  refine lv_i2l (v := ((mDri v1.toNatClampNeg : Int32).toInt64)) hx hb dX11_errorOf_6 rfl ?_
  refine lv_iload_n hx hb dX11_errorOf_7 rfl (lv_at hl 2 rfl) ?_
  refine lv_aload_n hx hb dX11_errorOf_8 rfl (lv_at hl 0 rfl) ?_
  refine o_get (ci := 11) (T := TX11) hx hb hts hinX11 hown ho 0 rfl rfl 32 (by decide) hf71 rfl dX11_errorOf_9 ?_
  refine lv_iload_n hx hb dX11_errorOf_12 rfl (lv_at hl 1 rfl) ?_
  refine o_ild hx hb ho 21 20 rfl rfl hp.1 dX11_errorOf_13 ?_
  replace hp := hp.2
  refine lv_isub hx hb dX11_errorOf_14 ?_
  refine lv_i2l (v := ((v2 - (mSetA v1.toNatClampNeg) : Int32).toInt64)) hx hb dX11_errorOf_15 rfl ?_
  refine lv_lmul hx hb dX11_errorOf_16 ?_
  refine lv_ldc2 (v := 1440) hx hb hown hk147 dX11_errorOf_17 ?_
  refine lv_ldiv hx hb dX11_errorOf_20 (by decide) ?_
  refine lv_l2i (v := (((((mDri v1.toNatClampNeg : Int32).toInt64) * ((v2 - (mSetA v1.toNatClampNeg) : Int32).toInt64)) / 1440 : Int64).toInt32)) hx hb dX11_errorOf_21 rfl ?_
  exact hret (((((mDri v1.toNatClampNeg : Int32).toInt64) * ((v2 - (mSetA v1.toNatClampNeg) : Int32).toInt64)) / 1440 : Int64).toInt32) () _ _ _ _ dX11_errorOf_22 ho hp
set_option maxHeartbeats 4000000 in
set_option maxRecDepth 100000 in
theorem c_M_isAsked (l : Launch) (D : va_G) (q : Nat → Nat) (c : Nat → ClassId) (mThr : Int32) (mTn : Int32) (mCk : Int32) (mRw : Int32) (mSt : Int32) (mTr : Int32) (mFM : Int32) (mFS : Int32) (mTpN : Int32) (mLw : Int32) (mAt : Int32) (mTwN : Int32) (mBE : Int32) (mBEn : Int32) (mSun : Nat → Int32) (mCkT : Nat → Int32) (mCkD : Nat → Int32) (mCkK : Nat → Int32) (mCkA : Nat → Int32) (mRow : Nat → Int32) (mStT : Nat → Int32) (mRun : Nat → Int32) (mUp : Nat → Int32) (mSta : Nat → Int32) (mSty : Nat → Int32) (mDly : Nat → Int32) (mTri : Nat → Int32) (mFnd : Nat → Int32) (mTap : Nat → Int32) (mLwT : Nat → Int32) (mLwD : Nat → Int32) (mLwO : Nat → Int32) (mLwM : Nat → Int32) (mTwT : Nat → Int32) (mSetA : Nat → Int32) (mDri : Nat → Int32) (mOrd : Nat → Int32) (mBst : Nat → Int32) (v1 : Int32) (v2 : Int32) (Q : Int32 → Prop) (hp : p_M_isAsked mTwN mSetA v1 v2 Q) : oKi l yX11_isAsked wsX11_isAsked { frames := 2, cells := 0, slots := 0, locals := 45 } [.ref (q 0), .int v1, .int v2] D (mT c) (wM q c mThr mTn mCk mRw mSt mTr mFM mFS mTpN mLw mAt mTwN mBE mBEn mSun mCkT mCkD mCkK mCkA mRow mStT mRun mUp mSta mSty mDly mTri mFnd mTap mLwT mLwD mLwO mLwM mTwT mSetA mDri mOrd mBst) (Unit) (fun r (_ : Unit) => Q r) (fun _ => wM q c mThr mTn mCk mRw mSt mTr mFM mFS mTpN mLw mAt mTwN mBE mBEn mSun mCkT mCkD mCkK mCkA mRow mStT mRun mUp mSta mSty mDly mTri mFnd mTap mLwT mLwD mLwO mLwM mTwT mSetA mDri mOrd mBst) := by
  refine oKi.ofWz (own := RX11) (cc := cX11_isAsked) (maxL := 3) (plainFor_of_name (by decide +kernel)) rfl rfl (Nat.le_of_ble_eq_true rfl) (fun p e s m args below meth cd A ls Z hx hb hml hown hts hret ho hl => ?_)
  replace hl : lv_has ls 3 [(0, .ref (q 0)), (1, .int v1), (2, .int v2)] := hl
  have hinX11 : ∀ w ∈ u_ws RX11 TX11 38, w ∈ wsX11_isAsked := by decide +kernel
  have hf71 := hts (.fieldLink RX11 71 "OneTimeModel" "setAt" "[I") (by decide +kernel)
  have hf127 := hts (.fieldLink RX11 127 "OneTimeModel" "towers" "I") (by decide +kernel)
  unfold p_M_isAsked at hp
  refine lv_iload_n hx hb dX11_isAsked_0 rfl (lv_at hl 1 rfl) ?_
  refine lv_i2l (v := ((v1 : Int32).toInt64)) hx hb dX11_isAsked_1 rfl ?_
  refine lv_lconst (v := 0) hx hb dX11_isAsked_2 (by decide) ?_
  refine lv_aload_n hx hb dX11_isAsked_3 rfl (lv_at hl 0 rfl) ?_
  refine o_get (ci := 11) (T := TX11) hx hb hts hinX11 hown ho 0 rfl rfl 30 (by decide) hf127 rfl dX11_isAsked_4 ?_
  refine lv_iconst (v := 1) hx hb dX11_isAsked_7 (by decide) ?_
  refine lv_isub hx hb dX11_isAsked_8 ?_
  refine lv_i2l (v := ((mTwN - 1 : Int32).toInt64)) hx hb dX11_isAsked_9 rfl ?_
  refine o_callSi (rest := []) ⟨hx, hb, hml, hown, hts⟩ ho (c_M_in l D (mT c) (wM q c mThr mTn mCk mRw mSt mTr mFM mFS mTpN mLw mAt mTwN mBE mBEn mSun mCkT mCkD mCkK mCkA mRow mStT mRun mUp mSta mSty mDly mTri mFnd mTap mLwT mLwD mLwO mLwM mTwT mSetA mDri mOrd mBst) ((v1 : Int32).toInt64) 0 ((mTwN - 1 : Int32).toInt64) _ hp) (va_cwS 3 hts gX11_isAsked_X11_in rfl rfl rfl (by decide +kernel) ⟨(Nat.le_of_ble_eq_true rfl), (Nat.le_of_ble_eq_true rfl)⟩) rfl hl.1 rfl (Nat.le_of_ble_eq_true rfl) dX11_isAsked_10 ⟨Nat.zero_le _, Nat.zero_le _⟩ (fun r10 u H locs hp ho => ?_)
  try dsimp only at hp
  replace ho : oW D (mT c) A s.heap s (wM q c mThr mTn mCk mRw mSt mTr mFM mFS mTpN mLw mAt mTwN mBE mBEn mSun mCkT mCkD mCkK mCkA mRow mStT mRun mUp mSta mSty mDly mTri mFnd mTap mLwT mLwD mLwO mLwM mTwT mSetA mDri mOrd mBst) H locs := ho
  refine lv_if_eq (tgt := 37) hx hb dX11_isAsked_13 (by decide) (fun c_13 => ?_) (fun c_13 => ?_)
  · replace hp := hp.1 c_13
    refine lv_iconst (v := 0) hx hb dX11_isAsked_37 (by decide) ?_
    exact hret 0 () _ _ _ _ dX11_isAsked_38 (Or.inl rfl) ho hp
  · replace hp := hp.2 c_13
    refine lv_iload_n hx hb dX11_isAsked_16 rfl (lv_at hl 2 rfl) ?_
    refine o_callSi (rest := []) ⟨hx, hb, hml, hown, hts⟩ ho (c_M_isMinute l D (mT c) (wM q c mThr mTn mCk mRw mSt mTr mFM mFS mTpN mLw mAt mTwN mBE mBEn mSun mCkT mCkD mCkK mCkA mRow mStT mRun mUp mSta mSty mDly mTri mFnd mTap mLwT mLwD mLwO mLwM mTwT mSetA mDri mOrd mBst) v2 _ hp) (va_cwS 1 hts gX11_isAsked_X11_isMinute rfl rfl rfl (by decide +kernel) ⟨(Nat.le_of_ble_eq_true rfl), (Nat.le_of_ble_eq_true rfl)⟩) rfl hl.1 rfl (Nat.le_of_ble_eq_true rfl) dX11_isAsked_17 ⟨Nat.zero_le _, Nat.zero_le _⟩ (fun r17 u H locs hp ho => ?_)
    try dsimp only at hp
    replace ho : oW D (mT c) A s.heap s (wM q c mThr mTn mCk mRw mSt mTr mFM mFS mTpN mLw mAt mTwN mBE mBEn mSun mCkT mCkD mCkK mCkA mRow mStT mRun mUp mSta mSty mDly mTri mFnd mTap mLwT mLwD mLwO mLwM mTwT mSetA mDri mOrd mBst) H locs := ho
    refine lv_if_eq (tgt := 37) hx hb dX11_isAsked_20 (by decide) (fun c_20 => ?_) (fun c_20 => ?_)
    · replace hp := hp.1 c_20
      refine lv_iconst (v := 0) hx hb dX11_isAsked_37 (by decide) ?_
      exact hret 0 () _ _ _ _ dX11_isAsked_38 (Or.inl rfl) ho hp
    · replace hp := hp.2 c_20
      refine lv_iload_n hx hb dX11_isAsked_23 rfl (lv_at hl 2 rfl) ?_
      refine lv_aload_n hx hb dX11_isAsked_24 rfl (lv_at hl 0 rfl) ?_
      refine o_get (ci := 11) (T := TX11) hx hb hts hinX11 hown ho 0 rfl rfl 32 (by decide) hf71 rfl dX11_isAsked_25 ?_
      refine lv_iload_n hx hb dX11_isAsked_28 rfl (lv_at hl 1 rfl) ?_
      refine o_ild hx hb ho 21 20 rfl rfl hp.1 dX11_isAsked_29 ?_
      replace hp := hp.2
      refine lv_icmp_lt (tgt := 37) hx hb dX11_isAsked_30 (by decide) (fun c_30 => ?_) (fun c_30 => ?_)
      · replace hp := hp.1 c_30
        refine lv_iconst (v := 0) hx hb dX11_isAsked_37 (by decide) ?_
        exact hret 0 () _ _ _ _ dX11_isAsked_38 (Or.inl rfl) ho hp
      · replace hp := hp.2 c_30
        refine lv_iconst (v := 1) hx hb dX11_isAsked_33 (by decide) ?_
        refine lv_goto (tgt := 38) hx hb dX11_isAsked_34 (by decide) ?_
        exact hret 1 () _ _ _ _ dX11_isAsked_38 (Or.inr rfl) ho hp
set_option maxHeartbeats 4000000 in
set_option maxRecDepth 100000 in
theorem c_M_error (l : Launch) (D : va_G) (q : Nat → Nat) (c : Nat → ClassId) (mThr : Int32) (mTn : Int32) (mCk : Int32) (mRw : Int32) (mSt : Int32) (mTr : Int32) (mFM : Int32) (mFS : Int32) (mTpN : Int32) (mLw : Int32) (mAt : Int32) (mTwN : Int32) (mBE : Int32) (mBEn : Int32) (mSun : Nat → Int32) (mCkT : Nat → Int32) (mCkD : Nat → Int32) (mCkK : Nat → Int32) (mCkA : Nat → Int32) (mRow : Nat → Int32) (mStT : Nat → Int32) (mRun : Nat → Int32) (mUp : Nat → Int32) (mSta : Nat → Int32) (mSty : Nat → Int32) (mDly : Nat → Int32) (mTri : Nat → Int32) (mFnd : Nat → Int32) (mTap : Nat → Int32) (mLwT : Nat → Int32) (mLwD : Nat → Int32) (mLwO : Nat → Int32) (mLwM : Nat → Int32) (mTwT : Nat → Int32) (mSetA : Nat → Int32) (mDri : Nat → Int32) (mOrd : Nat → Int32) (mBst : Nat → Int32) (v1 : Int32) (v2 : Int32) (Q : Int32 → Int32 → Prop) (hp : p_M_error mTwN mSetA mDri mThr v1 v2 Q) : oKi l yX11_error wsX11_error { frames := 3, cells := 0, slots := 0, locals := 67 } [.ref (q 0), .int v1, .int v2] D (mT c) (wM q c mThr mTn mCk mRw mSt mTr mFM mFS mTpN mLw mAt mTwN mBE mBEn mSun mCkT mCkD mCkK mCkA mRow mStT mRun mUp mSta mSty mDly mTri mFnd mTap mLwT mLwD mLwO mLwM mTwT mSetA mDri mOrd mBst) (Int32) (fun r (u : Int32) => Q r u) (fun u => wM q c u mTn mCk mRw mSt mTr mFM mFS mTpN mLw mAt mTwN mBE mBEn mSun mCkT mCkD mCkK mCkA mRow mStT mRun mUp mSta mSty mDly mTri mFnd mTap mLwT mLwD mLwO mLwM mTwT mSetA mDri mOrd mBst) := by
  refine oKi.ofW (own := RX11) (cc := cX11_error) (maxL := 3) (plainFor_of_name (by decide +kernel)) rfl rfl (Nat.le_of_ble_eq_true rfl) (fun p e s m args below meth cd A ls Z hx hb hml hown hts hret ho hl => ?_)
  replace hl : lv_has ls 3 [(0, .ref (q 0)), (1, .int v1), (2, .int v2)] := hl
  have hinX11 : ∀ w ∈ u_ws RX11 TX11 38, w ∈ wsX11_error := by decide +kernel
  have hf83 := hts (.fieldLink RX11 83 "OneTimeModel" "thrown" "I") (by decide +kernel)
  unfold p_M_error at hp
  refine lv_aload_n hx hb dX11_error_0 rfl (lv_at hl 0 rfl) ?_
  refine lv_iconst (v := 0) hx hb dX11_error_1 (by decide) ?_
  refine o_put (ci := 11) (T := TX11) hx hb hts hinX11 tyX11_ok nmX11 hown ho 0 rfl rfl 0 (by decide) hf83 rfl (tyX11_ok 0 (by decide)) (Nat.le_of_ble_eq_true rfl) dX11_error_2 (fun H locs ho => ?_)
  replace ho : oW D (mT c) A s.heap s (wM q c 0 mTn mCk mRw mSt mTr mFM mFS mTpN mLw mAt mTwN mBE mBEn mSun mCkT mCkD mCkK mCkA mRow mStT mRun mUp mSta mSty mDly mTri mFnd mTap mLwT mLwD mLwO mLwM mTwT mSetA mDri mOrd mBst) H locs := ho
  refine lv_aload_n hx hb dX11_error_5 rfl (lv_at hl 0 rfl) ?_
  refine lv_iload_n hx hb dX11_error_6 rfl (lv_at hl 1 rfl) ?_
  refine lv_iload_n hx hb dX11_error_7 rfl (lv_at hl 2 rfl) ?_
  refine o_callVi (rest := []) (ci := 11) ⟨hx, hb, hml, hown, hts⟩ ho (c_M_isAsked l D q c 0 mTn mCk mRw mSt mTr mFM mFS mTpN mLw mAt mTwN mBE mBEn mSun mCkT mCkD mCkK mCkA mRow mStT mRun mUp mSta mSty mDly mTri mFnd mTap mLwT mLwD mLwO mLwM mTwT mSetA mDri mOrd mBst v1 v2 _ hp) (cwV 2 hts gX11_error_X11_isAsked rfl rfl rfl (by decide +kernel) ⟨(Nat.le_of_ble_eq_true rfl), (Nat.le_of_ble_eq_true rfl)⟩) 0 rfl rfl rfl hl.1 rfl (Nat.le_of_ble_eq_true rfl) dX11_error_8 ⟨Nat.zero_le _, Nat.zero_le _⟩ (fun r8 u H locs hp ho => ?_)
  try dsimp only at hp
  replace ho : oW D (mT c) A s.heap s (wM q c 0 mTn mCk mRw mSt mTr mFM mFS mTpN mLw mAt mTwN mBE mBEn mSun mCkT mCkD mCkK mCkA mRow mStT mRun mUp mSta mSty mDly mTri mFnd mTap mLwT mLwD mLwO mLwM mTwT mSetA mDri mOrd mBst) H locs := ho
  refine lv_if_eq (tgt := 23) hx hb dX11_error_11 (by decide) (fun c_11 => ?_) (fun c_11 => ?_)
  · replace hp := hp.1 c_11
    refine lv_aload_n hx hb dX11_error_23 rfl (lv_at hl 0 rfl) ?_
    refine o_callVi (rest := []) (ci := 11) ⟨hx, hb, hml, hown, hts⟩ ho (c_M_refuse l D q c 0 mTn mCk mRw mSt mTr mFM mFS mTpN mLw mAt mTwN mBE mBEn mSun mCkT mCkD mCkK mCkA mRow mStT mRun mUp mSta mSty mDly mTri mFnd mTap mLwT mLwD mLwO mLwM mTwT mSetA mDri mOrd mBst  _ hp) (cwV 0 hts gX11_error_X11_refuse rfl rfl rfl (by decide +kernel) ⟨(Nat.le_of_ble_eq_true rfl), (Nat.le_of_ble_eq_true rfl)⟩) 0 rfl rfl rfl hl.1 rfl (Nat.le_of_ble_eq_true rfl) dX11_error_24 ⟨Nat.zero_le _, Nat.zero_le _⟩ (fun r24 u H locs hp ho => ?_)
    obtain ⟨mThr_24, rfl⟩ : ∃ z, z = u := ⟨_, rfl⟩
    try dsimp only at hp
    replace ho : oW D (mT c) A s.heap s (wM q c mThr_24 mTn mCk mRw mSt mTr mFM mFS mTpN mLw mAt mTwN mBE mBEn mSun mCkT mCkD mCkK mCkA mRow mStT mRun mUp mSta mSty mDly mTri mFnd mTap mLwT mLwD mLwO mLwM mTwT mSetA mDri mOrd mBst) H locs := ho
    exact hret r24 mThr_24 _ _ _ _ dX11_error_27 ho hp
  · replace hp := hp.2 c_11
    refine lv_aload_n hx hb dX11_error_14 rfl (lv_at hl 0 rfl) ?_
    refine lv_iload_n hx hb dX11_error_15 rfl (lv_at hl 1 rfl) ?_
    refine lv_iload_n hx hb dX11_error_16 rfl (lv_at hl 2 rfl) ?_
    refine o_callVi (rest := []) (ci := 11) ⟨hx, hb, hml, hown, hts⟩ ho (c_M_errorOf l D q c 0 mTn mCk mRw mSt mTr mFM mFS mTpN mLw mAt mTwN mBE mBEn mSun mCkT mCkD mCkK mCkA mRow mStT mRun mUp mSta mSty mDly mTri mFnd mTap mLwT mLwD mLwO mLwM mTwT mSetA mDri mOrd mBst v1 v2 _ hp) (cwV 2 hts gX11_error_X11_errorOf rfl rfl rfl (by decide +kernel) ⟨(Nat.le_of_ble_eq_true rfl), (Nat.le_of_ble_eq_true rfl)⟩) 0 rfl rfl rfl hl.1 rfl (Nat.le_of_ble_eq_true rfl) dX11_error_17 ⟨Nat.zero_le _, Nat.zero_le _⟩ (fun r17 u H locs hp ho => ?_)
    try dsimp only at hp
    replace ho : oW D (mT c) A s.heap s (wM q c 0 mTn mCk mRw mSt mTr mFM mFS mTpN mLw mAt mTwN mBE mBEn mSun mCkT mCkD mCkK mCkA mRow mStT mRun mUp mSta mSty mDly mTri mFnd mTap mLwT mLwD mLwO mLwM mTwT mSetA mDri mOrd mBst) H locs := ho
    refine lv_goto (tgt := 27) hx hb dX11_error_20 (by decide) ?_
    exact hret r17 0 _ _ _ _ dX11_error_27 ho hp
set_option maxHeartbeats 4000000 in
set_option maxRecDepth 100000 in
theorem c_M_set (l : Launch) (D : va_G) (q : Nat → Nat) (c : Nat → ClassId) (mThr : Int32) (mTn : Int32) (mCk : Int32) (mRw : Int32) (mSt : Int32) (mTr : Int32) (mFM : Int32) (mFS : Int32) (mTpN : Int32) (mLw : Int32) (mAt : Int32) (mTwN : Int32) (mBE : Int32) (mBEn : Int32) (mSun : Nat → Int32) (mCkT : Nat → Int32) (mCkD : Nat → Int32) (mCkK : Nat → Int32) (mCkA : Nat → Int32) (mRow : Nat → Int32) (mStT : Nat → Int32) (mRun : Nat → Int32) (mUp : Nat → Int32) (mSta : Nat → Int32) (mSty : Nat → Int32) (mDly : Nat → Int32) (mTri : Nat → Int32) (mFnd : Nat → Int32) (mTap : Nat → Int32) (mLwT : Nat → Int32) (mLwD : Nat → Int32) (mLwO : Nat → Int32) (mLwM : Nat → Int32) (mTwT : Nat → Int32) (mSetA : Nat → Int32) (mDri : Nat → Int32) (mOrd : Nat → Int32) (mBst : Nat → Int32) (v1 : Int32) (v2 : Int32) (Q : Int32 → Int32 → (Nat → Int32) → Prop) (hp : p_M_set mTwN mDri mThr mSetA v1 v2 Q) : oKi l yX11_set wsX11_set { frames := 3, cells := 0, slots := 0, locals := 67 } [.ref (q 0), .int v1, .int v2] D (mT c) (wM q c mThr mTn mCk mRw mSt mTr mFM mFS mTpN mLw mAt mTwN mBE mBEn mSun mCkT mCkD mCkK mCkA mRow mStT mRun mUp mSta mSty mDly mTri mFnd mTap mLwT mLwD mLwO mLwM mTwT mSetA mDri mOrd mBst) (Int32 × (Nat → Int32)) (fun r (u : Int32 × (Nat → Int32)) => Q r u.1 u.2) (fun u => wM q c u.1 mTn mCk mRw mSt mTr mFM mFS mTpN mLw mAt mTwN mBE mBEn mSun mCkT mCkD mCkK mCkA mRow mStT mRun mUp mSta mSty mDly mTri mFnd mTap mLwT mLwD mLwO mLwM mTwT u.2 mDri mOrd mBst) := by
  refine oKi.ofW (own := RX11) (cc := cX11_set) (maxL := 4) (plainFor_of_name (by decide +kernel)) rfl rfl (Nat.le_of_ble_eq_true rfl) (fun p e s m args below meth cd A ls Z hx hb hml hown hts hret ho hl => ?_)
  replace hl : lv_has ls 4 [(0, .ref (q 0)), (1, .int v1), (2, .int v2)] := hl
  have hinX11 : ∀ w ∈ u_ws RX11 TX11 38, w ∈ wsX11_set := by decide +kernel
  have hf71 := hts (.fieldLink RX11 71 "OneTimeModel" "setAt" "[I") (by decide +kernel)
  have hf83 := hts (.fieldLink RX11 83 "OneTimeModel" "thrown" "I") (by decide +kernel)
  unfold p_M_set at hp
  refine lv_aload_n hx hb dX11_set_0 rfl (lv_at hl 0 rfl) ?_
  refine lv_iconst (v := 0) hx hb dX11_set_1 (by decide) ?_
  refine o_put (ci := 11) (T := TX11) hx hb hts hinX11 tyX11_ok nmX11 hown ho 0 rfl rfl 0 (by decide) hf83 rfl (tyX11_ok 0 (by decide)) (Nat.le_of_ble_eq_true rfl) dX11_set_2 (fun H locs ho => ?_)
  replace ho : oW D (mT c) A s.heap s (wM q c 0 mTn mCk mRw mSt mTr mFM mFS mTpN mLw mAt mTwN mBE mBEn mSun mCkT mCkD mCkK mCkA mRow mStT mRun mUp mSta mSty mDly mTri mFnd mTap mLwT mLwD mLwO mLwM mTwT mSetA mDri mOrd mBst) H locs := ho
  refine lv_aload_n hx hb dX11_set_5 rfl (lv_at hl 0 rfl) ?_
  refine lv_iload_n hx hb dX11_set_6 rfl (lv_at hl 1 rfl) ?_
  refine lv_iload_n hx hb dX11_set_7 rfl (lv_at hl 2 rfl) ?_
  refine o_callVi (rest := []) (ci := 11) ⟨hx, hb, hml, hown, hts⟩ ho (c_M_isAsked l D q c 0 mTn mCk mRw mSt mTr mFM mFS mTpN mLw mAt mTwN mBE mBEn mSun mCkT mCkD mCkK mCkA mRow mStT mRun mUp mSta mSty mDly mTri mFnd mTap mLwT mLwD mLwO mLwM mTwT mSetA mDri mOrd mBst v1 v2 _ hp) (cwV 2 hts gX11_set_X11_isAsked rfl rfl rfl (by decide +kernel) ⟨(Nat.le_of_ble_eq_true rfl), (Nat.le_of_ble_eq_true rfl)⟩) 0 rfl rfl rfl hl.1 rfl (Nat.le_of_ble_eq_true rfl) dX11_set_8 ⟨Nat.zero_le _, Nat.zero_le _⟩ (fun r8 u H locs hp ho => ?_)
  try dsimp only at hp
  replace ho : oW D (mT c) A s.heap s (wM q c 0 mTn mCk mRw mSt mTr mFM mFS mTpN mLw mAt mTwN mBE mBEn mSun mCkT mCkD mCkK mCkA mRow mStT mRun mUp mSta mSty mDly mTri mFnd mTap mLwT mLwD mLwO mLwM mTwT mSetA mDri mOrd mBst) H locs := ho
  refine lv_if_ne (tgt := 19) hx hb dX11_set_11 (by decide) (fun c_11 => ?_) (fun c_11 => ?_)
  · replace hp := hp.2 c_11
    refine lv_aload_n hx hb dX11_set_19 rfl (lv_at hl 0 rfl) ?_
    refine lv_iload_n hx hb dX11_set_20 rfl (lv_at hl 1 rfl) ?_
    refine lv_iload_n hx hb dX11_set_21 rfl (lv_at hl 2 rfl) ?_
    refine o_callVi (rest := []) (ci := 11) ⟨hx, hb, hml, hown, hts⟩ ho (c_M_errorOf l D q c 0 mTn mCk mRw mSt mTr mFM mFS mTpN mLw mAt mTwN mBE mBEn mSun mCkT mCkD mCkK mCkA mRow mStT mRun mUp mSta mSty mDly mTri mFnd mTap mLwT mLwD mLwO mLwM mTwT mSetA mDri mOrd mBst v1 v2 _ hp) (cwV 2 hts gX11_set_X11_errorOf rfl rfl rfl (by decide +kernel) ⟨(Nat.le_of_ble_eq_true rfl), (Nat.le_of_ble_eq_true rfl)⟩) 0 rfl rfl rfl hl.1 rfl (Nat.le_of_ble_eq_true rfl) dX11_set_22 ⟨Nat.zero_le _, Nat.zero_le _⟩ (fun r22 u H locs hp ho => ?_)
    try dsimp only at hp
    replace ho : oW D (mT c) A s.heap s (wM q c 0 mTn mCk mRw mSt mTr mFM mFS mTpN mLw mAt mTwN mBE mBEn mSun mCkT mCkD mCkK mCkA mRow mStT mRun mUp mSta mSty mDly mTri mFnd mTap mLwT mLwD mLwO mLwM mTwT mSetA mDri mOrd mBst) H locs := ho
    refine lv_istore_n (lv' := [(3, .int r22), (0, .ref (q 0)), (1, .int v1), (2, .int v2)]) hx hb dX11_set_25 rfl hl (by decide) rfl (fun ls hl => ?_)
    refine lv_aload_n hx hb dX11_set_26 rfl (lv_at hl 1 rfl) ?_
    refine o_get (ci := 11) (T := TX11) hx hb hts hinX11 hown ho 0 rfl rfl 32 (by decide) hf71 rfl dX11_set_27 ?_
    refine lv_iload_n hx hb dX11_set_30 rfl (lv_at hl 2 rfl) ?_
    refine lv_iload_n hx hb dX11_set_31 rfl (lv_at hl 3 rfl) ?_
    refine o_ist hx hb ho 21 20 rfl rfl hp.1 dX11_set_32 (fun H locs ho => ?_)
    replace hp := hp.2
    replace ho : oW D (mT c) A s.heap s (wM q c 0 mTn mCk mRw mSt mTr mFM mFS mTpN mLw mAt mTwN mBE mBEn mSun mCkT mCkD mCkK mCkA mRow mStT mRun mUp mSta mSty mDly mTri mFnd mTap mLwT mLwD mLwO mLwM mTwT (upd mSetA v1.toNatClampNeg v2) mDri mOrd mBst) H locs := ho
    refine lv_iload_n hx hb dX11_set_33 rfl (lv_at hl 0 rfl) ?_
    exact hret r22 (0, upd mSetA v1.toNatClampNeg v2) _ _ _ _ dX11_set_34 ho hp
  · replace hp := hp.1 c_11
    refine lv_aload_n hx hb dX11_set_14 rfl (lv_at hl 0 rfl) ?_
    refine o_callVi (rest := []) (ci := 11) ⟨hx, hb, hml, hown, hts⟩ ho (c_M_refuse l D q c 0 mTn mCk mRw mSt mTr mFM mFS mTpN mLw mAt mTwN mBE mBEn mSun mCkT mCkD mCkK mCkA mRow mStT mRun mUp mSta mSty mDly mTri mFnd mTap mLwT mLwD mLwO mLwM mTwT mSetA mDri mOrd mBst  _ hp) (cwV 0 hts gX11_set_X11_refuse rfl rfl rfl (by decide +kernel) ⟨(Nat.le_of_ble_eq_true rfl), (Nat.le_of_ble_eq_true rfl)⟩) 0 rfl rfl rfl hl.1 rfl (Nat.le_of_ble_eq_true rfl) dX11_set_15 ⟨Nat.zero_le _, Nat.zero_le _⟩ (fun r15 u H locs hp ho => ?_)
    obtain ⟨mThr_15, rfl⟩ : ∃ z, z = u := ⟨_, rfl⟩
    try dsimp only at hp
    replace ho : oW D (mT c) A s.heap s (wM q c mThr_15 mTn mCk mRw mSt mTr mFM mFS mTpN mLw mAt mTwN mBE mBEn mSun mCkT mCkD mCkK mCkA mRow mStT mRun mUp mSta mSty mDly mTri mFnd mTap mLwT mLwD mLwO mLwM mTwT mSetA mDri mOrd mBst) H locs := ho
    exact hret r15 (mThr_15, mSetA) _ _ _ _ dX11_set_18 ho hp
set_option maxHeartbeats 4000000 in
set_option maxRecDepth 100000 in
theorem c_M_goes (l : Launch) (D : va_G) (q : Nat → Nat) (c : Nat → ClassId) : ∀ (d : Nat) (mThr : Int32) (mTn : Int32) (mCk : Int32) (mRw : Int32) (mSt : Int32) (mTr : Int32) (mFM : Int32) (mFS : Int32) (mTpN : Int32) (mLw : Int32) (mAt : Int32) (mTwN : Int32) (mBE : Int32) (mBEn : Int32) (mSun : Nat → Int32) (mCkT : Nat → Int32) (mCkD : Nat → Int32) (mCkK : Nat → Int32) (mCkA : Nat → Int32) (mRow : Nat → Int32) (mStT : Nat → Int32) (mRun : Nat → Int32) (mUp : Nat → Int32) (mSta : Nat → Int32) (mSty : Nat → Int32) (mDly : Nat → Int32) (mTri : Nat → Int32) (mFnd : Nat → Int32) (mTap : Nat → Int32) (mLwT : Nat → Int32) (mLwD : Nat → Int32) (mLwO : Nat → Int32) (mLwM : Nat → Int32) (mTwT : Nat → Int32) (mSetA : Nat → Int32) (mDri : Nat → Int32) (mOrd : Nat → Int32) (mBst : Nat → Int32) (v1 : Int32) (v2 : Int32) (v3 : Int32) (v4 : Int32) (v5 : Int32) (Q : Int32 → Int32 → (Nat → Int32) → (Nat → Int32) → Prop), p_M_goes mTwN mSun mTwT mSetA mDri d mBE mBEn mOrd mBst v1 v2 v3 v4 v5 Q → oKv l yX11_goes wsX11_goes { frames := 1 + d, cells := 0, slots := 0, locals := 22 + d * 27 } [.ref (q 0), .int v1, .int v2, .int v3, .int v4, .int v5] D (mT c) (wM q c mThr mTn mCk mRw mSt mTr mFM mFS mTpN mLw mAt mTwN mBE mBEn mSun mCkT mCkD mCkK mCkA mRow mStT mRun mUp mSta mSty mDly mTri mFnd mTap mLwT mLwD mLwO mLwM mTwT mSetA mDri mOrd mBst) (Int32 × Int32 × (Nat → Int32) × (Nat → Int32)) (fun (u : Int32 × Int32 × (Nat → Int32) × (Nat → Int32)) => Q u.1 u.2.1 u.2.2.1 u.2.2.2) (fun u => wM q c mThr mTn mCk mRw mSt mTr mFM mFS mTpN mLw mAt mTwN u.1 u.2.1 mSun mCkT mCkD mCkK mCkA mRow mStT mRun mUp mSta mSty mDly mTri mFnd mTap mLwT mLwD mLwO mLwM mTwT mSetA mDri u.2.2.1 u.2.2.2) := by
  intro d
  induction d with
  | zero =>
    intro mThr mTn mCk mRw mSt mTr mFM mFS mTpN mLw mAt mTwN mBE mBEn mSun mCkT mCkD mCkK mCkA mRow mStT mRun mUp mSta mSty mDly mTri mFnd mTap mLwT mLwD mLwO mLwM mTwT mSetA mDri mOrd mBst v1 v2 v3 v4 v5 Q hp
    exact absurd hp (fun h => h)
  | succ d ih =>
    intro mThr mTn mCk mRw mSt mTr mFM mFS mTpN mLw mAt mTwN mBE mBEn mSun mCkT mCkD mCkK mCkA mRow mStT mRun mUp mSta mSty mDly mTri mFnd mTap mLwT mLwD mLwO mLwM mTwT mSetA mDri mOrd mBst v1 v2 v3 v4 v5 Q hp
    replace hp : p_M_goes_B mTwN mSun mTwT mSetA mDri (p_M_goes mTwN mSun mTwT mSetA mDri d) mBE mBEn mOrd mBst v1 v2 v3 v4 v5 Q := hp
    refine oKv.ofW (own := RX11) (cc := cX11_goes) (maxL := 8) (plainFor_of_name (by decide +kernel)) rfl rfl (Nat.le_of_ble_eq_true rfl) (fun p e s m args below meth cd A ls Z hx hb hml hown hts hret ho hl => ?_)
    replace hl : lv_has ls 8 [(0, .ref (q 0)), (1, .int v1), (2, .int v2), (3, .int v3), (4, .int v4), (5, .int v5)] := hl
    have hinX11 : ∀ w ∈ u_ws RX11 TX11 38, w ∈ wsX11_goes := by decide +kernel
    have hf9 := hts (.fieldLink RX11 9 "OneTimeModel" "sun" "[I") (by decide +kernel)
    have hf68 := hts (.fieldLink RX11 68 "OneTimeModel" "towerTown" "[I") (by decide +kernel)
    have hf77 := hts (.fieldLink RX11 77 "OneTimeModel" "order" "[I") (by decide +kernel)
    have hf80 := hts (.fieldLink RX11 80 "OneTimeModel" "best" "[I") (by decide +kernel)
    have hf127 := hts (.fieldLink RX11 127 "OneTimeModel" "towers" "I") (by decide +kernel)
    have hf248 := hts (.fieldLink RX11 248 "OneTimeModel" "bestError" "I") (by decide +kernel)
    have hf251 := hts (.fieldLink RX11 251 "OneTimeModel" "bestEnd" "I") (by decide +kernel)
    unfold p_M_goes_B at hp
    have hL51 : ∀ (mBE : Int32) (mBEn : Int32) (mOrd : Nat → Int32) (v6 : Int32) (mBst : Nat → Int32), Lp2 (p_M_goes_L51 mTwN mSun mTwT mSetA mDri (p_M_goes mTwN mSun mTwT mSetA mDri d) mBE mBEn mOrd Q) v6 mBst → ∀ (H : Heap) (locs : List Loc) (ls : Array Slot), oW D (mT c) A s.heap s (wM q c mThr mTn mCk mRw mSt mTr mFM mFS mTpN mLw mAt mTwN mBE mBEn mSun mCkT mCkD mCkK mCkA mRow mStT mRun mUp mSta mSty mDly mTri mFnd mTap mLwT mLwD mLwO mLwM mTwT mSetA mDri mOrd mBst) H locs → lv_has ls 8 [(0, .ref (q 0)), (6, .int v6)] → W p l e { frames := 1 + (d + 1), cells := 0, slots := 0, locals := 22 + (d + 1) * 27 } s m args below meth cd H locs 0 0 Z (F0 m 51 ls []) := by
      intro mBE mBEn mOrd
      refine Lp2.ind (fun rec hrec v6 mBst hp H locs ls ho hl => ?_)
      unfold p_M_goes_L51 at hp
      refine lv_iload hx hb dX11_goes_51 (lv_at hl 1 rfl) ?_
      refine lv_aload_n hx hb dX11_goes_53 rfl (lv_at hl 0 rfl) ?_
      refine o_get (ci := 11) (T := TX11) hx hb hts hinX11 hown ho 0 rfl rfl 30 (by decide) hf127 rfl dX11_goes_54 ?_
      refine lv_icmp_ge (tgt := 80) hx hb dX11_goes_57 (by decide) (fun c_57 => ?_) (fun c_57 => ?_)
      · replace hp := hp.1 c_57
        exact hret (mBE, mBEn, mOrd, mBst) _ _ _ _ dX11_goes_80 ho hp
      · replace hp := hp.2 c_57
        refine lv_aload_n hx hb dX11_goes_60 rfl (lv_at hl 0 rfl) ?_
        refine o_get (ci := 11) (T := TX11) hx hb hts hinX11 hown ho 0 rfl rfl 35 (by decide) hf80 rfl dX11_goes_61 ?_
        refine lv_iload hx hb dX11_goes_64 (lv_at hl 1 rfl) ?_
        refine lv_aload_n hx hb dX11_goes_66 rfl (lv_at hl 0 rfl) ?_
        refine o_get (ci := 11) (T := TX11) hx hb hts hinX11 hown ho 0 rfl rfl 34 (by decide) hf77 rfl dX11_goes_67 ?_
        refine lv_iload hx hb dX11_goes_70 (lv_at hl 1 rfl) ?_
        refine o_ild hx hb ho 23 22 rfl rfl hp.1 dX11_goes_72 ?_
        replace hp := hp.2
        refine o_ist hx hb ho 24 23 rfl rfl hp.1 dX11_goes_73 (fun H locs ho => ?_)
        replace hp := hp.2
        replace ho : oW D (mT c) A s.heap s (wM q c mThr mTn mCk mRw mSt mTr mFM mFS mTpN mLw mAt mTwN mBE mBEn mSun mCkT mCkD mCkK mCkA mRow mStT mRun mUp mSta mSty mDly mTri mFnd mTap mLwT mLwD mLwO mLwM mTwT mSetA mDri mOrd (upd mBst v6.toNatClampNeg (mOrd v6.toNatClampNeg))) H locs := ho
        obtain ⟨x74, e_x74⟩ : ∃ y : Int32, y = v6 + 1 := ⟨_, rfl⟩
        replace hp := hp x74 e_x74
        refine lv_iinc (v := x74) (lv' := [(6, .int x74), (0, .ref (q 0))]) hx hb dX11_goes_74 hl (k := 1) rfl (by rw [e_x74]; rfl) (by decide) rfl (fun ls hl => ?_)
        refine lv_goto (tgt := 51) hx hb dX11_goes_77 (by decide) ?_
        exact hrec x74 (upd mBst v6.toNatClampNeg (mOrd v6.toNatClampNeg)) hp _ _ _ ho (lv_sub hl [1, 0] rfl)
    have hJ36 : ∀ (v4 : Int32) (v5 : Int32) (mBE : Int32) (mBEn : Int32) (mOrd : Nat → Int32) (mBst : Nat → Int32), p_M_goes_J36 mTwN mSun mTwT mSetA mDri (p_M_goes mTwN mSun mTwT mSetA mDri d) v4 v5 mBE mBEn mOrd mBst Q → ∀ (H : Heap) (locs : List Loc) (ls : Array Slot), oW D (mT c) A s.heap s (wM q c mThr mTn mCk mRw mSt mTr mFM mFS mTpN mLw mAt mTwN mBE mBEn mSun mCkT mCkD mCkK mCkA mRow mStT mRun mUp mSta mSty mDly mTri mFnd mTap mLwT mLwD mLwO mLwM mTwT mSetA mDri mOrd mBst) H locs → lv_has ls 8 [(0, .ref (q 0)), (4, .int v4), (5, .int v5)] → W p l e { frames := 1 + (d + 1), cells := 0, slots := 0, locals := 22 + (d + 1) * 27 } s m args below meth cd H locs 0 0 Z (F0 m 36 ls []) := by
      intro v4 v5 mBE mBEn mOrd mBst
      intro hp H locs ls ho hl
      unfold p_M_goes_J36 at hp
      refine lv_aload_n hx hb dX11_goes_36 rfl (lv_at hl 0 rfl) ?_
      refine lv_iload hx hb dX11_goes_37 (lv_at hl 2 rfl) ?_
      refine o_put (ci := 11) (T := TX11) hx hb hts hinX11 tyX11_ok nmX11 hown ho 0 rfl rfl 36 (by decide) hf248 rfl (tyX11_ok 36 (by decide)) (Nat.le_of_ble_eq_true rfl) dX11_goes_39 (fun H locs ho => ?_)
      replace ho : oW D (mT c) A s.heap s (wM q c mThr mTn mCk mRw mSt mTr mFM mFS mTpN mLw mAt mTwN v5 mBEn mSun mCkT mCkD mCkK mCkA mRow mStT mRun mUp mSta mSty mDly mTri mFnd mTap mLwT mLwD mLwO mLwM mTwT mSetA mDri mOrd mBst) H locs := ho
      refine lv_aload_n hx hb dX11_goes_42 rfl (lv_at hl 0 rfl) ?_
      refine lv_iload hx hb dX11_goes_43 (lv_at hl 1 rfl) ?_
      refine o_put (ci := 11) (T := TX11) hx hb hts hinX11 tyX11_ok nmX11 hown ho 0 rfl rfl 37 (by decide) hf251 rfl (tyX11_ok 37 (by decide)) (Nat.le_of_ble_eq_true rfl) dX11_goes_45 (fun H locs ho => ?_)
      replace ho : oW D (mT c) A s.heap s (wM q c mThr mTn mCk mRw mSt mTr mFM mFS mTpN mLw mAt mTwN v5 v4 mSun mCkT mCkD mCkK mCkA mRow mStT mRun mUp mSta mSty mDly mTri mFnd mTap mLwT mLwD mLwO mLwM mTwT mSetA mDri mOrd mBst) H locs := ho
      refine lv_iconst (v := 0) hx hb dX11_goes_48 (by decide) ?_
      refine lv_istore (lv' := [(6, .int 0), (0, .ref (q 0)), (4, .int v4), (5, .int v5)]) hx hb dX11_goes_49 hl (by decide) rfl (fun ls hl => ?_)
      exact hL51 v5 v4 mOrd 0 mBst hp _ _ _ ho (lv_sub hl [1, 0] rfl)
    have hL84 : ∀ (v1 : Int32) (v2 : Int32) (v3 : Int32) (v4 : Int32) (v5 : Int32) (v6 : Int32) (mBE : Int32) (mBEn : Int32) (mOrd : Nat → Int32) (mBst : Nat → Int32), Lp5 (p_M_goes_L84 mTwN mSun mTwT mSetA mDri (p_M_goes mTwN mSun mTwT mSetA mDri d) v1 v2 v3 v4 v5 Q) v6 mBE mBEn mOrd mBst → ∀ (H : Heap) (locs : List Loc) (ls : Array Slot), oW D (mT c) A s.heap s (wM q c mThr mTn mCk mRw mSt mTr mFM mFS mTpN mLw mAt mTwN mBE mBEn mSun mCkT mCkD mCkK mCkA mRow mStT mRun mUp mSta mSty mDly mTri mFnd mTap mLwT mLwD mLwO mLwM mTwT mSetA mDri mOrd mBst) H locs → lv_has ls 8 [(0, .ref (q 0)), (1, .int v1), (2, .int v2), (3, .int v3), (4, .int v4), (5, .int v5), (6, .int v6)] → W p l e { frames := 1 + (d + 1), cells := 0, slots := 0, locals := 22 + (d + 1) * 27 } s m args below meth cd H locs 0 0 Z (F0 m 84 ls []) := by
      intro v1 v2 v3 v4 v5
      refine Lp5.ind (fun rec hrec v6 mBE mBEn mOrd mBst hp H locs ls ho hl => ?_)
      unfold p_M_goes_L84 at hp
      refine lv_iload hx hb dX11_goes_84 (lv_at hl 6 rfl) ?_
      refine lv_aload_n hx hb dX11_goes_86 rfl (lv_at hl 0 rfl) ?_
      refine o_get (ci := 11) (T := TX11) hx hb hts hinX11 hown ho 0 rfl rfl 30 (by decide) hf127 rfl dX11_goes_87 ?_
      refine lv_icmp_ge (tgt := 187) hx hb dX11_goes_90 (by decide) (fun c_90 => ?_) (fun c_90 => ?_)
      · replace hp := hp.1 c_90
        exact hret (mBE, mBEn, mOrd, mBst) _ _ _ _ dX11_goes_187 ho hp
      · replace hp := hp.2 c_90
        refine lv_iload_n hx hb dX11_goes_93 rfl (lv_at hl 2 rfl) ?_
        refine lv_iload hx hb dX11_goes_94 (lv_at hl 6 rfl) ?_
        refine lv_ishr hx hb dX11_goes_96 ?_
        refine lv_iconst (v := 1) hx hb dX11_goes_97 (by decide) ?_
        refine lv_iand hx hb dX11_goes_98 ?_
        refine lv_if_ne (tgt := 181) hx hb dX11_goes_99 (by decide) (fun c_99 => ?_) (fun c_99 => ?_)
        · replace hp := hp.2 c_99
          obtain ⟨x181, e_x181⟩ : ∃ y : Int32, y = v6 + 1 := ⟨_, rfl⟩
          replace hp := hp x181 e_x181
          refine lv_iinc (v := x181) (lv' := [(6, .int x181), (0, .ref (q 0)), (1, .int v1), (2, .int v2), (3, .int v3), (4, .int v4), (5, .int v5)]) hx hb dX11_goes_181 hl (k := 6) rfl (by rw [e_x181]; rfl) (by decide) rfl (fun ls hl => ?_)
          refine lv_goto (tgt := 84) hx hb dX11_goes_184 (by decide) ?_
          exact hrec x181 mBE mBEn mOrd mBst hp _ _ _ ho (lv_sub hl [1, 2, 3, 4, 5, 6, 0] rfl)
        · replace hp := hp.1 c_99
          refine lv_iload hx hb dX11_goes_102 (lv_at hl 4 rfl) ?_
          refine lv_bipush (v := 10) hx hb dX11_goes_104 (by decide) ?_
          refine lv_aload_n hx hb dX11_goes_106 rfl (lv_at hl 0 rfl) ?_
          refine o_get (ci := 11) (T := TX11) hx hb hts hinX11 hown ho 0 rfl rfl 2 (by decide) hf9 rfl dX11_goes_107 ?_
          refine lv_iload_n hx hb dX11_goes_110 rfl (lv_at hl 3 rfl) ?_
          refine o_ild hx hb ho 1 0 rfl rfl hp.1 dX11_goes_111 ?_
          replace hp := hp.2
          refine lv_aload_n hx hb dX11_goes_112 rfl (lv_at hl 0 rfl) ?_
          refine o_get (ci := 11) (T := TX11) hx hb hts hinX11 hown ho 0 rfl rfl 2 (by decide) hf9 rfl dX11_goes_113 ?_
          refine lv_aload_n hx hb dX11_goes_116 rfl (lv_at hl 0 rfl) ?_
          refine o_get (ci := 11) (T := TX11) hx hb hts hinX11 hown ho 0 rfl rfl 31 (by decide) hf68 rfl dX11_goes_117 ?_
          refine lv_iload hx hb dX11_goes_120 (lv_at hl 6 rfl) ?_
          refine o_ild hx hb ho 20 19 rfl rfl hp.1 dX11_goes_122 ?_
          replace hp := hp.2
          refine o_ild hx hb ho 1 0 rfl rfl hp.1 dX11_goes_123 ?_
          replace hp := hp.2
          refine lv_isub hx hb dX11_goes_124 ?_
          refine va_mabs hx hb (hml.trans hl.1.symm) hown (hts (.methodLink RX11 254 Lib.Math.abs.name) (by decide +kernel)) (hts (.static Lib.Math.abs.name) (by decide +kernel)) (hts (.initialized "java/lang/Math") (by decide +kernel)) (hts (.code Lib.Math.abs.name Lib.Math.abs.code 1 (some .int)) (by decide +kernel)) (by dsimp only; omega) (by show 2 + 13 ≤ 22 + (d + 1) * 27; omega) (Nat.zero_le _) (Nat.zero_le _) dX11_goes_125 ?_
          refine lv_imul hx hb dX11_goes_128 ?_
          refine lv_iadd hx hb dX11_goes_129 ?_
          refine lv_topi (fun x130 e_x130 => ?_)
          replace hp := hp x130 e_x130
          refine lv_istore (lv' := [(7, .int x130), (0, .ref (q 0)), (1, .int v1), (2, .int v2), (3, .int v3), (4, .int v4), (5, .int v5), (6, .int v6)]) hx hb dX11_goes_130 hl (by decide) rfl (fun ls hl => ?_)
          refine lv_aload_n hx hb dX11_goes_132 rfl (lv_at hl 1 rfl) ?_
          refine o_get (ci := 11) (T := TX11) hx hb hts hinX11 hown ho 0 rfl rfl 34 (by decide) hf77 rfl dX11_goes_133 ?_
          refine lv_iload_n hx hb dX11_goes_136 rfl (lv_at hl 2 rfl) ?_
          refine lv_iload hx hb dX11_goes_137 (lv_at hl 7 rfl) ?_
          refine o_ist hx hb ho 23 22 rfl rfl hp.1 dX11_goes_139 (fun H locs ho => ?_)
          replace hp := hp.2
          replace ho : oW D (mT c) A s.heap s (wM q c mThr mTn mCk mRw mSt mTr mFM mFS mTpN mLw mAt mTwN mBE mBEn mSun mCkT mCkD mCkK mCkA mRow mStT mRun mUp mSta mSty mDly mTri mFnd mTap mLwT mLwD mLwO mLwM mTwT mSetA mDri (upd mOrd v1.toNatClampNeg v6) mBst) H locs := ho
          refine lv_aload_n hx hb dX11_goes_140 rfl (lv_at hl 1 rfl) ?_
          refine lv_iload_n hx hb dX11_goes_141 rfl (lv_at hl 2 rfl) ?_
          refine lv_iconst (v := 1) hx hb dX11_goes_142 (by decide) ?_
          refine lv_iadd hx hb dX11_goes_143 ?_
          refine lv_iload_n hx hb dX11_goes_144 rfl (lv_at hl 3 rfl) ?_
          refine lv_iconst (v := 1) hx hb dX11_goes_145 (by decide) ?_
          refine lv_iload hx hb dX11_goes_146 (lv_at hl 7 rfl) ?_
          refine lv_ishl hx hb dX11_goes_148 ?_
          refine lv_ior hx hb dX11_goes_149 ?_
          refine lv_aload_n hx hb dX11_goes_150 rfl (lv_at hl 1 rfl) ?_
          refine o_get (ci := 11) (T := TX11) hx hb hts hinX11 hown ho 0 rfl rfl 31 (by decide) hf68 rfl dX11_goes_151 ?_
          refine lv_iload hx hb dX11_goes_154 (lv_at hl 7 rfl) ?_
          refine o_ild hx hb ho 20 19 rfl rfl hp.1 dX11_goes_156 ?_
          replace hp := hp.2
          refine lv_iload hx hb dX11_goes_157 (lv_at hl 0 rfl) ?_
          refine lv_bipush (v := 30) hx hb dX11_goes_159 (by decide) ?_
          refine lv_iadd hx hb dX11_goes_161 ?_
          refine lv_iload hx hb dX11_goes_162 (lv_at hl 6 rfl) ?_
          refine lv_aload_n hx hb dX11_goes_164 rfl (lv_at hl 1 rfl) ?_
          refine lv_iload hx hb dX11_goes_165 (lv_at hl 7 rfl) ?_
          refine lv_iload hx hb dX11_goes_167 (lv_at hl 0 rfl) ?_
          refine o_callVi (rest := [.int v5, .int (x130 + 30), .int (mTwT v6.toNatClampNeg), .int (v2 ||| (1 <<< (v6 &&& 31))), .int (v1 + 1), .ref (q 0)]) (ci := 11) ⟨hx, hb, hml, hown, hts⟩ ho (c_M_errorOf l D q c mThr mTn mCk mRw mSt mTr mFM mFS mTpN mLw mAt mTwN mBE mBEn mSun mCkT mCkD mCkK mCkA mRow mStT mRun mUp mSta mSty mDly mTri mFnd mTap mLwT mLwD mLwO mLwM mTwT mSetA mDri (upd mOrd v1.toNatClampNeg v6) mBst v6 x130 _ hp) (cwV 2 hts gX11_goes_X11_errorOf rfl rfl rfl (by decide +kernel) ⟨(by dsimp only; omega), (by dsimp only; omega)⟩) 0 rfl rfl rfl hl.1 rfl (Nat.le_of_ble_eq_true rfl) dX11_goes_169 ⟨Nat.zero_le _, Nat.zero_le _⟩ (fun r169 u H locs hp ho => ?_)
          try dsimp only at hp
          replace ho : oW D (mT c) A s.heap s (wM q c mThr mTn mCk mRw mSt mTr mFM mFS mTpN mLw mAt mTwN mBE mBEn mSun mCkT mCkD mCkK mCkA mRow mStT mRun mUp mSta mSty mDly mTri mFnd mTap mLwT mLwD mLwO mLwM mTwT mSetA mDri (upd mOrd v1.toNatClampNeg v6) mBst) H locs := ho
          refine va_mabs hx hb (hml.trans hl.1.symm) hown (hts (.methodLink RX11 254 Lib.Math.abs.name) (by decide +kernel)) (hts (.static Lib.Math.abs.name) (by decide +kernel)) (hts (.initialized "java/lang/Math") (by decide +kernel)) (hts (.code Lib.Math.abs.name Lib.Math.abs.code 1 (some .int)) (by decide +kernel)) (by dsimp only; omega) (by show 6 + 13 ≤ 22 + (d + 1) * 27; omega) (Nat.zero_le _) (Nat.zero_le _) dX11_goes_172 ?_
          refine va_mmax hx hb (hml.trans hl.1.symm) hown (hts (.methodLink RX11 171 Lib.Math.max.name) (by decide +kernel)) (hts (.static Lib.Math.max.name) (by decide +kernel)) (hts (.initialized "java/lang/Math") (by decide +kernel)) (hts (.code Lib.Math.max.name Lib.Math.max.code 2 (some .int)) (by decide +kernel)) (by dsimp only; omega) (by show 5 + 13 ≤ 22 + (d + 1) * 27; omega) (Nat.zero_le _) (Nat.zero_le _) dX11_goes_175 ?_
          refine o_callVv (rest := []) (ci := 11) ⟨hx, hb, hml, hown, hts⟩ ho (ih mThr mTn mCk mRw mSt mTr mFM mFS mTpN mLw mAt mTwN mBE mBEn mSun mCkT mCkD mCkK mCkA mRow mStT mRun mUp mSta mSty mDly mTri mFnd mTap mLwT mLwD mLwO mLwM mTwT mSetA mDri (upd mOrd v1.toNatClampNeg v6) mBst (v1 + 1) (v2 ||| (1 <<< (v6 &&& 31))) (mTwT v6.toNatClampNeg) (x130 + 30) (jmax v5 (jabs r169)) _ hp) (cwV 5 hts gX11_goes_X11_goes rfl rfl rfl (by decide +kernel) ⟨(by dsimp only; omega), (by dsimp only; omega)⟩) 0 rfl rfl rfl hl.1 rfl (Nat.le_of_ble_eq_true rfl) dX11_goes_178 ⟨Nat.zero_le _, Nat.zero_le _⟩ (fun u H locs hp ho => ?_)
          obtain ⟨mBE_178, mBEn_178, mOrd_178, mBst_178⟩ := u
          try dsimp only at hp
          replace ho : oW D (mT c) A s.heap s (wM q c mThr mTn mCk mRw mSt mTr mFM mFS mTpN mLw mAt mTwN mBE_178 mBEn_178 mSun mCkT mCkD mCkK mCkA mRow mStT mRun mUp mSta mSty mDly mTri mFnd mTap mLwT mLwD mLwO mLwM mTwT mSetA mDri mOrd_178 mBst_178) H locs := ho
          obtain ⟨x181, e_x181⟩ : ∃ y : Int32, y = v6 + 1 := ⟨_, rfl⟩
          replace hp := hp x181 e_x181
          refine lv_iinc (v := x181) (lv' := [(6, .int x181), (7, .int x130), (0, .ref (q 0)), (1, .int v1), (2, .int v2), (3, .int v3), (4, .int v4), (5, .int v5)]) hx hb dX11_goes_181 hl (k := 7) rfl (by rw [e_x181]; rfl) (by decide) rfl (fun ls hl => ?_)
          refine lv_goto (tgt := 84) hx hb dX11_goes_184 (by decide) ?_
          exact hrec x181 mBE_178 mBEn_178 mOrd_178 mBst_178 hp _ _ _ ho (lv_sub hl [2, 3, 4, 5, 6, 7, 0] rfl)
    refine lv_iload hx hb dX11_goes_0 (lv_at hl 5 rfl) ?_
    refine lv_aload_n hx hb dX11_goes_2 rfl (lv_at hl 0 rfl) ?_
    refine o_get (ci := 11) (T := TX11) hx hb hts hinX11 hown ho 0 rfl rfl 36 (by decide) hf248 rfl dX11_goes_3 ?_
    refine lv_icmp_le (tgt := 10) hx hb dX11_goes_6 (by decide) (fun c_6 => ?_) (fun c_6 => ?_)
    · replace hp := hp.1 c_6
      refine lv_iload_n hx hb dX11_goes_10 rfl (lv_at hl 1 rfl) ?_
      refine lv_aload_n hx hb dX11_goes_11 rfl (lv_at hl 0 rfl) ?_
      refine o_get (ci := 11) (T := TX11) hx hb hts hinX11 hown ho 0 rfl rfl 30 (by decide) hf127 rfl dX11_goes_12 ?_
      refine lv_icmp_ne (tgt := 81) hx hb dX11_goes_15 (by decide) (fun c_15 => ?_) (fun c_15 => ?_)
      · replace hp := hp.2 c_15
        refine lv_iconst (v := 0) hx hb dX11_goes_81 (by decide) ?_
        refine lv_istore (lv' := [(6, .int 0), (0, .ref (q 0)), (1, .int v1), (2, .int v2), (3, .int v3), (4, .int v4), (5, .int v5)]) hx hb dX11_goes_82 hl (by decide) rfl (fun ls hl => ?_)
        exact hL84 v1 v2 v3 v4 v5 0 mBE mBEn mOrd mBst hp _ _ _ ho (lv_sub hl [1, 2, 3, 4, 5, 6, 0] rfl)
      · replace hp := hp.1 c_15
        refine lv_iload hx hb dX11_goes_18 (lv_at hl 5 rfl) ?_
        refine lv_aload_n hx hb dX11_goes_20 rfl (lv_at hl 0 rfl) ?_
        refine o_get (ci := 11) (T := TX11) hx hb hts hinX11 hown ho 0 rfl rfl 36 (by decide) hf248 rfl dX11_goes_21 ?_
        refine lv_icmp_lt (tgt := 36) hx hb dX11_goes_24 (by decide) (fun c_24 => ?_) (fun c_24 => ?_)
        · replace hp := hp.1 c_24
          exact hJ36 v4 v5 mBE mBEn mOrd mBst hp _ _ _ ho (lv_sub hl [0, 4, 5] rfl)
        · replace hp := hp.2 c_24
          refine lv_iload hx hb dX11_goes_27 (lv_at hl 4 rfl) ?_
          refine lv_aload_n hx hb dX11_goes_29 rfl (lv_at hl 0 rfl) ?_
          refine o_get (ci := 11) (T := TX11) hx hb hts hinX11 hown ho 0 rfl rfl 37 (by decide) hf251 rfl dX11_goes_30 ?_
          refine lv_icmp_ge (tgt := 80) hx hb dX11_goes_33 (by decide) (fun c_33 => ?_) (fun c_33 => ?_)
          · replace hp := hp.1 c_33
            exact hret (mBE, mBEn, mOrd, mBst) _ _ _ _ dX11_goes_80 ho hp
          · replace hp := hp.2 c_33
            exact hJ36 v4 v5 mBE mBEn mOrd mBst hp _ _ _ ho (lv_sub hl [0, 4, 5] rfl)
    · replace hp := hp.2 c_6
      exact hret (mBE, mBEn, mOrd, mBst) _ _ _ _ dX11_goes_9 ho hp
set_option maxHeartbeats 4000000 in
set_option maxRecDepth 100000 in
theorem c_M_round (l : Launch) (D : va_G) (q : Nat → Nat) (c : Nat → ClassId) (mThr : Int32) (mTn : Int32) (mCk : Int32) (mRw : Int32) (mSt : Int32) (mTr : Int32) (mFM : Int32) (mFS : Int32) (mTpN : Int32) (mLw : Int32) (mAt : Int32) (mTwN : Int32) (mBE : Int32) (mBEn : Int32) (mSun : Nat → Int32) (mCkT : Nat → Int32) (mCkD : Nat → Int32) (mCkK : Nat → Int32) (mCkA : Nat → Int32) (mRow : Nat → Int32) (mStT : Nat → Int32) (mRun : Nat → Int32) (mUp : Nat → Int32) (mSta : Nat → Int32) (mSty : Nat → Int32) (mDly : Nat → Int32) (mTri : Nat → Int32) (mFnd : Nat → Int32) (mTap : Nat → Int32) (mLwT : Nat → Int32) (mLwD : Nat → Int32) (mLwO : Nat → Int32) (mLwM : Nat → Int32) (mTwT : Nat → Int32) (mSetA : Nat → Int32) (mDri : Nat → Int32) (mOrd : Nat → Int32) (mBst : Nat → Int32) (v1 : Int32) (v2 : Int32) (Q : Int32 → Int32 → Int32 → Int32 → Int32 → (Nat → Int32) → (Nat → Int32) → (Nat → Int32) → Prop) (hp : p_M_round mTn mTwN mSun mTwT mSetA mDri mThr mRw mBE mBEn mRow mOrd mBst v1 v2 Q) : oKi l yX11_round wsX11_round { frames := 10, cells := 0, slots := 0, locals := 265 } [.ref (q 0), .int v1, .int v2] D (mT c) (wM q c mThr mTn mCk mRw mSt mTr mFM mFS mTpN mLw mAt mTwN mBE mBEn mSun mCkT mCkD mCkK mCkA mRow mStT mRun mUp mSta mSty mDly mTri mFnd mTap mLwT mLwD mLwO mLwM mTwT mSetA mDri mOrd mBst) (Int32 × Int32 × Int32 × Int32 × (Nat → Int32) × (Nat → Int32) × (Nat → Int32)) (fun r (u : Int32 × Int32 × Int32 × Int32 × (Nat → Int32) × (Nat → Int32) × (Nat → Int32)) => Q r u.1 u.2.1 u.2.2.1 u.2.2.2.1 u.2.2.2.2.1 u.2.2.2.2.2.1 u.2.2.2.2.2.2) (fun u => wM q c u.1 mTn mCk u.2.1 mSt mTr mFM mFS mTpN mLw mAt mTwN u.2.2.1 u.2.2.2.1 mSun mCkT mCkD mCkK mCkA u.2.2.2.2.1 mStT mRun mUp mSta mSty mDly mTri mFnd mTap mLwT mLwD mLwO mLwM mTwT mSetA mDri u.2.2.2.2.2.1 u.2.2.2.2.2.2) := by
  refine oKi.ofW (own := RX11) (cc := cX11_round) (maxL := 5) (plainFor_of_name (by decide +kernel)) rfl rfl (Nat.le_of_ble_eq_true rfl) (fun p e s m args below meth cd A ls Z hx hb hml hown hts hret ho hl => ?_)
  replace hl : lv_has ls 5 [(0, .ref (q 0)), (1, .int v1), (2, .int v2)] := hl
  have hinX11 : ∀ w ∈ u_ws RX11 TX11 38, w ∈ wsX11_round := by decide +kernel
  have hf25 := hts (.fieldLink RX11 25 "OneTimeModel" "row" "[I") (by decide +kernel)
  have hf71 := hts (.fieldLink RX11 71 "OneTimeModel" "setAt" "[I") (by decide +kernel)
  have hf80 := hts (.fieldLink RX11 80 "OneTimeModel" "best" "[I") (by decide +kernel)
  have hf83 := hts (.fieldLink RX11 83 "OneTimeModel" "thrown" "I") (by decide +kernel)
  have hf127 := hts (.fieldLink RX11 127 "OneTimeModel" "towers" "I") (by decide +kernel)
  have hf130 := hts (.fieldLink RX11 130 "OneTimeModel" "rows" "I") (by decide +kernel)
  have hf248 := hts (.fieldLink RX11 248 "OneTimeModel" "bestError" "I") (by decide +kernel)
  have hf251 := hts (.fieldLink RX11 251 "OneTimeModel" "bestEnd" "I") (by decide +kernel)
  have hk193 := hts (.constant RX11 193 1073741824) (by decide +kernel)
  have hk261 := hts (.constant RX11 261 576000) (by decide +kernel)
  unfold p_M_round at hp
  have hL124 : ∀ (mThr : Int32) (mRw : Int32) (mBE : Int32) (mBEn : Int32) (mOrd : Nat → Int32) (mBst : Nat → Int32) (v4 : Int32) (mRow : Nat → Int32), Lp2 (p_M_round_L124 mTn mTwN mSun mTwT mSetA mDri mThr mRw mBE mBEn mOrd mBst Q) v4 mRow → ∀ (H : Heap) (locs : List Loc) (ls : Array Slot), oW D (mT c) A s.heap s (wM q c mThr mTn mCk mRw mSt mTr mFM mFS mTpN mLw mAt mTwN mBE mBEn mSun mCkT mCkD mCkK mCkA mRow mStT mRun mUp mSta mSty mDly mTri mFnd mTap mLwT mLwD mLwO mLwM mTwT mSetA mDri mOrd mBst) H locs → lv_has ls 5 [(0, .ref (q 0)), (4, .int v4)] → W p l e { frames := 10, cells := 0, slots := 0, locals := 265 } s m args below meth cd H locs 0 0 Z (F0 m 124 ls []) := by
    intro mThr mRw mBE mBEn mOrd mBst
    refine Lp2.ind (fun rec hrec v4 mRow hp H locs ls ho hl => ?_)
    unfold p_M_round_L124 at hp
    refine lv_iload hx hb dX11_round_124 (lv_at hl 1 rfl) ?_
    refine lv_aload_n hx hb dX11_round_126 rfl (lv_at hl 0 rfl) ?_
    refine o_get (ci := 11) (T := TX11) hx hb hts hinX11 hown ho 0 rfl rfl 30 (by decide) hf127 rfl dX11_round_127 ?_
    refine lv_icmp_ge (tgt := 153) hx hb dX11_round_130 (by decide) (fun c_130 => ?_) (fun c_130 => ?_)
    · replace hp := hp.1 c_130
      refine lv_aload_n hx hb dX11_round_153 rfl (lv_at hl 0 rfl) ?_
      refine o_get (ci := 11) (T := TX11) hx hb hts hinX11 hown ho 0 rfl rfl 9 (by decide) hf25 rfl dX11_round_154 ?_
      refine lv_aload_n hx hb dX11_round_157 rfl (lv_at hl 0 rfl) ?_
      refine o_get (ci := 11) (T := TX11) hx hb hts hinX11 hown ho 0 rfl rfl 30 (by decide) hf127 rfl dX11_round_158 ?_
      refine lv_aload_n hx hb dX11_round_161 rfl (lv_at hl 0 rfl) ?_
      refine o_get (ci := 11) (T := TX11) hx hb hts hinX11 hown ho 0 rfl rfl 37 (by decide) hf251 rfl dX11_round_162 ?_
      refine o_ist hx hb ho 6 5 rfl rfl hp.1 dX11_round_165 (fun H locs ho => ?_)
      replace hp := hp.2
      replace ho : oW D (mT c) A s.heap s (wM q c mThr mTn mCk mRw mSt mTr mFM mFS mTpN mLw mAt mTwN mBE mBEn mSun mCkT mCkD mCkK mCkA (upd mRow mTwN.toNatClampNeg mBEn) mStT mRun mUp mSta mSty mDly mTri mFnd mTap mLwT mLwD mLwO mLwM mTwT mSetA mDri mOrd mBst) H locs := ho
      refine lv_aload_n hx hb dX11_round_166 rfl (lv_at hl 0 rfl) ?_
      refine o_get (ci := 11) (T := TX11) hx hb hts hinX11 hown ho 0 rfl rfl 36 (by decide) hf248 rfl dX11_round_167 ?_
      exact hret mBE (mThr, mRw, mBE, mBEn, upd mRow mTwN.toNatClampNeg mBEn, mOrd, mBst) _ _ _ _ dX11_round_170 ho hp
    · replace hp := hp.2 c_130
      refine lv_aload_n hx hb dX11_round_133 rfl (lv_at hl 0 rfl) ?_
      refine o_get (ci := 11) (T := TX11) hx hb hts hinX11 hown ho 0 rfl rfl 9 (by decide) hf25 rfl dX11_round_134 ?_
      refine lv_iload hx hb dX11_round_137 (lv_at hl 1 rfl) ?_
      refine lv_aload_n hx hb dX11_round_139 rfl (lv_at hl 0 rfl) ?_
      refine o_get (ci := 11) (T := TX11) hx hb hts hinX11 hown ho 0 rfl rfl 35 (by decide) hf80 rfl dX11_round_140 ?_
      refine lv_iload hx hb dX11_round_143 (lv_at hl 1 rfl) ?_
      refine o_ild hx hb ho 24 23 rfl rfl hp.1 dX11_round_145 ?_
      replace hp := hp.2
      refine o_ist hx hb ho 6 5 rfl rfl hp.1 dX11_round_146 (fun H locs ho => ?_)
      replace hp := hp.2
      replace ho : oW D (mT c) A s.heap s (wM q c mThr mTn mCk mRw mSt mTr mFM mFS mTpN mLw mAt mTwN mBE mBEn mSun mCkT mCkD mCkK mCkA (upd mRow v4.toNatClampNeg (mBst v4.toNatClampNeg)) mStT mRun mUp mSta mSty mDly mTri mFnd mTap mLwT mLwD mLwO mLwM mTwT mSetA mDri mOrd mBst) H locs := ho
      obtain ⟨x147, e_x147⟩ : ∃ y : Int32, y = v4 + 1 := ⟨_, rfl⟩
      replace hp := hp x147 e_x147
      refine lv_iinc (v := x147) (lv' := [(4, .int x147), (0, .ref (q 0))]) hx hb dX11_round_147 hl (k := 1) rfl (by rw [e_x147]; rfl) (by decide) rfl (fun ls hl => ?_)
      refine lv_goto (tgt := 124) hx hb dX11_round_150 (by decide) ?_
      exact hrec x147 (upd mRow v4.toNatClampNeg (mBst v4.toNatClampNeg)) hp _ _ _ ho (lv_sub hl [1, 0] rfl)
  have hL36 : ∀ (v1 : Int32) (v2 : Int32) (mThr : Int32) (mRw : Int32) (mBE : Int32) (mBEn : Int32) (mRow : Nat → Int32) (mOrd : Nat → Int32) (mBst : Nat → Int32) (v3 : Int32) (v4 : Int32), Lp2 (p_M_round_L36 mTn mTwN mSun mTwT mSetA mDri v1 v2 mThr mRw mBE mBEn mRow mOrd mBst Q) v3 v4 → ∀ (H : Heap) (locs : List Loc) (ls : Array Slot), oW D (mT c) A s.heap s (wM q c mThr mTn mCk mRw mSt mTr mFM mFS mTpN mLw mAt mTwN mBE mBEn mSun mCkT mCkD mCkK mCkA mRow mStT mRun mUp mSta mSty mDly mTri mFnd mTap mLwT mLwD mLwO mLwM mTwT mSetA mDri mOrd mBst) H locs → lv_has ls 5 [(0, .ref (q 0)), (1, .int v1), (2, .int v2), (3, .int v3), (4, .int v4)] → W p l e { frames := 10, cells := 0, slots := 0, locals := 265 } s m args below meth cd H locs 0 0 Z (F0 m 36 ls []) := by
    intro v1 v2 mThr mRw mBE mBEn mRow mOrd mBst
    refine Lp2.ind (fun rec hrec v3 v4 hp H locs ls ho hl => ?_)
    unfold p_M_round_L36 at hp
    refine lv_iload hx hb dX11_round_36 (lv_at hl 4 rfl) ?_
    refine lv_aload_n hx hb dX11_round_38 rfl (lv_at hl 0 rfl) ?_
    refine o_get (ci := 11) (T := TX11) hx hb hts hinX11 hown ho 0 rfl rfl 30 (by decide) hf127 rfl dX11_round_39 ?_
    refine lv_icmp_ge (tgt := 72) hx hb dX11_round_42 (by decide) (fun c_42 => ?_) (fun c_42 => ?_)
    · replace hp := hp.1 c_42
      refine lv_iload_n hx hb dX11_round_72 rfl (lv_at hl 3 rfl) ?_
      refine lv_if_ne (tgt := 78) hx hb dX11_round_73 (by decide) (fun c_73 => ?_) (fun c_73 => ?_)
      · replace hp := hp.2 c_73
        refine lv_aload_n hx hb dX11_round_78 rfl (lv_at hl 0 rfl) ?_
        refine lv_ldc (v := 1073741824) hx hb hown hk193 dX11_round_79 ?_
        refine o_put (ci := 11) (T := TX11) hx hb hts hinX11 tyX11_ok nmX11 hown ho 0 rfl rfl 36 (by decide) hf248 rfl (tyX11_ok 36 (by decide)) (Nat.le_of_ble_eq_true rfl) dX11_round_81 (fun H locs ho => ?_)
        replace ho : oW D (mT c) A s.heap s (wM q c mThr mTn mCk mRw mSt mTr mFM mFS mTpN mLw mAt mTwN 1073741824 mBEn mSun mCkT mCkD mCkK mCkA mRow mStT mRun mUp mSta mSty mDly mTri mFnd mTap mLwT mLwD mLwO mLwM mTwT mSetA mDri mOrd mBst) H locs := ho
        refine lv_aload_n hx hb dX11_round_84 rfl (lv_at hl 0 rfl) ?_
        refine lv_ldc (v := 1073741824) hx hb hown hk193 dX11_round_85 ?_
        refine o_put (ci := 11) (T := TX11) hx hb hts hinX11 tyX11_ok nmX11 hown ho 0 rfl rfl 37 (by decide) hf251 rfl (tyX11_ok 37 (by decide)) (Nat.le_of_ble_eq_true rfl) dX11_round_87 (fun H locs ho => ?_)
        replace ho : oW D (mT c) A s.heap s (wM q c mThr mTn mCk mRw mSt mTr mFM mFS mTpN mLw mAt mTwN 1073741824 1073741824 mSun mCkT mCkD mCkK mCkA mRow mStT mRun mUp mSta mSty mDly mTri mFnd mTap mLwT mLwD mLwO mLwM mTwT mSetA mDri mOrd mBst) H locs := ho
        refine lv_aload_n hx hb dX11_round_90 rfl (lv_at hl 0 rfl) ?_
        refine lv_iconst (v := 0) hx hb dX11_round_91 (by decide) ?_
        refine lv_iconst (v := 0) hx hb dX11_round_92 (by decide) ?_
        refine lv_iload_n hx hb dX11_round_93 rfl (lv_at hl 1 rfl) ?_
        refine lv_iload_n hx hb dX11_round_94 rfl (lv_at hl 2 rfl) ?_
        refine lv_iconst (v := 0) hx hb dX11_round_95 (by decide) ?_
        refine o_callVv (rest := []) (ci := 11) ⟨hx, hb, hml, hown, hts⟩ ho (c_M_goes l D q c 8 mThr mTn mCk mRw mSt mTr mFM mFS mTpN mLw mAt mTwN 1073741824 1073741824 mSun mCkT mCkD mCkK mCkA mRow mStT mRun mUp mSta mSty mDly mTri mFnd mTap mLwT mLwD mLwO mLwM mTwT mSetA mDri mOrd mBst 0 0 v1 v2 0 _ hp) (cwV 5 hts gX11_round_X11_goes rfl rfl rfl (by decide +kernel) ⟨(Nat.le_of_ble_eq_true rfl), (Nat.le_of_ble_eq_true rfl)⟩) 0 rfl rfl rfl hl.1 rfl (Nat.le_of_ble_eq_true rfl) dX11_round_96 ⟨Nat.zero_le _, Nat.zero_le _⟩ (fun u H locs hp ho => ?_)
        obtain ⟨mBE_96, mBEn_96, mOrd_96, mBst_96⟩ := u
        try dsimp only at hp
        replace ho : oW D (mT c) A s.heap s (wM q c mThr mTn mCk mRw mSt mTr mFM mFS mTpN mLw mAt mTwN mBE_96 mBEn_96 mSun mCkT mCkD mCkK mCkA mRow mStT mRun mUp mSta mSty mDly mTri mFnd mTap mLwT mLwD mLwO mLwM mTwT mSetA mDri mOrd_96 mBst_96) H locs := ho
        refine lv_aload_n hx hb dX11_round_99 rfl (lv_at hl 0 rfl) ?_
        refine o_get (ci := 11) (T := TX11) hx hb hts hinX11 hown ho 0 rfl rfl 37 (by decide) hf251 rfl dX11_round_100 ?_
        refine lv_ldcw (v := 576000) hx hb hown hk261 dX11_round_103 ?_
        refine lv_icmp_lt (tgt := 111) hx hb dX11_round_106 (by decide) (fun c_106 => ?_) (fun c_106 => ?_)
        · replace hp := hp.1 c_106
          refine lv_aload_n hx hb dX11_round_111 rfl (lv_at hl 0 rfl) ?_
          refine lv_aload_n hx hb dX11_round_112 rfl (lv_at hl 0 rfl) ?_
          refine o_get (ci := 11) (T := TX11) hx hb hts hinX11 hown ho 0 rfl rfl 30 (by decide) hf127 rfl dX11_round_113 ?_
          refine lv_iconst (v := 1) hx hb dX11_round_116 (by decide) ?_
          refine lv_iadd hx hb dX11_round_117 ?_
          refine lv_topi (fun x118 e_x118 => ?_)
          replace hp := hp x118 e_x118
          refine o_put (ci := 11) (T := TX11) hx hb hts hinX11 tyX11_ok nmX11 hown ho 0 rfl rfl 8 (by decide) hf130 rfl (tyX11_ok 8 (by decide)) (Nat.le_of_ble_eq_true rfl) dX11_round_118 (fun H locs ho => ?_)
          replace ho : oW D (mT c) A s.heap s (wM q c mThr mTn mCk x118 mSt mTr mFM mFS mTpN mLw mAt mTwN mBE_96 mBEn_96 mSun mCkT mCkD mCkK mCkA mRow mStT mRun mUp mSta mSty mDly mTri mFnd mTap mLwT mLwD mLwO mLwM mTwT mSetA mDri mOrd_96 mBst_96) H locs := ho
          refine lv_iconst (v := 0) hx hb dX11_round_121 (by decide) ?_
          refine lv_istore (lv' := [(4, .int 0), (0, .ref (q 0)), (1, .int v1), (2, .int v2), (3, .int v3)]) hx hb dX11_round_122 hl (by decide) rfl (fun ls hl => ?_)
          exact hL124 mThr x118 mBE_96 mBEn_96 mOrd_96 mBst_96 0 mRow hp _ _ _ ho (lv_sub hl [1, 0] rfl)
        · replace hp := hp.2 c_106
          refine lv_iconst (v := (-1)) hx hb dX11_round_109 (by decide) ?_
          exact hret (-1) (mThr, mRw, mBE_96, mBEn_96, mRow, mOrd_96, mBst_96) _ _ _ _ dX11_round_110 ho hp
      · replace hp := hp.1 c_73
        refine lv_iconst (v := (-1)) hx hb dX11_round_76 (by decide) ?_
        exact hret (-1) (mThr, mRw, mBE, mBEn, mRow, mOrd, mBst) _ _ _ _ dX11_round_77 ho hp
    · replace hp := hp.2 c_42
      refine lv_iload_n hx hb dX11_round_45 rfl (lv_at hl 3 rfl) ?_
      refine lv_if_eq (tgt := 64) hx hb dX11_round_46 (by decide) (fun c_46 => ?_) (fun c_46 => ?_)
      · replace hp := hp.1 c_46
        refine lv_iconst (v := 0) hx hb dX11_round_64 (by decide) ?_
        refine lv_istore_n (lv' := [(3, .int 0), (0, .ref (q 0)), (1, .int v1), (2, .int v2), (4, .int v4)]) hx hb dX11_round_65 rfl hl (by decide) rfl (fun ls hl => ?_)
        obtain ⟨x66, e_x66⟩ : ∃ y : Int32, y = v4 + 1 := ⟨_, rfl⟩
        replace hp := hp x66 e_x66
        refine lv_iinc (v := x66) (lv' := [(4, .int x66), (3, .int 0), (0, .ref (q 0)), (1, .int v1), (2, .int v2)]) hx hb dX11_round_66 hl (k := 4) rfl (by rw [e_x66]; rfl) (by decide) rfl (fun ls hl => ?_)
        refine lv_goto (tgt := 36) hx hb dX11_round_69 (by decide) ?_
        exact hrec 0 x66 hp _ _ _ ho (lv_sub hl [2, 3, 4, 1, 0] rfl)
      · replace hp := hp.2 c_46
        refine lv_aload_n hx hb dX11_round_49 rfl (lv_at hl 0 rfl) ?_
        refine o_get (ci := 11) (T := TX11) hx hb hts hinX11 hown ho 0 rfl rfl 32 (by decide) hf71 rfl dX11_round_50 ?_
        refine lv_iload hx hb dX11_round_53 (lv_at hl 4 rfl) ?_
        refine o_ild hx hb ho 21 20 rfl rfl hp.1 dX11_round_55 ?_
        replace hp := hp.2
        refine lv_iload_n hx hb dX11_round_56 rfl (lv_at hl 2 rfl) ?_
        refine lv_icmp_gt (tgt := 64) hx hb dX11_round_57 (by decide) (fun c_57 => ?_) (fun c_57 => ?_)
        · replace hp := hp.1 c_57
          refine lv_iconst (v := 0) hx hb dX11_round_64 (by decide) ?_
          refine lv_istore_n (lv' := [(3, .int 0), (0, .ref (q 0)), (1, .int v1), (2, .int v2), (4, .int v4)]) hx hb dX11_round_65 rfl hl (by decide) rfl (fun ls hl => ?_)
          obtain ⟨x66, e_x66⟩ : ∃ y : Int32, y = v4 + 1 := ⟨_, rfl⟩
          replace hp := hp x66 e_x66
          refine lv_iinc (v := x66) (lv' := [(4, .int x66), (3, .int 0), (0, .ref (q 0)), (1, .int v1), (2, .int v2)]) hx hb dX11_round_66 hl (k := 4) rfl (by rw [e_x66]; rfl) (by decide) rfl (fun ls hl => ?_)
          refine lv_goto (tgt := 36) hx hb dX11_round_69 (by decide) ?_
          exact hrec 0 x66 hp _ _ _ ho (lv_sub hl [2, 3, 4, 1, 0] rfl)
        · replace hp := hp.2 c_57
          refine lv_iconst (v := 1) hx hb dX11_round_60 (by decide) ?_
          refine lv_goto (tgt := 65) hx hb dX11_round_61 (by decide) ?_
          refine lv_istore_n (lv' := [(3, .int 1), (0, .ref (q 0)), (1, .int v1), (2, .int v2), (4, .int v4)]) hx hb dX11_round_65 rfl hl (by decide) rfl (fun ls hl => ?_)
          obtain ⟨x66, e_x66⟩ : ∃ y : Int32, y = v4 + 1 := ⟨_, rfl⟩
          replace hp := hp x66 e_x66
          refine lv_iinc (v := x66) (lv' := [(4, .int x66), (3, .int 1), (0, .ref (q 0)), (1, .int v1), (2, .int v2)]) hx hb dX11_round_66 hl (k := 4) rfl (by rw [e_x66]; rfl) (by decide) rfl (fun ls hl => ?_)
          refine lv_goto (tgt := 36) hx hb dX11_round_69 (by decide) ?_
          exact hrec 1 x66 hp _ _ _ ho (lv_sub hl [2, 3, 4, 1, 0] rfl)
  refine lv_aload_n hx hb dX11_round_0 rfl (lv_at hl 0 rfl) ?_
  refine lv_iconst (v := 0) hx hb dX11_round_1 (by decide) ?_
  refine o_put (ci := 11) (T := TX11) hx hb hts hinX11 tyX11_ok nmX11 hown ho 0 rfl rfl 0 (by decide) hf83 rfl (tyX11_ok 0 (by decide)) (Nat.le_of_ble_eq_true rfl) dX11_round_2 (fun H locs ho => ?_)
  replace ho : oW D (mT c) A s.heap s (wM q c 0 mTn mCk mRw mSt mTr mFM mFS mTpN mLw mAt mTwN mBE mBEn mSun mCkT mCkD mCkK mCkA mRow mStT mRun mUp mSta mSty mDly mTri mFnd mTap mLwT mLwD mLwO mLwM mTwT mSetA mDri mOrd mBst) H locs := ho
  refine lv_aload_n hx hb dX11_round_5 rfl (lv_at hl 0 rfl) ?_
  refine lv_iload_n hx hb dX11_round_6 rfl (lv_at hl 1 rfl) ?_
  refine o_callVi (rest := []) (ci := 11) ⟨hx, hb, hml, hown, hts⟩ ho (c_M_isTown l D q c 0 mTn mCk mRw mSt mTr mFM mFS mTpN mLw mAt mTwN mBE mBEn mSun mCkT mCkD mCkK mCkA mRow mStT mRun mUp mSta mSty mDly mTri mFnd mTap mLwT mLwD mLwO mLwM mTwT mSetA mDri mOrd mBst v1 _ hp) (cwV 1 hts gX11_round_X11_isTown rfl rfl rfl (by decide +kernel) ⟨(Nat.le_of_ble_eq_true rfl), (Nat.le_of_ble_eq_true rfl)⟩) 0 rfl rfl rfl hl.1 rfl (Nat.le_of_ble_eq_true rfl) dX11_round_7 ⟨Nat.zero_le _, Nat.zero_le _⟩ (fun r7 u H locs hp ho => ?_)
  try dsimp only at hp
  replace ho : oW D (mT c) A s.heap s (wM q c 0 mTn mCk mRw mSt mTr mFM mFS mTpN mLw mAt mTwN mBE mBEn mSun mCkT mCkD mCkK mCkA mRow mStT mRun mUp mSta mSty mDly mTri mFnd mTap mLwT mLwD mLwO mLwM mTwT mSetA mDri mOrd mBst) H locs := ho
  refine lv_if_eq (tgt := 31) hx hb dX11_round_10 (by decide) (fun c_10 => ?_) (fun c_10 => ?_)
  · replace hp := hp.1 c_10
    refine lv_iconst (v := 0) hx hb dX11_round_31 (by decide) ?_
    refine lv_istore_n (lv' := [(3, .int 0), (0, .ref (q 0)), (1, .int v1), (2, .int v2)]) hx hb dX11_round_32 rfl hl (by decide) rfl (fun ls hl => ?_)
    refine lv_iconst (v := 0) hx hb dX11_round_33 (by decide) ?_
    refine lv_istore (lv' := [(4, .int 0), (3, .int 0), (0, .ref (q 0)), (1, .int v1), (2, .int v2)]) hx hb dX11_round_34 hl (by decide) rfl (fun ls hl => ?_)
    exact hL36 v1 v2 0 mRw mBE mBEn mRow mOrd mBst 0 0 hp _ _ _ ho (lv_sub hl [2, 3, 4, 1, 0] rfl)
  · replace hp := hp.2 c_10
    refine lv_iload_n hx hb dX11_round_13 rfl (lv_at hl 2 rfl) ?_
    refine o_callSi (rest := []) ⟨hx, hb, hml, hown, hts⟩ ho (c_M_isMinute l D (mT c) (wM q c 0 mTn mCk mRw mSt mTr mFM mFS mTpN mLw mAt mTwN mBE mBEn mSun mCkT mCkD mCkK mCkA mRow mStT mRun mUp mSta mSty mDly mTri mFnd mTap mLwT mLwD mLwO mLwM mTwT mSetA mDri mOrd mBst) v2 _ hp) (va_cwS 1 hts gX11_round_X11_isMinute rfl rfl rfl (by decide +kernel) ⟨(Nat.le_of_ble_eq_true rfl), (Nat.le_of_ble_eq_true rfl)⟩) rfl hl.1 rfl (Nat.le_of_ble_eq_true rfl) dX11_round_14 ⟨Nat.zero_le _, Nat.zero_le _⟩ (fun r14 u H locs hp ho => ?_)
    try dsimp only at hp
    replace ho : oW D (mT c) A s.heap s (wM q c 0 mTn mCk mRw mSt mTr mFM mFS mTpN mLw mAt mTwN mBE mBEn mSun mCkT mCkD mCkK mCkA mRow mStT mRun mUp mSta mSty mDly mTri mFnd mTap mLwT mLwD mLwO mLwM mTwT mSetA mDri mOrd mBst) H locs := ho
    refine lv_if_eq (tgt := 31) hx hb dX11_round_17 (by decide) (fun c_17 => ?_) (fun c_17 => ?_)
    · replace hp := hp.1 c_17
      refine lv_iconst (v := 0) hx hb dX11_round_31 (by decide) ?_
      refine lv_istore_n (lv' := [(3, .int 0), (0, .ref (q 0)), (1, .int v1), (2, .int v2)]) hx hb dX11_round_32 rfl hl (by decide) rfl (fun ls hl => ?_)
      refine lv_iconst (v := 0) hx hb dX11_round_33 (by decide) ?_
      refine lv_istore (lv' := [(4, .int 0), (3, .int 0), (0, .ref (q 0)), (1, .int v1), (2, .int v2)]) hx hb dX11_round_34 hl (by decide) rfl (fun ls hl => ?_)
      exact hL36 v1 v2 0 mRw mBE mBEn mRow mOrd mBst 0 0 hp _ _ _ ho (lv_sub hl [2, 3, 4, 1, 0] rfl)
    · replace hp := hp.2 c_17
      refine lv_aload_n hx hb dX11_round_20 rfl (lv_at hl 0 rfl) ?_
      refine o_get (ci := 11) (T := TX11) hx hb hts hinX11 hown ho 0 rfl rfl 30 (by decide) hf127 rfl dX11_round_21 ?_
      refine lv_if_le (tgt := 31) hx hb dX11_round_24 (by decide) (fun c_24 => ?_) (fun c_24 => ?_)
      · replace hp := hp.1 c_24
        refine lv_iconst (v := 0) hx hb dX11_round_31 (by decide) ?_
        refine lv_istore_n (lv' := [(3, .int 0), (0, .ref (q 0)), (1, .int v1), (2, .int v2)]) hx hb dX11_round_32 rfl hl (by decide) rfl (fun ls hl => ?_)
        refine lv_iconst (v := 0) hx hb dX11_round_33 (by decide) ?_
        refine lv_istore (lv' := [(4, .int 0), (3, .int 0), (0, .ref (q 0)), (1, .int v1), (2, .int v2)]) hx hb dX11_round_34 hl (by decide) rfl (fun ls hl => ?_)
        exact hL36 v1 v2 0 mRw mBE mBEn mRow mOrd mBst 0 0 hp _ _ _ ho (lv_sub hl [2, 3, 4, 1, 0] rfl)
      · replace hp := hp.2 c_24
        refine lv_iconst (v := 1) hx hb dX11_round_27 (by decide) ?_
        refine lv_goto (tgt := 32) hx hb dX11_round_28 (by decide) ?_
        refine lv_istore_n (lv' := [(3, .int 1), (0, .ref (q 0)), (1, .int v1), (2, .int v2)]) hx hb dX11_round_32 rfl hl (by decide) rfl (fun ls hl => ?_)
        refine lv_iconst (v := 0) hx hb dX11_round_33 (by decide) ?_
        refine lv_istore (lv' := [(4, .int 0), (3, .int 1), (0, .ref (q 0)), (1, .int v1), (2, .int v2)]) hx hb dX11_round_34 hl (by decide) rfl (fun ls hl => ?_)
        exact hL36 v1 v2 0 mRw mBE mBEn mRow mOrd mBst 1 0 hp _ _ _ ho (lv_sub hl [2, 3, 4, 1, 0] rfl)
set_option maxHeartbeats 4000000 in
set_option maxRecDepth 100000 in
theorem c_M_row (l : Launch) (D : va_G) (q : Nat → Nat) (c : Nat → ClassId) (mThr : Int32) (mTn : Int32) (mCk : Int32) (mRw : Int32) (mSt : Int32) (mTr : Int32) (mFM : Int32) (mFS : Int32) (mTpN : Int32) (mLw : Int32) (mAt : Int32) (mTwN : Int32) (mBE : Int32) (mBEn : Int32) (mSun : Nat → Int32) (mCkT : Nat → Int32) (mCkD : Nat → Int32) (mCkK : Nat → Int32) (mCkA : Nat → Int32) (mRow : Nat → Int32) (mStT : Nat → Int32) (mRun : Nat → Int32) (mUp : Nat → Int32) (mSta : Nat → Int32) (mSty : Nat → Int32) (mDly : Nat → Int32) (mTri : Nat → Int32) (mFnd : Nat → Int32) (mTap : Nat → Int32) (mLwT : Nat → Int32) (mLwD : Nat → Int32) (mLwO : Nat → Int32) (mLwM : Nat → Int32) (mTwT : Nat → Int32) (mSetA : Nat → Int32) (mDri : Nat → Int32) (mOrd : Nat → Int32) (mBst : Nat → Int32) (v1 : Int32) (Q : Int32 → Int32 → Prop) (hp : p_M_row mRw mRow mThr v1 Q) : oKi l yX11_row wsX11_row { frames := 1, cells := 0, slots := 0, locals := 25 } [.ref (q 0), .int v1] D (mT c) (wM q c mThr mTn mCk mRw mSt mTr mFM mFS mTpN mLw mAt mTwN mBE mBEn mSun mCkT mCkD mCkK mCkA mRow mStT mRun mUp mSta mSty mDly mTri mFnd mTap mLwT mLwD mLwO mLwM mTwT mSetA mDri mOrd mBst) (Int32) (fun r (u : Int32) => Q r u) (fun u => wM q c u mTn mCk mRw mSt mTr mFM mFS mTpN mLw mAt mTwN mBE mBEn mSun mCkT mCkD mCkK mCkA mRow mStT mRun mUp mSta mSty mDly mTri mFnd mTap mLwT mLwD mLwO mLwM mTwT mSetA mDri mOrd mBst) := by
  refine oKi.ofW (own := RX11) (cc := cX11_row) (maxL := 2) (plainFor_of_name (by decide +kernel)) rfl rfl (Nat.le_of_ble_eq_true rfl) (fun p e s m args below meth cd A ls Z hx hb hml hown hts hret ho hl => ?_)
  replace hl : lv_has ls 2 [(0, .ref (q 0)), (1, .int v1)] := hl
  have hinX11 : ∀ w ∈ u_ws RX11 TX11 38, w ∈ wsX11_row := by decide +kernel
  have hf25 := hts (.fieldLink RX11 25 "OneTimeModel" "row" "[I") (by decide +kernel)
  have hf83 := hts (.fieldLink RX11 83 "OneTimeModel" "thrown" "I") (by decide +kernel)
  have hf130 := hts (.fieldLink RX11 130 "OneTimeModel" "rows" "I") (by decide +kernel)
  unfold p_M_row at hp
  refine lv_aload_n hx hb dX11_row_0 rfl (lv_at hl 0 rfl) ?_
  refine lv_iconst (v := 0) hx hb dX11_row_1 (by decide) ?_
  refine o_put (ci := 11) (T := TX11) hx hb hts hinX11 tyX11_ok nmX11 hown ho 0 rfl rfl 0 (by decide) hf83 rfl (tyX11_ok 0 (by decide)) (Nat.le_of_ble_eq_true rfl) dX11_row_2 (fun H locs ho => ?_)
  replace ho : oW D (mT c) A s.heap s (wM q c 0 mTn mCk mRw mSt mTr mFM mFS mTpN mLw mAt mTwN mBE mBEn mSun mCkT mCkD mCkK mCkA mRow mStT mRun mUp mSta mSty mDly mTri mFnd mTap mLwT mLwD mLwO mLwM mTwT mSetA mDri mOrd mBst) H locs := ho
  refine lv_iload_n hx hb dX11_row_5 rfl (lv_at hl 1 rfl) ?_
  refine lv_i2l (v := ((v1 : Int32).toInt64)) hx hb dX11_row_6 rfl ?_
  refine lv_lconst (v := 0) hx hb dX11_row_7 (by decide) ?_
  refine lv_aload_n hx hb dX11_row_8 rfl (lv_at hl 0 rfl) ?_
  refine o_get (ci := 11) (T := TX11) hx hb hts hinX11 hown ho 0 rfl rfl 8 (by decide) hf130 rfl dX11_row_9 ?_
  refine lv_iconst (v := 1) hx hb dX11_row_12 (by decide) ?_
  refine lv_isub hx hb dX11_row_13 ?_
  refine lv_i2l (v := ((mRw - 1 : Int32).toInt64)) hx hb dX11_row_14 rfl ?_
  refine o_callSi (rest := []) ⟨hx, hb, hml, hown, hts⟩ ho (c_M_in l D (mT c) (wM q c 0 mTn mCk mRw mSt mTr mFM mFS mTpN mLw mAt mTwN mBE mBEn mSun mCkT mCkD mCkK mCkA mRow mStT mRun mUp mSta mSty mDly mTri mFnd mTap mLwT mLwD mLwO mLwM mTwT mSetA mDri mOrd mBst) ((v1 : Int32).toInt64) 0 ((mRw - 1 : Int32).toInt64) _ hp) (va_cwS 3 hts gX11_row_X11_in rfl rfl rfl (by decide +kernel) ⟨(Nat.le_of_ble_eq_true rfl), (Nat.le_of_ble_eq_true rfl)⟩) rfl hl.1 rfl (Nat.le_of_ble_eq_true rfl) dX11_row_15 ⟨Nat.zero_le _, Nat.zero_le _⟩ (fun r15 u H locs hp ho => ?_)
  try dsimp only at hp
  replace ho : oW D (mT c) A s.heap s (wM q c 0 mTn mCk mRw mSt mTr mFM mFS mTpN mLw mAt mTwN mBE mBEn mSun mCkT mCkD mCkK mCkA mRow mStT mRun mUp mSta mSty mDly mTri mFnd mTap mLwT mLwD mLwO mLwM mTwT mSetA mDri mOrd mBst) H locs := ho
  refine lv_if_eq (tgt := 30) hx hb dX11_row_18 (by decide) (fun c_18 => ?_) (fun c_18 => ?_)
  · replace hp := hp.1 c_18
    refine lv_aload_n hx hb dX11_row_30 rfl (lv_at hl 0 rfl) ?_
    refine o_callVi (rest := []) (ci := 11) ⟨hx, hb, hml, hown, hts⟩ ho (c_M_refuse l D q c 0 mTn mCk mRw mSt mTr mFM mFS mTpN mLw mAt mTwN mBE mBEn mSun mCkT mCkD mCkK mCkA mRow mStT mRun mUp mSta mSty mDly mTri mFnd mTap mLwT mLwD mLwO mLwM mTwT mSetA mDri mOrd mBst  _ hp) (cwV 0 hts gX11_row_X11_refuse rfl rfl rfl (by decide +kernel) ⟨(Nat.le_of_ble_eq_true rfl), (Nat.le_of_ble_eq_true rfl)⟩) 0 rfl rfl rfl hl.1 rfl (Nat.le_of_ble_eq_true rfl) dX11_row_31 ⟨Nat.zero_le _, Nat.zero_le _⟩ (fun r31 u H locs hp ho => ?_)
    obtain ⟨mThr_31, rfl⟩ : ∃ z, z = u := ⟨_, rfl⟩
    try dsimp only at hp
    replace ho : oW D (mT c) A s.heap s (wM q c mThr_31 mTn mCk mRw mSt mTr mFM mFS mTpN mLw mAt mTwN mBE mBEn mSun mCkT mCkD mCkK mCkA mRow mStT mRun mUp mSta mSty mDly mTri mFnd mTap mLwT mLwD mLwO mLwM mTwT mSetA mDri mOrd mBst) H locs := ho
    exact hret r31 mThr_31 _ _ _ _ dX11_row_34 ho hp
  · replace hp := hp.2 c_18
    refine lv_aload_n hx hb dX11_row_21 rfl (lv_at hl 0 rfl) ?_
    refine o_get (ci := 11) (T := TX11) hx hb hts hinX11 hown ho 0 rfl rfl 9 (by decide) hf25 rfl dX11_row_22 ?_
    refine lv_iload_n hx hb dX11_row_25 rfl (lv_at hl 1 rfl) ?_
    refine o_ild hx hb ho 6 5 rfl rfl hp.1 dX11_row_26 ?_
    replace hp := hp.2
    refine lv_goto (tgt := 34) hx hb dX11_row_27 (by decide) ?_
    exact hret (mRow v1.toNatClampNeg) 0 _ _ _ _ dX11_row_34 ho hp
