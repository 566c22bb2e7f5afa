set_option maxHeartbeats 600000
theorem tk_t {c A B : Prop} (h : c) (a : A) : (¬ c → B) ∧ (c → A) := ⟨fun g => absurd h g, fun _ => a⟩
theorem tk_f {c A B : Prop} (h : ¬ c) (b : B) : (¬ c → B) ∧ (c → A) := ⟨fun _ => b, fun g => absurd g h⟩
theorem k_clockM {tn ck a1 a2 a3 a4 thr : Int32} {mCkT mCkD mCkK mCkA : Nat → Int32} {Q : Int32 → Int32 → Int32 → (Nat → Int32) → (Nat → Int32) → (Nat → Int32) → (Nat → Int32) → Prop} (hn : 0 ≤ tn.toInt) (hk : 0 ≤ ck.toInt ∧ ck.toInt ≤ 60)
    (q1 : ((0 ≤ a1.toInt ∧ a1.toInt < tn.toInt) ∧ (0 ≤ a2.toInt ∧ a2.toInt < 400) ∧ (a3.toInt = 0 ∨ (a3.toInt = 1 ∧ -12 ≤ a4.toInt ∧ a4.toInt ≤ 12) ∨ (a3.toInt = 2 ∧ (0 ≤ a4.toInt ∧ a4.toInt < tn.toInt) ∧ ¬ a4.toInt = a1.toInt)) ∧ ck.toInt < 60) → Q (ck + 1) 0 (ck + 1) (upd mCkT ck.toNatClampNeg a1) (upd mCkD ck.toNatClampNeg a2) (upd mCkK ck.toNatClampNeg a3) (upd mCkA ck.toNatClampNeg a4))
    (q0 : ¬ ((0 ≤ a1.toInt ∧ a1.toInt < tn.toInt) ∧ (0 ≤ a2.toInt ∧ a2.toInt < 400) ∧ (a3.toInt = 0 ∨ (a3.toInt = 1 ∧ -12 ≤ a4.toInt ∧ a4.toInt ≤ 12) ∨ (a3.toInt = 2 ∧ (0 ≤ a4.toInt ∧ a4.toInt < tn.toInt) ∧ ¬ a4.toInt = a1.toInt)) ∧ ck.toInt < 60) → Q (-1) 0 ck mCkT mCkD mCkK mCkA) : p_M_clock tn thr ck mCkT mCkD mCkK mCkA a1 a2 a3 a4 Q := by
  simp only [p_M_clock, p_M_clock_J46, p_M_clock_J73, p_M_clock_J98, k_isTown hn, bi0, bi01, true_and, and_true, not_true_eq_false, not_false_eq_true, false_implies, true_implies, true_or, or_true, Classical.not_not, forall_eq, ti_as, k_has, k_isDay, k_isMinute, k_isTimeOfDay, k_isMatter, k_hasStation, k_hasTrain, k_TwHas, k_inw, k_mDay, k_mMinute]
  simp only [ti_lt, ti_le, ti_eq, true_and, and_true, not_true_eq_false, not_false_eq_true, false_implies, true_implies, c_0, c_1, c_2, c_3, c_4, c_5, c_6, c_7, c_8, c_10, c_12, c_16, c_20, c_24, c_26, c_30, c_31, c_39, c_40, c_41, c_43, c_45, c_48, c_57, c_59, c_60, c_61, c_64, c_96, c_97, c_99, c_100, c_102, c_108, c_122, c_127, c_255, c_399, c_400, c_448, c_576720, c_600, c_720, c_1439, c_1440, c_575999, c_576000, c_1073741824, c_2147483647, c_m1, c_m6, c_m8, c_m12, c_m41, c_m100, c_m600, c_m720, e_0, e_1, e_2, e_5, e_12, e_m12, e_30, e_60, e_399, e_600, e_m600, e_720, e_m720, e_1439, e_1440, e_575999, o_60, o_20]
  repeat' (first | (exfalso; omega) | exact q1 (by omega) | exact q0 (by omega) | (refine ti_in ?_ ?_ <;> omega) | constructor | intro _)
theorem k_clockO {tn ck a1 a2 a3 a4 : Int32} {suns ckT ckD shf : Nat → Int32} {Q : Int32 → Int32 → (Nat → Int32) → (Nat → Int32) → (Nat → Int32) → Prop} (hn : 0 ≤ tn.toInt ∧ tn.toInt ≤ 16) (hk : 0 ≤ ck.toInt ∧ ck.toInt ≤ 60)
    (q1 : ((0 ≤ a1.toInt ∧ a1.toInt < tn.toInt) ∧ (0 ≤ a2.toInt ∧ a2.toInt < 400) ∧ (a3.toInt = 0 ∨ (a3.toInt = 1 ∧ -12 ≤ a4.toInt ∧ a4.toInt ≤ 12) ∨ (a3.toInt = 2 ∧ (0 ≤ a4.toInt ∧ a4.toInt < tn.toInt) ∧ ¬ a4.toInt = a1.toInt)) ∧ ck.toInt < 60) → ∀ z : Int32, ((a3 = 0 ∧ z = suns a1.toNatClampNeg) ∨ (a3 = 1 ∧ z = 60 * a4 ∧ -12 ≤ a4.toInt ∧ a4.toInt ≤ 12) ∨ (a3 = 2 ∧ (0 ≤ a4.toInt ∧ a4.toInt < tn.toInt) ∧ z = suns a4.toNatClampNeg)) → Q (ck + 1) (ck + 1) (upd ckT ck.toNatClampNeg a1) (upd ckD ck.toNatClampNeg a2) (upd shf ck.toNatClampNeg z))
    (q0 : ¬ ((0 ≤ a1.toInt ∧ a1.toInt < tn.toInt) ∧ (0 ≤ a2.toInt ∧ a2.toInt < 400) ∧ (a3.toInt = 0 ∨ (a3.toInt = 1 ∧ -12 ≤ a4.toInt ∧ a4.toInt ≤ 12) ∨ (a3.toInt = 2 ∧ (0 ≤ a4.toInt ∧ a4.toInt < tn.toInt) ∧ ¬ a4.toInt = a1.toInt)) ∧ ck.toInt < 60) → Q (-1) ck ckT ckD shf) : p_O_clock tn suns ck ckT ckD shf a1 a2 a3 a4 Q := by
  simp only [p_O_clock, k_has, k_isDay, bi0, Classical.not_not]
  by_cases h1 : 0 ≤ a1.toInt ∧ a1.toInt < tn.toInt
  case neg => exact tk_f h1 (q0 (by omega))
  by_cases h2 : 0 ≤ a2.toInt ∧ a2.toInt < 400
  case neg => exact tk_t h1 (tk_f h2 (q0 (by omega)))
  refine tk_t h1 (tk_t h2 ?_)
  by_cases h3 : ck.toInt < 60
  · have ad := fun (v1 v2 : Int32) (QQ : Int32 → (Nat → Int32) → (Nat → Int32) → Prop) => k_SiAdd (sT := ckT) (sD := ckD) (v1 := v1) (v2 := v2) (Q := QQ) (n := 60) (by decide) hk.1 h3
    simp only [p_Tn_isClock, p_Tn_shiftOfKind, p_Tn_tellClock, p_Tn_sunOf, k_isFull (n := 60) (by decide), ad, bi0, bi01, true_and, and_true, not_true_eq_false, not_false_eq_true, false_implies, true_implies, true_or, or_true, Classical.not_not, forall_eq, ti_as, k_has, k_isDay, k_isMinute, k_isTimeOfDay, k_isMatter, k_hasStation, k_hasTrain, k_TwHas, k_inw, k_mDay, k_mMinute]
    simp only [ti_lt, ti_le, ti_eq, true_and, and_true, not_true_eq_false, not_false_eq_true, false_implies, true_implies, c_0, c_1, c_2, c_3, c_4, c_5, c_6, c_7, c_8, c_10, c_12, c_16, c_20, c_24, c_26, c_30, c_31, c_39, c_40, c_41, c_43, c_45, c_48, c_57, c_59, c_60, c_61, c_64, c_96, c_97, c_99, c_100, c_102, c_108, c_122, c_127, c_255, c_399, c_400, c_448, c_576720, c_600, c_720, c_1439, c_1440, c_575999, c_576000, c_1073741824, c_2147483647, c_m1, c_m6, c_m8, c_m12, c_m41, c_m100, c_m600, c_m720, e_0, e_1, e_2, e_5, e_12, e_m12, e_30, e_60, e_399, e_600, e_m600, e_720, e_m720, e_1439, e_1440, e_575999, o_60, o_20]
    repeat' (first | (exfalso; omega) | exact q0 (by omega) | exact q1 (by omega) _ (Or.inl ⟨ti_eq.mpr (by rw [c_0]; omega), rfl⟩) | exact q1 (by omega) _ (Or.inr (Or.inl ⟨ti_eq.mpr (by rw [c_1]; omega), rfl, by omega, by omega⟩)) | exact q1 (by omega) _ (Or.inr (Or.inr ⟨ti_eq.mpr (by rw [c_2]; omega), by omega, rfl⟩)) | (refine ti_in ?_ ?_ <;> omega) | constructor | intro _)
  · simp only [p_Tn_isClock, p_Tn_shiftOfKind, p_Tn_tellClock, p_Tn_sunOf, k_isFull (n := 60) (by decide), bi0, bi01, true_and, and_true, not_true_eq_false, not_false_eq_true, false_implies, true_implies, true_or, or_true, Classical.not_not, forall_eq, ti_as, k_has, k_isDay, k_isMinute, k_isTimeOfDay, k_isMatter, k_hasStation, k_hasTrain, k_TwHas, k_inw, k_mDay, k_mMinute]
    simp only [ti_lt, ti_le, ti_eq, true_and, and_true, not_true_eq_false, not_false_eq_true, false_implies, true_implies, c_0, c_1, c_2, c_3, c_4, c_5, c_6, c_7, c_8, c_10, c_12, c_16, c_20, c_24, c_26, c_30, c_31, c_39, c_40, c_41, c_43, c_45, c_48, c_57, c_59, c_60, c_61, c_64, c_96, c_97, c_99, c_100, c_102, c_108, c_122, c_127, c_255, c_399, c_400, c_448, c_576720, c_600, c_720, c_1439, c_1440, c_575999, c_576000, c_1073741824, c_2147483647, c_m1, c_m6, c_m8, c_m12, c_m41, c_m100, c_m600, c_m720, e_0, e_1, e_2, e_5, e_12, e_m12, e_30, e_60, e_399, e_600, e_m600, e_720, e_m720, e_1439, e_1440, e_575999, o_60, o_20]
    repeat' (first | (exfalso; omega) | exact q0 (by omega) | (refine ti_in ?_ ?_ <;> omega) | constructor | intro _)
theorem s_clock : st_clock RR := by
  intro mThr mTn mCk mRw mSt mTr mFM mFS mTpN mLw mAt mTwN mBE mBEn mSun mCkT mCkD mCkK mCkA mRow mStT mRun mUp mSta mSty mDly mTri mFnd mTap mLwT mLwD mLwO mLwM mTwT mSetA mDri mOrd mBst tnN ckN stN trN dsT dsC tpN lwN rdS rdM rdE rdD twN rsW rsE rwN suns ckT ckD shf lnT ways ups sts sty dly gAp gOp stp bst sgn lwT lwD rdT rdO lwK lwM twS twM twD rsO rsB rwA hR a1 a2 a3 a4 
  obtain ⟨hTn, hCk, hLn, hTp, hLw, hTw, hRw⟩ := id hR
  obtain ⟨e1, hb, hq⟩ := id hCk
  obtain ⟨e2, hb2, hq2⟩ := id hTn
  subst e1
  subst e2
  have hN : ∀ z : Int32, (0 ≤ a1.toInt ∧ a1.toInt < mTn.toInt) → (0 ≤ a2.toInt ∧ a2.toInt < 400) → mCk.toInt < 60 →
      ((a3 = 0 ∧ z = suns a1.toNatClampNeg) ∨ (a3 = 1 ∧ z = 60 * a4 ∧ -12 ≤ a4.toInt ∧ a4.toInt ≤ 12) ∨ (a3 = 2 ∧ (0 ≤ a4.toInt ∧ a4.toInt < mTn.toInt) ∧ z = suns a4.toNatClampNeg)) →
      RR (0) (mTn) (mCk + 1) mRw mSt mTr mFM mFS mTpN mLw mAt mTwN mBE mBEn mSun (upd mCkT mCk.toNatClampNeg a1) (upd mCkD mCk.toNatClampNeg a2) (upd mCkK mCk.toNatClampNeg a3) (upd mCkA mCk.toNatClampNeg a4) mRow mStT mRun mUp mSta mSty mDly mTri mFnd mTap mLwT mLwD mLwO mLwM mTwT mSetA mDri mOrd mBst (mTn) (mCk + 1) stN trN dsT dsC tpN lwN rdS rdM rdE rdD twN rsW rsE rwN suns (upd ckT mCk.toNatClampNeg a1) (upd ckD mCk.toNatClampNeg a2) (upd shf mCk.toNatClampNeg z) lnT ways ups sts sty dly gAp gOp stp bst sgn lwT lwD rdT rdO lwK lwM twS twM twD rsO rsB rwA := by
    intro z h1 h2 h3 h4
    have hs := ti_a1 (x := mCk) (by omega)
    refine ⟨hTn, ⟨rfl, by omega, fun i hi => ?_⟩, hLn, hTp, hLw, hTw, hRw⟩
    by_cases hi2 : (i : Int) < mCk.toInt
    · have ne : i ≠ mCk.toNatClampNeg := by rw [ti_c]; omega
      rw [ti_un ne, ti_un ne, ti_un ne, ti_un ne, ti_un ne, ti_un ne, ti_un ne]
      exact hq i hi2
    · have ei : i = mCk.toNatClampNeg := by rw [ti_c]; omega
      subst ei
      rw [ti_up, ti_up, ti_up, ti_up, ti_up, ti_up, ti_up]
      exact ⟨rfl, rfl, h1, h2, h4⟩
  exact k_clockO hb2 hb (fun c z hz => k_clockM hb2.1 hb (fun _ => ⟨rfl, hN z c.1 c.2.1 c.2.2.2 hz⟩) (fun g => absurd c g)) (fun c => k_clockM hb2.1 hb (fun g => absurd g c) (fun _ => ⟨rfl, hR⟩))
theorem s_read : st_read RR := by
  intro mThr mTn mCk mRw mSt mTr mFM mFS mTpN mLw mAt mTwN mBE mBEn mSun mCkT mCkD mCkK mCkA mRow mStT mRun mUp mSta mSty mDly mTri mFnd mTap mLwT mLwD mLwO mLwM mTwT mSetA mDri mOrd mBst tnN ckN stN trN dsT dsC tpN lwN rdS rdM rdE rdD twN rsW rsE rwN suns ckT ckD shf lnT ways ups sts sty dly gAp gOp stp bst sgn lwT lwD rdT rdO lwK lwM twS twM twD rsO rsB rwA hR out a1 a2 
  obtain ⟨hTn, hCk, hLn, hTp, hLw, hTw, hRw⟩ := id hR
  obtain ⟨e2, hb2, hq2⟩ := id hTn
  subst e2
  simp only [p_O_read, p_Tn_readingAt, p_M_read, p_M_read_J35, p_M_refuse, k_isTown hb2.1, ou_0, bi0, bi01, true_and, and_true, not_true_eq_false, not_false_eq_true, false_implies, true_implies, true_or, or_true, Classical.not_not, forall_eq, ti_as, k_has, k_isDay, k_isMinute, k_isTimeOfDay, k_isMatter, k_hasStation, k_hasTrain, k_TwHas, k_inw, k_mDay, k_mMinute]
  by_cases h1 : 0 ≤ a1.toInt ∧ a1.toInt < mTn.toInt
  · by_cases h2 : 0 ≤ a2.toInt ∧ a2.toInt < 576000
    · exact tk_t h1 (tk_t h2 (k_shiftOn hTn hCk h1 (tk_t h1 (tk_t h2 (k_ahead hTn hCk h1 (by first | exact ⟨rfl, fun _ => rfl, hR⟩ | exact ⟨rfl, rfl, hR⟩ | exact ⟨fun _ => rfl, hR⟩ | exact ⟨rfl, hR⟩ | exact hR))))))
    · exact tk_t h1 (tk_f h2 (tk_t h1 (tk_f h2 (by first | exact ⟨rfl, fun g => absurd g i10, hR⟩ | exact ⟨fun g => absurd g i10, hR⟩ | exact hR))))
  · exact tk_f h1 (tk_f h1 (by first | exact ⟨rfl, fun g => absurd g i10, hR⟩ | exact ⟨fun g => absurd g i10, hR⟩ | exact hR))
/-! division, signs, longs -/
theorem ti_xor (x y : Int32) : (x ^^^ y).toInt < 0 ↔ ¬ (x.toInt < 0 ↔ y.toInt < 0) := by
  have h : ∀ z : Int32, z.toInt < 0 ↔ z.toBitVec.msb = true := fun z => by
    show z.toBitVec.toInt < 0 ↔ _
    rw [BitVec.msb_eq_toInt]
    exact ⟨fun q => decide_eq_true q, fun q => of_decide_eq_true q⟩
  rw [h, h, h, Int32.toBitVec_xor, BitVec.msb_xor]
  cases x.toBitVec.msb <;> cases y.toBitVec.msb <;> simp
theorem td_p {z b : Int} (h : 0 ≤ z) : z.tdiv b = z / b := Int.tdiv_eq_ediv_of_nonneg h
theorem td_n {z b : Int} (h : z < 0) : z.tdiv b = -((-z) / b) := by
  have e := Int.neg_tdiv (a := -z) (b := b)
  rw [Int.neg_neg] at e
  rw [e, td_p (by omega)]
theorem ti_div (x : Int32) {y : Int32} (hy : 2 ≤ y.toInt) : (x / y).toInt = x.toInt.tdiv y.toInt := by
  have hr := ti_r x
  rw [Int32.toInt_div]
  by_cases h : 0 ≤ x.toInt
  · rw [td_p h]
    have h1 := Int.ediv_nonneg h (show 0 ≤ y.toInt by omega)
    have h2 := Int.ediv_le_self y.toInt h
    exact ti_bm (by omega) (by omega)
  · rw [td_n (by omega)]
    have h1 := Int.ediv_nonneg (show 0 ≤ -x.toInt by omega) (show 0 ≤ y.toInt by omega)
    have h2 := Int.ediv_le_self y.toInt (show 0 ≤ -x.toInt by omega)
    exact ti_bm (by omega) (by omega)
theorem k_fd1440 {x : Int32} {Q : Int32 → Prop} (q : ∀ z : Int32, z.toInt = x.toInt / 1440 → Q z) : p_Jm_floorDiv x 1440 Q := by
  unfold p_Jm_floorDiv
  simp only [forall_eq]
  have hr := ti_r x
  have hc := c_1440
  have h1 := c_1
  have hx := ti_xor x 1440
  have hd := ti_div x (y := 1440) (by rw [hc]; omega)
  rw [hc] at hd hx
  refine ⟨by decide, fun g => ?_, fun g => ⟨fun g2 => ?_, fun g2 => ?_⟩⟩
  · rw [ti_le, c_0] at g
    rw [td_p (by omega)] at hd
    exact q _ hd
  · rw [ti_le, c_0] at g
    rw [td_n (by omega)] at hd
    have hm : ((x / 1440) * 1440).toInt = (x / 1440).toInt * 1440 := by rw [ti_mul] <;> rw [hc] <;> omega
    rw [ti_eq, hm] at g2
    exact q _ (by omega)
  · rw [ti_le, c_0] at g
    rw [td_n (by omega)] at hd
    have hm : ((x / 1440) * 1440).toInt = (x / 1440).toInt * 1440 := by rw [ti_mul] <;> rw [hc] <;> omega
    rw [ti_eq, hm] at g2
    have hs := ti_s1 (x := x / 1440) (by omega)
    exact q _ (by omega)
theorem k_fd60 {x : Int32} {Q : Int32 → Prop} (q : ∀ z : Int32, z.toInt = x.toInt / 60 → Q z) : p_Jm_floorDiv x 60 Q := by
  unfold p_Jm_floorDiv
  simp only [forall_eq]
  have hr := ti_r x
  have hc := c_60
  have h1 := c_1
  have hx := ti_xor x 60
  have hd := ti_div x (y := 60) (by rw [hc]; omega)
  rw [hc] at hd hx
  refine ⟨by decide, fun g => ?_, fun g => ⟨fun g2 => ?_, fun g2 => ?_⟩⟩
  · rw [ti_le, c_0] at g
    rw [td_p (by omega)] at hd
    exact q _ hd
  · rw [ti_le, c_0] at g
    rw [td_n (by omega)] at hd
    have hm : ((x / 60) * 60).toInt = (x / 60).toInt * 60 := by rw [ti_mul] <;> rw [hc] <;> omega
    rw [ti_eq, hm] at g2
    exact q _ (by omega)
  · rw [ti_le, c_0] at g
    rw [td_n (by omega)] at hd
    have hm : ((x / 60) * 60).toInt = (x / 60).toInt * 60 := by rw [ti_mul] <;> rw [hc] <;> omega
    rw [ti_eq, hm] at g2
    have hs := ti_s1 (x := x / 60) (by omega)
    exact q _ (by omega)
theorem t64_bm {z : Int} (h1 : -9223372036854775808 ≤ z) (h2 : z ≤ 9223372036854775807) : z.bmod (2 ^ 64) = z := by
  rw [Int.bmod_eq_of_le] <;> omega
theorem t64_sub {x y : Int64} (h1 : -9223372036854775808 ≤ x.toInt - y.toInt) (h2 : x.toInt - y.toInt ≤ 9223372036854775807) : (x - y).toInt = x.toInt - y.toInt := by
  rw [Int64.toInt_sub]
  exact t64_bm h1 h2
theorem t64_add {x y : Int64} (h1 : -9223372036854775808 ≤ x.toInt + y.toInt) (h2 : x.toInt + y.toInt ≤ 9223372036854775807) : (x + y).toInt = x.toInt + y.toInt := by
  rw [Int64.toInt_add]
  exact t64_bm h1 h2
theorem t64_mul {x y : Int64} (h1 : -9223372036854775808 ≤ x.toInt * y.toInt) (h2 : x.toInt * y.toInt ≤ 9223372036854775807) : (x * y).toInt = x.toInt * y.toInt := by
  rw [Int64.toInt_mul]
  exact t64_bm h1 h2
theorem t64_32 {x : Int64} (h1 : -2147483648 ≤ x.toInt) (h2 : x.toInt ≤ 2147483647) : x.toInt32.toInt = x.toInt := by
  rw [Int64.toInt_toInt32]
  exact ti_bm h1 h2
theorem t64_day {v : Int32} (h : 0 ≤ v.toInt ∧ v.toInt ≤ 400) : (v.toInt64 * 1440).toInt = v.toInt * 1440 ∧ (v.toInt64 * 1440 + 1440 - 1).toInt = v.toInt * 1440 + 1439 := by
  have a := ti_w v
  have b := e_1440
  have c := e_1
  have m : (v.toInt64 * 1440).toInt = v.toInt * 1440 := by rw [t64_mul] <;> rw [a, b] <;> omega
  have p : (v.toInt64 * 1440 + 1440).toInt = v.toInt * 1440 + 1440 := by rw [t64_add] <;> rw [m, b] <;> omega
  exact ⟨m, by rw [t64_sub] <;> rw [p, c] <;> omega⟩
/-! the minutes at which a clock shows w: one on each day at most, on two days at most -/
abbrev hit (S : Int → Int32) (w d : Int) : Prop := 0 ≤ d ∧ d < 400 ∧ (w - (S d).toInt) / 1440 = d
def near (w : Int) : Int := if -720 ≤ w ∧ w < 576720 then (w - 720) / 1440 else 400
theorem hit_near {S : Int → Int32} {w d : Int} (hS : -720 ≤ (S d).toInt ∧ (S d).toInt ≤ 720) (h : hit S w d) : (d = near w ∨ d = near w + 1) ∧ 0 ≤ w - (S d).toInt ∧ w - (S d).toInt < 576000 := by
  obtain ⟨h1, h2, h3⟩ := h
  unfold near
  rw [if_pos (by omega)]
  omega
theorem k_near {v : Int32} {Q : Int32 → Prop} (q : ∀ z : Int32, z.toInt = near v.toInt → Q z) : p_Tn_firstDayNear v Q := by
  unfold p_Tn_firstDayNear
  rw [ti_lt, ti_lt, c_m720, c_576720]
  unfold near at q
  have h400 := c_400
  refine ⟨fun h => q _ (by rw [if_neg (by omega)]; exact h400), fun h => ⟨fun h2 => ?_, fun h2 => q _ (by rw [if_neg (by omega)]; exact h400)⟩⟩
  refine k_fd1440 (fun z hz => q z ?_)
  rw [if_pos (by omega), hz]
  have hc := c_720
  rw [ti_sub] <;> omega
section DY
variable {tnN ckN mTn mCk t d w : Int32} {suns ckT ckD shf mSun mCkT mCkD mCkK mCkA : Nat → Int32} {Q : Int32 → Prop}
theorem k_minute (hTn : R_tn tnN suns mTn mSun) (hCk : R_ck tnN suns ckN ckT ckD shf mCk mCkT mCkD mCkK mCkA) (ht : 0 ≤ t.toInt ∧ t.toInt < tnN.toInt) (hd : d.toInt = near w.toInt ∨ d.toInt = near w.toInt + 1)
    (q1 : hit (sh ckN suns ckT ckD shf t) w.toInt d.toInt → ∀ z : Int32, z.toInt = w.toInt - (sh ckN suns ckT ckD shf t d.toInt).toInt → Q z) (q0 : ¬ hit (sh ckN suns ckT ckD shf t) w.toInt d.toInt → Q (-1)) : p_Tn_minuteShowing tnN ckN suns ckT ckD shf t d w Q := by
  unfold p_Tn_minuteShowing
  simp only [k_isDay, bi0, Classical.not_not, forall_eq]
  by_cases h : 0 ≤ d.toInt ∧ d.toInt < 400
  · refine tk_t h (k_shiftOn hTn hCk ht ?_)
    have hb := sh_b hTn hCk ht d.toInt
    have hw : -720 ≤ w.toInt ∧ w.toInt < 576720 := by
      unfold near at hd
      by_cases g : -720 ≤ w.toInt ∧ w.toInt < 576720
      · exact g
      · rw [if_neg g] at hd
        omega
    have hs : (w - sh ckN suns ckT ckD shf t d.toInt).toInt = w.toInt - (sh ckN suns ckT ckD shf t d.toInt).toInt := by rw [ti_sub] <;> omega
    refine k_fd1440 (fun z hz => ?_)
    rw [hs] at hz
    refine ⟨fun g => ?_, fun g => ?_⟩
    · rw [ti_eq] at g
      exact q1 ⟨h.1, h.2, by omega⟩ _ hs
    · rw [ti_eq] at g
      exact q0 (fun k => g (by rw [hz]; exact k.2.2))
  · exact tk_f h (q0 (fun k => h ⟨k.1, k.2.1⟩))
/-- the first minute at which the clock shows w -/
def FT (S : Int → Int32) (w : Int) (r : Int32) : Prop := (r.toInt = -1 ∧ ∀ d, ¬ hit S w d) ∨ ∃ d, hit S w d ∧ (∀ d', d' < d → ¬ hit S w d') ∧ r.toInt = w - (S d).toInt
theorem FT.uniq {S : Int → Int32} {w : Int} {r r' : Int32} (h : FT S w r) (h' : FT S w r') : r = r' := by
  rw [ti_eq]
  rcases h with ⟨a, b⟩ | ⟨d, a, b, c⟩ <;> rcases h' with ⟨a', b'⟩ | ⟨d', a', b', c'⟩
  · omega
  · exact absurd a' (b _)
  · exact absurd a (b' _)
  · rcases Int.lt_trichotomy d d' with g | g | g
    · exact absurd a (b' _ g)
    · subst g
      omega
    · exact absurd a' (b _ g)
theorem FT.neg {S : Int → Int32} {w : Int} {r : Int32} (hS : ∀ d, -720 ≤ (S d).toInt ∧ (S d).toInt ≤ 720) (h : FT S w r) : (r = -1 ↔ ¬ 0 ≤ r.toInt) ∧ r.toInt < 576000 := by
  rw [ti_eq, c_m1]
  rcases h with ⟨a, b⟩ | ⟨d, a, b, c⟩
  · omega
  · have := (hit_near (hS d) a).2
    omega
theorem k_firstShowing (hTn : R_tn tnN suns mTn mSun) (hCk : R_ck tnN suns ckN ckT ckD shf mCk mCkT mCkD mCkK mCkA) (ht : 0 ≤ t.toInt ∧ t.toInt < tnN.toInt) (q : ∀ r : Int32, FT (sh ckN suns ckT ckD shf t) w.toInt r → Q r) : p_Tn_firstShowing tnN ckN suns ckT ckD shf t w Q := by
  unfold p_Tn_firstShowing
  have hS := sh_b hTn hCk ht
  refine k_near (fun z hz => ?_)
  have hs : (z + 1).toInt = z.toInt + 1 := ti_a1 (by rw [hz]; unfold near; split <;> omega)
  refine k_minute hTn hCk ht (Or.inl hz) (fun h y hy => ?_) (fun h => ?_)
  · have hy0 := (hit_near (hS _) h).2
    refine ⟨fun g => ?_, fun g => q _ (Or.inr ⟨z.toInt, h, fun d' hd' h' => ?_, hy⟩)⟩
    · rw [ti_eq, c_m1] at g
      omega
    · have := (hit_near (hS _) h').1
      omega
  · refine ⟨fun _ => ?_, fun g => absurd rfl g⟩
    refine k_minute hTn hCk ht (Or.inr (by omega)) (fun h2 y hy => ?_) (fun h2 => ?_)
    · refine q _ (Or.inr ⟨(z + 1).toInt, h2, fun d' hd' h' => ?_, hy⟩)
      have h3 := (hit_near (hS _) h').1
      exact absurd h' (by rw [show d' = z.toInt by omega]; exact h)
    · refine q _ (Or.inl ⟨c_m1, fun d' h' => ?_⟩)
      have h3 := (hit_near (hS _) h').1
      rcases h3 with h3 | h3
      · exact absurd h' (by rw [show d' = z.toInt by omega]; exact h)
      · exact absurd h' (by rw [show d' = (z + 1).toInt by omega]; exact h2)
theorem k_hit64 {x : Int64} {v : Int32} {S : Int → Int32} {w : Int} (hv : 0 ≤ v.toInt ∧ v.toInt < 400) (hx : x.toInt = w - (S v.toInt).toInt) : ((v.toInt64 * 1440).toInt ≤ x.toInt ∧ x.toInt ≤ (v.toInt64 * 1440 + 1440 - 1).toInt) ↔ hit S w v.toInt := by
  rw [(t64_day (v := v) (by omega)).1, (t64_day (v := v) (by omega)).2, hx]
  unfold hit
  omega
theorem k_firstAt {w : Int64} (hTn : R_tn tnN suns mTn mSun) (hCk : R_ck tnN suns ckN ckT ckD shf mCk mCkT mCkD mCkK mCkA) (ht : 0 ≤ t.toInt ∧ t.toInt < tnN.toInt) (hw : -2147483648 ≤ w.toInt ∧ w.toInt ≤ 2147483647) (q : ∀ r : Int32, FT (sh ckN suns ckT ckD shf t) w.toInt r → Q r) : p_M_firstAt mCk mSun mCkT mCkD mCkK mCkA t w Q := by
  unfold p_M_firstAt
  have hS := sh_b hTn hCk ht
  refine Lp1.of (fun v => (0 ≤ v.toInt ∧ v.toInt ≤ 400) ∧ ∀ d', d' < v.toInt → ¬ hit (sh ckN suns ckT ckD shf t) w.toInt d') (fun v => (400 - v.toInt).toNat) ?_ _ ⟨by rw [c_0]; omega, fun d' h h2 => by rw [c_0] at h; have := h2.1; omega⟩
  intro rec v ⟨i1, i2⟩ hrec
  unfold p_M_firstAt_L3
  simp only [forall_eq, ti_le, c_400]
  refine ⟨fun g => q _ (Or.inl ⟨c_m1, fun d h => ?_⟩), fun g => ?_⟩
  · have := h.2.1
    exact i2 d (by omega) h
  refine k_ahead hTn hCk ht ?_
  have hb := hS v.toInt
  have hx : (w - (sh ckN suns ckT ckD shf t v.toInt).toInt64).toInt = w.toInt - (sh ckN suns ckT ckD shf t v.toInt).toInt := by
    rw [t64_sub] <;> rw [ti_w] <;> omega
  rw [k_in, bi_c (k_hit64 (v := v) ⟨i1.1, by omega⟩ hx)]
  have hs := ti_a1 (x := v) (by omega)
  by_cases h : hit (sh ckN suns ckT ckD shf t) w.toInt v.toInt
  · rw [bi_t h]
    refine ⟨fun g2 => absurd g2 i10, fun _ => q _ (Or.inr ⟨v.toInt, h, i2, ?_⟩)⟩
    have h2 := (hit_near hb h).2
    rw [t64_32, hx] <;> omega
  · rw [bi_f h]
    refine ⟨fun _ => hrec _ ⟨by omega, fun d' hd' => ?_⟩ (by omega), fun g2 => absurd rfl g2⟩
    by_cases e : d' < v.toInt
    · exact i2 d' e
    · rw [show d' = v.toInt by omega]
      exact h
end DY
