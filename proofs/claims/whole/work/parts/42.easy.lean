set_option maxHeartbeats 1000000
theorem s_untell : st_untell RR := by
  intro mThr mTn mCk mRw mSt mTr mFM mFS mTpN mLw mAt mTwN mBE mBEn mSun mCkT mCkD mCkK mCkA mRow mStT mRun mUp mSta mSty mDly mTri mFnd mTap mLwT mLwD mLwO mLwM mTwT mSetA mDri mOrd mBst tnN ckN stN trN dsT dsC tpN lwN rdS rdM rdE rdD twN rsW rsE rwN suns ckT ckD shf lnT ways ups sts sty dly gAp gOp stp bst sgn lwT lwD rdT rdO lwK lwM twS twM twD rsO rsB rwA hR _ 
  obtain ⟨hTn, hCk, hLn, hTp, hLw, hTw, hRw⟩ := id hR
  obtain ⟨e1, hb, hq⟩ := id hCk
  subst e1
  have hs := ti_s1 (x := mCk) (by omega)
  have hN : 0 < mCk.toInt → RR (0) mTn (mCk - 1) mRw mSt mTr mFM mFS mTpN mLw mAt mTwN mBE mBEn mSun mCkT mCkD mCkK mCkA mRow mStT mRun mUp mSta mSty mDly mTri mFnd mTap mLwT mLwD mLwO mLwM mTwT mSetA mDri mOrd mBst tnN (mCk - 1) stN trN dsT dsC tpN lwN rdS rdM rdE rdD twN rsW rsE rwN suns ckT ckD shf lnT ways ups sts sty dly gAp gOp stp bst sgn lwT lwD rdT rdO lwK lwM twS twM twD rsO rsB rwA := fun h =>
    ⟨hTn, ⟨rfl, by omega, fun i hi => hq i (by omega)⟩, hLn, hTp, hLw, hTw, hRw⟩
  simp only [p_O_untell, p_Tn_takeClockBack, p_Si_dropLast, p_M_untell, bi0, bi01, true_and, and_true, not_true_eq_false, not_false_eq_true, false_implies, true_implies, true_or, or_true, Classical.not_not, forall_eq, ti_as, k_has, k_isDay, k_isMinute, k_isTimeOfDay, k_isMatter, k_hasStation, k_hasTrain, k_TwHas, k_inw, k_mDay, k_mMinute]
  simp only [ti_lt, ti_le, ti_eq, true_and, and_true, not_true_eq_false, not_false_eq_true, false_implies, true_implies, c_0, c_1, c_2, c_3, c_4, c_5, c_6, c_7, c_8, c_10, c_12, c_16, c_20, c_24, c_26, c_30, c_31, c_39, c_40, c_41, c_43, c_45, c_48, c_57, c_59, c_60, c_61, c_64, c_96, c_97, c_99, c_100, c_102, c_108, c_122, c_127, c_255, c_399, c_400, c_448, c_576720, c_600, c_720, c_1439, c_1440, c_575999, c_576000, c_1073741824, c_2147483647, c_m1, c_m6, c_m8, c_m12, c_m41, c_m100, c_m600, c_m720, e_0, e_1, e_2, e_5, e_12, e_m12, e_30, e_60, e_399, e_600, e_m600, e_720, e_m720, e_1439, e_1440, e_575999, o_60, o_20]
  repeat' (first | exact hR | rfl | (exfalso; omega) | exact hN (by omega) | (refine ti_in ?_ ?_ <;> omega) | constructor | intro _)
theorem s_count : st_count RR := by
  intro mThr mTn mCk mRw mSt mTr mFM mFS mTpN mLw mAt mTwN mBE mBEn mSun mCkT mCkD mCkK mCkA mRow mStT mRun mUp mSta mSty mDly mTri mFnd mTap mLwT mLwD mLwO mLwM mTwT mSetA mDri mOrd mBst tnN ckN stN trN dsT dsC tpN lwN rdS rdM rdE rdD twN rsW rsE rwN suns ckT ckD shf lnT ways ups sts sty dly gAp gOp stp bst sgn lwT lwD rdT rdO lwK lwM twS twM twD rsO rsB rwA hR a1 
  obtain ⟨hTn, hCk, hLn, hTp, hLw, hTw, hRw⟩ := id hR
  have e1 := hTn.1
  have e2 := hCk.1
  have e3 := hLn.1
  have e4 := hLn.2.1
  have e5 := hLw.1
  have e6 := hTw.1
  have e7 := hRw.1
  have e8 := hTp.1
  subst e1 e2 e3 e4 e5 e6 e7 e8
  simp only [p_O_count, p_M_count]
  simp only [ti_lt, ti_le, ti_eq, true_and, and_true, not_true_eq_false, not_false_eq_true, false_implies, true_implies, c_0, c_1, c_2, c_3, c_4, c_5, c_6, c_7, c_8, c_10, c_12, c_16, c_20, c_24, c_26, c_30, c_31, c_39, c_40, c_41, c_43, c_45, c_48, c_57, c_59, c_60, c_61, c_64, c_96, c_97, c_99, c_100, c_102, c_108, c_122, c_127, c_255, c_399, c_400, c_448, c_576720, c_600, c_720, c_1439, c_1440, c_575999, c_576000, c_1073741824, c_2147483647, c_m1, c_m6, c_m8, c_m12, c_m41, c_m100, c_m600, c_m720, e_0, e_1, e_2, e_5, e_12, e_m12, e_30, e_60, e_399, e_600, e_m600, e_720, e_m720, e_1439, e_1440, e_575999, o_60, o_20]
  repeat' (first | exact hR | rfl | (exfalso; omega) | (refine ti_in ?_ ?_ <;> omega) | constructor | intro _)
theorem s_close : st_close RR := by
  intro mThr mTn mCk mRw mSt mTr mFM mFS mTpN mLw mAt mTwN mBE mBEn mSun mCkT mCkD mCkK mCkA mRow mStT mRun mUp mSta mSty mDly mTri mFnd mTap mLwT mLwD mLwO mLwM mTwT mSetA mDri mOrd mBst tnN ckN stN trN dsT dsC tpN lwN rdS rdM rdE rdD twN rsW rsE rwN suns ckT ckD shf lnT ways ups sts sty dly gAp gOp stp bst sgn lwT lwD rdT rdO lwK lwM twS twM twD rsO rsB rwA hR _ 
  obtain ⟨hTn, hCk, hLn, hTp, hLw, hTw, hRw⟩ := id hR
  unfold p_O_close p_Ln_clear p_M_close
  obtain ⟨e1, e2, hb1, hb2, hb3, hw, hq1, hq2, hq3⟩ := id hLn
  have h0 := c_0
  exact ⟨e2.symm, hTn, hCk, ⟨rfl, rfl, by rw [h0]; omega, by rw [h0]; omega, by rw [h0]; omega, hw, fun i hi => by rw [h0] at hi; omega, fun i hi => by rw [h0] at hi; omega, fun i hi => by rw [h0] at hi; omega⟩, hTp, hLw, hTw, hRw⟩
theorem s_town : st_town RR := by
  intro mThr mTn mCk mRw mSt mTr mFM mFS mTpN mLw mAt mTwN mBE mBEn mSun mCkT mCkD mCkK mCkA mRow mStT mRun mUp mSta mSty mDly mTri mFnd mTap mLwT mLwD mLwO mLwM mTwT mSetA mDri mOrd mBst tnN ckN stN trN dsT dsC tpN lwN rdS rdM rdE rdD twN rsW rsE rwN suns ckT ckD shf lnT ways ups sts sty dly gAp gOp stp bst sgn lwT lwD rdT rdO lwK lwM twS twM twD rsO rsB rwA hR a1 
  obtain ⟨hTn, hCk, hLn, hTp, hLw, hTw, hRw⟩ := id hR
  obtain ⟨e1, hb, hq⟩ := id hTn
  subst e1
  have hN : -720 ≤ a1.toInt → a1.toInt ≤ 720 → mTn.toInt < 16 → RR (0) (mTn + 1) mCk mRw mSt mTr mFM mFS mTpN mLw mAt mTwN mBE mBEn (upd mSun mTn.toNatClampNeg a1) mCkT mCkD mCkK mCkA mRow mStT mRun mUp mSta mSty mDly mTri mFnd mTap mLwT mLwD mLwO mLwM mTwT mSetA mDri mOrd mBst (mTn + 1) ckN stN trN dsT dsC tpN lwN rdS rdM rdE rdD twN rsW rsE rwN (upd suns mTn.toNatClampNeg a1) ckT ckD shf lnT ways ups sts sty dly gAp gOp stp bst sgn lwT lwD rdT rdO lwK lwM twS twM twD rsO rsB rwA := by
    intro h1 h2 h3
    have hs := ti_a1 (x := mTn) (by omega)
    have old : ∀ j : Nat, (j : Int) < mTn.toInt → upd suns mTn.toNatClampNeg a1 j = suns j := fun j hj => ti_un (by rw [ti_c]; omega)
    have oldc : ∀ y : Int32, 0 ≤ y.toInt → y.toInt < mTn.toInt → upd suns mTn.toNatClampNeg a1 y.toNatClampNeg = suns y.toNatClampNeg := fun y g1 g2 => ti_un (by rw [ti_c, ti_c]; omega)
    refine ⟨⟨rfl, by omega, fun i hi => ?_⟩, ⟨hCk.1, hCk.2.1, fun i hi => ?_⟩, ⟨hLn.1, hLn.2.1, hLn.2.2.1, hLn.2.2.2.1, hLn.2.2.2.2.1, hLn.2.2.2.2.2.1, fun i hi => ?_, hLn.2.2.2.2.2.2.2.1, hLn.2.2.2.2.2.2.2.2⟩, hTp, ⟨hLw.1, hLw.2.1, fun i hi => ?_, hLw.2.2.2⟩, ⟨hTw.1, hTw.2.1, fun i hi => ?_⟩, hRw⟩
    · by_cases hi2 : (i : Int) < mTn.toInt
      · rw [old i hi2, ti_un (by rw [ti_c]; omega)]
        exact hq i hi2
      · have ei : i = mTn.toNatClampNeg := by rw [ti_c]; omega
        subst ei
        rw [ti_up, ti_up]
        exact ⟨rfl, h1, h2⟩
    · obtain ⟨g1, g2, g3, g4, g5⟩ := hCk.2.2 i hi
      refine ⟨g1, g2, by omega, g4, ?_⟩
      rcases g5 with ⟨k1, k2⟩ | k1 | ⟨k1, k2, k3⟩
      · exact Or.inl ⟨k1, by rw [oldc _ g3.1 g3.2]; exact k2⟩
      · exact Or.inr (Or.inl k1)
      · exact Or.inr (Or.inr ⟨k1, by omega, by rw [oldc _ k2.1 k2.2]; exact k3⟩)
    · obtain ⟨g1, g2, g3⟩ := hLn.2.2.2.2.2.2.1 i hi
      exact ⟨g1, g2, by omega⟩
    · obtain ⟨g1, g2, g3, g4⟩ := hLw.2.2.1 i hi
      exact ⟨g1, g2, by omega, g4⟩
    · obtain ⟨g1, g2, g3⟩ := hTw.2.2 i hi
      exact ⟨by omega, by rw [oldc _ g1.1 g1.2]; exact g2, g3⟩
  simp only [p_O_town, p_Tn_settle, p_M_town, bi0, bi01, true_and, and_true, not_true_eq_false, not_false_eq_true, false_implies, true_implies, true_or, or_true, Classical.not_not, forall_eq, ti_as, k_has, k_isDay, k_isMinute, k_isTimeOfDay, k_isMatter, k_hasStation, k_hasTrain, k_TwHas, k_inw, k_mDay, k_mMinute]
  simp only [ti_lt, ti_le, ti_eq, true_and, and_true, not_true_eq_false, not_false_eq_true, false_implies, true_implies, c_0, c_1, c_2, c_3, c_4, c_5, c_6, c_7, c_8, c_10, c_12, c_16, c_20, c_24, c_26, c_30, c_31, c_39, c_40, c_41, c_43, c_45, c_48, c_57, c_59, c_60, c_61, c_64, c_96, c_97, c_99, c_100, c_102, c_108, c_122, c_127, c_255, c_399, c_400, c_448, c_576720, c_600, c_720, c_1439, c_1440, c_575999, c_576000, c_1073741824, c_2147483647, c_m1, c_m6, c_m8, c_m12, c_m41, c_m100, c_m600, c_m720, e_0, e_1, e_2, e_5, e_12, e_m12, e_30, e_60, e_399, e_600, e_m600, e_720, e_m720, e_1439, e_1440, e_575999, o_60, o_20]
  repeat' (first | exact hR | rfl | (exfalso; omega) | exact hN (by omega) (by omega) (by omega) | (refine ti_in ?_ ?_ <;> omega) | constructor | intro _)
theorem k_isFull {n : Nat} {x : Int32} {Q : Int32 → Prop} (hn : n ≤ 1000) : p_Si_isFull n x Q = Q (bi ((n : Int) ≤ x.toInt)) := by
  unfold p_Si_isFull
  rw [ti_lt, ti_nI (by omega)]
  by_cases h : (n : Int) ≤ x.toInt
  · rw [bi_t h]
    exact propext ⟨fun q => q.2 (by omega), fun q => ⟨fun g => absurd h (by omega), fun _ => q⟩⟩
  · rw [bi_f h]
    exact propext ⟨fun q => q.1 (by omega), fun q => ⟨fun _ => q, fun g => absurd (by omega) h⟩⟩
theorem k_SiAdd {n : Nat} {sN v1 v2 : Int32} {sT sD : Nat → Int32} {Q : Int32 → (Nat → Int32) → (Nat → Int32) → Prop} (hn : n ≤ 1000) (h0 : 0 ≤ sN.toInt) (h1 : sN.toInt < n) : p_Si_add n sN sT sD v1 v2 Q = Q (sN + 1) (upd sT sN.toNatClampNeg v1) (upd sD sN.toNatClampNeg v2) := by
  unfold p_Si_add
  simp only [forall_eq]
  rw [ti_le, ti_nI (by omega)]
  exact propext ⟨fun q => ((q.2 (by omega)).2 (by omega)).2.2, fun q => ⟨fun g => absurd g (by omega), fun _ => ⟨fun g => absurd g (by omega), fun _ => ⟨ti_in h0 h1, ti_in h0 h1, q⟩⟩⟩⟩
theorem k_sunOf {tnN v1 : Int32} {suns : Nat → Int32} {Q : Int32 → Prop} (h0 : 0 ≤ v1.toInt ∧ v1.toInt < tnN.toInt) (hn : tnN.toInt ≤ 16) : p_Tn_sunOf tnN suns v1 Q = Q (suns v1.toNatClampNeg) := by
  unfold p_Tn_sunOf
  rw [k_has, bi_t h0]
  exact propext ⟨fun q => (q.2 i10).2, fun q => ⟨fun g => absurd g i10, fun _ => ⟨ti_in h0.1 (by omega), q⟩⟩⟩
theorem s_station : st_station RR := by
  intro mThr mTn mCk mRw mSt mTr mFM mFS mTpN mLw mAt mTwN mBE mBEn mSun mCkT mCkD mCkK mCkA mRow mStT mRun mUp mSta mSty mDly mTri mFnd mTap mLwT mLwD mLwO mLwM mTwT mSetA mDri mOrd mBst tnN ckN stN trN dsT dsC tpN lwN rdS rdM rdE rdD twN rsW rsE rwN suns ckT ckD shf lnT ways ups sts sty dly gAp gOp stp bst sgn lwT lwD rdT rdO lwK lwM twS twM twD rsO rsB rwA hR a1 a2 
  obtain ⟨hTn, hCk, hLn, hTp, hLw, hTw, hRw⟩ := id hR
  obtain ⟨e1, e2, hb1, hb2, hb3, hw, hq1, hq2, hq3⟩ := id hLn
  obtain ⟨e3, hb4, hq4⟩ := id hTn
  subst e1
  subst e2
  subst e3
  have hs1 := ti_s1 (x := mSt) (by omega)
  have hN : ∀ wys : Nat → Int32, (0 ≤ a1.toInt ∧ a1.toInt < mTn.toInt) → mTr.toInt = 0 → mSt.toInt < 6 → ((mSt.toInt = 0 ∧ wys = ways) ∨ (0 < mSt.toInt ∧ (1 ≤ a2.toInt ∧ a2.toInt ≤ 600) ∧ wys = upd ways mSt.toNatClampNeg (ways (mSt - 1).toNatClampNeg + a2))) →
      RR (0) mTn mCk mRw (mSt + 1) mTr mFM mFS mTpN mLw mAt mTwN mBE mBEn mSun mCkT mCkD mCkK mCkA mRow (upd mStT mSt.toNatClampNeg a1) (upd mRun mSt.toNatClampNeg a2) mUp mSta mSty mDly mTri mFnd mTap mLwT mLwD mLwO mLwM mTwT mSetA mDri mOrd mBst (mTn) ckN (mSt + 1) (mTr) dsT dsC tpN lwN rdS rdM rdE rdD twN rsW rsE rwN suns ckT ckD shf (upd lnT mSt.toNatClampNeg a1) (wys) ups sts sty dly gAp gOp stp bst sgn lwT lwD rdT rdO lwK lwM twS twM twD rsO rsB rwA := by
    intro wys h1 h2 h3 h4
    have hs := ti_a1 (x := mSt) (by omega)
    have hc := ti_c mSt
    have hc1 := ti_c (mSt - 1)
    have wo : ∀ j : Nat, (j : Int) < mSt.toInt → wys j = ways j := by
      intro j hj
      rcases h4 with ⟨q1, q2⟩ | ⟨q1, q2, q3⟩
      · rw [q2]
      · rw [q3, ti_un (by omega)]
    refine ⟨hTn, hCk, ⟨rfl, rfl, by omega, hb2, by omega, ?_, fun i hi => ?_, fun i hi => ?_, fun i hi => ?_⟩, hTp, hLw, hTw, hRw⟩
    · rcases h4 with ⟨q1, q2⟩ | ⟨q1, q2, q3⟩
      · rw [q2]; exact hw
      · rw [q3, ti_un (by omega)]; exact hw
    · by_cases hi2 : (i : Int) < mSt.toInt
      · have ne : i ≠ mSt.toNatClampNeg := by omega
        rw [ti_un ne, ti_un ne]
        exact hq1 i hi2
      · have ei : i = mSt.toNatClampNeg := by omega
        subst ei
        rw [ti_up, ti_up]
        exact ⟨rfl, h1.1, h1.2⟩
    · by_cases hi2 : (i : Int) + 1 < mSt.toInt
      · have ne : i + 1 ≠ mSt.toNatClampNeg := by omega
        rw [ti_un ne, wo _ (by omega), wo _ (by omega)]
        exact hq2 i hi2
      · have ei : i + 1 = mSt.toNatClampNeg := by omega
        rw [wo i (by omega), ei, ti_up]
        rcases h4 with ⟨q1, q2⟩ | ⟨q1, q2, q3⟩
        · omega
        · rw [q3, ti_up, show (mSt - 1).toNatClampNeg = i by omega]
          exact ⟨rfl, q2⟩
    · omega
  simp only [p_O_station, p_Ln_build, p_Ln_build_J61, p_M_station, p_M_station_J32, k_isTown hb4.1, bi0, bi01, true_and, and_true, not_true_eq_false, not_false_eq_true, false_implies, true_implies, true_or, or_true, Classical.not_not, forall_eq, ti_as, k_has, k_isDay, k_isMinute, k_isTimeOfDay, k_isMatter, k_hasStation, k_hasTrain, k_TwHas, k_inw, k_mDay, k_mMinute]
  simp only [ti_lt, ti_le, ti_eq, true_and, and_true, not_true_eq_false, not_false_eq_true, false_implies, true_implies, c_0, c_1, c_2, c_3, c_4, c_5, c_6, c_7, c_8, c_10, c_12, c_16, c_20, c_24, c_26, c_30, c_31, c_39, c_40, c_41, c_43, c_45, c_48, c_57, c_59, c_60, c_61, c_64, c_96, c_97, c_99, c_100, c_102, c_108, c_122, c_127, c_255, c_399, c_400, c_448, c_576720, c_600, c_720, c_1439, c_1440, c_575999, c_576000, c_1073741824, c_2147483647, c_m1, c_m6, c_m8, c_m12, c_m41, c_m100, c_m600, c_m720, e_0, e_1, e_2, e_5, e_12, e_m12, e_30, e_60, e_399, e_600, e_m600, e_720, e_m720, e_1439, e_1440, e_575999, o_60, o_20]
  repeat' (first | exact hR | rfl | (exfalso; omega) | exact hN _ (by omega) (by omega) (by omega) (Or.inl ⟨by omega, rfl⟩) | exact hN _ (by omega) (by omega) (by omega) (Or.inr ⟨by omega, by omega, rfl⟩) | (refine ti_in ?_ ?_ <;> omega) | constructor | intro _)
theorem s_delay : st_delay RR := by
  intro mThr mTn mCk mRw mSt mTr mFM mFS mTpN mLw mAt mTwN mBE mBEn mSun mCkT mCkD mCkK mCkA mRow mStT mRun mUp mSta mSty mDly mTri mFnd mTap mLwT mLwD mLwO mLwM mTwT mSetA mDri mOrd mBst tnN ckN stN trN dsT dsC tpN lwN rdS rdM rdE rdD twN rsW rsE rwN suns ckT ckD shf lnT ways ups sts sty dly gAp gOp stp bst sgn lwT lwD rdT rdO lwK lwM twS twM twD rsO rsB rwA hR a1 a2 
  obtain ⟨hTn, hCk, hLn, hTp, hLw, hTw, hRw⟩ := id hR
  obtain ⟨e1, e2, hb1, hb2, hb3, hw, hq1, hq2, hq3⟩ := id hLn
  subst e1
  subst e2
  have hN : (0 ≤ a1.toInt ∧ a1.toInt < mTr.toInt) → (0 ≤ a2.toInt ∧ a2.toInt ≤ 30) → RR (0) mTn mCk mRw mSt mTr mFM mFS mTpN mLw mAt mTwN mBE mBEn mSun mCkT mCkD mCkK mCkA mRow mStT mRun mUp mSta mSty (upd mDly a1.toNatClampNeg a2) mTri mFnd mTap mLwT mLwD mLwO mLwM mTwT mSetA mDri mOrd mBst tnN ckN (mSt) (mTr) dsT dsC tpN lwN rdS rdM rdE rdD twN rsW rsE rwN suns ckT ckD shf lnT ways ups sts sty (upd dly a1.toNatClampNeg a2) gAp gOp stp bst sgn lwT lwD rdT rdO lwK lwM twS twM twD rsO rsB rwA := by
    intro h1 h2
    refine ⟨hTn, hCk, ⟨rfl, rfl, hb1, hb2, hb3, hw, hq1, hq2, fun i hi => ?_⟩, hTp, hLw, hTw, hRw⟩
    obtain ⟨g1, g2, g3, g4, g5, g6, g7, g8⟩ := hq3 i hi
    refine ⟨g1, g2, g3, g4, g5, g6, ?_⟩
    by_cases hi2 : i = a1.toNatClampNeg
    · subst hi2
      rw [ti_up, ti_up]
      exact ⟨rfl, h2⟩
    · rw [ti_un hi2, ti_un hi2]
      exact ⟨g7, g8⟩
  simp only [p_O_delay, p_M_delay, k_isTrain hb2.1, bi0, bi01, true_and, and_true, not_true_eq_false, not_false_eq_true, false_implies, true_implies, true_or, or_true, Classical.not_not, forall_eq, ti_as, k_has, k_isDay, k_isMinute, k_isTimeOfDay, k_isMatter, k_hasStation, k_hasTrain, k_TwHas, k_inw, k_mDay, k_mMinute]
  simp only [ti_lt, ti_le, ti_eq, true_and, and_true, not_true_eq_false, not_false_eq_true, false_implies, true_implies, c_0, c_1, c_2, c_3, c_4, c_5, c_6, c_7, c_8, c_10, c_12, c_16, c_20, c_24, c_26, c_30, c_31, c_39, c_40, c_41, c_43, c_45, c_48, c_57, c_59, c_60, c_61, c_64, c_96, c_97, c_99, c_100, c_102, c_108, c_122, c_127, c_255, c_399, c_400, c_448, c_576720, c_600, c_720, c_1439, c_1440, c_575999, c_576000, c_1073741824, c_2147483647, c_m1, c_m6, c_m8, c_m12, c_m41, c_m100, c_m600, c_m720, e_0, e_1, e_2, e_5, e_12, e_m12, e_30, e_60, e_399, e_600, e_m600, e_720, e_m720, e_1439, e_1440, e_575999, o_60, o_20]
  repeat' (first | exact hR | rfl | (exfalso; omega) | exact hN (by omega) (by omega) | (refine ti_in ?_ ?_ <;> omega) | constructor | intro _)
theorem s_tower : st_tower RR := by
  intro mThr mTn mCk mRw mSt mTr mFM mFS mTpN mLw mAt mTwN mBE mBEn mSun mCkT mCkD mCkK mCkA mRow mStT mRun mUp mSta mSty mDly mTri mFnd mTap mLwT mLwD mLwO mLwM mTwT mSetA mDri mOrd mBst tnN ckN stN trN dsT dsC tpN lwN rdS rdM rdE rdD twN rsW rsE rwN suns ckT ckD shf lnT ways ups sts sty dly gAp gOp stp bst sgn lwT lwD rdT rdO lwK lwM twS twM twD rsO rsB rwA hR a1 a2 a3 
  obtain ⟨hTn, hCk, hLn, hTp, hLw, hTw, hRw⟩ := id hR
  obtain ⟨e1, hb, hq⟩ := id hTw
  obtain ⟨e3, hb4, hq4⟩ := id hTn
  subst e1
  subst e3
  have hN : (0 ≤ a1.toInt ∧ a1.toInt < mTn.toInt) → (0 ≤ a2.toInt ∧ a2.toInt < 576000) → (-600 ≤ a3.toInt ∧ a3.toInt ≤ 600) → mTwN.toInt < 7 → RR (0) mTn mCk mRw mSt mTr mFM mFS mTpN mLw mAt (mTwN + 1) mBE mBEn mSun mCkT mCkD mCkK mCkA mRow mStT mRun mUp mSta mSty mDly mTri mFnd mTap mLwT mLwD mLwO mLwM (upd mTwT mTwN.toNatClampNeg a1) (upd mSetA mTwN.toNatClampNeg a2) (upd mDri mTwN.toNatClampNeg a3) mOrd mBst (mTn) ckN stN trN dsT dsC tpN lwN rdS rdM rdE rdD (mTwN + 1) rsW rsE rwN suns ckT ckD shf lnT ways ups sts sty dly gAp gOp stp bst sgn lwT lwD rdT rdO lwK lwM (upd twS mTwN.toNatClampNeg (suns a1.toNatClampNeg)) (upd twM mTwN.toNatClampNeg a2) (upd twD mTwN.toNatClampNeg a3) rsO rsB rwA := by
    intro h1 h2 h3 h4
    have hs := ti_a1 (x := mTwN) (by omega)
    have hc := ti_c mTwN
    refine ⟨hTn, hCk, hLn, hTp, hLw, ⟨rfl, by omega, fun i hi => ?_⟩, hRw⟩
    by_cases hi2 : (i : Int) < mTwN.toInt
    · have ne : i ≠ mTwN.toNatClampNeg := by omega
      rw [ti_un ne, ti_un ne, ti_un ne, ti_un ne, ti_un ne, ti_un ne]
      exact hq i hi2
    · have ei : i = mTwN.toNatClampNeg := by omega
      subst ei
      rw [ti_up, ti_up, ti_up, ti_up, ti_up, ti_up]
      exact ⟨h1, rfl, rfl, h2, rfl, h3⟩
  simp only [p_O_tower, p_Tw_build, p_M_tower, k_isTown hb4.1, bi0, bi01, true_and, and_true, not_true_eq_false, not_false_eq_true, false_implies, true_implies, true_or, or_true, Classical.not_not, forall_eq, ti_as, k_has, k_isDay, k_isMinute, k_isTimeOfDay, k_isMatter, k_hasStation, k_hasTrain, k_TwHas, k_inw, k_mDay, k_mMinute]
  simp only [ti_lt, ti_le, ti_eq, true_and, and_true, not_true_eq_false, not_false_eq_true, false_implies, true_implies, c_0, c_1, c_2, c_3, c_4, c_5, c_6, c_7, c_8, c_10, c_12, c_16, c_20, c_24, c_26, c_30, c_31, c_39, c_40, c_41, c_43, c_45, c_48, c_57, c_59, c_60, c_61, c_64, c_96, c_97, c_99, c_100, c_102, c_108, c_122, c_127, c_255, c_399, c_400, c_448, c_576720, c_600, c_720, c_1439, c_1440, c_575999, c_576000, c_1073741824, c_2147483647, c_m1, c_m6, c_m8, c_m12, c_m41, c_m100, c_m600, c_m720, e_0, e_1, e_2, e_5, e_12, e_m12, e_30, e_60, e_399, e_600, e_m600, e_720, e_m720, e_1439, e_1440, e_575999, o_60, o_20]
  repeat' (first | exact hR | rfl | (exfalso; omega) | exact hN (by omega) (by omega) (by omega) (by omega) | (refine ti_in ?_ ?_ <;> omega) | constructor | intro _)
theorem s_end : st_end RR := by
  intro mThr mTn mCk mRw mSt mTr mFM mFS mTpN mLw mAt mTwN mBE mBEn mSun mCkT mCkD mCkK mCkA mRow mStT mRun mUp mSta mSty mDly mTri mFnd mTap mLwT mLwD mLwO mLwM mTwT mSetA mDri mOrd mBst tnN ckN stN trN dsT dsC tpN lwN rdS rdM rdE rdD twN rsW rsE rwN suns ckT ckD shf lnT ways ups sts sty dly gAp gOp stp bst sgn lwT lwD rdT rdO lwK lwM twS twM twD rsO rsB rwA hR a1 
  obtain ⟨hTn, hCk, hLn, hTp, hLw, hTw, hRw⟩ := id hR
  obtain ⟨e1, hb, hq⟩ := id hTp
  subst e1
  have hN : (0 ≤ a1.toInt ∧ a1.toInt ≤ mTpN.toInt) → RR (0) mTn mCk mRw mSt mTr mFM mFS (a1) mLw mAt mTwN mBE mBEn mSun mCkT mCkD mCkK mCkA mRow mStT mRun mUp mSta mSty mDly mTri mFnd mTap mLwT mLwD mLwO mLwM mTwT mSetA mDri mOrd mBst tnN ckN stN trN dsT dsC (a1) lwN rdS rdM rdE rdD twN rsW rsE rwN suns ckT ckD shf lnT ways ups sts sty dly gAp gOp stp bst sgn lwT lwD rdT rdO lwK lwM twS twM twD rsO rsB rwA := by
    intro h1
    exact ⟨hTn, hCk, hLn, ⟨rfl, by omega, fun i hi => hq i (by omega)⟩, hLw, hTw, hRw⟩
  simp only [p_O_end, p_Tp_cut, p_M_end, show ((0 : Int32) = 0 ∨ (0 : Int32) = 1) = True by decide, show ((1 : Int32) = 0 ∨ (1 : Int32) = 1) = True by decide, bi0, bi01, true_and, and_true, not_true_eq_false, not_false_eq_true, false_implies, true_implies, true_or, or_true, Classical.not_not, forall_eq, ti_as, k_has, k_isDay, k_isMinute, k_isTimeOfDay, k_isMatter, k_hasStation, k_hasTrain, k_TwHas, k_inw, k_mDay, k_mMinute]
  simp only [ti_lt, ti_le, ti_eq, true_and, and_true, not_true_eq_false, not_false_eq_true, false_implies, true_implies, c_0, c_1, c_2, c_3, c_4, c_5, c_6, c_7, c_8, c_10, c_12, c_16, c_20, c_24, c_26, c_30, c_31, c_39, c_40, c_41, c_43, c_45, c_48, c_57, c_59, c_60, c_61, c_64, c_96, c_97, c_99, c_100, c_102, c_108, c_122, c_127, c_255, c_399, c_400, c_448, c_576720, c_600, c_720, c_1439, c_1440, c_575999, c_576000, c_1073741824, c_2147483647, c_m1, c_m6, c_m8, c_m12, c_m41, c_m100, c_m600, c_m720, e_0, e_1, e_2, e_5, e_12, e_m12, e_30, e_60, e_399, e_600, e_m600, e_720, e_m720, e_1439, e_1440, e_575999, o_60, o_20, ti_w]
  repeat' (first | exact hR | rfl | (exfalso; omega) | exact hN (by omega) | (refine ti_in ?_ ?_ <;> omega) | constructor | intro _)
/-! answers that may be thrown: the first place of the law's page -/
theorem ou_0 {out : Nat → Int64} {z : Int64} : vp_updL out 0 z 0 = z := if_pos rfl
theorem s_row : st_row RR := by
  intro mThr mTn mCk mRw mSt mTr mFM mFS mTpN mLw mAt mTwN mBE mBEn mSun mCkT mCkD mCkK mCkA mRow mStT mRun mUp mSta mSty mDly mTri mFnd mTap mLwT mLwD mLwO mLwM mTwT mSetA mDri mOrd mBst tnN ckN stN trN dsT dsC tpN lwN rdS rdM rdE rdD twN rsW rsE rwN suns ckT ckD shf lnT ways ups sts sty dly gAp gOp stp bst sgn lwT lwD rdT rdO lwK lwM twS twM twD rsO rsB rwA hR out a1 
  obtain ⟨hTn, hCk, hLn, hTp, hLw, hTw, hRw⟩ := id hR
  obtain ⟨e1, hb, hq⟩ := id hRw
  subst e1
  have hc := ti_c a1
  have he : (0 ≤ a1.toInt ∧ a1.toInt < mRw.toInt) → mRow a1.toNatClampNeg = rwA a1.toNatClampNeg := fun h => hq _ (by omega)
  simp only [p_O_row, p_M_row, p_M_refuse, k_inn hb.1, ou_0, bi0, bi01, true_and, and_true, not_true_eq_false, not_false_eq_true, false_implies, true_implies, true_or, or_true, Classical.not_not, forall_eq, ti_as, k_has, k_isDay, k_isMinute, k_isTimeOfDay, k_isMatter, k_hasStation, k_hasTrain, k_TwHas, k_inw, k_mDay, k_mMinute]
  simp only [ti_lt, ti_le, ti_eq, true_and, and_true, not_true_eq_false, not_false_eq_true, false_implies, true_implies, c_0, c_1, c_2, c_3, c_4, c_5, c_6, c_7, c_8, c_10, c_12, c_16, c_20, c_24, c_26, c_30, c_31, c_39, c_40, c_41, c_43, c_45, c_48, c_57, c_59, c_60, c_61, c_64, c_96, c_97, c_99, c_100, c_102, c_108, c_122, c_127, c_255, c_399, c_400, c_448, c_576720, c_600, c_720, c_1439, c_1440, c_575999, c_576000, c_1073741824, c_2147483647, c_m1, c_m6, c_m8, c_m12, c_m41, c_m100, c_m600, c_m720, e_0, e_1, e_2, e_5, e_12, e_m12, e_30, e_60, e_399, e_600, e_m600, e_720, e_m720, e_1439, e_1440, e_575999, o_60, o_20]
  by_cases h : 0 ≤ a1.toInt ∧ a1.toInt < mRw.toInt
  · rw [he h]
    repeat' (first | exact hR | rfl | (exfalso; omega) | (refine ti_in ?_ ?_ <;> omega) | constructor | intro _)
  · repeat' (first | exact hR | rfl | (exfalso; omega) | (refine ti_in ?_ ?_ <;> omega) | constructor | intro _)
