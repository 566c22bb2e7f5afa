set_option maxHeartbeats 600000
theorem tn_t {c A B : Prop} (h : ¬ c) (b : B) : (c → A) ∧ (¬ c → B) := ⟨fun g => absurd g h, fun _ => b⟩
theorem tn_f {c A B : Prop} (h : c) (a : A) : (c → A) ∧ (¬ c → B) := ⟨fun _ => a, fun g => absurd h g⟩
section FF
variable {tnN ckN mTn mCk t d w : Int32} {suns ckT ckD shf mSun mCkT mCkD mCkK mCkA : Nat → Int32} {Q : Int32 → Prop}
theorem k_firstShowing2 (hTn : R_tn tnN suns mTn mSun) (hCk : R_ck tnN suns ckN ckT ckD shf mCk mCkT mCkD mCkK mCkA) (ht : 0 ≤ t.toInt ∧ t.toInt < tnN.toInt) (q : ∀ r : Int32, FT (sh ckN suns ckT ckD shf t) w.toInt r → ((r.toInt = -1 ∨ 0 ≤ r.toInt) ∧ r.toInt < 576000) → Q r) : p_Tn_firstShowing tnN ckN suns ckT ckD shf t w Q :=
  k_firstShowing hTn hCk ht (fun r hr => q r hr (by have h := hr.neg (sh_b hTn hCk ht); rw [ti_eq, c_m1] at h; omega))
theorem k_firstAt2 {w : Int64} {r : Int32} {w' : Int} (hTn : R_tn tnN suns mTn mSun) (hCk : R_ck tnN suns ckN ckT ckD shf mCk mCkT mCkD mCkK mCkA) (ht : 0 ≤ t.toInt ∧ t.toInt < tnN.toInt) (hr : FT (sh ckN suns ckT ckD shf t) w' r) (hw : w.toInt = w' ∧ -2147483648 ≤ w' ∧ w' ≤ 2147483647) (q : Q r) : p_M_firstAt mCk mSun mCkT mCkD mCkK mCkA t w Q :=
  k_firstAt hTn hCk ht (by rw [hw.1]; exact hw.2) (fun r' hr' => by rw [hw.1] at hr'; rw [hr'.uniq hr]; exact q)
end FF
theorem s_turned : st_turned RR := by
  intro mThr mTn mCk mRw mSt mTr mFM mFS mTpN mLw mAt mTwN mBE mBEn mSun mCkT mCkD mCkK mCkA mRow mStT mRun mUp mSta mSty mDly mTri mFnd mTap mLwT mLwD mLwO mLwM mTwT mSetA mDri mOrd mBst tnN ckN stN trN dsT dsC tpN lwN rdS rdM rdE rdD twN rsW rsE rwN suns ckT ckD shf lnT ways ups sts sty dly gAp gOp stp bst sgn lwT lwD rdT rdO lwK lwM twS twM twD rsO rsB rwA hR out a1 a2 a3 
  obtain ⟨hTn, hCk, hLn, hTp, hLw, hTw, hRw⟩ := id hR
  obtain ⟨e2, hb2, hq2⟩ := id hTn
  subst e2
  simp only [p_O_turned, p_Tn_readingAt, p_M_turned, p_M_refuse, k_isTown hb2.1, ou_0, bi0, bi01, true_and, and_true, not_true_eq_false, not_false_eq_true, false_implies, true_implies, true_or, or_true, Classical.not_not, forall_eq, ti_as, k_has, k_isDay, k_isMinute, k_isTimeOfDay, k_isMatter, k_hasStation, k_hasTrain, k_TwHas, k_inw, k_mDay, k_mMinute]
  have hm1 : ¬ (0 : Int32) ≤ -1 := by decide
  by_cases h1 : 0 ≤ a1.toInt ∧ a1.toInt < mTn.toInt
  case neg => exact tk_f h1 (tk_f h1 (by unfold p_M_turned_J32 p_M_refuse; exact tn_t hm1 (by first | exact ⟨rfl, fun g => absurd g i10, hR⟩ | exact ⟨fun g => absurd g i10, hR⟩ | exact hR)))
  by_cases h3 : 0 ≤ a3.toInt ∧ a3.toInt < mTn.toInt
  case neg => exact tk_t h1 (tk_f h3 (tk_t h1 (tk_f h3 (by unfold p_M_turned_J32 p_M_refuse; exact tn_t hm1 (by first | exact ⟨rfl, fun g => absurd g i10, hR⟩ | exact ⟨fun g => absurd g i10, hR⟩ | exact hR)))))
  refine tk_t h1 (tk_t h3 (k_firstShowing2 hTn hCk h1 (fun r hr hn => ?_)))
  have hw : a2.toInt64.toInt = a2.toInt ∧ -2147483648 ≤ a2.toInt ∧ a2.toInt ≤ 2147483647 := ⟨ti_w a2, ti_r a2⟩
  refine ⟨fun g => ?_, fun g => ?_⟩
  · refine tk_t h1 (tk_t h3 (k_firstAt2 hTn hCk h1 hr hw ?_))
    unfold p_M_turned_J32 p_M_refuse
    rw [ti_eq, c_m1] at g
    exact tn_t (by rw [ti_le, c_0]; omega) (by first | exact ⟨rfl, fun g => absurd g i10, hR⟩ | exact ⟨fun g => absurd g i10, hR⟩ | exact hR)
  · rw [ti_eq, c_m1] at g
    refine k_shiftOn hTn hCk h3 (tk_t h1 (tk_t h3 (k_firstAt2 hTn hCk h1 hr hw ?_)))
    unfold p_M_turned_J32
    exact tn_f (by rw [ti_le, c_0]; omega) (k_ahead hTn hCk h3 (by first | exact ⟨rfl, fun _ => rfl, hR⟩ | exact ⟨rfl, rfl, hR⟩ | exact ⟨fun _ => rfl, hR⟩ | exact ⟨rfl, hR⟩ | exact hR))
theorem s_train : st_train RR := by
  intro mThr mTn mCk mRw mSt mTr mFM mFS mTpN mLw mAt mTwN mBE mBEn mSun mCkT mCkD mCkK mCkA mRow mStT mRun mUp mSta mSty mDly mTri mFnd mTap mLwT mLwD mLwO mLwM mTwT mSetA mDri mOrd mBst tnN ckN stN trN dsT dsC tpN lwN rdS rdM rdE rdD twN rsW rsE rwN suns ckT ckD shf lnT ways ups sts sty dly gAp gOp stp bst sgn lwT lwD rdT rdO lwK lwM twS twM twD rsO rsB rwA hR a1 a2 a3 a4 h1
  obtain ⟨hTn, hCk, hLn, hTp, hLw, hTw, hRw⟩ := id hR
  obtain ⟨e2, hb2, hq2⟩ := id hTn
  obtain ⟨e1, e3, hb1, hb3, hb4, hw, hq1, hq4, hq3⟩ := id hLn
  subst e1
  subst e2
  subst e3
  have hs1 := ti_s1 (x := mSt) (by omega)
  have hb : vp_nar .boolean a1 = a1 := by rcases h1 with h | h <;> subst h <;> decide
  have hN : ∀ r : Int32, 2 ≤ mSt.toInt → mTr.toInt < 6 → (0 ≤ r.toInt ∧ r.toInt < 576000) → (0 ≤ a4.toInt ∧ a4.toInt ≤ 60) → RR (0) mTn mCk mRw mSt (mTr + 1) mFM mFS mTpN mLw mAt mTwN mBE mBEn mSun mCkT mCkD mCkK mCkA mRow mStT mRun (upd mUp mTr.toNatClampNeg a1) (upd mSta mTr.toNatClampNeg r) (upd mSty mTr.toNatClampNeg a4) (upd mDly mTr.toNatClampNeg 0) mTri mFnd mTap mLwT mLwD mLwO mLwM mTwT mSetA mDri mOrd mBst (mTn) ckN (mSt) (mTr + 1) dsT dsC tpN lwN rdS rdM rdE rdD twN rsW rsE rwN suns ckT ckD shf lnT ways (upd ups mTr.toNatClampNeg a1) (upd sts mTr.toNatClampNeg r) (upd sty mTr.toNatClampNeg a4) (upd dly mTr.toNatClampNeg 0) gAp gOp stp bst sgn lwT lwD rdT rdO lwK lwM twS twM twD rsO rsB rwA := by
    intro r g1 g2 g3 g4
    have hs := ti_a1 (x := mTr) (by omega)
    have hc := ti_c mTr
    refine ⟨hTn, hCk, ⟨rfl, rfl, hb1, by omega, by omega, hw, hq1, hq4, fun i hi => ?_⟩, hTp, hLw, hTw, hRw⟩
    by_cases hi2 : (i : Int) < mTr.toInt
    · have ne : i ≠ mTr.toNatClampNeg := by omega
      rw [ti_un ne, ti_un ne, ti_un ne, ti_un ne, ti_un ne, ti_un ne, ti_un ne, ti_un ne]
      exact hq3 i hi2
    · have ei : i = mTr.toNatClampNeg := by omega
      subst ei
      rw [ti_up, ti_up, ti_up, ti_up, ti_up, ti_up, ti_up, ti_up]
      exact ⟨rfl, h1, rfl, g3, rfl, g4, rfl, by rw [c_0]; omega⟩
  simp only [p_O_train, p_Ln_takesTrains, p_Ln_addTrain, p_M_train, hb, bi0, bi01, true_and, and_true, not_true_eq_false, not_false_eq_true, false_implies, true_implies, true_or, or_true, Classical.not_not, forall_eq, ti_as, k_has, k_isDay, k_isMinute, k_isTimeOfDay, k_isMatter, k_hasStation, k_hasTrain, k_TwHas, k_inw, k_mDay, k_mMinute]
  by_cases G : (0 ≤ a2.toInt ∧ a2.toInt < 400) ∧ (0 ≤ a3.toInt ∧ a3.toInt < 1440) ∧ (0 ≤ a4.toInt ∧ a4.toInt ≤ 60) ∧ 2 ≤ mSt.toInt ∧ mTr.toInt < 6
  case neg =>
    simp only [ti_lt, ti_le, ti_eq, true_and, and_true, not_true_eq_false, not_false_eq_true, false_implies, true_implies, c_0, c_1, c_2, c_3, c_4, c_5, c_6, c_7, c_8, c_10, c_12, c_16, c_20, c_24, c_26, c_30, c_31, c_39, c_40, c_41, c_43, c_45, c_48, c_57, c_59, c_60, c_61, c_64, c_96, c_97, c_99, c_100, c_102, c_108, c_122, c_127, c_255, c_399, c_400, c_448, c_576720, c_600, c_720, c_1439, c_1440, c_575999, c_576000, c_1073741824, c_2147483647, c_m1, c_m6, c_m8, c_m12, c_m41, c_m100, c_m600, c_m720, e_0, e_1, e_2, e_5, e_12, e_m12, e_30, e_60, e_399, e_600, e_m600, e_720, e_m720, e_1439, e_1440, e_575999, o_60, o_20]
    repeat' (first | exact hR | rfl | (exfalso; omega) | (refine ti_in ?_ ?_ <;> omega) | constructor | intro _)
  obtain ⟨g1, g2, g3, g4, g5⟩ := G
  have wm : (a2 * 1440).toInt = a2.toInt * 1440 := by rw [ti_mul] <;> rw [c_1440] <;> omega
  have wv : (a2 * 1440 + a3).toInt = a2.toInt * 1440 + a3.toInt := by rw [ti_add] <;> rw [wm] <;> omega
  have vm : (a2.toInt64 * 1440).toInt = a2.toInt * 1440 := by rw [t64_mul] <;> rw [e_1440, ti_w] <;> omega
  have vv : (a2.toInt64 * 1440 + a3.toInt64).toInt = a2.toInt * 1440 + a3.toInt := by rw [t64_add] <;> rw [vm, ti_w] <;> omega
  have key : ∀ s : Int32, 0 ≤ s.toInt ∧ s.toInt < mSt.toInt → (0 ≤ (lnT s.toNatClampNeg).toInt ∧ (lnT s.toNatClampNeg).toInt < mTn.toInt) ∧ mStT s.toNatClampNeg = lnT s.toNatClampNeg := by
    intro s hs
    have := ti_c s
    have q := hq1 s.toNatClampNeg (by omega)
    exact ⟨q.2, q.1⟩
  have kM : ∀ (s r : Int32) (QQ : Int32 → Int32 → Int32 → (Nat → Int32) → (Nat → Int32) → (Nat → Int32) → (Nat → Int32) → Prop), (0 ≤ s.toInt ∧ s.toInt < mSt.toInt) → FT (sh ckN suns ckT ckD shf (lnT s.toNatClampNeg)) (a2 * 1440 + a3).toInt r → (0 ≤ r.toInt → QQ mTr 0 (mTr + 1) (upd mUp mTr.toNatClampNeg a1) (upd mSta mTr.toNatClampNeg r) (upd mSty mTr.toNatClampNeg a4) (upd mDly mTr.toNatClampNeg 0)) → (¬ 0 ≤ r.toInt → QQ (-1) 0 mTr mUp mSta mSty mDly) → p_M_train_J75 mCk mSt mSun mCkT mCkD mCkK mCkA mStT a1 a2 a3 a4 0 mTr mUp mSta mSty mDly s QQ := by
    intro s r QQ hs hr q1 q0
    have k := key s hs
    have hin : vp_in mTr 6 := ti_in hb3.1 (by omega)
    unfold p_M_train_J75
    simp only [forall_eq, ti_as, hb]
    refine ⟨ti_in hs.1 (by omega), ?_⟩
    rw [k.2]
    refine k_firstAt2 hTn hCk k.1 hr (by rw [wv, vv]; omega) ⟨fun g => ⟨hin, hin, hin, hin, q1 (by rw [ti_le, c_0] at g; exact g)⟩, fun g => q0 (by rw [ti_le, c_0] at g; exact g)⟩
  have kO : ∀ (s : Int32) (QQ : Int32 → Prop), (0 ≤ s.toInt ∧ s.toInt < mSt.toInt) → (∀ r : Int32, FT (sh ckN suns ckT ckD shf (lnT s.toNatClampNeg)) (a2 * 1440 + a3).toInt r → ((r.toInt = -1 ∨ 0 ≤ r.toInt) ∧ r.toInt < 576000) → QQ r) → p_Ln_firstTown_J14 mSt lnT s (fun r47 => p_Tn_firstShowing mTn ckN suns ckT ckD shf r47 (a2 * 1440 + a3) QQ) := by
    intro s QQ hs q
    unfold p_Ln_firstTown_J14
    rw [k_hasStation, bi_t hs]
    exact tn_t i10 ⟨ti_in hs.1 (by omega), k_firstShowing2 hTn hCk (key s hs).1 q⟩
  have fin : ∀ (s : Int32), (0 ≤ s.toInt ∧ s.toInt < mSt.toInt) → (∀ r : Int32, FT (sh ckN suns ckT ckD shf (lnT s.toNatClampNeg)) (a2 * 1440 + a3).toInt r → ((r.toInt = -1 ∨ 0 ≤ r.toInt) ∧ r.toInt < 576000) → True) := fun _ _ _ _ _ => trivial
  have hin : vp_in mTr 6 := ti_in hb3.1 (by omega)
  have hz : (0 ≤ (0 : Int32).toInt ∧ (0 : Int32).toInt < mSt.toInt) := by rw [c_0]; omega
  have hl : (0 ≤ (mSt - 1).toInt ∧ (mSt - 1).toInt < mSt.toInt) := by omega
  have nst : ¬ mSt < 2 := by rw [ti_lt, c_2]; omega
  have ntr : ¬ 6 ≤ mTr := by rw [ti_le, c_6]; omega
  have ntr2 : mTr < 6 := by rw [ti_lt, c_6]; omega
  have ntr3 : ¬ mTr = 6 := by rw [ti_eq, c_6]; omega
  have n4 : ¬ a4 < 0 := by rw [ti_lt, c_0]; omega
  have n5 : ¬ 60 < a4 := by rw [ti_lt, c_60]; omega
  have n6 : (0 : Int64).toInt ≤ a3.toInt ∧ a3.toInt ≤ (1439 : Int64).toInt := by rw [e_0, e_1439]; omega
  have n7 : (0 : Int64).toInt ≤ a4.toInt ∧ a4.toInt ≤ (60 : Int64).toInt := by rw [e_0, e_60]; omega
  refine tk_t g1 (tk_t g2 (tn_t n4 (tn_t n5 (tn_t nst (tn_t ntr (tn_t i10 ?_))))))
  unfold p_Ln_firstTown
  refine ⟨fun z => ?_, fun z => ?_⟩
  · refine kO _ _ hl (fun r hr hn => ⟨fun g => ?_, fun g => tn_f ntr2 ⟨hin, hin, hin, hin, ?_⟩⟩)
    · refine tk_t g1 (tk_t n6 (tk_t n7 (tn_t nst (tn_t ntr3 (tn_f z (kM _ r _ hl hr (fun k => ?_) (fun _ => ⟨rfl, hR⟩)))))))
      rw [ti_eq, c_m1] at g
      omega
    · rw [ti_eq, c_m1] at g
      exact tk_t g1 (tk_t n6 (tk_t n7 (tn_t nst (tn_t ntr3 (tn_f z (kM _ r _ hl hr (fun k => ⟨rfl, hN r g4 g5 (by omega) g3⟩) (fun k => absurd (by omega) k)))))))
  · refine kO _ _ hz (fun r hr hn => ⟨fun g => ?_, fun g => tn_f ntr2 ⟨hin, hin, hin, hin, ?_⟩⟩)
    · refine tk_t g1 (tk_t n6 (tk_t n7 (tn_t nst (tn_t ntr3 (tn_t z (kM _ r _ hz hr (fun k => ?_) (fun _ => ⟨rfl, hR⟩)))))))
      rw [ti_eq, c_m1] at g
      omega
    · rw [ti_eq, c_m1] at g
      exact tk_t g1 (tk_t n6 (tk_t n7 (tn_t nst (tn_t ntr3 (tn_t z (kM _ r _ hz hr (fun k => ⟨rfl, hN r g4 g5 (by omega) g3⟩) (fun k => absurd (by omega) k)))))))
/-! the minutes that show w, as a row -/
def WPg (c0 c1 : Prop) (m0 m1 : Int) (N : Int32) (row : Nat → Int32) : Prop := (c0 → c1 → N.toInt = 2 ∧ (row 0).toInt = m0 ∧ (row 1).toInt = m1) ∧ (c0 → ¬ c1 → N.toInt = 1 ∧ (row 0).toInt = m0) ∧ (¬ c0 → c1 → N.toInt = 1 ∧ (row 0).toInt = m1) ∧ (¬ c0 → ¬ c1 → N.toInt = 0)
theorem WPg.R {c0 c1 : Prop} {m0 m1 : Int} {N N' : Int32} {row row' : Nat → Int32} (h : WPg c0 c1 m0 m1 N row) (h' : WPg c0 c1 m0 m1 N' row') : R_rw N row N' row' := by
  unfold R_rw
  by_cases a : c0
  · by_cases b : c1
    · have x := h.1 a b
      have y := h'.1 a b
      refine ⟨ti_eq.mpr (by omega), by omega, fun i hi => ti_eq.mpr ?_⟩
      have hi2 : i = 0 ∨ i = 1 := by omega
      rcases hi2 with e | e <;> subst e <;> omega
    · have x := h.2.1 a b
      have y := h'.2.1 a b
      refine ⟨ti_eq.mpr (by omega), by omega, fun i hi => ti_eq.mpr ?_⟩
      have hi2 : i = 0 := by omega
      subst hi2
      omega
  · by_cases b : c1
    · have x := h.2.2.1 a b
      have y := h'.2.2.1 a b
      refine ⟨ti_eq.mpr (by omega), by omega, fun i hi => ti_eq.mpr ?_⟩
      have hi2 : i = 0 := by omega
      subst hi2
      omega
    · have x := h.2.2.2 a b
      have y := h'.2.2.2 a b
      exact ⟨ti_eq.mpr (by omega), by omega, fun i hi => by omega⟩
theorem WPg.c {c0 c1 d0 d1 : Prop} {m0 m1 : Int} {N : Int32} {row : Nat → Int32} (h : WPg c0 c1 m0 m1 N row) (h0 : c0 ↔ d0) (h1 : c1 ↔ d1) : WPg d0 d1 m0 m1 N row := by
  rw [← propext h0, ← propext h1]
  exact h
theorem WPg.add0 {c0 c1 d0 : Prop} {m0 m1 : Int} {N z : Int32} {row : Nat → Int32} (h : WPg c0 c1 m0 m1 N row) (h0 : ¬ c0) (h1 : ¬ c1) (hd : d0) (hz : z.toInt = m0) : WPg d0 c1 m0 m1 (N + 1) (upd row N.toNatClampNeg z) := by
  have e := h.2.2.2 h0 h1
  have s := ti_a1 (x := N) (by omega)
  have k : N.toNatClampNeg = 0 := by rw [ti_c]; omega
  rw [k]
  exact ⟨fun _ q => absurd q h1, fun _ _ => ⟨by omega, by rw [ti_up]; exact hz⟩, fun q => absurd hd q, fun q => absurd hd q⟩
theorem WPg.add1 {c0 c1 d1 : Prop} {m0 m1 : Int} {N z : Int32} {row : Nat → Int32} (h : WPg c0 c1 m0 m1 N row) (h1 : ¬ c1) (hd : d1) (hz : z.toInt = m1) : WPg c0 d1 m0 m1 (N + 1) (upd row N.toNatClampNeg z) := by
  have hk := ti_c N
  by_cases a : c0
  · have e := h.2.1 a h1
    have s := ti_a1 (x := N) (by omega)
    have k : N.toNatClampNeg = 1 := by omega
    rw [k]
    exact ⟨fun _ _ => ⟨by omega, by rw [ti_un (by decide)]; exact e.2, by rw [ti_up]; exact hz⟩, fun _ q => absurd hd q, fun q => absurd a q, fun q => absurd a q⟩
  · have e := h.2.2.2 a h1
    have s := ti_a1 (x := N) (by omega)
    have k : N.toNatClampNeg = 0 := by omega
    rw [k]
    exact ⟨fun q => absurd q a, fun q => absurd q a, fun _ _ => ⟨by omega, by rw [ti_up]; exact hz⟩, fun _ q => absurd hd q⟩
theorem WPg.le {c0 c1 : Prop} {m0 m1 : Int} {N : Int32} {row : Nat → Int32} (h : WPg c0 c1 m0 m1 N row) : 0 ≤ N.toInt ∧ N.toInt ≤ 2 := by
  by_cases a : c0 <;> by_cases b : c1
  · have := h.1 a b
    omega
  · have := h.2.1 a b
    omega
  · have := h.2.2.1 a b
    omega
  · have := h.2.2.2 a b
    omega
theorem k_addMinute {N r : Int32} {row : Nat → Int32} {Q : Int32 → (Nat → Int32) → Prop} (hN : 0 ≤ N.toInt ∧ N.toInt ≤ 2) (h0 : r.toInt = -1 → Q N row) (h1 : ¬ r.toInt = -1 → Q (N + 1) (upd row N.toNatClampNeg r)) : p_Rw_addMinute N row r Q := by
  unfold p_Rw_addMinute p_Rw_add
  simp only [forall_eq]
  rw [ti_eq, ti_le, c_m1, c_8]
  exact ⟨h0, fun g => ⟨fun k => absurd k (by omega), fun _ => ⟨ti_in hN.1 (by omega), h1 g⟩⟩⟩
section WH
variable {tnN ckN mTn mCk t w : Int32} {suns ckT ckD shf mSun mCkT mCkD mCkK mCkA : Nat → Int32}
theorem k_whenO {rwN : Int32} {rwA : Nat → Int32} {Q : Int32 → Int32 → (Nat → Int32) → Prop} (hTn : R_tn tnN suns mTn mSun) (hCk : R_ck tnN suns ckN ckT ckD shf mCk mCkT mCkD mCkK mCkA) (ht : 0 ≤ t.toInt ∧ t.toInt < tnN.toInt)
    (q : ∀ N row, WPg (hit (sh ckN suns ckT ckD shf t) w.toInt (near w.toInt)) (hit (sh ckN suns ckT ckD shf t) w.toInt (near w.toInt + 1)) (w.toInt - (sh ckN suns ckT ckD shf t (near w.toInt)).toInt) (w.toInt - (sh ckN suns ckT ckD shf t (near w.toInt + 1)).toInt) N row → Q N N row) : p_O_when tnN ckN suns ckT ckD shf rwN rwA t w Q := by
  unfold p_O_when p_Rw_clear
  rw [k_has, bi_t ht]
  have hS := sh_b hTn hCk ht
  have W0 : WPg False False (w.toInt - (sh ckN suns ckT ckD shf t (near w.toInt)).toInt) (w.toInt - (sh ckN suns ckT ckD shf t (near w.toInt + 1)).toInt) 0 rwA := ⟨fun q => absurd q id, fun q => absurd q id, fun _ q => absurd q id, fun _ _ => c_0⟩
  refine tn_t i10 (k_near (fun z hz => ?_))
  have hs : (z + 1).toInt = z.toInt + 1 := ti_a1 (by rw [hz]; unfold near; split <;> omega)
  have stage2 : ∀ N row, WPg (hit (sh ckN suns ckT ckD shf t) w.toInt (near w.toInt)) False (w.toInt - (sh ckN suns ckT ckD shf t (near w.toInt)).toInt) (w.toInt - (sh ckN suns ckT ckD shf t (near w.toInt + 1)).toInt) N row → p_Tn_minuteShowing tnN ckN suns ckT ckD shf t (z + 1) w (fun r55 => p_Rw_addMinute N row r55 (fun rwN_58 rwA_58 => Q rwN_58 rwN_58 rwA_58)) := by
    intro N row hW
    refine k_minute hTn hCk ht (Or.inr (by omega)) (fun h y hy => ?_) (fun h => ?_)
    · have hy0 := (hit_near (hS _) h).2
      rw [hs, hz] at h hy
      exact k_addMinute hW.le (fun g => by rw [hs, hz] at hy0; omega) (fun _ => q _ _ (hW.add1 id h hy))
    · rw [hs, hz] at h
      exact k_addMinute hW.le (fun _ => q _ _ (hW.c Iff.rfl ⟨fun k => absurd k id, fun k => absurd k h⟩)) (fun g => absurd c_m1 g)
  refine k_minute hTn hCk ht (Or.inl hz) (fun h y hy => ?_) (fun h => ?_)
  · have hy0 := (hit_near (hS _) h).2
    rw [hz] at h hy hy0
    exact k_addMinute W0.le (fun g => by omega) (fun _ => stage2 _ _ (W0.add0 id id h hy))
  · rw [hz] at h
    exact k_addMinute W0.le (fun _ => stage2 _ _ (W0.c ⟨fun k => absurd k id, fun k => absurd k h⟩ Iff.rfl)) (fun g => absurd c_m1 g)
theorem k_whenM {mThr mRw : Int32} {mRow : Nat → Int32} {Q : Int32 → Int32 → Int32 → (Nat → Int32) → Prop} (hTn : R_tn tnN suns mTn mSun) (hCk : R_ck tnN suns ckN ckT ckD shf mCk mCkT mCkD mCkK mCkA) (ht : 0 ≤ t.toInt ∧ t.toInt < tnN.toInt)
    (q : ∀ N row, WPg (hit (sh ckN suns ckT ckD shf t) w.toInt (near w.toInt)) (hit (sh ckN suns ckT ckD shf t) w.toInt (near w.toInt + 1)) (w.toInt - (sh ckN suns ckT ckD shf t (near w.toInt)).toInt) (w.toInt - (sh ckN suns ckT ckD shf t (near w.toInt + 1)).toInt) N row → Q N 0 N row) : p_M_when mTn mCk mSun mCkT mCkD mCkK mCkA mThr mRw mRow t w Q := by
  have e := hTn.1
  subst e
  unfold p_M_when
  rw [k_isTown hTn.2.1.1, bi_t ht]
  have hS := sh_b hTn hCk ht
  refine tn_t i10 (Lp3.of (fun v N row => (0 ≤ v.toInt ∧ v.toInt ≤ 400) ∧ WPg (hit (sh ckN suns ckT ckD shf t) w.toInt (near w.toInt) ∧ near w.toInt < v.toInt) (hit (sh ckN suns ckT ckD shf t) w.toInt (near w.toInt + 1) ∧ near w.toInt + 1 < v.toInt) (w.toInt - (sh ckN suns ckT ckD shf t (near w.toInt)).toInt) (w.toInt - (sh ckN suns ckT ckD shf t (near w.toInt + 1)).toInt) N row) (fun v _ _ => (400 - v.toInt).toNat) ?_ _ _ _ ⟨by rw [c_0]; omega, ?_⟩)
  · intro rec v N row ⟨i1, i2⟩ hrec
    unfold p_M_when_L22
    simp only [forall_eq, ti_le, c_400]
    refine ⟨fun g => q _ _ (i2.c ⟨fun k => k.1, fun k => ⟨k, by have := k.2.1; omega⟩⟩ ⟨fun k => k.1, fun k => ⟨k, by have := k.2.1; omega⟩⟩), fun g => ?_⟩
    refine k_ahead hTn hCk ht ?_
    have hb := hS v.toInt
    have hr := ti_r w
    have hx : (w.toInt64 - (sh ckN suns ckT ckD shf t v.toInt).toInt64).toInt = w.toInt - (sh ckN suns ckT ckD shf t v.toInt).toInt := by
      rw [t64_sub] <;> rw [ti_w, ti_w] <;> omega
    rw [k_in, bi_c (k_hit64 (v := v) ⟨i1.1, by omega⟩ hx)]
    have hs := ti_a1 (x := v) (by omega)
    have hle := i2.le
    by_cases h : hit (sh ckN suns ckT ckD shf t) w.toInt v.toInt
    · rw [bi_t h]
      have hn := hit_near hb h
      have h32 : (w.toInt64 - (sh ckN suns ckT ckD shf t v.toInt).toInt64).toInt32.toInt = w.toInt - (sh ckN suns ckT ckD shf t v.toInt).toInt := by rw [t64_32, hx] <;> omega
      refine tn_t i10 ⟨ti_in hle.1 (by omega), hrec _ _ _ ⟨by omega, ?_⟩ (by omega)⟩
      rcases hn.1 with k | k
      · rw [k] at h h32
        refine (i2.add0 (fun z => by omega) (fun z => by omega) (d0 := hit (sh ckN suns ckT ckD shf t) w.toInt (near w.toInt) ∧ near w.toInt < (v + 1).toInt) ⟨h, by omega⟩ (by rw [k]; exact h32)).c Iff.rfl ⟨fun z => absurd z.2 (by omega), fun z => absurd z.2 (by omega)⟩
      · rw [k] at h h32
        refine (i2.add1 (fun z => by omega) (d1 := hit (sh ckN suns ckT ckD shf t) w.toInt (near w.toInt + 1) ∧ near w.toInt + 1 < (v + 1).toInt) ⟨h, by omega⟩ (by rw [k]; exact h32)).c ⟨fun z => ⟨z.1, by omega⟩, fun z => ⟨z.1, by omega⟩⟩ Iff.rfl
    · rw [bi_f h]
      refine tn_f rfl (hrec _ _ _ ⟨by omega, i2.c ⟨fun z => ⟨z.1, by omega⟩, fun z => ⟨z.1, ?_⟩⟩ ⟨fun z => ⟨z.1, by omega⟩, fun z => ⟨z.1, ?_⟩⟩⟩ (by omega))
      · by_cases k : near w.toInt < v.toInt
        · exact k
        · exact absurd z.1 (by rw [show near w.toInt = v.toInt by omega]; exact h)
      · by_cases k : near w.toInt + 1 < v.toInt
        · exact k
        · exact absurd z.1 (by rw [show near w.toInt + 1 = v.toInt by omega]; exact h)
  · exact ⟨fun z => absurd z.2 (by rw [c_0]; have := z.1.1; omega), fun z => absurd z.2 (by rw [c_0]; have := z.1.1; omega), fun _ z => absurd z.2 (by rw [c_0]; have := z.1.1; omega), fun _ _ => c_0⟩
end WH
theorem s_when : st_when RR := by
  intro mThr mTn mCk mRw mSt mTr mFM mFS mTpN mLw mAt mTwN mBE mBEn mSun mCkT mCkD mCkK mCkA mRow mStT mRun mUp mSta mSty mDly mTri mFnd mTap mLwT mLwD mLwO mLwM mTwT mSetA mDri mOrd mBst tnN ckN stN trN dsT dsC tpN lwN rdS rdM rdE rdD twN rsW rsE rwN suns ckT ckD shf lnT ways ups sts sty dly gAp gOp stp bst sgn lwT lwD rdT rdO lwK lwM twS twM twD rsO rsB rwA hR a1 a2 
  obtain ⟨hTn, hCk, hLn, hTp, hLw, hTw, hRw⟩ := id hR
  by_cases h1 : 0 ≤ a1.toInt ∧ a1.toInt < tnN.toInt
  · refine k_whenO hTn hCk h1 (fun N row hW => k_whenM hTn hCk h1 (fun N' row' hW' => ⟨?_, hTn, hCk, hLn, hTp, hLw, hTw, hW.R hW'⟩))
    exact ((hW.R hW').1).symm
  · obtain ⟨e2, hb2, hq2⟩ := id hTn
    subst e2
    simp only [p_O_when, p_M_when, k_isTown hb2.1, bi0, bi01, true_and, and_true, not_true_eq_false, not_false_eq_true, false_implies, true_implies, true_or, or_true, Classical.not_not, forall_eq, ti_as, k_has, k_isDay, k_isMinute, k_isTimeOfDay, k_isMatter, k_hasStation, k_hasTrain, k_TwHas, k_inw, k_mDay, k_mMinute]
    exact tk_f h1 (tk_f h1 (by first | exact ⟨rfl, fun _ => rfl, hR⟩ | exact ⟨rfl, rfl, hR⟩ | exact ⟨fun _ => rfl, hR⟩ | exact ⟨rfl, hR⟩ | exact hR))
