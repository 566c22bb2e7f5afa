set_option maxHeartbeats 600000
/-! a tower clock's error -/
theorem mul_b {d x : Int} (hd : -600 ≤ d ∧ d ≤ 600) (hx : 0 ≤ x ∧ x ≤ 2000000) : -1200000000 ≤ d * x ∧ d * x ≤ 1200000000 := by
  have h1 := Int.mul_le_mul_of_nonneg_right hd.1 hx.1
  have h2 := Int.mul_le_mul_of_nonneg_right hd.2 hx.1
  omega
def er (d v m : Int32) : Int := (d.toInt * (v.toInt - m.toInt)).tdiv 1440
theorem er_O {d v m : Int32} (hd : -600 ≤ d.toInt ∧ d.toInt ≤ 600) (hx : 0 ≤ v.toInt - m.toInt ∧ v.toInt - m.toInt ≤ 2000000) : ((d * (v - m)) / 1440).toInt = er d v m := by
  have hs : (v - m).toInt = v.toInt - m.toInt := by rw [ti_sub] <;> omega
  have hb := mul_b hd hx
  have hm : (d * (v - m)).toInt = d.toInt * (v.toInt - m.toInt) := by rw [ti_mul] <;> rw [hs] <;> omega
  rw [ti_div _ (by rw [c_1440]; omega), hm, c_1440]
  rfl
theorem er_M {d v m : Int32} (hd : -600 ≤ d.toInt ∧ d.toInt ≤ 600) (hx : 0 ≤ v.toInt - m.toInt ∧ v.toInt - m.toInt ≤ 2000000) : ((d.toInt64 * (v - m).toInt64 / 1440 : Int64).toInt32).toInt = er d v m := by
  have hs : (v - m).toInt = v.toInt - m.toInt := by rw [ti_sub] <;> omega
  have hb := mul_b hd hx
  have hm : (d.toInt64 * (v - m).toInt64).toInt = d.toInt * (v.toInt - m.toInt) := by rw [t64_mul] <;> rw [ti_w, ti_w, hs] <;> omega
  have hq : (d.toInt * (v.toInt - m.toInt)).tdiv 1440 ≤ 1200000000 ∧ -1200000000 ≤ (d.toInt * (v.toInt - m.toInt)).tdiv 1440 := by
    by_cases h : 0 ≤ d.toInt * (v.toInt - m.toInt)
    · rw [td_p h]
      omega
    · rw [td_n (by omega)]
      omega
  have hv : (d.toInt64 * (v - m).toInt64 / 1440 : Int64).toInt = (d.toInt * (v.toInt - m.toInt)).tdiv 1440 := by
    rw [Int64.toInt_div, hm, e_1440]
    exact t64_bm (by omega) (by omega)
  rw [t64_32 (by rw [hv]; omega) (by rw [hv]; omega), hv]
  rfl
theorem k_asked {mTwN v1 v2 : Int32} {mSetA : Nat → Int32} {Q : Int32 → Prop} (hn : 0 ≤ mTwN.toInt ∧ mTwN.toInt ≤ 7) (q1 : (0 ≤ v1.toInt ∧ v1.toInt < mTwN.toInt) → (0 ≤ v2.toInt ∧ v2.toInt < 576000) → (mSetA v1.toNatClampNeg).toInt ≤ v2.toInt → Q 1) (q0 : ¬ ((0 ≤ v1.toInt ∧ v1.toInt < mTwN.toInt) ∧ (0 ≤ v2.toInt ∧ v2.toInt < 576000) ∧ (mSetA v1.toNatClampNeg).toInt ≤ v2.toInt) → Q 0) : p_M_isAsked mTwN mSetA v1 v2 Q := by
  unfold p_M_isAsked
  simp only [k_inn hn.1, k_mMinute, bi0, Classical.not_not, ti_lt]
  by_cases h1 : 0 ≤ v1.toInt ∧ v1.toInt < mTwN.toInt
  · by_cases h2 : 0 ≤ v2.toInt ∧ v2.toInt < 576000
    · exact tk_t h1 (tk_t h2 ⟨ti_in h1.1 (by omega), fun h => q0 (by omega), fun h => q1 h1 h2 (by omega)⟩)
    · exact tk_t h1 (tk_f h2 (q0 (fun k => h2 k.2.1)))
  · exact tk_f h1 (q0 (fun k => h1 k.1))
theorem k_setBy {twN v1 v2 : Int32} {twM : Nat → Int32} {Q : Int32 → Prop} (hn : 0 ≤ twN.toInt ∧ twN.toInt ≤ 7) (q1 : (0 ≤ v1.toInt ∧ v1.toInt < twN.toInt) → (twM v1.toNatClampNeg).toInt ≤ v2.toInt → Q 1) (q0 : ¬ ((0 ≤ v1.toInt ∧ v1.toInt < twN.toInt) ∧ (twM v1.toNatClampNeg).toInt ≤ v2.toInt) → Q 0) : p_Tw_isSetBy twN twM v1 v2 Q := by
  unfold p_Tw_isSetBy
  simp only [k_TwHas, bi0, Classical.not_not, ti_lt]
  by_cases h1 : 0 ≤ v1.toInt ∧ v1.toInt < twN.toInt
  · exact tk_t h1 ⟨ti_in h1.1 (by omega), fun h => q0 (by omega), fun h => q1 h1 (by omega)⟩
  · exact tk_f h1 (q0 (fun k => h1 k.1))
theorem k_errorAt {twN v1 v2 : Int32} {twM twD : Nat → Int32} {Q : Int32 → Prop} (hn : twN.toInt ≤ 7) (h1 : 0 ≤ v1.toInt ∧ v1.toInt < twN.toInt) (q : Q (((twD v1.toNatClampNeg) * (v2 - (twM v1.toNatClampNeg))) / 1440)) : p_Tw_errorAt twN twM twD v1 v2 Q := by
  unfold p_Tw_errorAt
  rw [k_TwHas, bi_t h1]
  exact tn_t i10 ⟨ti_in h1.1 (by omega), ti_in h1.1 (by omega), q⟩
theorem tw_at {tnN twN mTwN : Int32} {suns twS twM twD mTwT mSetA mDri : Nat → Int32} {v : Int32} (hTw : R_tw tnN suns twN twS twM twD mTwN mTwT mSetA mDri) (hv : 0 ≤ v.toInt ∧ v.toInt < twN.toInt) : mSetA v.toNatClampNeg = twM v.toNatClampNeg ∧ mDri v.toNatClampNeg = twD v.toNatClampNeg ∧ (-600 ≤ (twD v.toNatClampNeg).toInt ∧ (twD v.toNatClampNeg).toInt ≤ 600) ∧ (0 ≤ (twM v.toNatClampNeg).toInt ∧ (twM v.toNatClampNeg).toInt < 576000) := by
  have hc := ti_c v
  obtain ⟨g1, g2, g3, g4, g5, g6⟩ := hTw.2.2 v.toNatClampNeg (by omega)
  exact ⟨g3, g5, g6, g4⟩
theorem s_error : st_error RR := by
  intro mThr mTn mCk mRw mSt mTr mFM mFS mTpN mLw mAt mTwN mBE mBEn mSun mCkT mCkD mCkK mCkA mRow mStT mRun mUp mSta mSty mDly mTri mFnd mTap mLwT mLwD mLwO mLwM mTwT mSetA mDri mOrd mBst tnN ckN stN trN dsT dsC tpN lwN rdS rdM rdE rdD twN rsW rsE rwN suns ckT ckD shf lnT ways ups sts sty dly gAp gOp stp bst sgn lwT lwD rdT rdO lwK lwM twS twM twD rsO rsB rwA hR out a1 a2 
  obtain ⟨hTn, hCk, hLn, hTp, hLw, hTw, hRw⟩ := id hR
  obtain ⟨e2, hb2, hq2⟩ := id hTw
  subst e2
  simp only [p_O_error, p_M_error, p_M_refuse, p_M_errorOf, ou_0, k_isMinute, bi0, Classical.not_not]
  by_cases h2 : 0 ≤ a2.toInt ∧ a2.toInt < 576000
  case neg => exact tk_f h2 (k_asked hb2 (fun _ k _ => absurd k h2) (fun _ => tn_f rfl ⟨trivial, fun g => absurd g i10, hR⟩))
  refine tk_t h2 (k_setBy hb2 (fun h1 h3 => tn_t i10 ?_) (fun h => tn_f rfl (k_asked hb2 (fun k1 k2 k3 => ?_) (fun _ => tn_f rfl ⟨trivial, fun g => absurd g i10, hR⟩))))
  · have ta := tw_at hTw h1
    refine k_errorAt hb2.2 h1 (k_asked hb2 (fun _ _ _ => tn_t i10 ⟨ti_in h1.1 (by omega), ti_in h1.1 (by omega), ?_⟩) (fun k => absurd ⟨h1, h2, by rw [ta.1]; exact h3⟩ k))
    rw [ta.1, ta.2.1]
    have e := ti_eq.mpr ((er_O ta.2.2.1 (v := a2) (m := twM a1.toNatClampNeg) (by omega)).trans (er_M ta.2.2.1 (by omega)).symm)
    rw [e]
    exact ⟨trivial, fun _ => rfl, hR⟩
  · have ta := tw_at hTw k1
    rw [ta.1] at k3
    exact absurd ⟨k1, k3⟩ h
theorem s_set : st_set RR := by
  intro mThr mTn mCk mRw mSt mTr mFM mFS mTpN mLw mAt mTwN mBE mBEn mSun mCkT mCkD mCkK mCkA mRow mStT mRun mUp mSta mSty mDly mTri mFnd mTap mLwT mLwD mLwO mLwM mTwT mSetA mDri mOrd mBst tnN ckN stN trN dsT dsC tpN lwN rdS rdM rdE rdD twN rsW rsE rwN suns ckT ckD shf lnT ways ups sts sty dly gAp gOp stp bst sgn lwT lwD rdT rdO lwK lwM twS twM twD rsO rsB rwA hR out a1 a2 
  obtain ⟨hTn, hCk, hLn, hTp, hLw, hTw, hRw⟩ := id hR
  obtain ⟨e2, hb2, hq2⟩ := id hTw
  subst e2
  simp only [p_O_set, p_M_set, p_M_refuse, p_M_errorOf, ou_0, k_isMinute, bi0, Classical.not_not]
  by_cases h2 : 0 ≤ a2.toInt ∧ a2.toInt < 576000
  case neg => exact tk_f h2 (k_asked hb2 (fun _ k _ => absurd k h2) (fun _ => tn_f rfl ⟨trivial, fun g => absurd g i10, hR⟩))
  refine tk_t h2 (k_setBy hb2 (fun h1 h3 => tn_t i10 ?_) (fun h => tn_f rfl (k_asked hb2 (fun k1 k2 k3 => ?_) (fun _ => tn_f rfl ⟨trivial, fun g => absurd g i10, hR⟩))))
  · have ta := tw_at hTw h1
    have hN : RR (0) mTn mCk mRw mSt mTr mFM mFS mTpN mLw mAt mTwN mBE mBEn mSun mCkT mCkD mCkK mCkA mRow mStT mRun mUp mSta mSty mDly mTri mFnd mTap mLwT mLwD mLwO mLwM mTwT (upd mSetA a1.toNatClampNeg a2) mDri mOrd mBst tnN ckN stN trN dsT dsC tpN lwN rdS rdM rdE rdD (mTwN) rsW rsE rwN suns ckT ckD shf lnT ways ups sts sty dly gAp gOp stp bst sgn lwT lwD rdT rdO lwK lwM twS (upd twM a1.toNatClampNeg a2) twD rsO rsB rwA := by
      refine ⟨hTn, hCk, hLn, hTp, hLw, ⟨rfl, hb2, fun i hi => ?_⟩, hRw⟩
      obtain ⟨g1, g2, g3, g4, g5, g6⟩ := hq2 i hi
      refine ⟨g1, g2, ?_, ?_, g5, g6⟩
      · by_cases e : i = a1.toNatClampNeg
        · subst e
          rw [ti_up, ti_up]
        · rw [ti_un e, ti_un e]
          exact g3
      · by_cases e : i = a1.toNatClampNeg
        · subst e
          rw [ti_up]
          exact h2
        · rw [ti_un e]
          exact g4
    refine k_errorAt hb2.2 h1 ⟨ti_in h1.1 (by omega), k_asked hb2 (fun _ _ _ => tn_t i10 ⟨ti_in h1.1 (by omega), ti_in h1.1 (by omega), ti_in h1.1 (by omega), ?_⟩) (fun k => absurd ⟨h1, h2, by rw [ta.1]; exact h3⟩ k)⟩
    have e := ti_eq.mpr ((er_O ta.2.2.1 (v := a2) (m := twM a1.toNatClampNeg) (by omega)).trans (er_M ta.2.2.1 (by omega)).symm)
    refine ⟨trivial, fun _ => ?_, hN⟩
    rw [ta.1, ta.2.1, e]
  · have ta := tw_at hTw k1
    rw [ta.1] at k3
    exact absurd ⟨k1, k3⟩ h
/-! four signs out of a number -/
theorem by_b {x : BitVec 32} {k : Nat} (hk : k ≤ 24) : (x >>> k) &&& 255#32 = (x.sshiftRight k) &&& 255#32 := by
  have f : ∀ i : Fin 32, 8 ≤ i.val → (255#32).getLsbD i.val = false := by decide
  refine BitVec.eq_of_getLsbD_eq (fun i hi => ?_)
  rw [BitVec.getLsbD_and, BitVec.getLsbD_and]
  by_cases h : 8 ≤ i
  · rw [f ⟨i, hi⟩ h, Bool.and_false, Bool.and_false]
  · rw [BitVec.getLsbD_ushiftRight, BitVec.getLsbD_sshiftRight]
    have h1 : ¬ 32 ≤ i := by omega
    have h2 : k + i < 32 := by omega
    simp [h1, h2]
theorem by_r {x : Int32} : 0 ≤ (x &&& 255).toInt ∧ (x &&& 255).toInt ≤ 255 := by
  have e : (x &&& 255).toInt = (x.toBitVec &&& 255#32).toInt := rfl
  have h : (x.toBitVec &&& 255#32).toNat ≤ 255 := by
    rw [BitVec.toNat_and]
    exact Nat.and_le_right
  rw [e, BitVec.toInt_eq_toNat_of_lt (by omega)]
  omega
section SG
variable {v1 : Int32}
def byO (v1 k : Int32) : Int32 := ((v1.toUInt32 >>> (k.toUInt32 &&& Int32.toUInt32 31)).toInt32) &&& 255
def byM (v1 k : Int32) : Int32 := (v1 >>> ((24 - (8 * k)) &&& 31)) &&& 255
theorem by_24 : byO v1 24 = byM v1 0 := by
  have h := by_b (x := v1.toBitVec) (k := 24) (by decide)
  exact Int32.toBitVec_inj.mp h
theorem by_16 : byO v1 16 = byM v1 1 := by
  have h := by_b (x := v1.toBitVec) (k := 16) (by decide)
  exact Int32.toBitVec_inj.mp h
theorem by_8 : byO v1 8 = byM v1 2 := by
  have h := by_b (x := v1.toBitVec) (k := 8) (by decide)
  exact Int32.toBitVec_inj.mp h
theorem by_0 : byO v1 0 = byM v1 3 := by
  have h := by_b (x := v1.toBitVec) (k := 0) (by decide)
  exact Int32.toBitVec_inj.mp h
end SG
