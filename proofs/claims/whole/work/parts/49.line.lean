set_option maxHeartbeats 600000
/-! when a train leaves -/
def HV (stN : Int32) (ways ups sts sty : Nat → Int32) (i j : Nat) : Int := (sts i).toInt + (if ups i = 0 then (ways (stN.toInt.toNat - 1)).toInt - (ways (stN.toInt.toNat - 1 - j)).toInt else (ways j).toInt) + (sty i).toInt * (min j (stN.toInt.toNat - 2) : Nat)
section LN
variable {tnN stN trN : Int32} {lnT ways ups sts sty dly : Nat → Int32} {mSt mTr : Int32} {mStT mRun mUp mSta mSty mDly : Nat → Int32}
theorem ln_W (hLn : R_ln tnN stN trN lnT ways ups sts sty dly mSt mTr mStT mRun mUp mSta mSty mDly) : ∀ i : Nat, (i : Int) < stN.toInt → 0 ≤ (ways i).toInt ∧ (ways i).toInt ≤ 600 * i := by
  obtain ⟨-, -, h1, -, -, h0, -, hw, -⟩ := hLn
  intro i
  induction i with
  | zero =>
    intro _
    rw [h0, c_0]
    omega
  | succ i ih =>
    intro hi
    have g := ih (by omega)
    have w := hw i (by omega)
    rw [w.1, ti_add (by omega) (by omega)]
    omega
theorem ln_S (hLn : R_ln tnN stN trN lnT ways ups sts sty dly mSt mTr mStT mRun mUp mSta mSty mDly) (i : Nat) (hi : (i : Int) + 1 < stN.toInt) : (ways (i + 1)).toInt = (ways i).toInt + (mRun (i + 1)).toInt ∧ 1 ≤ (mRun (i + 1)).toInt ∧ (mRun (i + 1)).toInt ≤ 600 := by
  have g := ln_W hLn i (by omega)
  obtain ⟨-, -, h1, -, -, h0, -, hw, -⟩ := hLn
  have w := hw i (by omega)
  rw [w.1, ti_add (by omega) (by omega)]
  omega
theorem pl_mul {c : Int} {d : Nat} (hc : 0 ≤ c ∧ c ≤ 60) (hd : d ≤ 6) : 0 ≤ c * (d : Int) ∧ c * (d : Int) ≤ 360 := by
  have h1 := Int.mul_nonneg hc.1 (Int.natCast_nonneg d)
  have h2 := Int.mul_le_mul_of_nonneg_right hc.2 (Int.natCast_nonneg d)
  omega
theorem HV_b (hLn : R_ln tnN stN trN lnT ways ups sts sty dly mSt mTr mStT mRun mUp mSta mSty mDly) {i j : Nat} (hi : (i : Int) < trN.toInt) (hj : (j : Int) < stN.toInt) : -10000 ≤ HV stN ways ups sts sty i j ∧ HV stN ways ups sts sty i j ≤ 590000 := by
  have w1 := ln_W hLn j hj
  have w2 := ln_W hLn (stN.toInt.toNat - 1) (by omega)
  have w3 := ln_W hLn (stN.toInt.toNat - 1 - j) (by omega)
  obtain ⟨-, -, h1, -, -, h0, -, -, ht⟩ := hLn
  obtain ⟨-, -, -, t1, -, t2, -, -⟩ := ht i hi
  have m := pl_mul (c := (sty i).toInt) (d := min j (stN.toInt.toNat - 2)) t2 (by omega)
  unfold HV
  split <;> omega
theorem HV_s (hLn : R_ln tnN stN trN lnT ways ups sts sty dly mSt mTr mStT mRun mUp mSta mSty mDly) {i j : Nat} (hj : (j : Int) + 1 < stN.toInt) : HV stN ways ups sts sty i (j + 1) = HV stN ways ups sts sty i j + (if ups i = 0 then (mRun (stN.toInt.toNat - 1 - j)).toInt else (mRun (j + 1)).toInt) + (if (j : Int) + 1 < stN.toInt - 1 then (sty i).toInt else 0) := by
  have s1 := ln_S hLn j hj
  have s2 := ln_S hLn (stN.toInt.toNat - 1 - (j + 1)) (by omega)
  rw [show stN.toInt.toNat - 1 - (j + 1) + 1 = stN.toInt.toNat - 1 - j by omega] at s2
  unfold HV
  have hm : (sty i).toInt * ((min (j + 1) (stN.toInt.toNat - 2) : Nat) : Int) = (sty i).toInt * ((min j (stN.toInt.toNat - 2) : Nat) : Int) + (if (j : Int) + 1 < stN.toInt - 1 then (sty i).toInt else 0) := by
    by_cases c : (j : Int) + 1 < stN.toInt - 1
    · rw [if_pos c, show min (j + 1) (stN.toInt.toNat - 2) = min j (stN.toInt.toNat - 2) + 1 by omega, Int.natCast_add, Int.mul_add]
      simp
    · rw [if_neg c, show min (j + 1) (stN.toInt.toNat - 2) = min j (stN.toInt.toNat - 2) by omega]
      omega
  rw [hm]
  split <;> omega
theorem pl_sum {a b c d : Int32} (ha : 0 ≤ a.toInt ∧ a.toInt < 576000) (hb : -3000 ≤ b.toInt ∧ b.toInt ≤ 3000) (hc : 0 ≤ c.toInt ∧ c.toInt ≤ 60) {k : Nat} (hd : d.toInt = k) (hk : k ≤ 6) : (a + b + c * d).toInt = a.toInt + b.toInt + c.toInt * (k : Int) := by
  have m := pl_mul hc hk
  have h1 : (a + b).toInt = a.toInt + b.toInt := ti_add (by omega) (by omega)
  have h2 : (c * d).toInt = c.toInt * (k : Int) := by rw [← hd]; rw [← hd] at m; exact ti_mul (by omega) (by omega)
  rw [ti_add (by rw [h1, h2]; omega) (by rw [h1, h2]; omega), h1, h2]
theorem k_planned {v1 v2 : Int32} {Q : Int32 → Prop} (hLn : R_ln tnN stN trN lnT ways ups sts sty dly mSt mTr mStT mRun mUp mSta mSty mDly) (hv1 : 0 ≤ v1.toInt ∧ v1.toInt < trN.toInt) (hv2 : 0 ≤ v2.toInt ∧ v2.toInt < stN.toInt) (q : ∀ r : Int32, r.toInt = HV stN ways ups sts sty v1.toInt.toNat (if ups v1.toInt.toNat = 0 then stN.toInt.toNat - 1 - v2.toInt.toNat else v2.toInt.toNat) → Q r) : p_Ln_plannedAt stN trN ways ups sts sty v1 v2 Q := by
  have w1 := ln_W hLn v2.toInt.toNat (by omega)
  have w2 := ln_W hLn (stN.toInt.toNat - 1) (by omega)
  obtain ⟨-, -, h1, h2, h3, h0, -, -, ht⟩ := hLn
  obtain ⟨-, -, -, t1, -, t2, -, -⟩ := ht v1.toInt.toNat (by omega)
  have hl := ti_s1 (x := stN) (by omega)
  have i1 : vp_in v1 6 := ti_in hv1.1 (by omega)
  have i2 : vp_in v2 6 := ti_in hv2.1 (by omega)
  have i3 : vp_in (stN - 1) 6 := ti_in (by omega) (by omega)
  unfold p_Ln_plannedAt
  rw [k_hasTrain, bi_t hv1]
  refine tn_t i10 ?_
  rw [k_hasStation, bi_t hv2]
  refine tn_t i10 ?_
  generalize hz : stN - 1 = z at hl i3
  have hzn : z.toInt.toNat = stN.toInt.toNat - 1 := by omega
  rw [forall_eq]
  simp only [p_Ln_plannedAt_J41, p_Ln_plannedAt_J74, p_Ln_plannedAt_J91, ti_c]
  by_cases u : ups v1.toInt.toNat = 0
  · rw [if_pos u] at q
    have hp : (z - v2).toInt = z.toInt - v2.toInt := ti_sub (by omega) (by omega)
    have hw : (ways z.toInt.toNat - ways v2.toInt.toNat).toInt = (ways z.toInt.toNat).toInt - (ways v2.toInt.toNat).toInt := by
      rw [hzn]
      exact ti_sub (by omega) (by omega)
    have hb : -3000 ≤ (ways z.toInt.toNat - ways v2.toInt.toNat).toInt ∧ (ways z.toInt.toNat - ways v2.toInt.toNat).toInt ≤ 3000 := by
      rw [hw, hzn]
      omega
    refine ⟨i1, tn_f u ⟨i1, tn_f u ⟨i3, i2, fun e => ⟨i1, i1, q _ ?_⟩, fun e => ⟨i1, i1, q _ ?_⟩⟩⟩⟩
    · have e' : (z - v2).toInt = z.toInt := by rw [e]
      have hs : (z - v2 - 1).toInt = z.toInt - 1 := by rw [ti_s1 (by omega)]; omega
      rw [pl_sum (k := stN.toInt.toNat - 2) t1 hb t2 (by omega) (by omega), hw]
      unfold HV
      rw [if_pos u, hzn, show stN.toInt.toNat - 1 - (stN.toInt.toNat - 1 - v2.toInt.toNat) = v2.toInt.toNat by omega, show min (stN.toInt.toNat - 1 - v2.toInt.toNat) (stN.toInt.toNat - 2) = stN.toInt.toNat - 2 by omega]
    · have e' : ¬ (z - v2).toInt = z.toInt := fun k => e (ti_eq.mpr k)
      rw [pl_sum (k := stN.toInt.toNat - 1 - v2.toInt.toNat) t1 hb t2 (by omega) (by omega), hw]
      unfold HV
      rw [if_pos u, hzn, show stN.toInt.toNat - 1 - (stN.toInt.toNat - 1 - v2.toInt.toNat) = v2.toInt.toNat by omega, show min (stN.toInt.toNat - 1 - v2.toInt.toNat) (stN.toInt.toNat - 2) = stN.toInt.toNat - 1 - v2.toInt.toNat by omega]
  · rw [if_neg u] at q
    refine ⟨i1, tn_t u ⟨i1, tn_t u ⟨i2, fun e => ⟨i1, i1, q _ ?_⟩, fun e => ⟨i1, i1, q _ ?_⟩⟩⟩⟩
    · have e' : v2.toInt = z.toInt := by rw [e]
      have hs : (v2 - 1).toInt = v2.toInt - 1 := ti_s1 (by omega)
      rw [pl_sum (k := v2.toInt.toNat - 1) t1 (by omega) t2 (by omega) (by omega)]
      unfold HV
      rw [if_neg u, show min v2.toInt.toNat (stN.toInt.toNat - 2) = v2.toInt.toNat - 1 by omega]
    · have e' : ¬ v2.toInt = z.toInt := fun k => e (ti_eq.mpr k)
      rw [pl_sum (k := v2.toInt.toNat) t1 (by omega) t2 (by omega) (by omega)]
      unfold HV
      rw [if_neg u, show min v2.toInt.toNat (stN.toInt.toNat - 2) = v2.toInt.toNat by omega]
theorem k_leavesAt {v1 v2 v3 : Int32} {Q : Int32 → Prop} (hLn : R_ln tnN stN trN lnT ways ups sts sty dly mSt mTr mStT mRun mUp mSta mSty mDly) (hv1 : 0 ≤ v1.toInt ∧ v1.toInt < trN.toInt) (hv2 : 0 ≤ v2.toInt ∧ v2.toInt < stN.toInt) (hv3 : -100 ≤ v3.toInt ∧ v3.toInt ≤ 100) (q : ∀ r : Int32, r.toInt = HV stN ways ups sts sty v1.toInt.toNat v2.toInt.toNat + v3.toInt → Q r) : p_M_leavesAt mSt mRun mUp mSta mSty v1 v2 v3 Q := by
  have hHb := fun (j : Nat) (hj : (j : Int) < stN.toInt) => HV_b hLn (i := v1.toInt.toNat) (j := j) (by omega) hj
  have hHs := fun (j : Nat) (hj : (j : Int) + 1 < stN.toInt) => HV_s hLn (i := v1.toInt.toNat) (j := j) hj
  have hS := fun i hi => ln_S hLn i hi
  obtain ⟨rfl, -, h1, h2, h3, h0, -, -, ht⟩ := hLn
  obtain ⟨tu, tv, ts, t1, ty, t2, -, -⟩ := ht v1.toInt.toNat (by omega)
  have i1 : vp_in v1 6 := ti_in hv1.1 (by omega)
  have hl := ti_s1 (x := mSt) (by omega)
  unfold p_M_leavesAt
  refine ⟨i1, ?_⟩
  rintro _ rfl
  rw [ti_c, ts]
  have hx : (sts v1.toInt.toNat + v3).toInt = (sts v1.toInt.toNat).toInt + v3.toInt := ti_add (by omega) (by omega)
  refine Lp2.of (fun acc v5 => (1 ≤ v5.toInt ∧ v5.toInt ≤ v2.toInt + 1) ∧ acc.toInt = HV mSt ways ups sts sty v1.toInt.toNat (v5.toInt - 1).toNat + v3.toInt) (fun _ v5 => (v2.toInt + 1 - v5.toInt).toNat) ?_ _ _ ⟨by rw [c_1]; omega, ?_⟩
  · intro rec acc v5 ⟨a1, a2⟩ hrec
    unfold p_M_leavesAt_L13
    rw [ti_lt]
    refine ⟨fun g => q acc (by rw [a2, show (v5.toInt - 1).toNat = v2.toInt.toNat by omega]), fun g => ⟨i1, ?_⟩⟩
    have hb := hHb (v5.toInt - 1).toNat (by omega)
    have hs := hHs (v5.toInt - 1).toNat (by omega)
    have hn := ti_a1 (x := v5) (by omega)
    have key : ∀ (y : Int32), y = (if ups v1.toInt.toNat = 0 then mRun (mSt.toInt.toNat - 1 - (v5.toInt - 1).toNat) else mRun ((v5.toInt - 1).toNat + 1)) → ((mSt - 1 ≤ v5 → ∀ x : Int32, x = acc + (y + 0) → ∀ z : Int32, z = v5 + 1 → rec x z) ∧ (¬ mSt - 1 ≤ v5 → vp_in v1 6 ∧ ∀ x : Int32, x = acc + (y + mSty v1.toNatClampNeg) → ∀ z : Int32, z = v5 + 1 → rec x z)) := by
      intro y hy
      have yb : y.toInt = (if ups v1.toInt.toNat = 0 then (mRun (mSt.toInt.toNat - 1 - (v5.toInt - 1).toNat)).toInt else (mRun ((v5.toInt - 1).toNat + 1)).toInt) ∧ 1 ≤ y.toInt ∧ y.toInt ≤ 600 := by
        rw [hy]
        split
        · have := hS (mSt.toInt.toNat - 1 - (v5.toInt - 1).toNat - 1) (by omega)
          rw [show mSt.toInt.toNat - 1 - (v5.toInt - 1).toNat - 1 + 1 = mSt.toInt.toNat - 1 - (v5.toInt - 1).toNat by omega] at this
          exact ⟨rfl, this.2⟩
        · exact ⟨rfl, (hS (v5.toInt - 1).toNat (by omega)).2⟩
      rw [← yb.1] at hs
      rw [show (v5.toInt - 1).toNat + 1 = v5.toInt.toNat by omega] at hs
      rw [ti_le, hl, ti_c, ty]
      refine ⟨fun e => ?_, fun e => ⟨i1, ?_⟩⟩
      · rintro _ rfl _ rfl
        rw [if_neg (by omega)] at hs
        have e0 : (y + 0).toInt = y.toInt := by rw [ti_add (by rw [c_0]; omega) (by rw [c_0]; omega), c_0]; omega
        refine hrec _ _ ⟨by omega, ?_⟩ (by omega)
        rw [hn, show (v5.toInt + 1 - 1).toNat = v5.toInt.toNat by omega, hs, ti_add (by rw [e0]; omega) (by rw [e0]; omega), e0]
        omega
      · rintro _ rfl _ rfl
        rw [if_pos (by omega)] at hs
        have e0 : (y + sty v1.toInt.toNat).toInt = y.toInt + (sty v1.toInt.toNat).toInt := ti_add (by omega) (by omega)
        refine hrec _ _ ⟨by omega, ?_⟩ (by omega)
        rw [hn, show (v5.toInt + 1 - 1).toNat = v5.toInt.toNat by omega, hs, ti_add (by rw [e0]; omega) (by rw [e0]; omega), e0]
        omega
    have hd : (mSt - v5).toInt = mSt.toInt - v5.toInt := ti_sub (by omega) (by omega)
    rw [ti_c, tu]
    refine ⟨fun u => ⟨ti_in (by omega) (by omega), ?_⟩, fun u => ⟨ti_in (by omega) (by omega), ?_⟩⟩
    · exact key (mRun (mSt - v5).toNatClampNeg) (by rw [if_pos u, ti_c, hd, show (mSt.toInt - v5.toInt).toNat = mSt.toInt.toNat - 1 - (v5.toInt - 1).toNat by omega])
    · exact key (mRun v5.toNatClampNeg) (by rw [if_neg u, ti_c, show v5.toInt.toNat = (v5.toInt - 1).toNat + 1 by omega])
  · rw [hx, c_1, show ((1 : Int) - 1).toNat = 0 from rfl]
    unfold HV
    rw [h0, c_0]
    simp
end LN
theorem s_leaves : st_leaves RR := by
  intro mThr mTn mCk mRw mSt mTr mFM mFS mTpN mLw mAt mTwN mBE mBEn mSun mCkT mCkD mCkK mCkA mRow mStT mRun mUp mSta mSty mDly mTri mFnd mTap mLwT mLwD mLwO mLwM mTwT mSetA mDri mOrd mBst tnN ckN stN trN dsT dsC tpN lwN rdS rdM rdE rdD twN rsW rsE rwN suns ckT ckD shf lnT ways ups sts sty dly gAp gOp stp bst sgn lwT lwD rdT rdO lwK lwM twS twM twD rsO rsB rwA hR a1 a2 
  obtain ⟨hTn, hCk, hLn, hTp, hLw, hTw, hRw⟩ := id hR
  have hb := fun (j : Nat) => HV_b hLn (i := a1.toInt.toNat) (j := j)
  have hLn' := hLn
  obtain ⟨e1, e2, h1, h2, h3, h0, -, -, ht⟩ := id hLn
  subst e1 e2
  simp only [p_O_leaves, p_M_leaves, k_hasTrain, k_hasStation, k_isTrain h2.1, k_inn h1.1, bi0]
  by_cases g1 : 0 ≤ a1.toInt ∧ a1.toInt < mTr.toInt
  case neg => exact tn_f g1 (tn_f g1 ⟨trivial, hR⟩)
  refine tn_t (Classical.not_not.mpr g1) ?_
  by_cases g2 : 0 ≤ a2.toInt ∧ a2.toInt < mSt.toInt
  case neg => exact tn_f g2 (tn_t (Classical.not_not.mpr g1) (tn_f g2 ⟨trivial, hR⟩))
  refine tn_t (Classical.not_not.mpr g2) (k_planned hLn g1 g2 (fun r hr => ⟨ti_in g1.1 (by omega), tn_t (Classical.not_not.mpr g1) (tn_t (Classical.not_not.mpr g2) ⟨ti_in g1.1 (by omega), ?_⟩)⟩))
  obtain ⟨tu, tv, -, -, -, -, td, t3⟩ := ht a1.toInt.toNat (by omega)
  have hl := ti_s1 (x := mSt) (by omega)
  have hp : (mSt - 1 - a2).toInt = mSt.toInt - 1 - a2.toInt := by rw [ti_sub (by omega) (by omega), hl]
  have fin : ∀ j : Nat, (j : Int) < mSt.toInt → r.toInt = HV mSt ways ups sts sty a1.toInt.toNat j → ∀ r' : Int32, r'.toInt = HV mSt ways ups sts sty a1.toInt.toNat j + (dly a1.toInt.toNat).toInt → r + dly a1.toInt.toNat = r' := by
    intro j hj k1 r' k2
    have := hb j (by omega) hj
    rw [ti_eq, ti_add (by omega) (by omega)]
    omega
  unfold p_M_leaves_J54
  rw [ti_c, tu, td]
  refine ⟨fun u => ⟨ti_in g1.1 (by omega), k_leavesAt hLn g1 (by omega) (by omega) (fun r' hr' => ⟨?_, hR⟩)⟩, fun u => ⟨ti_in g1.1 (by omega), k_leavesAt hLn g1 g2 (by omega) (fun r' hr' => ⟨?_, hR⟩)⟩⟩
  · rw [if_pos u] at hr
    rw [hp, show (mSt.toInt - 1 - a2.toInt).toNat = mSt.toInt.toNat - 1 - a2.toInt.toNat by omega] at hr'
    exact fin _ (by omega) hr r' hr'
  · rw [if_neg u] at hr
    exact fin _ (by omega) hr r' hr'
