set_option maxHeartbeats 600000
/-! where two trains meet -/
theorem ti_jabs {x : Int32} (h : -2147483647 ≤ x.toInt) : (jabs x).toInt = if 0 ≤ x.toInt then x.toInt else - x.toInt := by
  have := ti_r x
  unfold jabs
  simp only [ti_le, c_0]
  by_cases c : 0 ≤ x.toInt
  · rw [if_pos c, if_pos c]
  · rw [if_neg c, if_neg c, ti_sub (by rw [c_0]; omega) (by rw [c_0]; omega), c_0]
    omega
theorem ti_jmax {x y : Int32} : (jmax x y).toInt = if x.toInt < y.toInt then y.toInt else x.toInt := by
  unfold jmax
  simp only [ti_lt]
  split <;> rfl
theorem ti_jmn {x y : Int32} : (jmin x y).toInt = if y.toInt < x.toInt then y.toInt else x.toInt := by
  unfold jmin
  simp only [ti_lt]
  split <;> rfl
def frP (P : Nat → Prop) (n : Int) (r : Int32) : Prop := (r.toInt = -1 ∧ ∀ k : Nat, (k : Int) + 1 < n → ¬ P k) ∨ (0 ≤ r.toInt ∧ r.toInt + 1 < n ∧ P r.toInt.toNat ∧ ∀ k : Nat, (k : Int) < r.toInt → ¬ P k)
theorem frP.uniq {P : Nat → Prop} {n : Int} {r r' : Int32} (h : frP P n r) (h' : frP P n r') : r = r' := by
  refine ti_eq.mpr ?_
  rcases h with ⟨a1, a2⟩ | ⟨a1, a2, a3, a4⟩ <;> rcases h' with ⟨b1, b2⟩ | ⟨b1, b2, b3, b4⟩
  · omega
  · exact absurd b3 (a2 _ (by omega))
  · exact absurd a3 (b2 _ (by omega))
  · by_cases c : r.toInt < r'.toInt
    · exact absurd a3 (b4 _ (by omega))
    · by_cases c2 : r'.toInt < r.toInt
      · exact absurd b3 (a4 _ (by omega))
      · omega
def BG (stN : Int32) (ways ups sts sty : Nat → Int32) (i k : Nat) : Int := HV stN ways ups sts sty i (if ups i = 0 then stN.toInt.toNat - 2 - k else k)
def MT (stN : Int32) (ways ups sts sty mRun : Nat → Int32) (i j : Nat) (d : Int) (k : Nat) : Prop := - (mRun (k + 1)).toInt < BG stN ways ups sts sty j k - BG stN ways ups sts sty i k + d ∧ BG stN ways ups sts sty j k - BG stN ways ups sts sty i k + d < (mRun (k + 1)).toInt
section ME
variable {tnN stN trN : Int32} {lnT ways ups sts sty dly : Nat → Int32} {mSt mTr : Int32} {mStT mRun mUp mSta mSty mDly : Nat → Int32}
theorem BG_b (hLn : R_ln tnN stN trN lnT ways ups sts sty dly mSt mTr mStT mRun mUp mSta mSty mDly) {i k : Nat} (hi : (i : Int) < trN.toInt) (hk : (k : Int) + 1 < stN.toInt) : -10000 ≤ BG stN ways ups sts sty i k ∧ BG stN ways ups sts sty i k ≤ 590000 := HV_b hLn hi (by split <;> omega)
theorem k_onRun {v1 v2 : Int32} {Q : Int32 → Prop} (hLn : R_ln tnN stN trN lnT ways ups sts sty dly mSt mTr mStT mRun mUp mSta mSty mDly) (hv1 : 0 ≤ v1.toInt ∧ v1.toInt < trN.toInt) (hv2 : 0 ≤ v2.toInt ∧ v2.toInt + 1 < stN.toInt) (q : ∀ r : Int32, r.toInt = BG stN ways ups sts sty v1.toInt.toNat v2.toInt.toNat → Q r) : p_Ln_plannedOnRun stN trN ways ups sts sty v1 v2 Q := by
  have h1 := hLn.2.2.1
  have h2 := hLn.2.2.2.1
  have hn := ti_a1 (x := v2) (by omega)
  unfold p_Ln_plannedOnRun p_Ln_plannedOnRun_J26
  rw [k_hasTrain, bi_t hv1]
  refine tn_t i10 ⟨ti_in hv1.1 (by omega), fun u => ?_, fun u => ?_⟩
  · rw [ti_c] at u
    refine k_planned hLn hv1 (by omega) (fun r hr => q r ?_)
    rw [if_pos u, hn] at hr
    unfold BG
    rw [hr, if_pos u, show stN.toInt.toNat - 1 - (v2.toInt + 1).toNat = stN.toInt.toNat - 2 - v2.toInt.toNat by omega]
  · rw [ti_c] at u
    refine k_planned hLn hv1 (by omega) (fun r hr => q r ?_)
    rw [if_neg u] at hr
    unfold BG
    rw [hr, if_neg u]
theorem k_begins {v1 v2 v3 : Int32} {Q : Int32 → Prop} (hLn : R_ln tnN stN trN lnT ways ups sts sty dly mSt mTr mStT mRun mUp mSta mSty mDly) (hv1 : 0 ≤ v1.toInt ∧ v1.toInt < trN.toInt) (hv2 : 0 ≤ v2.toInt ∧ v2.toInt + 1 < stN.toInt) (hv3 : -100 ≤ v3.toInt ∧ v3.toInt ≤ 100) (q : ∀ r : Int32, r.toInt = BG stN ways ups sts sty v1.toInt.toNat v2.toInt.toNat + v3.toInt → Q r) : p_M_begins mSt mRun mUp mSta mSty v1 v2 v3 Q := by
  have e1 := hLn.1
  have h1 := hLn.2.2.1
  have h2 := hLn.2.2.2.1
  have tu := (hLn.2.2.2.2.2.2.2.2 v1.toInt.toNat (by omega)).1
  have hs : (mSt - 2).toInt = stN.toInt - 2 := by
    rw [e1, ti_sub (by rw [c_2]; omega) (by rw [c_2]; omega), c_2]
  have hd : (mSt - 2 - v2).toInt = stN.toInt - 2 - v2.toInt := by rw [ti_sub (by omega) (by omega), hs]
  unfold p_M_begins p_M_begins_J23
  rw [ti_c, tu]
  refine ⟨ti_in hv1.1 (by omega), fun u => ?_, fun u => ?_⟩
  · refine k_leavesAt hLn hv1 (by omega) hv3 (fun r hr => q r ?_)
    unfold BG
    rw [hr, if_pos u, hd, show (stN.toInt - 2 - v2.toInt).toNat = stN.toInt.toNat - 2 - v2.toInt.toNat by omega]
  · refine k_leavesAt hLn hv1 (by omega) hv3 (fun r hr => q r ?_)
    unfold BG
    rw [hr, if_neg u]
theorem k_length {v1 : Int32} {Q : Int32 → Prop} (hLn : R_ln tnN stN trN lnT ways ups sts sty dly mSt mTr mStT mRun mUp mSta mSty mDly) (hv : 0 ≤ v1.toInt ∧ v1.toInt + 1 < stN.toInt) (q : ∀ r : Int32, r.toInt = (mRun (v1.toInt.toNat + 1)).toInt → Q r) : p_Ln_lengthOf stN ways v1 Q := by
  have h1 := hLn.2.2.1
  have hn := ti_a1 (x := v1) (by omega)
  have s := ln_S hLn v1.toInt.toNat (by omega)
  have w1 := ln_W hLn v1.toInt.toNat (by omega)
  have w2 := ln_W hLn (v1.toInt.toNat + 1) (by omega)
  unfold p_Ln_lengthOf
  rw [k_hasStation, bi_t (by omega)]
  refine tn_t i10 ?_
  rw [k_hasStation, bi_t (by omega)]
  refine tn_t i10 ⟨ti_in (by omega) (by omega), ti_in (by omega) (by omega), q _ ?_⟩
  rw [ti_c, ti_c, hn, show (v1.toInt + 1).toNat = v1.toInt.toNat + 1 by omega, ti_sub (by omega) (by omega)]
  omega
theorem k_frm {v1 v2 v3 : Int32} {Q : Int32 → Prop} (hLn : R_ln tnN stN trN lnT ways ups sts sty dly mSt mTr mStT mRun mUp mSta mSty mDly) (hv1 : 0 ≤ v1.toInt ∧ v1.toInt < trN.toInt) (hv2 : 0 ≤ v2.toInt ∧ v2.toInt < trN.toInt) (hv3 : -100 ≤ v3.toInt ∧ v3.toInt ≤ 100) (q : ∀ r : Int32, frP (MT stN ways ups sts sty mRun v1.toInt.toNat v2.toInt.toNat v3.toInt) stN.toInt r → Q r) : p_Ln_firstRunMeetingWith stN trN ways ups sts sty v1 v2 v3 Q := by
  have h1 := hLn.2.2.1
  have hl := ti_s1 (x := stN) (by omega)
  unfold p_Ln_firstRunMeetingWith
  refine Lp1.of (fun v => (0 ≤ v.toInt ∧ v.toInt ≤ stN.toInt) ∧ ∀ k : Nat, (k : Int) < v.toInt → ¬ MT stN ways ups sts sty mRun v1.toInt.toNat v2.toInt.toNat v3.toInt k) (fun v => (stN.toInt - v.toInt).toNat) ?_ _ ⟨by rw [c_0]; omega, fun k hk => by rw [c_0] at hk; omega⟩
  intro rec v ⟨a1, a2⟩ hrec
  unfold p_Ln_firstRunMeetingWith_L3
  rw [ti_le, hl]
  refine ⟨fun g => q _ (Or.inl ⟨c_m1, fun k hk => a2 k (by omega)⟩), fun g => ?_⟩
  refine k_onRun hLn hv2 (by omega) (fun r2 hr2 => k_onRun hLn hv1 (by omega) (fun r1 hr1 => ?_))
  have b1 := BG_b hLn (i := v1.toInt.toNat) (k := v.toInt.toNat) (by omega) (by omega)
  have b2 := BG_b hLn (i := v2.toInt.toNat) (k := v.toInt.toNat) (by omega) (by omega)
  have e1 : (r2 - r1).toInt = r2.toInt - r1.toInt := ti_sub (by omega) (by omega)
  have e2 : (r2 - r1 + v3).toInt = r2.toInt - r1.toInt + v3.toInt := by rw [ti_add (by omega) (by omega), e1]
  rw [forall_eq]
  refine k_length hLn (by omega) (fun w hw => ?_)
  have hn := ti_a1 (x := v) (by omega)
  have ha := ti_jabs (x := r2 - r1 + v3) (by omega)
  rw [ti_le, ha, e2, hw, forall_eq]
  have s := ln_S hLn v.toInt.toNat (by omega)
  refine ⟨fun c => hrec _ ⟨by omega, fun k hk => ?_⟩ (by omega), fun c => q v (Or.inr ⟨a1.1, by omega, ?_, fun k hk => a2 k hk⟩)⟩
  · by_cases e : (k : Int) < v.toInt
    · exact a2 k e
    · have ek : k = v.toInt.toNat := by omega
      subst ek
      unfold MT
      rw [← hr1, ← hr2]
      split at c <;> omega
  · unfold MT
    rw [← hr1, ← hr2]
    split at c <;> omega
theorem k_meeting {v1 v2 v3 v4 : Int32} {Q : Int32 → Prop} (hLn : R_ln tnN stN trN lnT ways ups sts sty dly mSt mTr mStT mRun mUp mSta mSty mDly) (hv1 : 0 ≤ v1.toInt ∧ v1.toInt < trN.toInt) (hv3 : 0 ≤ v3.toInt ∧ v3.toInt < trN.toInt) (hv2 : 0 ≤ v2.toInt ∧ v2.toInt ≤ 30) (hv4 : 0 ≤ v4.toInt ∧ v4.toInt ≤ 30) (q : ∀ r : Int32, frP (MT stN ways ups sts sty mRun v1.toInt.toNat v3.toInt.toNat (v4.toInt - v2.toInt)) stN.toInt r → Q r) : p_M_meeting mSt mRun mUp mSta mSty v1 v2 v3 v4 Q := by
  have h1 := hLn.2.2.1
  have e0 := hLn.1
  unfold p_M_meeting
  refine Lp1.of (fun v => (0 ≤ v.toInt ∧ v.toInt ≤ stN.toInt) ∧ ∀ k : Nat, (k : Int) < v.toInt → ¬ MT stN ways ups sts sty mRun v1.toInt.toNat v3.toInt.toNat (v4.toInt - v2.toInt) k) (fun v => (stN.toInt - v.toInt).toNat) ?_ _ ⟨by rw [c_0]; omega, fun k hk => by rw [c_0] at hk; omega⟩
  intro rec v ⟨a1, a2⟩ hrec
  have hn := ti_a1 (x := v) (by omega)
  unfold p_M_meeting_L3
  rw [ti_le, hn, e0]
  refine ⟨fun g => q _ (Or.inl ⟨c_m1, fun k hk => a2 k (by omega)⟩), fun g => ?_⟩
  rw [← e0]
  refine k_begins hLn hv1 (by omega) (by omega) (fun r1 hr1 => k_begins hLn hv3 (by omega) (by omega) (fun r2 hr2 => ⟨ti_in (by omega) (by omega), ?_⟩))
  have b1 := BG_b hLn (i := v1.toInt.toNat) (k := v.toInt.toNat) (by omega) (by omega)
  have b2 := BG_b hLn (i := v3.toInt.toNat) (k := v.toInt.toNat) (by omega) (by omega)
  have s := ln_S hLn v.toInt.toNat (by omega)
  have hmn := ti_jmn (x := r1) (y := r2)
  have hmx := ti_jmax (x := r1) (y := r2)
  have ec : (v + 1).toNatClampNeg = v.toInt.toNat + 1 := by rw [ti_c, hn]; omega
  rw [ec]
  have e1 : (jmin r1 r2 + mRun (v.toInt.toNat + 1)).toInt = (jmin r1 r2).toInt + (mRun (v.toInt.toNat + 1)).toInt := by
    rw [ti_add] <;> rw [hmn] <;> split <;> omega
  rw [ti_le, e1, hmn, hmx, forall_eq]
  refine ⟨fun c => hrec _ ⟨by omega, fun k hk => ?_⟩ (by omega), fun c => q v (Or.inr ⟨a1.1, by omega, ?_, fun k hk => a2 k hk⟩)⟩
  · by_cases e : (k : Int) < v.toInt
    · exact a2 k e
    · have ek : k = v.toInt.toNat := by omega
      subst ek
      unfold MT
      split at c <;> split at c <;> omega
  · unfold MT
    split at c <;> split at c <;> omega
end ME
/-- the first pair that meets -/
def PM (stN : Int32) (ways ups sts sty mRun dly : Nat → Int32) (i j : Nat) : Nat → Prop := MT stN ways ups sts sty mRun i j ((dly j).toInt - (dly i).toInt)
def npM (stN : Int32) (ways ups sts sty mRun dly : Nat → Int32) (i j : Nat) : Prop := ∀ k : Nat, (k : Int) + 1 < stN.toInt → ¬ PM stN ways ups sts sty mRun dly i j k
section MF
variable {tnN stN trN : Int32} {lnT ways ups sts sty dly : Nat → Int32} {mSt mTr : Int32} {mStT mRun mUp mSta mSty mDly : Nat → Int32}
theorem k_meetO {rwN : Int32} {rwA : Nat → Int32} {Q : Int32 → Int32 → (Nat → Int32) → Prop} (hLn : R_ln tnN stN trN lnT ways ups sts sty dly mSt mTr mStT mRun mUp mSta mSty mDly) (q0 : (∀ i j : Nat, i < j → (j : Int) < trN.toInt → npM stN ways ups sts sty mRun dly i j) → Q 0 rwN rwA) (q1 : ∀ i j r : Int32, (0 ≤ i.toInt ∧ i.toInt < j.toInt ∧ j.toInt < trN.toInt) → 0 ≤ r.toInt → frP (PM stN ways ups sts sty mRun dly i.toInt.toNat j.toInt.toNat) stN.toInt r → (∀ a b : Nat, a < b → (b : Int) < trN.toInt → ((a : Int) < i.toInt ∨ ((a : Int) = i.toInt ∧ (b : Int) < j.toInt)) → npM stN ways ups sts sty mRun dly a b) → Q 1 3 (upd (upd (upd rwA 0 i) 1 j) 2 r)) : p_O_meet stN trN ways ups sts sty dly rwN rwA Q := by
  have h2 := hLn.2.2.2.1
  have ht := hLn.2.2.2.2.2.2.2.2
  unfold p_O_meet
  refine Lp1.of (fun v => (0 ≤ v.toInt ∧ v.toInt ≤ trN.toInt) ∧ ∀ a b : Nat, a < b → (b : Int) < trN.toInt → (a : Int) < v.toInt → npM stN ways ups sts sty mRun dly a b) (fun v => (trN.toInt - v.toInt).toNat) ?_ _ ⟨by rw [c_0]; omega, fun a b _ _ hk => by rw [c_0] at hk; omega⟩
  intro rec v ⟨a1, a2⟩ hrec
  unfold p_O_meet_L2
  rw [ti_le]
  refine ⟨fun g => q0 (fun i j hi hj => a2 i j hi hj (by omega)), fun g => ?_⟩
  have hn := ti_a1 (x := v) (by omega)
  rw [forall_eq]
  refine Lp1.of (fun w => (v.toInt < w.toInt ∧ w.toInt ≤ trN.toInt) ∧ ∀ b : Nat, v.toInt < (b : Int) → (b : Int) < w.toInt → npM stN ways ups sts sty mRun dly v.toInt.toNat b) (fun w => (trN.toInt - w.toInt).toNat) ?_ _ ⟨by omega, fun b hb hk => by omega⟩
  intro rec2 w ⟨b1, b2⟩ hrec2
  have hnw := ti_a1 (x := w) (by omega)
  unfold p_O_meet_L17 p_Ln_firstRunMeeting
  simp only [ti_le, forall_eq]
  refine ⟨fun c => hrec _ ⟨by omega, fun a b hab hb ha => ?_⟩ (by omega), fun c => ?_⟩
  · by_cases e : (a : Int) < v.toInt
    · exact a2 a b hab hb e
    · have ek : a = v.toInt.toNat := by omega
      subst ek
      exact b2 b (by omega) (by omega)
  · have d1 := (ht v.toInt.toNat (by omega)).2.2.2.2.2.2.2
    have d2 := (ht w.toInt.toNat (by omega)).2.2.2.2.2.2.2
    have ed : (dly w.toInt.toNat - dly v.toInt.toNat).toInt = (dly w.toInt.toNat).toInt - (dly v.toInt.toNat).toInt := ti_sub (by omega) (by omega)
    rw [k_hasTrain, bi_t (by omega)]
    refine tn_t i10 ?_
    rw [k_hasTrain, bi_t (by omega)]
    refine tn_t i10 ⟨ti_in (by omega) (by omega), ti_in (by omega) (by omega), ?_⟩
    rw [ti_c, ti_c]
    refine k_frm hLn (by omega) (by omega) (by omega) (fun r hr => ?_)
    rw [ed] at hr
    have hr' : frP (PM stN ways ups sts sty mRun dly v.toInt.toNat w.toInt.toNat) stN.toInt r := hr
    rw [ti_eq, c_m1]
    refine ⟨fun e => hrec2 _ ⟨by omega, fun b hb hk => ?_⟩ (by omega), fun e => ?_⟩
    · by_cases e2 : (b : Int) < w.toInt
      · exact b2 b hb e2
      · have ek : b = w.toInt.toNat := by omega
        subst ek
        rcases hr' with ⟨-, k⟩ | ⟨k, -⟩
        · exact k
        · omega
    · have r0 : 0 ≤ r.toInt := by
        rcases hr' with ⟨k, -⟩ | ⟨k, -⟩
        · omega
        · exact k
      unfold p_Rw_clear p_Rw_add
      refine ⟨fun x => absurd x (by decide), fun _ => ⟨ti_in (by decide) (by decide), ?_⟩⟩
      rw [forall_eq]
      refine ⟨fun x => absurd x (by decide), fun _ => ⟨ti_in (by decide) (by decide), ?_⟩⟩
      rw [forall_eq]
      refine ⟨fun x => absurd x (by decide), fun _ => ⟨ti_in (by decide) (by decide), ?_⟩⟩
      rw [forall_eq]
      refine q1 v w r (by omega) r0 hr' (fun a b hab hb hc => ?_)
      rcases hc with hc | ⟨hc1, hc2⟩
      · exact a2 a b hab hb hc
      · have ek : a = v.toInt.toNat := by omega
        subst ek
        exact b2 b (by omega) hc2
theorem k_meetM {mRw mThr : Int32} {mRow : Nat → Int32} {Q : Int32 → Int32 → Int32 → (Nat → Int32) → Prop} (hLn : R_ln tnN stN trN lnT ways ups sts sty dly mSt mTr mStT mRun mUp mSta mSty mDly) (q0 : (∀ i j : Nat, i < j → (j : Int) < trN.toInt → npM stN ways ups sts sty mRun dly i j) → Q 0 0 mRw mRow) (q1 : ∀ i j r : Int32, (0 ≤ i.toInt ∧ i.toInt < j.toInt ∧ j.toInt < trN.toInt) → 0 ≤ r.toInt → frP (PM stN ways ups sts sty mRun dly i.toInt.toNat j.toInt.toNat) stN.toInt r → (∀ a b : Nat, a < b → (b : Int) < trN.toInt → ((a : Int) < i.toInt ∨ ((a : Int) = i.toInt ∧ (b : Int) < j.toInt)) → npM stN ways ups sts sty mRun dly a b) → Q 1 0 3 (upd (upd (upd mRow 0 i) 1 j) 2 r)) : p_M_meet mSt mTr mRun mUp mSta mSty mDly mThr mRw mRow Q := by
  have h2 := hLn.2.2.2.1
  have e0 := hLn.2.1
  have ht := hLn.2.2.2.2.2.2.2.2
  unfold p_M_meet
  refine Lp1.of (fun v => (0 ≤ v.toInt ∧ v.toInt ≤ trN.toInt) ∧ ∀ a b : Nat, a < b → (b : Int) < trN.toInt → (a : Int) < v.toInt → npM stN ways ups sts sty mRun dly a b) (fun v => (trN.toInt - v.toInt).toNat) ?_ _ ⟨by rw [c_0]; omega, fun a b _ _ hk => by rw [c_0] at hk; omega⟩
  intro rec v ⟨a1, a2⟩ hrec
  unfold p_M_meet_L7
  rw [ti_le, e0]
  refine ⟨fun g => q0 (fun i j hi hj => a2 i j hi hj (by omega)), fun g => ?_⟩
  have hn := ti_a1 (x := v) (by omega)
  rw [forall_eq]
  refine Lp1.of (fun w => (v.toInt < w.toInt ∧ w.toInt ≤ trN.toInt) ∧ ∀ b : Nat, v.toInt < (b : Int) → (b : Int) < w.toInt → npM stN ways ups sts sty mRun dly v.toInt.toNat b) (fun w => (trN.toInt - w.toInt).toNat) ?_ _ ⟨by omega, fun b hb hk => by omega⟩
  intro rec2 w ⟨b1, b2⟩ hrec2
  have hnw := ti_a1 (x := w) (by omega)
  unfold p_M_meet_L19
  simp only [ti_le, forall_eq]
  refine ⟨fun c => hrec _ ⟨by omega, fun a b hab hb ha => ?_⟩ (by omega), fun c => ?_⟩
  · by_cases e : (a : Int) < v.toInt
    · exact a2 a b hab hb e
    · have ek : a = v.toInt.toNat := by omega
      subst ek
      exact b2 b (by omega) (by omega)
  · have d1 := (ht v.toInt.toNat (by omega)).2.2.2.2.2.2
    have d2 := (ht w.toInt.toNat (by omega)).2.2.2.2.2.2
    refine ⟨ti_in (by omega) (by omega), ti_in (by omega) (by omega), ?_⟩
    rw [ti_c, ti_c, d1.1, d2.1]
    refine k_meeting hLn (by omega) (by omega) (by omega) (by omega) (fun r hr => ?_)
    have hr' : frP (PM stN ways ups sts sty mRun dly v.toInt.toNat w.toInt.toNat) stN.toInt r := hr
    rw [ti_lt, c_0]
    refine ⟨fun e => hrec2 _ ⟨by omega, fun b hb hk => ?_⟩ (by omega), fun e => ?_⟩
    · by_cases e2 : (b : Int) < w.toInt
      · exact b2 b hb e2
      · have ek : b = w.toInt.toNat := by omega
        subst ek
        rcases hr' with ⟨-, k⟩ | ⟨k, -⟩
        · exact k
        · omega
    · refine ⟨ti_in (by decide) (by decide), ti_in (by decide) (by decide), ti_in (by decide) (by decide), q1 v w r (by omega) (by omega) hr' (fun a b hab hb hc => ?_)⟩
      rcases hc with hc | ⟨hc1, hc2⟩
      · exact a2 a b hab hb hc
      · have ek : a = v.toInt.toNat := by omega
        subst ek
        exact b2 b (by omega) hc2
end MF
theorem s_meet : st_meet RR := by
  intro mThr mTn mCk mRw mSt mTr mFM mFS mTpN mLw mAt mTwN mBE mBEn mSun mCkT mCkD mCkK mCkA mRow mStT mRun mUp mSta mSty mDly mTri mFnd mTap mLwT mLwD mLwO mLwM mTwT mSetA mDri mOrd mBst tnN ckN stN trN dsT dsC tpN lwN rdS rdM rdE rdD twN rsW rsE rwN suns ckT ckD shf lnT ways ups sts sty dly gAp gOp stp bst sgn lwT lwD rdT rdO lwK lwM twS twM twD rsO rsB rwA hR _ 
  obtain ⟨hTn, hCk, hLn, hTp, hLw, hTw, hRw⟩ := id hR
  have hw3 : ∀ i : Nat, (i : Int) < 3 → i = 0 ∨ i = 1 ∨ i = 2 := by omega
  have no : ∀ {i j r : Int32}, (0 ≤ i.toInt ∧ i.toInt < j.toInt ∧ j.toInt < trN.toInt) → 0 ≤ r.toInt → frP (PM stN ways ups sts sty mRun dly i.toInt.toNat j.toInt.toNat) stN.toInt r → npM stN ways ups sts sty mRun dly i.toInt.toNat j.toInt.toNat → False := by
    intro i j r _ h0 hf hn
    rcases hf with ⟨k, -⟩ | ⟨k1, k2, k3, k4⟩
    · omega
    · exact hn _ (by omega) k3
  refine k_meetO hLn (fun z => k_meetM hLn (fun _ => ⟨rfl, hR⟩) (fun i j r h1 h2 h3 h4 => (no h1 h2 h3 (z _ _ (by omega) (by omega))).elim)) (fun i j r h1 h2 h3 h4 => k_meetM hLn (fun z => (no h1 h2 h3 (z _ _ (by omega) (by omega))).elim) (fun i' j' r' g1 g2 g3 g4 => ?_))
  have n1 : ¬ (i.toInt < i'.toInt ∨ (i.toInt = i'.toInt ∧ j.toInt < j'.toInt)) := fun c => no h1 h2 h3 (g4 _ _ (by omega) (by omega) (by omega))
  have n2 : ¬ (i'.toInt < i.toInt ∨ (i'.toInt = i.toInt ∧ j'.toInt < j.toInt)) := fun c => no g1 g2 g3 (h4 _ _ (by omega) (by omega) (by omega))
  have ei : i' = i := ti_eq.mpr (by omega)
  have ej : j' = j := ti_eq.mpr (by omega)
  subst ei ej
  have er : r' = r := g3.uniq h3
  subst er
  refine ⟨rfl, hTn, hCk, hLn, hTp, hLw, hTw, ⟨rfl, by decide, fun k hk => ?_⟩⟩
  rw [c_3] at hk
  rcases hw3 k hk with e | e | e <;> subst e
  · rw [ti_un (by decide), ti_un (by decide), ti_up, ti_un (by decide), ti_un (by decide), ti_up]
  · rw [ti_un (by decide), ti_up, ti_un (by decide), ti_up]
  · rw [ti_up, ti_up]
