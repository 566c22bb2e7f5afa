set_option maxHeartbeats 600000
/-! from one change to the next a clock keeps its shift -/
section NX
variable {T D : Nat → Int32} {sN v1 v2 : Int32} {n : Nat} {Q : Int32 → Prop}
theorem k_nextDay (hn : n ≤ 1000) (h0 : 0 ≤ sN.toInt ∧ sN.toInt ≤ n) (hv : v2.toInt < 400) (q : ∀ r : Int32, (v2.toInt < r.toInt ∧ r.toInt ≤ 400) → (∀ i : Nat, (i : Int) < sN.toInt → T i = v1 → (D i).toInt ≤ v2.toInt ∨ r.toInt ≤ (D i).toInt) → Q r) : p_Si_nextDay n sN T D v1 v2 Q := by
  unfold p_Si_nextDay
  refine Lp2.of (fun r v => (0 ≤ v.toInt ∧ v.toInt ≤ sN.toInt) ∧ (v2.toInt < r.toInt ∧ r.toInt ≤ 400) ∧ ∀ i : Nat, (i : Int) < v.toInt → T i = v1 → (D i).toInt ≤ v2.toInt ∨ r.toInt ≤ (D i).toInt) (fun _ v => (sN.toInt - v.toInt).toNat) ?_ _ _ ⟨by rw [c_0]; omega, by rw [c_400]; omega, fun i hi => by rw [c_0] at hi; omega⟩
  intro rec r v ⟨i1, i2, i3⟩ hrec
  unfold p_Si_nextDay_L7
  simp only [forall_eq, ti_le]
  refine ⟨fun g => q r i2 (fun i hi => i3 i (by omega)), fun g => ?_⟩
  have hs := ti_a1 (x := v) (by omega)
  have hc := ti_c v
  have hin : vp_in v n := ti_in i1.1 (by omega)
  have ext : ∀ r' : Int32, r'.toInt ≤ r.toInt → (T v.toNatClampNeg = v1 → (D v.toNatClampNeg).toInt ≤ v2.toInt ∨ r'.toInt ≤ (D v.toNatClampNeg).toInt) → ∀ i : Nat, (i : Int) < (v + 1).toInt → T i = v1 → (D i).toInt ≤ v2.toInt ∨ r'.toInt ≤ (D i).toInt := by
    intro r' h1 h2 i hi hT
    by_cases e : (i : Int) < v.toInt
    · have := i3 i e hT
      omega
    · have e2 : i = v.toNatClampNeg := by omega
      subst e2
      exact h2 hT
  refine ⟨hin, fun a => ⟨hin, fun b => ?_, fun b => ⟨hin, fun c => ?_, fun c => ⟨hin, ?_⟩⟩⟩, fun a => ?_⟩
  · exact hrec _ _ ⟨by omega, i2, ext r (by omega) (fun _ => Or.inl b)⟩ (by omega)
  · exact hrec _ _ ⟨by omega, i2, ext r (by omega) (fun _ => Or.inr c)⟩ (by omega)
  · exact hrec _ _ ⟨by omega, by omega, ext _ (by omega) (fun _ => Or.inr (by omega))⟩ (by omega)
  · exact hrec _ _ ⟨by omega, i2, ext r (by omega) (fun k => absurd k a)⟩ (by omega)
theorem k_nextAny (hn : n ≤ 1000) (h0 : 0 ≤ sN.toInt ∧ sN.toInt ≤ n) (hv : v2.toInt < 400) (q : ∀ r : Int32, (v2.toInt < r.toInt ∧ r.toInt ≤ 400) → (∀ i : Nat, (i : Int) < sN.toInt → (D i).toInt ≤ v2.toInt ∨ r.toInt ≤ (D i).toInt) → Q r) : p_Si_nextDayOfAny n sN D v2 Q := by
  unfold p_Si_nextDayOfAny
  refine Lp2.of (fun r v => (0 ≤ v.toInt ∧ v.toInt ≤ sN.toInt) ∧ (v2.toInt < r.toInt ∧ r.toInt ≤ 400) ∧ ∀ i : Nat, (i : Int) < v.toInt → (D i).toInt ≤ v2.toInt ∨ r.toInt ≤ (D i).toInt) (fun _ v => (sN.toInt - v.toInt).toNat) ?_ _ _ ⟨by rw [c_0]; omega, by rw [c_400]; omega, fun i hi => by rw [c_0] at hi; omega⟩
  intro rec r v ⟨i1, i2, i3⟩ hrec
  unfold p_Si_nextDayOfAny_L6
  simp only [forall_eq, ti_le]
  refine ⟨fun g => q r i2 (fun i hi => i3 i (by omega)), fun g => ?_⟩
  have hs := ti_a1 (x := v) (by omega)
  have hc := ti_c v
  have hin : vp_in v n := ti_in i1.1 (by omega)
  have ext : ∀ r' : Int32, r'.toInt ≤ r.toInt → ((D v.toNatClampNeg).toInt ≤ v2.toInt ∨ r'.toInt ≤ (D v.toNatClampNeg).toInt) → ∀ i : Nat, (i : Int) < (v + 1).toInt → (D i).toInt ≤ v2.toInt ∨ r'.toInt ≤ (D i).toInt := by
    intro r' h1 h2 i hi
    by_cases e : (i : Int) < v.toInt
    · have := i3 i e
      omega
    · have e2 : i = v.toNatClampNeg := by omega
      subst e2
      exact h2
  refine ⟨hin, fun b => ?_, fun b => ⟨hin, fun c => ?_, fun c => ⟨hin, ?_⟩⟩⟩
  · exact hrec _ _ ⟨by omega, i2, ext r (by omega) (Or.inl b)⟩ (by omega)
  · exact hrec _ _ ⟨by omega, i2, ext r (by omega) (Or.inr c)⟩ (by omega)
  · exact hrec _ _ ⟨by omega, by omega, ext _ (by omega) (Or.inr (by omega))⟩ (by omega)
end NX
theorem hld_const {T D : Nat → Int32} {t : Int32} {d d' r : Int} {k : Nat} (hk : k ≤ 1000) (h : ∀ i : Nat, i < k → T i = t → (D i).toInt ≤ d ∨ r ≤ (D i).toInt) (h1 : d ≤ d') (h2 : d' < r) : hld T D t d' k = hld T D t d k := by
  refine HP.uniq (hld_HP k hk) ((hld_HP k hk).later (fun i _ hi hT => ?_))
  have := h i hi hT
  omega
theorem sh_const {ckN : Int32} {suns ckT ckD shf : Nat → Int32} {t : Int32} {d d' r : Int} (hk : ckN.toInt ≤ 60) (h : ∀ i : Nat, (i : Int) < ckN.toInt → ckT i = t → (ckD i).toInt ≤ d ∨ r ≤ (ckD i).toInt) (h1 : d ≤ d') (h2 : d' < r) : sh ckN suns ckT ckD shf t d' = sh ckN suns ckT ckD shf t d := by
  have hc := ti_c ckN
  unfold sh
  rw [hld_const (by omega) (fun i hi hT => h i (by omega) hT) h1 h2]
def cntB (p : Nat → Bool) : Nat → Nat
  | 0 => 0
  | k + 1 => cntB p k + (if p k = true then 1 else 0)
theorem cnt_run {p : Nat → Bool} {c : Bool} {a : Nat} : ∀ n : Nat, (∀ i, a ≤ i → i < a + n → p i = c) → cntB p (a + n) = cntB p a + (if c = true then n else 0) := by
  intro n
  induction n with
  | zero => intro _; cases c <;> rfl
  | succ n ih =>
    intro h
    show cntB p (a + n) + (if p (a + n) = true then 1 else 0) = _
    rw [ih (fun i h1 h2 => h i h1 (by omega)), h (a + n) (by omega) (by omega)]
    cases c
    · rfl
    · simp only [if_true]
      omega
theorem cnt_le {p : Nat → Bool} : ∀ n : Nat, cntB p n ≤ n := by
  intro n
  induction n with
  | zero => exact Nat.le_refl _
  | succ n ih =>
    show cntB p n + (if p n = true then 1 else 0) ≤ n + 1
    split <;> omega
theorem cnt_to {p : Nat → Bool} {c : Bool} {a b : Nat} (hab : a ≤ b) (h : ∀ i, a ≤ i → i < b → p i = c) : cntB p b = cntB p a + (if c = true then b - a else 0) := by
  have e := cnt_run (p := p) (c := c) (a := a) (b - a) (fun i h1 h2 => h i h1 (by omega))
  rw [show a + (b - a) = b by omega] at e
  exact e
theorem ti_jmin {x y : Int32} : (jmin x y).toInt = min x.toInt y.toInt := by
  unfold jmin
  split
  · rename_i h
    rw [ti_lt] at h
    omega
  · rename_i h
    rw [ti_lt] at h
    omega
section UN
variable {tnN ckN mTn mCk t t' : Int32} {suns ckT ckD shf mSun mCkT mCkD mCkK mCkA : Nat → Int32}
def unl (ckN : Int32) (suns ckT ckD shf : Nat → Int32) (t t' : Int32) (d : Nat) : Bool := decide (¬ sh ckN suns ckT ckD shf t (d : Int) = sh ckN suns ckT ckD shf t' (d : Int))
theorem k_unlikeO {Q : Int32 → Prop} (hTn : R_tn tnN suns mTn mSun) (hCk : R_ck tnN suns ckN ckT ckD shf mCk mCkT mCkD mCkK mCkA) (ht : 0 ≤ t.toInt ∧ t.toInt < tnN.toInt) (ht' : 0 ≤ t'.toInt ∧ t'.toInt < tnN.toInt)
    (q : ∀ r : Int32, r.toInt = cntB (unl ckN suns ckT ckD shf t t') 400 → Q r) : p_Tn_daysUnlike tnN ckN suns ckT ckD shf t t' Q := by
  unfold p_Tn_daysUnlike
  have hb := hCk.2.1
  refine Lp3.of (fun (c v k : Int32) => (0 ≤ k.toInt ∧ k.toInt ≤ v.toInt ∧ v.toInt ≤ 400) ∧ c.toInt = cntB (unl ckN suns ckT ckD shf t t') v.toNatClampNeg) (fun _ v _ => (400 - v.toInt).toNat) ?_ _ _ _ ⟨by rw [c_0]; omega, by rw [z0n, c_0]; rfl⟩
  intro rec c v k ⟨i1, i2⟩ hrec
  unfold p_Tn_daysUnlike_L8
  simp only [forall_eq, ti_le, c_400]
  have hc := ti_c v
  have fin : 400 ≤ v.toInt → Q c := fun g => q c (by rw [i2, show v.toNatClampNeg = 400 by omega])
  refine ⟨fun g => fin (by omega), fun g => ⟨fun g2 => fin g2, fun g2 => ?_⟩⟩
  refine k_nextDay (by decide) hb (by omega) (fun r1 h1 h2 => k_nextDay (by decide) hb (by omega) (fun r2 h3 h4 => ?_))
  have hj := ti_jmin (x := r1) (y := r2)
  generalize jmin r1 r2 = m at hj ⊢
  have hm := ti_c m
  refine k_shiftOn hTn hCk ht (k_shiftOn hTn hCk ht' ?_)
  have hk := ti_a1 (x := k) (by omega)
  have hle := cnt_le (p := unl ckN suns ckT ckD shf t t') v.toNatClampNeg
  have same : ∀ i : Nat, v.toNatClampNeg ≤ i → i < m.toNatClampNeg → unl ckN suns ckT ckD shf t t' i = decide (¬ sh ckN suns ckT ckD shf t v.toInt = sh ckN suns ckT ckD shf t' v.toInt) := by
    intro i hi1 hi2
    unfold unl
    rw [sh_const (d := v.toInt) (d' := (i : Int)) (r := r1.toInt) hb.2 (fun j hj hT => h2 j hj hT) (by omega) (by omega), sh_const (d := v.toInt) (d' := (i : Int)) (r := r2.toInt) hb.2 (fun j hj hT => h4 j hj hT) (by omega) (by omega)]
  have hct := cnt_to (a := v.toNatClampNeg) (b := m.toNatClampNeg) (by omega) same
  have hs : (m - v).toInt = m.toInt - v.toInt := by rw [ti_sub] <;> omega
  refine ⟨fun e => hrec _ _ _ ⟨by omega, ?_⟩ (by omega), fun e => hrec _ _ _ ⟨by omega, ?_⟩ (by omega)⟩
  · rw [hct, i2, if_neg (by simp [e])]
    rfl
  · have ha : (c + (m - v)).toInt = c.toInt + (m.toInt - v.toInt) := by rw [ti_add] <;> rw [hs] <;> omega
    rw [hct, ha, i2, if_pos (by simp [e])]
    omega
theorem k_unlikeM {Q : Int32 → Int32 → Prop} (hTn : R_tn tnN suns mTn mSun) (hCk : R_ck tnN suns ckN ckT ckD shf mCk mCkT mCkD mCkK mCkA) (ht : 0 ≤ t.toInt ∧ t.toInt < tnN.toInt) (ht' : 0 ≤ t'.toInt ∧ t'.toInt < tnN.toInt)
    (q : ∀ r : Int32, r.toInt = cntB (unl ckN suns ckT ckD shf t t') 400 → Q r 0) : Lp2 (p_M_unlike_L28 mTn mCk mSun mCkT mCkD mCkK mCkA t t' 0 Q) 0 0 := by
  refine Lp2.of (fun (c v : Int32) => (0 ≤ v.toInt ∧ v.toInt ≤ 400) ∧ c.toInt = cntB (unl ckN suns ckT ckD shf t t') v.toNatClampNeg) (fun _ v => (400 - v.toInt).toNat) ?_ _ _ ⟨by rw [c_0]; omega, by rw [z0n, c_0]; rfl⟩
  intro rec c v ⟨i1, i2⟩ hrec
  unfold p_M_unlike_L28
  simp only [forall_eq, ti_le, c_400]
  have hc := ti_c v
  refine ⟨fun g => q c (by rw [i2, show v.toNatClampNeg = 400 by omega]), fun g => k_ahead hTn hCk ht (k_ahead hTn hCk ht' ?_)⟩
  have hs := ti_a1 (x := v) (by omega)
  have n1 : (v + 1).toNatClampNeg = v.toNatClampNeg + 1 := by rw [ti_c, ti_c, hs]; omega
  have hle := cnt_le (p := unl ckN suns ckT ckD shf t t') v.toNatClampNeg
  have hv : (v.toNatClampNeg : Int) = v.toInt := by omega
  have hst : cntB (unl ckN suns ckT ckD shf t t') (v.toNatClampNeg + 1) = cntB (unl ckN suns ckT ckD shf t t') v.toNatClampNeg + (if unl ckN suns ckT ckD shf t t' v.toNatClampNeg = true then 1 else 0) := rfl
  refine ⟨fun e => hrec _ _ ⟨by omega, ?_⟩ (by omega), fun e => hrec _ _ ⟨by omega, ?_⟩ (by omega)⟩
  · have ha : (c + 0).toInt = c.toInt := by rw [ti_add] <;> rw [c_0] <;> omega
    rw [n1, hst, ha, i2, if_neg (by unfold unl; rw [hv]; simp [e])]
    omega
  · have ha := ti_a1 (x := c) (by omega)
    rw [n1, hst, ha, i2, if_pos (by unfold unl; rw [hv]; simp [e])]
    omega
end UN
theorem s_unlike : st_unlike RR := by
  intro mThr mTn mCk mRw mSt mTr mFM mFS mTpN mLw mAt mTwN mBE mBEn mSun mCkT mCkD mCkK mCkA mRow mStT mRun mUp mSta mSty mDly mTri mFnd mTap mLwT mLwD mLwO mLwM mTwT mSetA mDri mOrd mBst tnN ckN stN trN dsT dsC tpN lwN rdS rdM rdE rdD twN rsW rsE rwN suns ckT ckD shf lnT ways ups sts sty dly gAp gOp stp bst sgn lwT lwD rdT rdO lwK lwM twS twM twD rsO rsB rwA hR a1 a2 
  obtain ⟨hTn, hCk, hLn, hTp, hLw, hTw, hRw⟩ := id hR
  obtain ⟨e2, hb2, hq2⟩ := id hTn
  subst e2
  simp only [p_O_unlike, p_M_unlike, k_isTown hb2.1, bi0, bi01, true_and, and_true, not_true_eq_false, not_false_eq_true, false_implies, true_implies, true_or, or_true, Classical.not_not, forall_eq, ti_as, k_has, k_isDay, k_isMinute, k_isTimeOfDay, k_isMatter, k_hasStation, k_hasTrain, k_TwHas, k_inw, k_mDay, k_mMinute]
  by_cases h1 : 0 ≤ a1.toInt ∧ a1.toInt < mTn.toInt
  case neg => exact tk_f h1 (tk_f h1 (by first | exact ⟨rfl, fun _ => rfl, hR⟩ | exact ⟨rfl, rfl, hR⟩ | exact ⟨fun _ => rfl, hR⟩ | exact ⟨rfl, hR⟩ | exact hR))
  by_cases h2 : 0 ≤ a2.toInt ∧ a2.toInt < mTn.toInt
  case neg => exact tk_t h1 (tk_f h2 (tk_t h1 (tk_f h2 (by first | exact ⟨rfl, fun _ => rfl, hR⟩ | exact ⟨rfl, rfl, hR⟩ | exact ⟨fun _ => rfl, hR⟩ | exact ⟨rfl, hR⟩ | exact hR))))
  refine tk_t h1 (tk_t h2 (k_unlikeO hTn hCk h1 h2 (fun r hr => tk_t h1 (tk_t h2 (k_unlikeM hTn hCk h1 h2 (fun r' hr' => ⟨ti_eq.mpr (hr.trans hr'.symm), hR⟩))))))
/-! the first day on which all clocks agree -/
section ON
variable {tnN ckN mTn mCk d : Int32} {suns ckT ckD shf mSun mCkT mCkD mCkK mCkA : Nat → Int32}
def alk (tnN ckN : Int32) (suns ckT ckD shf : Nat → Int32) (d : Int) : Prop := ∀ t : Int32, 0 ≤ t.toInt → t.toInt < tnN.toInt → sh ckN suns ckT ckD shf t d = sh ckN suns ckT ckD shf 0 d
theorem k_shiftAny {t : Int32} {Q : Int32 → Prop} (hTn : R_tn tnN suns mTn mSun) (hCk : R_ck tnN suns ckN ckT ckD shf mCk mCkT mCkD mCkK mCkA) (ht : ¬ (0 ≤ t.toInt ∧ t.toInt < tnN.toInt)) (q : ∀ r, Q r) : p_Tn_shiftOn tnN ckN suns ckT ckD shf t d Q := by
  unfold p_Tn_shiftOn
  have hb := hCk.2.1
  have hP := sh_HP hCk t d.toInt
  have hc := ti_c (hld ckT ckD t d.toInt ckN.toNatClampNeg)
  have hcn := ti_c ckN
  refine k_holding (by decide) hb.1 hb.2 (fun i hi => (hCk.2.2 i hi).2.2.2.1.1) ⟨fun _ => ?_, fun h => ?_⟩
  · unfold p_Tn_sunOf
    rw [k_has, bi_f ht]
    exact tn_f rfl (q _)
  · rw [ti_eq, c_m1] at h
    rcases hP with ⟨a1, a2⟩ | ⟨a1, a2, a3, a4⟩
    · exact absurd a1 h
    · exact ⟨ti_in a1 (by omega), q _⟩
theorem k_alikeO {Q : Int32 → Prop} (hTn : R_tn tnN suns mTn mSun) (hCk : R_ck tnN suns ckN ckT ckD shf mCk mCkT mCkD mCkK mCkA) (q1 : alk tnN ckN suns ckT ckD shf d.toInt → Q 1) (q0 : ¬ alk tnN ckN suns ckT ckD shf d.toInt → Q 0) : p_Tn_areAlikeOn tnN ckN suns ckT ckD shf d Q := by
  unfold p_Tn_areAlikeOn
  have hn := hTn.2.1
  by_cases hp : 0 < tnN.toInt
  case neg =>
    refine k_shiftAny hTn hCk (by rw [c_0]; omega) (fun r => ?_)
    refine Lp1.of (fun v => v.toInt = 1) (fun _ => 0) ?_ _ c_1
    intro rec v hv _
    unfold p_Tn_areAlikeOn_L9
    rw [ti_le]
    exact tn_f (by omega) (q1 (fun t g1 g2 => by omega))
  refine k_shiftOn hTn hCk (by rw [c_0]; omega) ?_
  refine Lp1.of (fun v => (1 ≤ v.toInt ∧ v.toInt ≤ tnN.toInt) ∧ ∀ t : Int32, 0 ≤ t.toInt → t.toInt < v.toInt → sh ckN suns ckT ckD shf t d.toInt = sh ckN suns ckT ckD shf 0 d.toInt) (fun v => (tnN.toInt - v.toInt).toNat) ?_ _ ⟨by rw [c_1]; omega, fun t g1 g2 => by rw [c_1] at g2; rw [show t = 0 from ti_eq.mpr (by rw [c_0]; omega)]⟩
  intro rec v ⟨i1, i2⟩ hrec
  unfold p_Tn_areAlikeOn_L9
  simp only [forall_eq, ti_le]
  refine ⟨fun g => q1 (fun t g1 g2 => i2 t g1 (by omega)), fun g => k_shiftOn hTn hCk (by omega) ⟨fun e => ?_, fun e => q0 (fun a => e (a v (by omega) (by omega)))⟩⟩
  have hs := ti_a1 (x := v) (by omega)
  refine hrec _ ⟨by omega, fun t g1 g2 => ?_⟩ (by omega)
  by_cases k : t.toInt < v.toInt
  · exact i2 t g1 k
  · rw [show t = v from ti_eq.mpr (by omega)]
    exact e
def FA (tnN ckN : Int32) (suns ckT ckD shf : Nat → Int32) (a : Int) (r : Int32) : Prop := (r.toInt = -1 ∧ ∀ d, a ≤ d → d < 400 → ¬ alk tnN ckN suns ckT ckD shf d) ∨ ((a ≤ r.toInt ∧ r.toInt < 400) ∧ alk tnN ckN suns ckT ckD shf r.toInt ∧ ∀ d, a ≤ d → d < r.toInt → ¬ alk tnN ckN suns ckT ckD shf d)
theorem FA.uniq {a : Int} {r r' : Int32} (h : FA tnN ckN suns ckT ckD shf a r) (h' : FA tnN ckN suns ckT ckD shf a r') : r = r' := by
  rw [ti_eq]
  rcases h with ⟨a1, a2⟩ | ⟨a1, a2, a3⟩ <;> rcases h' with ⟨b1, b2⟩ | ⟨b1, b2, b3⟩
  · omega
  · exact absurd b2 (a2 _ b1.1 b1.2)
  · exact absurd a2 (b2 _ a1.1 a1.2)
  · rcases Int.lt_trichotomy r.toInt r'.toInt with g | g | g
    · exact absurd a2 (b3 _ a1.1 g)
    · exact g
    · exact absurd b2 (a3 _ b1.1 g)
theorem k_oneO {a : Int32} {Q : Int32 → Prop} (hTn : R_tn tnN suns mTn mSun) (hCk : R_ck tnN suns ckN ckT ckD shf mCk mCkT mCkD mCkK mCkA) (ha : 0 ≤ a.toInt ∧ a.toInt < 400) (q : ∀ r, FA tnN ckN suns ckT ckD shf a.toInt r → Q r) : p_Tn_firstDayAlike tnN ckN suns ckT ckD shf a Q := by
  unfold p_Tn_firstDayAlike
  have hb := hCk.2.1
  refine Lp2.of (fun v k => (0 ≤ k.toInt ∧ k.toInt ≤ v.toInt) ∧ (a.toInt ≤ v.toInt ∧ v.toInt ≤ 400) ∧ ∀ d, a.toInt ≤ d → d < v.toInt → ¬ alk tnN ckN suns ckT ckD shf d) (fun v _ => (400 - v.toInt).toNat) ?_ _ _ ⟨by rw [c_0]; omega, by omega, fun d g1 g2 => by omega⟩
  intro rec v k ⟨i1, i2, i3⟩ hrec
  unfold p_Tn_firstDayAlike_L4
  simp only [forall_eq, ti_le, c_400]
  have fin : 400 ≤ v.toInt → Q (-1) := fun g => q _ (Or.inl ⟨c_m1, fun d g1 g2 => i3 d g1 (by omega)⟩)
  refine ⟨fun g => fin (by omega), fun g => ⟨fun g2 => fin g2, fun g2 => ?_⟩⟩
  refine k_alikeO hTn hCk (fun h => tn_t i10 (q v (Or.inr ⟨by omega, h, i3⟩))) (fun h => tn_f rfl ?_)
  refine k_nextAny (by decide) hb (by omega) (fun r h1 h2 => ?_)
  have hk := ti_a1 (x := k) (by omega)
  refine hrec _ _ ⟨by omega, by omega, fun d g3 g4 => ?_⟩ (by omega)
  by_cases e : d < v.toInt
  · exact i3 d g3 e
  · refine fun al => h (fun t g5 g6 => ?_)
    have := al t g5 g6
    rw [sh_const (d := v.toInt) (r := r.toInt) hb.2 (fun j hj _ => h2 j hj) (by omega) g4, sh_const (t := 0) (d := v.toInt) (r := r.toInt) hb.2 (fun j hj _ => h2 j hj) (by omega) g4] at this
    exact this
theorem k_oneM {a : Int32} {Q : Int32 → Int32 → Prop} (hTn : R_tn tnN suns mTn mSun) (hCk : R_ck tnN suns ckN ckT ckD shf mCk mCkT mCkD mCkK mCkA) (ha : 0 ≤ a.toInt ∧ a.toInt < 400) (q : ∀ r, FA tnN ckN suns ckT ckD shf a.toInt r → Q r 0) : Lp1 (p_M_one_L16 mTn mCk mSun mCkT mCkD mCkK mCkA 0 Q) a := by
  have hn := hTn.2.1
  have e := hTn.1
  subst e
  refine Lp1.of (fun v => (a.toInt ≤ v.toInt ∧ v.toInt ≤ 400) ∧ ∀ d, a.toInt ≤ d → d < v.toInt → ¬ alk mTn ckN suns ckT ckD shf d) (fun v => (400 - v.toInt).toNat) ?_ _ ⟨by omega, fun d g1 g2 => by omega⟩
  intro rec v ⟨i1, i2⟩ hrec
  unfold p_M_one_L16
  simp only [ti_le, c_400]
  refine ⟨fun g => q _ (Or.inl ⟨c_m1, fun d g1 g2 => i2 d g1 (by omega)⟩), fun g => ?_⟩
  have hs := ti_a1 (x := v) (by omega)
  refine Lp2.of (fun c w => (1 ≤ w.toInt ∧ (w.toInt ≤ mTn.toInt ∨ w.toInt = 1)) ∧ ((c = 1 ∧ ∀ t : Int32, 0 ≤ t.toInt → t.toInt < w.toInt → t.toInt < mTn.toInt → sh ckN suns ckT ckD shf t v.toInt = sh ckN suns ckT ckD shf 0 v.toInt) ∨ (c = 0 ∧ ¬ alk mTn ckN suns ckT ckD shf v.toInt))) (fun _ w => (17 - w.toInt).toNat) ?_ _ _ ⟨by rw [c_1]; omega, Or.inl ⟨rfl, fun t g1 g2 _ => by rw [c_1] at g2; rw [show t = 0 from ti_eq.mpr (by rw [c_0]; omega)]⟩⟩
  intro rec2 c w ⟨j1, j2⟩ hrec2
  unfold p_M_one_L28
  simp only [forall_eq, ti_le]
  have hw := ti_a1 (x := w) (by omega)
  refine ⟨fun g2 => ⟨fun z => ?_, fun z => ?_⟩, fun g2 => ⟨fun z => ?_, fun z => ?_⟩⟩
  · rcases j2 with ⟨z1, _⟩ | ⟨_, z2⟩
    · exact absurd (z1.symm.trans z) i10
    · refine hrec _ ⟨by omega, fun d g3 g4 => ?_⟩ (by omega)
      by_cases e : d < v.toInt
      · exact i2 d g3 e
      · rw [show d = v.toInt by omega]
        exact z2
  · rcases j2 with ⟨_, z2⟩ | ⟨z1, _⟩
    · exact q v (Or.inr ⟨by omega, fun t g3 g4 => z2 t g3 (by omega) g4, i2⟩)
    · exact absurd z1 z
  · rcases j2 with ⟨z1, _⟩ | ⟨_, z2⟩
    · exact absurd (z1.symm.trans z) i10
    · exact hrec2 _ _ ⟨by omega, Or.inr ⟨rfl, z2⟩⟩ (by omega)
  · rcases j2 with ⟨_, z2⟩ | ⟨z1, _⟩
    · refine k_ahead hTn hCk (by omega) (k_ahead hTn hCk (by rw [c_0]; omega) ⟨fun e => ?_, fun e => ?_⟩)
      · refine hrec2 _ _ ⟨by omega, Or.inl ⟨rfl, fun t g3 g4 g5 => ?_⟩⟩ (by omega)
        by_cases k : t.toInt < w.toInt
        · exact z2 t g3 k g5
        · rw [show t = w from ti_eq.mpr (by omega)]
          exact e
      · exact hrec2 _ _ ⟨by omega, Or.inr ⟨rfl, fun al => e (al w (by omega) (by omega))⟩⟩ (by omega)
    · exact absurd z1 z
end ON
theorem s_one : st_one RR := by
  intro mThr mTn mCk mRw mSt mTr mFM mFS mTpN mLw mAt mTwN mBE mBEn mSun mCkT mCkD mCkK mCkA mRow mStT mRun mUp mSta mSty mDly mTri mFnd mTap mLwT mLwD mLwO mLwM mTwT mSetA mDri mOrd mBst tnN ckN stN trN dsT dsC tpN lwN rdS rdM rdE rdD twN rsW rsE rwN suns ckT ckD shf lnT ways ups sts sty dly gAp gOp stp bst sgn lwT lwD rdT rdO lwK lwM twS twM twD rsO rsB rwA hR a1 
  obtain ⟨hTn, hCk, hLn, hTp, hLw, hTw, hRw⟩ := id hR
  simp only [p_O_one, p_M_one, bi0, bi01, true_and, and_true, not_true_eq_false, not_false_eq_true, false_implies, true_implies, true_or, or_true, Classical.not_not, forall_eq, ti_as, k_has, k_isDay, k_isMinute, k_isTimeOfDay, k_isMatter, k_hasStation, k_hasTrain, k_TwHas, k_inw, k_mDay, k_mMinute]
  by_cases h1 : 0 ≤ a1.toInt ∧ a1.toInt < 400
  · exact tk_t h1 (k_oneO hTn hCk h1 (fun r hr => tk_t h1 (k_oneM hTn hCk h1 (fun r' hr' => ⟨hr.uniq hr', hR⟩))))
  · exact tk_f h1 (tk_f h1 (by first | exact ⟨rfl, fun _ => rfl, hR⟩ | exact ⟨rfl, rfl, hR⟩ | exact ⟨fun _ => rfl, hR⟩ | exact ⟨rfl, hR⟩ | exact hR))
