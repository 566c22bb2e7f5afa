set_option maxHeartbeats 600000
/-! a law's text: what a sign can be -/
theorem t8_r (c : Int32) (h : 0 ≤ c.toInt ∧ c.toInt ≤ 255) : (c.toInt ≤ 127 → c.toInt8.toInt32 = c) ∧ (128 ≤ c.toInt → (c.toInt8.toInt32).toInt < 0) := by
  have e : (c.toInt8.toInt32).toInt = c.toInt.bmod (2 ^ 8) := by rw [Int8.toInt_toInt32, Int32.toInt_toInt8]
  refine ⟨fun g => ?_, fun g => ?_⟩
  · rw [ti_eq, e]
    rw [Int.bmod_eq_of_le] <;> omega
  · rw [e]
    unfold Int.bmod
    have : c.toInt % ((2 ^ 8 : Nat) : Int) = c.toInt := by omega
    simp only [this]
    split <;> omega
def hasC (i : Nat) (c : Int32) : Prop := ∃ k : Nat, k < sLen.getD i 0 ∧ (sByt.getD i []).getD k 0 = c
theorem hasC_b : ∀ i : Fin 6, ∀ k : Fin 10, k.val < sLen.getD i.val 0 → 1 ≤ ((sByt.getD i.val []).getD k.val 0).toInt ∧ ((sByt.getD i.val []).getD k.val 0).toInt ≤ 122 := by decide
theorem sLen_b : ∀ i : Fin 6, 1 ≤ sLen.getD i.val 0 ∧ sLen.getD i.val 0 ≤ 10 := by decide
theorem hasC_r {i : Nat} (hi : i < 6) {c : Int32} (h : hasC i c) : 1 ≤ c.toInt ∧ c.toInt ≤ 122 := by
  obtain ⟨k, h1, h2⟩ := h
  have l := sLen_b ⟨i, hi⟩
  have := hasC_b ⟨i, hi⟩ ⟨k, by simp only at l; omega⟩ h1
  rw [← h2]
  exact this
theorem hasC_8 {i : Nat} (hi : i < 6) {c : Int32} (hc : 0 ≤ c.toInt ∧ c.toInt ≤ 255) : hasC i c.toInt8.toInt32 ↔ hasC i c := by
  have t := t8_r c hc
  by_cases g : c.toInt ≤ 127
  · rw [t.1 g]
  · have t2 := t.2 (by omega)
    exact ⟨fun h => absurd (hasC_r hi h) (by omega), fun h => absurd (hasC_r hi h) (by omega)⟩
theorem k_indexOf {i : Nat} {c : Int32} {Q : Int32 → Prop} (hi : i < 6) (hc : 0 ≤ c.toInt ∧ c.toInt ≤ 255) (q : ∀ r : Int32, ((r.toInt < 0 ∧ ¬ hasC i c) ∨ (0 ≤ r.toInt ∧ hasC i c)) → Q r) : p_Js_indexOf i c Q := by
  have l := sLen_b ⟨i, hi⟩
  simp only at l
  have hl : (Int32.ofNat (sLen.getD i 0)).toInt = ((sLen.getD i 0 : Nat) : Int) := ti_nI (by omega)
  have hsh : Int32.ofNat (sLen.getD i 0) >>> ((0 : Int32) &&& 31) = Int32.ofNat (sLen.getD i 0) := by
    rw [show (0 : Int32) &&& 31 = 0 by decide]
    exact Int32.shiftRight_zero
  unfold p_Js_indexOf p_Js_indexOf2 p_Js_isLatin1
  refine tn_t i10 (tn_f rfl (tn_t i10 ?_))
  unfold p_Js_length p_Js_coder
  refine tn_t i10 ?_
  show p_Jl_indexOf i c 0 (Int32.ofNat (sLen.getD i 0) >>> ((0 : Int32) &&& 31)) (fun r17 => Q r17)
  rw [hsh]
  unfold p_Jl_indexOf p_Jl_canEncode
  rw [ti_lt, ti_lt, c_0, c_255]
  refine tn_t (by omega) (tn_t (by omega) (tn_t i10 ?_))
  rw [forall_eq, forall_eq, show jmax (0 : Int32) 0 = 0 by decide, show jmin (Int32.ofNat (sLen.getD i 0)) (Int32.ofNat (sLen.getD i 0)) = Int32.ofNat (sLen.getD i 0) by unfold jmin; split <;> rfl, ti_lt, hl, c_0]
  refine tn_f (by omega) ?_
  unfold p_Jl_indexOfChar
  rw [forall_eq]
  refine Lp1.of (fun v => (0 ≤ v.toInt ∧ v.toInt ≤ ((sLen.getD i 0 : Nat) : Int)) ∧ ∀ k : Nat, (k : Int) < v.toInt → ¬ (sByt.getD i []).getD k 0 = c.toInt8.toInt32) (fun v => (((sLen.getD i 0 : Nat) : Int) - v.toInt).toNat) ?_ _ ⟨by rw [c_0]; omega, fun k hk => by rw [c_0] at hk; omega⟩
  intro rec v ⟨a1, a2⟩ hrec
  unfold p_Jl_indexOfChar_L7
  rw [ti_le, hl]
  refine ⟨fun g => q _ (Or.inl ⟨by decide, fun h => ?_⟩), fun g => ⟨ti_in a1.1 (by omega), fun e => q _ (Or.inr ⟨a1.1, ?_⟩), fun e => ?_⟩⟩
  · obtain ⟨k, h1, h2⟩ := (hasC_8 hi hc).mpr h
    exact a2 k (by omega) h2
  · exact (hasC_8 hi hc).mp ⟨v.toNatClampNeg, by rw [ti_c]; omega, e⟩
  · rw [forall_eq]
    have hn := ti_a1 (x := v) (by omega)
    refine hrec _ ⟨by omega, fun k hk => ?_⟩ (by omega)
    by_cases e2 : (k : Int) < v.toInt
    · exact a2 k e2
    · rw [ti_c] at e
      rw [show k = v.toInt.toNat by omega]
      exact e
theorem k_isSign {i : Nat} {at' n : Int32} {mTap : Nat → Int32} {Q : Int32 → Prop} (hi : i < 6) (hat : 0 ≤ at'.toInt) (hn : n.toInt ≤ 100) (hT : at'.toInt < n.toInt → 0 ≤ (mTap at'.toInt.toNat).toInt ∧ (mTap at'.toInt.toNat).toInt ≤ 255) (q1 : at'.toInt < n.toInt → hasC i (mTap at'.toInt.toNat) → Q 1) (q0 : (at'.toInt < n.toInt → ¬ hasC i (mTap at'.toInt.toNat)) → Q 0) : p_M_isSign i at' mTap n Q := by
  unfold p_M_isSign
  rw [ti_le, ti_le, ti_c, c_0]
  refine ⟨fun g => q0 (fun k => absurd k (by omega)), fun g => ⟨ti_in hat (by omega), fun z => q0 (fun k h => ?_), fun z => ⟨ti_in hat (by omega), k_indexOf hi (hT (by omega)) (fun r hr => ?_)⟩⟩⟩
  · have := hasC_r hi h
    omega
  · rw [ti_lt, c_0]
    refine ⟨fun k => q0 (fun _ h => ?_), fun k => q1 (by omega) ?_⟩
    · rcases hr with hr | hr
      · exact hr.2 h
      · omega
    · rcases hr with hr | hr
      · omega
      · exact hr.2
theorem hc_5 {c : Int32} : hasC 5 c ↔ c = 59 := by
  constructor
  · rintro ⟨k, h1, h2⟩
    have : k = 0 := by have : sLen.getD 5 0 = 1 := rfl; omega
    subst this
    exact h2.symm
  · intro h
    exact ⟨0, by decide, h.symm⟩
theorem hc_1 {c : Int32} : hasC 1 c ↔ c = 61 := by
  constructor
  · rintro ⟨k, h1, h2⟩
    have : k = 0 := by have : sLen.getD 1 0 = 1 := rfl; omega
    subst this
    exact h2.symm
  · intro h
    exact ⟨0, by decide, h.symm⟩
theorem hc_2 {c : Int32} : hasC 2 c ↔ (c = 108 ∨ c = 99 ∨ c = 122) := by
  constructor
  · rintro ⟨k, h1, h2⟩
    have : k = 0 ∨ k = 1 ∨ k = 2 := by have : sLen.getD 2 0 = 3 := rfl; omega
    rcases this with e | e | e <;> subst e
    · exact Or.inl h2.symm
    · exact Or.inr (Or.inl h2.symm)
    · exact Or.inr (Or.inr h2.symm)
  · rintro (h | h | h)
    · exact ⟨0, by decide, h.symm⟩
    · exact ⟨1, by decide, h.symm⟩
    · exact ⟨2, by decide, h.symm⟩
theorem hc_3 {c : Int32} : hasC 3 c ↔ (c = 43 ∨ c = 45) := by
  constructor
  · rintro ⟨k, h1, h2⟩
    have : k = 0 ∨ k = 1 := by have : sLen.getD 3 0 = 2 := rfl; omega
    rcases this with e | e <;> subst e
    · exact Or.inl h2.symm
    · exact Or.inr h2.symm
  · rintro (h | h)
    · exact ⟨0, by decide, h.symm⟩
    · exact ⟨1, by decide, h.symm⟩
theorem hc_0k : ∀ k : Fin 6, ((sByt.getD 0 []).getD k.val 0).toInt = 97 + (k.val : Int) := by decide
theorem hc_4k : ∀ k : Fin 10, ((sByt.getD 4 []).getD k.val 0).toInt = 48 + (k.val : Int) := by decide
theorem hc_0 {c : Int32} : hasC 0 c ↔ (97 ≤ c.toInt ∧ c.toInt ≤ 102) := by
  have l : sLen.getD 0 0 = 6 := rfl
  constructor
  · rintro ⟨k, h1, h2⟩
    have := hc_0k ⟨k, by omega⟩
    rw [← h2]
    simp only at this
    omega
  · intro h
    have := hc_0k ⟨(c.toInt - 97).toNat, by omega⟩
    exact ⟨(c.toInt - 97).toNat, by omega, ti_eq.mpr (by simp only at this; omega)⟩
theorem hc_4 {c : Int32} : hasC 4 c ↔ (48 ≤ c.toInt ∧ c.toInt ≤ 57) := by
  have l : sLen.getD 4 0 = 10 := rfl
  constructor
  · rintro ⟨k, h1, h2⟩
    have := hc_4k ⟨k, by omega⟩
    rw [← h2]
    simp only at this
    omega
  · intro h
    have := hc_4k ⟨(c.toInt - 48).toNat, by omega⟩
    exact ⟨(c.toInt - 48).toNat, by omega, ti_eq.mpr (by simp only at this; omega)⟩
