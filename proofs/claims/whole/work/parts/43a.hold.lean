set_option maxHeartbeats 400000
/-! which entry of a list by days holds: the latest day not after d, the last told of it -/
def HP (T D : Nat → Int32) (t : Int32) (d : Int) (lo hi : Nat) (r : Int32) : Prop :=
  (r.toInt = -1 ∧ ∀ i, lo ≤ i → i < hi → T i = t → d < (D i).toInt) ∨
  (0 ≤ r.toInt ∧ lo ≤ r.toNatClampNeg ∧ r.toNatClampNeg < hi ∧ T r.toNatClampNeg = t ∧ (D r.toNatClampNeg).toInt ≤ d ∧ ∀ i, lo ≤ i → i < hi → T i = t → (D i).toInt ≤ d → (D i).toInt < (D r.toNatClampNeg).toInt ∨ ((D i).toInt = (D r.toNatClampNeg).toInt ∧ i ≤ r.toNatClampNeg))
section HP
variable {T D : Nat → Int32} {t : Int32} {d : Int} {lo hi k : Nat} {r r' x : Int32}
theorem HP.uniq (h : HP T D t d lo hi r) (h' : HP T D t d lo hi r') : r = r' := by
  rw [ti_eq]
  have := ti_c r
  have := ti_c r'
  rcases h with ⟨a1, a2⟩ | ⟨a1, a2, a3, a4, a5, a6⟩ <;> rcases h' with ⟨b1, b2⟩ | ⟨b1, b2, b3, b4, b5, b6⟩
  · omega
  · have := a2 _ b2 b3 b4
    omega
  · have := b2 _ a2 a3 a4
    omega
  · have q1 := a6 _ b2 b3 b4 b5
    have q2 := b6 _ a2 a3 a4 a5
    omega
theorem HP.or (h : HP T D t d lo hi r) : r.toInt = -1 ∨ 0 ≤ r.toInt := h.elim (fun q => Or.inl q.1) (fun q => Or.inr q.1)
theorem HP.nil : HP T D t d k k (-1) := Or.inl ⟨c_m1, fun i h1 h2 => absurd h1 (by omega)⟩
theorem HP.up_no (h : HP T D t d 0 k r) (hc : ¬ T k = t ∨ d < (D k).toInt ∨ (0 ≤ r.toInt ∧ (D k).toInt < (D r.toNatClampNeg).toInt)) : HP T D t d 0 (k + 1) r := by
  rcases h with ⟨a1, a2⟩ | ⟨a1, a2, a3, a4, a5, a6⟩
  · refine Or.inl ⟨a1, fun i h1 h2 h3 => ?_⟩
    by_cases e : i = k
    · subst e
      rcases hc with q | q | q
      · exact absurd h3 q
      · exact q
      · omega
    · exact a2 i h1 (by omega) h3
  · refine Or.inr ⟨a1, a2, by omega, a4, a5, fun i h1 h2 h3 h4 => ?_⟩
    by_cases e : i = k
    · subst e
      rcases hc with q | q | q
      · exact absurd h3 q
      · omega
      · exact Or.inl q.2
    · exact a6 i h1 (by omega) h3 h4
theorem HP.up_yes (h : HP T D t d 0 k r) (h1 : T k = t) (h2 : (D k).toInt ≤ d) (hc : r.toInt = -1 ∨ (D r.toNatClampNeg).toInt ≤ (D k).toInt) (hx : x.toInt = k) : HP T D t d 0 (k + 1) x := by
  have ex : x.toNatClampNeg = k := by rw [ti_c]; omega
  refine Or.inr ⟨by omega, by omega, by omega, by rw [ex]; exact h1, by rw [ex]; exact h2, fun i g1 g2 g3 g4 => ?_⟩
  rw [ex]
  by_cases e : i = k
  · subst e
    exact Or.inr ⟨rfl, Nat.le_refl _⟩
  · rcases h with ⟨a1, a2⟩ | ⟨a1, a2, a3, a4, a5, a6⟩
    · have := a2 i g1 (by omega) g3
      omega
    · have := a6 i g1 (by omega) g3 g4
      omega
theorem HP.down_no (h : HP T D t d (k + 1) hi r) (hc : ¬ T k = t ∨ d < (D k).toInt ∨ (0 ≤ r.toInt ∧ (D k).toInt ≤ (D r.toNatClampNeg).toInt)) : HP T D t d k hi r := by
  rcases h with ⟨a1, a2⟩ | ⟨a1, a2, a3, a4, a5, a6⟩
  · refine Or.inl ⟨a1, fun i h1 h2 h3 => ?_⟩
    by_cases e : i = k
    · subst e
      rcases hc with q | q | q
      · exact absurd h3 q
      · exact q
      · omega
    · exact a2 i (by omega) h2 h3
  · refine Or.inr ⟨a1, by omega, a3, a4, a5, fun i h1 h2 h3 h4 => ?_⟩
    by_cases e : i = k
    · subst e
      rcases hc with q | q | q
      · exact absurd h3 q
      · omega
      · omega
    · exact a6 i (by omega) h2 h3 h4
theorem HP.down_yes (h : HP T D t d (k + 1) hi r) (hk : k < hi) (h1 : T k = t) (h2 : (D k).toInt ≤ d) (hc : r.toInt = -1 ∨ (D r.toNatClampNeg).toInt < (D k).toInt) (hx : x.toInt = k) : HP T D t d k hi x := by
  have ex : x.toNatClampNeg = k := by rw [ti_c]; omega
  refine Or.inr ⟨by omega, by omega, by omega, by rw [ex]; exact h1, by rw [ex]; exact h2, fun i g1 g2 g3 g4 => ?_⟩
  rw [ex]
  by_cases e : i = k
  · subst e
    exact Or.inr ⟨rfl, Nat.le_refl _⟩
  · rcases h with ⟨a1, a2⟩ | ⟨a1, a2, a3, a4, a5, a6⟩
    · have := a2 i (by omega) g2 g3
      omega
    · have := a6 i (by omega) g2 g3 g4
      omega
theorem HP.later {d' : Int} (h : HP T D t d lo hi r) (hc : ∀ i, lo ≤ i → i < hi → T i = t → ((D i).toInt ≤ d ↔ (D i).toInt ≤ d')) : HP T D t d' lo hi r := by
  rcases h with ⟨a1, a2⟩ | ⟨a1, a2, a3, a4, a5, a6⟩
  · refine Or.inl ⟨a1, fun i h1 h2 h3 => ?_⟩
    have := a2 i h1 h2 h3
    have := hc i h1 h2 h3
    omega
  · exact Or.inr ⟨a1, a2, a3, a4, (hc _ a2 a3 a4).mp a5, fun i h1 h2 h3 h4 => a6 i h1 h2 h3 ((hc i h1 h2 h3).mpr h4)⟩
def hld (T D : Nat → Int32) (t : Int32) (d : Int) : Nat → Int32
  | 0 => -1
  | k + 1 => if T k = t ∧ (D k).toInt ≤ d ∧ ((hld T D t d k).toInt = -1 ∨ (D (hld T D t d k).toNatClampNeg).toInt ≤ (D k).toInt) then Int32.ofNat k else hld T D t d k
theorem hld_HP : ∀ k, k ≤ 1000 → HP T D t d 0 k (hld T D t d k) := by
  intro k
  induction k with
  | zero => intro _; exact HP.nil
  | succ k ih =>
    intro hk
    have h := ih (by omega)
    unfold hld
    split
    · rename_i g
      exact h.up_yes g.1 g.2.1 g.2.2 (ti_nI (by omega))
    · rename_i g
      refine h.up_no ?_
      by_cases g1 : T k = t
      · by_cases g2 : (D k).toInt ≤ d
        · have := h.or
          by_cases g3 : (hld T D t d k).toInt = -1
          · exact absurd ⟨g1, g2, Or.inl g3⟩ g
          · by_cases g4 : (D (hld T D t d k).toNatClampNeg).toInt ≤ (D k).toInt
            · exact absurd ⟨g1, g2, Or.inr g4⟩ g
            · exact Or.inr (Or.inr ⟨by omega, by omega⟩)
        · exact Or.inr (Or.inl (by omega))
      · exact Or.inl g1
end HP
theorem z0n : (0 : Int32).toNatClampNeg = 0 := by decide
theorem k_holding {n : Nat} {sN v1 v2 : Int32} {sT sD : Nat → Int32} {Q : Int32 → Prop} (hn : n ≤ 1000) (h0 : 0 ≤ sN.toInt) (h1 : sN.toInt ≤ n) (hD : ∀ i : Nat, (i : Int) < sN.toInt → 0 ≤ (sD i).toInt) (q : Q (hld sT sD v1 v2.toInt sN.toNatClampNeg)) : p_Si_holding n sN sT sD v1 v2 Q := by
  unfold p_Si_holding
  have hc := ti_c sN
  refine Lp3.of (fun v3 v4 v5 => 0 ≤ v5.toInt ∧ v5.toInt ≤ sN.toInt ∧ HP sT sD v1 v2.toInt 0 v5.toNatClampNeg v3 ∧ ((v3.toInt = -1 ∧ v4.toInt = 0) ∨ (0 ≤ v3.toInt ∧ v4 = sD v3.toNatClampNeg))) (fun _ _ v5 => (sN.toInt - v5.toInt).toNat) ?_ _ _ _ ⟨by rw [c_0]; omega, by rw [c_0]; omega, by rw [z0n]; exact HP.nil, Or.inl ⟨c_m1, c_0⟩⟩
  intro rec v3 v4 v5 ⟨i1, i2, i3, i4⟩ hrec
  have hc5 := ti_c v5
  have hc3 := ti_c v3
  unfold p_Si_holding_L8
  simp only [forall_eq, ti_le, ti_lt]
  refine ⟨fun g => ?_, fun g => ?_⟩
  · rw [show v5.toNatClampNeg = sN.toNatClampNeg by omega] at i3
    rw [i3.uniq (hld_HP _ (by omega))]
    exact q
  have s1 := ti_a1 (x := v5) (by omega)
  have n1 : (v5 + 1).toNatClampNeg = v5.toNatClampNeg + 1 := by rw [ti_c, ti_c, s1]; omega
  have hin : vp_in v5 n := ti_in i1 (by omega)
  have hd := hD v5.toNatClampNeg (by omega)
  refine ⟨hin, fun g2 => ⟨hin, fun g3 => ?_, fun g3 => ⟨hin, fun g4 => ?_, fun g4 => ⟨hin, ?_⟩⟩⟩, fun g2 => ?_⟩
  · exact hrec _ _ _ ⟨by omega, by omega, by rw [n1]; exact i3.up_no (Or.inr (Or.inl g3)), i4⟩ (by omega)
  · have hx : 0 ≤ v3.toInt ∧ (sD v5.toNatClampNeg).toInt < (sD v3.toNatClampNeg).toInt := by
      rcases i4 with ⟨a, b⟩ | ⟨a, b⟩
      · omega
      · rw [b] at g4
        exact ⟨a, g4⟩
    exact hrec _ _ _ ⟨by omega, by omega, by rw [n1]; exact i3.up_no (Or.inr (Or.inr hx)), i4⟩ (by omega)
  · have hx : v3.toInt = -1 ∨ (sD v3.toNatClampNeg).toInt ≤ (sD v5.toNatClampNeg).toInt := by
      rcases i4 with ⟨a, b⟩ | ⟨a, b⟩
      · exact Or.inl a
      · rw [b] at g4
        exact Or.inr (by omega)
    exact hrec _ _ _ ⟨by omega, by omega, by rw [n1]; exact i3.up_yes g2 (by omega) hx (by omega), Or.inr ⟨i1, rfl⟩⟩ (by omega)
  · exact hrec _ _ _ ⟨by omega, by omega, by rw [n1]; exact i3.up_no (Or.inl g2), i4⟩ (by omega)
