set_option maxHeartbeats 600000
/-! the reader of a law's text, sign by sign -/
abbrev AS := Int32 × Int32 × Int32 × Int32 × (Nat → Int32) × (Nat → Int32)
abbrev AS.S (a : AS) : Int32 := a.1
abbrev AS.M (a : AS) : Int32 := a.2.1
abbrev AS.E (a : AS) : Int32 := a.2.2.1
abbrev AS.D (a : AS) : Int32 := a.2.2.2.1
abbrev AS.T (a : AS) : Nat → Int32 := a.2.2.2.2.1
abbrev AS.O (a : AS) : Nat → Int32 := a.2.2.2.2.2
def dgt (a : AS) (c : Int32) : AS := ⟨5, a.M, a.E, a.D + 1, a.T, upd a.O a.M.toNatClampNeg (a.O a.M.toNatClampNeg * 10 + a.E * (c - 48))⟩
def stp (a : AS) (c : Int32) : Option AS :=
  if a.S = 0 then (if 97 ≤ c.toInt ∧ c.toInt ≤ 102 then some ⟨1, c - 97, a.E, a.D, a.T, a.O⟩ else none)
  else if a.S = 1 then (if c = 61 then some ⟨2, a.M, a.E, a.D, a.T, a.O⟩ else none)
  else if a.S = 2 then (if c = 108 ∨ c = 99 ∨ c = 122 then some ⟨4, a.M, a.E, a.D, upd a.T a.M.toNatClampNeg c, upd a.O a.M.toNatClampNeg 0⟩ else none)
  else if a.S = 3 then (if (48 ≤ c.toInt ∧ c.toInt ≤ 57) ∧ a.D.toInt < 3 then some (dgt a c) else none)
  else if a.S = 4 then (if c = 43 then some ⟨3, a.M, 1, 0, a.T, a.O⟩ else if c = 45 then some ⟨3, a.M, -1, 0, a.T, a.O⟩ else if c = 59 then some ⟨0, a.M, a.E, a.D, a.T, a.O⟩ else none)
  else (if (48 ≤ c.toInt ∧ c.toInt ≤ 57) ∧ a.D.toInt < 3 then some (dgt a c) else if c = 59 then some ⟨0, a.M, a.E, a.D, a.T, a.O⟩ else none)
section ST
variable {M E D c : Int32} {T O : Nat → Int32}
theorem stp_0 : stp ⟨0, M, E, D, T, O⟩ c = (if 97 ≤ c.toInt ∧ c.toInt ≤ 102 then some ⟨1, c - 97, E, D, T, O⟩ else none) := rfl
theorem stp_1 : stp ⟨1, M, E, D, T, O⟩ c = (if c = 61 then some ⟨2, M, E, D, T, O⟩ else none) := rfl
theorem stp_2 : stp ⟨2, M, E, D, T, O⟩ c = (if c = 108 ∨ c = 99 ∨ c = 122 then some ⟨4, M, E, D, upd T M.toNatClampNeg c, upd O M.toNatClampNeg 0⟩ else none) := rfl
theorem stp_3 : stp ⟨3, M, E, D, T, O⟩ c = (if (48 ≤ c.toInt ∧ c.toInt ≤ 57) ∧ D.toInt < 3 then some (dgt ⟨3, M, E, D, T, O⟩ c) else none) := rfl
theorem stp_4 : stp ⟨4, M, E, D, T, O⟩ c = (if c = 43 then some ⟨3, M, 1, 0, T, O⟩ else if c = 45 then some ⟨3, M, -1, 0, T, O⟩ else if c = 59 then some ⟨0, M, E, D, T, O⟩ else none) := rfl
theorem stp_5 : stp ⟨5, M, E, D, T, O⟩ c = (if (48 ≤ c.toInt ∧ c.toInt ≤ 57) ∧ D.toInt < 3 then some (dgt ⟨5, M, E, D, T, O⟩ c) else if c = 59 then some ⟨0, M, E, D, T, O⟩ else none) := rfl
end ST
def okT (x : Int32) : Prop := x = 108 ∨ x = 99 ∨ x = 122
/-- what a reader's numbers keep -/
def WFA (a : AS) : Prop :=
  (∀ m : Nat, m < 6 → okT (a.T m) ∧ -999 ≤ (a.O m).toInt ∧ (a.O m).toInt ≤ 999) ∧
  (a.S = 0 ∨ ((a.S = 1 ∨ a.S = 2) ∧ 0 ≤ a.M.toInt ∧ a.M.toInt < 6) ∨ (a.S = 4 ∧ (0 ≤ a.M.toInt ∧ a.M.toInt < 6) ∧ a.O a.M.toNatClampNeg = 0) ∨
    (a.S = 3 ∧ (0 ≤ a.M.toInt ∧ a.M.toInt < 6) ∧ a.O a.M.toNatClampNeg = 0 ∧ a.D = 0 ∧ (a.E = 1 ∨ a.E = -1)) ∨
    (a.S = 5 ∧ (0 ≤ a.M.toInt ∧ a.M.toInt < 6) ∧ (a.E = 1 ∨ a.E = -1) ∧ ((a.D.toInt = 1 ∧ -9 ≤ (a.O a.M.toNatClampNeg).toInt ∧ (a.O a.M.toNatClampNeg).toInt ≤ 9) ∨ (a.D.toInt = 2 ∧ -99 ≤ (a.O a.M.toNatClampNeg).toInt ∧ (a.O a.M.toNatClampNeg).toInt ≤ 99) ∨ a.D.toInt = 3)))
theorem dgt_v {x e c : Int32} (hx : -99 ≤ x.toInt ∧ x.toInt ≤ 99) (he : e = 1 ∨ e = -1) (hc : 48 ≤ c.toInt ∧ c.toInt ≤ 57) : ((x * 10 + e * (c - 48)).toInt = x.toInt * 10 + (c.toInt - 48) ∨ (x * 10 + e * (c - 48)).toInt = x.toInt * 10 - (c.toInt - 48)) := by
  have h1 : (x * 10).toInt = x.toInt * 10 := by rw [ti_mul] <;> rw [c_10] <;> omega
  have h2 : (c - 48).toInt = c.toInt - 48 := by rw [ti_sub] <;> rw [c_48] <;> omega
  rcases he with rfl | rfl
  · have h3 : (1 * (c - 48)).toInt = c.toInt - 48 := by rw [ti_mul] <;> rw [c_1, h2] <;> omega
    left
    rw [ti_add (by omega) (by omega), h1, h3]
  · have h3 : ((-1) * (c - 48)).toInt = - (c.toInt - 48) := by rw [ti_mul] <;> rw [c_m1, h2] <;> omega
    right
    rw [ti_add (by omega) (by omega), h1, h3]
    omega
theorem upd_all {P : Int32 → Prop} {f : Nat → Int32} {k : Nat} {x : Int32} {n : Nat} (h : ∀ m : Nat, m < n → P (f m)) (hx : P x) : ∀ m : Nat, m < n → P (upd f k x m) := by
  intro m hm
  by_cases e : m = k
  · subst e
    rw [ti_up]
    exact hx
  · rw [ti_un e]
    exact h m hm
theorem dgt_wf {a : AS} {c : Int32} (h : ∀ m : Nat, m < 6 → okT (a.T m) ∧ -999 ≤ (a.O m).toInt ∧ (a.O m).toInt ≤ 999) (hM : 0 ≤ a.M.toInt ∧ a.M.toInt < 6) (hE : a.E = 1 ∨ a.E = -1) (hD : (a.D.toInt = 0 ∧ (a.O a.M.toNatClampNeg).toInt = 0) ∨ (a.D.toInt = 1 ∧ -9 ≤ (a.O a.M.toNatClampNeg).toInt ∧ (a.O a.M.toNatClampNeg).toInt ≤ 9) ∨ (a.D.toInt = 2 ∧ -99 ≤ (a.O a.M.toNatClampNeg).toInt ∧ (a.O a.M.toNatClampNeg).toInt ≤ 99)) (hc : 48 ≤ c.toInt ∧ c.toInt ≤ 57) : WFA (dgt a c) := by
  have v := dgt_v (x := a.O a.M.toNatClampNeg) (e := a.E) (c := c) (by omega) hE hc
  have hs := ti_a1 (x := a.D) (by omega)
  refine ⟨fun m hm => ⟨(h m hm).1, upd_all (P := fun y => -999 ≤ y.toInt ∧ y.toInt ≤ 999) (fun k hk => (h k hk).2) (by omega) m hm⟩, Or.inr (Or.inr (Or.inr (Or.inr ⟨rfl, hM, hE, ?_⟩)))⟩
  show ((a.D + 1).toInt = 1 ∧ -9 ≤ (upd a.O a.M.toNatClampNeg _ a.M.toNatClampNeg).toInt ∧ (upd a.O a.M.toNatClampNeg _ a.M.toNatClampNeg).toInt ≤ 9) ∨ ((a.D + 1).toInt = 2 ∧ -99 ≤ (upd a.O a.M.toNatClampNeg _ a.M.toNatClampNeg).toInt ∧ (upd a.O a.M.toNatClampNeg _ a.M.toNatClampNeg).toInt ≤ 99) ∨ (a.D + 1).toInt = 3
  rw [ti_up]
  omega
theorem stp_wf {a b : AS} {c : Int32} (hw : WFA a) (h : stp a c = some b) : WFA b := by
  obtain ⟨S, M, E, D, T, O⟩ := a
  obtain ⟨h0, hS⟩ := hw
  simp only [AS.S, AS.M, AS.E, AS.D, AS.T, AS.O] at h0 hS
  rcases hS with rfl | ⟨rfl | rfl, hM⟩ | ⟨rfl, hM, hO⟩ | ⟨rfl, hM, hO, hD, hE⟩ | ⟨rfl, hM, hE, hD⟩
  · rw [stp_0] at h
    split at h
    · rename_i g
      cases h
      have : (c - 97).toInt = c.toInt - 97 := by rw [ti_sub] <;> rw [c_97] <;> omega
      exact ⟨h0, Or.inr (Or.inl ⟨Or.inl rfl, by show 0 ≤ (c - 97).toInt ∧ (c - 97).toInt < 6; omega⟩)⟩
    · cases h
  · rw [stp_1] at h
    split at h
    · cases h
      exact ⟨h0, Or.inr (Or.inl ⟨Or.inr rfl, hM⟩)⟩
    · cases h
  · rw [stp_2] at h
    split at h
    · rename_i g
      cases h
      refine ⟨fun m hm => ⟨upd_all (P := okT) (fun k hk => (h0 k hk).1) g m hm, upd_all (P := fun y => -999 ≤ y.toInt ∧ y.toInt ≤ 999) (fun k hk => (h0 k hk).2) (by rw [c_0]; omega) m hm⟩, Or.inr (Or.inr (Or.inl ⟨rfl, hM, ?_⟩))⟩
      exact ti_up
    · cases h
  · rw [stp_4] at h
    split at h
    · cases h
      exact ⟨h0, Or.inr (Or.inr (Or.inr (Or.inl ⟨rfl, hM, hO, rfl, Or.inl rfl⟩)))⟩
    · split at h
      · cases h
        exact ⟨h0, Or.inr (Or.inr (Or.inr (Or.inl ⟨rfl, hM, hO, rfl, Or.inr rfl⟩)))⟩
      · split at h
        · cases h
          exact ⟨h0, Or.inl rfl⟩
        · cases h
  · rw [stp_3] at h
    split at h
    · rename_i g
      cases h
      exact dgt_wf h0 hM hE (Or.inl ⟨by show D.toInt = 0; rw [hD, c_0], by show (O M.toNatClampNeg).toInt = 0; rw [hO, c_0]⟩) g.1
    · cases h
  · rw [stp_5] at h
    split at h
    · rename_i g
      cases h
      exact dgt_wf h0 hM hE (Or.inr (by rcases hD with k | k | k; exact Or.inl k; exact Or.inr k; omega)) g.1
    · split at h
      · cases h
        exact ⟨h0, Or.inl rfl⟩
      · cases h
def rnA (s : Nat → Int32) (a0 : AS) : Nat → Option AS
  | 0 => some a0
  | p + 1 => (rnA s a0 p).bind (fun a => stp a (s p))
theorem rnA_s {s : Nat → Int32} {a0 a b : AS} {p : Nat} (h : rnA s a0 p = some a) (g : stp a (s p) = some b) : rnA s a0 (p + 1) = some b := by
  show (rnA s a0 p).bind (fun a => stp a (s p)) = some b
  rw [h]
  exact g
theorem rnA_n {s : Nat → Int32} {a0 a : AS} {p : Nat} (h : rnA s a0 p = some a) (g : stp a (s p) = none) : ∀ q, p < q → rnA s a0 q = none := by
  intro q
  induction q with
  | zero => intro h; omega
  | succ q ih =>
    intro hq
    show (rnA s a0 q).bind (fun a => stp a (s q)) = none
    by_cases e : p = q
    · subst e
      rw [h]
      exact g
    · rw [ih (by omega)]
      rfl
theorem rnA_w {s : Nat → Int32} {a0 : AS} (h0 : WFA a0) : ∀ (p : Nat) (a : AS), rnA s a0 p = some a → WFA a := by
  intro p
  induction p with
  | zero => intro a h; cases h; exact h0
  | succ p ih =>
    intro a h
    cases e : rnA s a0 p with
    | none =>
      have : (rnA s a0 p).bind (fun a => stp a (s p)) = some a := h
      rw [e] at this
      cases this
    | some b =>
      have : (rnA s a0 p).bind (fun a => stp a (s p)) = some a := h
      rw [e] at this
      exact stp_wf (ih b e) this
/-- the text fails at a place -/
def FLA (s : Nat → Int32) (a0 : AS) (n : Int) (p : Int32) : Prop := (0 ≤ p.toInt ∧ p.toInt < n) ∧ ∃ a, rnA s a0 p.toInt.toNat = some a ∧ stp a (s p.toInt.toNat) = none
theorem FLA.uniq {s : Nat → Int32} {a0 : AS} {n : Int} {p p' : Int32} (h : FLA s a0 n p) (h' : FLA s a0 n p') : p = p' := by
  obtain ⟨h1, a, h2, h3⟩ := h
  obtain ⟨g1, b, g2, g3⟩ := h'
  refine ti_eq.mpr ?_
  by_cases e : p.toInt < p'.toInt
  · have := rnA_n h2 h3 p'.toInt.toNat (by omega)
    rw [this] at g2
    cases g2
  · by_cases e2 : p'.toInt < p.toInt
    · have := rnA_n g2 g3 p.toInt.toNat (by omega)
      rw [this] at h2
      cases h2
    · omega
theorem FLA.no {s : Nat → Int32} {a0 a : AS} {n : Int} {p : Int32} (h : FLA s a0 n p) (g : rnA s a0 n.toNat = some a) : False := by
  obtain ⟨h1, b, h2, h3⟩ := h
  have := rnA_n h2 h3 n.toNat (by omega)
  rw [this] at g
  cases g
theorem k_takeDigit {a : AS} {c : Int32} {Q : Int32 → Int32 → Int32 → (Nat → Int32) → Prop} (hM : 0 ≤ a.M.toInt ∧ a.M.toInt < 6) (q0 : ¬ ((48 ≤ c.toInt ∧ c.toInt ≤ 57) ∧ a.D.toInt < 3) → Q 0 a.S a.D a.O) (q1 : (48 ≤ c.toInt ∧ c.toInt ≤ 57) ∧ a.D.toInt < 3 → Q 1 5 (dgt a c).D (dgt a c).O) : p_Rd_takeDigit a.M a.E a.S a.D a.O c Q := by
  unfold p_Rd_takeDigit
  rw [k_isMatter, bi_t hM, ti_lt, ti_lt, ti_le, c_48, c_57, c_3]
  refine ⟨fun g => q0 (by omega), fun g => ⟨fun g2 => q0 (by omega), fun g2 => ⟨fun g3 => q0 (by omega), fun g3 => tn_t i10 ⟨ti_in hM.1 (by omega), ti_in hM.1 (by omega), ?_⟩⟩⟩⟩
  rw [forall_eq]
  exact q1 (by omega)
theorem k_takeSign {a : AS} {c : Int32} {Q : Int32 → Int32 → Int32 → Int32 → Int32 → (Nat → Int32) → (Nat → Int32) → Prop} (hw : WFA a) (q0 : stp a c = none → ∀ S M E D T O, Q 0 S M E D T O) (q1 : ∀ b, stp a c = some b → Q 1 b.S b.M b.E b.D b.T b.O) : p_Rd_takeSign a.S a.M a.E a.D a.T a.O c Q := by
  obtain ⟨S, M, E, D, T, O⟩ := a
  obtain ⟨h0, hS⟩ := hw
  simp only [AS.S, AS.M, AS.E, AS.D, AS.T, AS.O] at h0 hS
  show p_Rd_takeSign S M E D T O c Q
  unfold p_Rd_takeSign
  rcases hS with rfl | ⟨rfl | rfl, hM⟩ | ⟨rfl, hM, hO⟩ | ⟨rfl, hM, hO, hD, hE⟩ | ⟨rfl, hM, hE, hD⟩
  · rw [stp_0] at q0 q1
    refine tn_f rfl ?_
    unfold p_Rd_takeMatter
    rw [ti_lt, ti_le, c_97, c_102, forall_eq]
    refine ⟨fun g => ⟨Or.inl rfl, q0 (if_neg (by omega)) _ _ _ _ _ _⟩, fun g => ⟨fun g2 => ⟨Or.inr rfl, q1 _ (if_pos (by omega))⟩, fun g2 => ⟨Or.inl rfl, q0 (if_neg (by omega)) _ _ _ _ _ _⟩⟩⟩
  · rw [stp_1] at q0 q1
    refine tn_t (by decide) (tn_f rfl ?_)
    unfold p_Rd_takeMark
    exact ⟨fun g => ⟨Or.inr rfl, q1 _ (if_pos g)⟩, fun g => ⟨Or.inl rfl, q0 (if_neg g) _ _ _ _ _ _⟩⟩
  · rw [stp_2] at q0 q1
    refine tn_t (by decide) (tn_t (by decide) (tn_f rfl ?_))
    unfold p_Rd_takeTime p_Rd_takeTime_J18
    rw [k_isMatter, bi_t hM]
    have i1 : vp_in M 6 := ti_in hM.1 (by omega)
    refine ⟨fun g => tn_t i10 ⟨i1, i1, Or.inr rfl, q1 _ (if_pos (Or.inl g))⟩, fun g => ⟨fun g2 => tn_t i10 ⟨i1, i1, Or.inr rfl, q1 _ (if_pos (Or.inr (Or.inl g2)))⟩, fun g2 => ⟨fun g3 => tn_t i10 ⟨i1, i1, Or.inr rfl, q1 _ (if_pos (Or.inr (Or.inr g3)))⟩, fun g3 => ⟨Or.inl rfl, q0 (if_neg ?_) _ _ _ _ _ _⟩⟩⟩⟩
    rintro (k | k | k)
    · exact g k
    · exact g2 k
    · exact g3 k
  · rw [stp_4] at q0 q1
    refine tn_t (by decide) (tn_t (by decide) (tn_t (by decide) (tn_t (by decide) (tn_f rfl ?_))))
    unfold p_Rd_takeSense p_Rd_takeSense_J14 p_Rd_takeSense_J26 p_Rd_takeMark
    refine ⟨fun g => ⟨fun _ => tn_t i10 (q1 _ (if_pos g)), fun k => absurd g k⟩, fun g => ⟨fun g2 => ⟨fun k => absurd k g, fun _ => tn_t i10 (q1 _ (by rw [if_neg g, if_pos g2]))⟩, fun g2 => tn_f rfl ⟨fun g3 => tn_t i10 (q1 _ (by rw [if_neg g, if_neg g2, if_pos g3])), fun g3 => tn_f rfl (q0 (by rw [if_neg g, if_neg g2, if_neg g3]) _ _ _ _ _ _)⟩⟩⟩
  · rw [stp_3] at q0 q1
    refine tn_t (by decide) (tn_t (by decide) (tn_t (by decide) (tn_f rfl ?_)))
    exact k_takeDigit (a := ⟨3, M, E, D, T, O⟩) hM (fun g => ⟨Or.inl rfl, q0 (if_neg g) _ _ _ _ _ _⟩) (fun g => ⟨Or.inr rfl, q1 _ (if_pos g)⟩)
  · rw [stp_5] at q0 q1
    refine tn_t (by decide) (tn_t (by decide) (tn_t (by decide) (tn_t (by decide) (tn_t (by decide) ?_))))
    unfold p_Rd_takeMark
    exact k_takeDigit (a := ⟨5, M, E, D, T, O⟩) hM (fun g => tn_f rfl ⟨fun g3 => tn_t i10 (q1 _ (by rw [if_neg g, if_pos g3])), fun g3 => tn_f rfl (q0 (by rw [if_neg g, if_neg g3]) _ _ _ _ _ _)⟩) (fun g => tn_t i10 (q1 _ (if_pos g)))
theorem k_take {tpN rdS rdM rdE rdD : Int32} {sgn rdT rdO : Nat → Int32} {Q : Int32 → Int32 → Int32 → Int32 → Int32 → (Nat → Int32) → (Nat → Int32) → Prop} (hT : 0 ≤ tpN.toInt ∧ tpN.toInt ≤ 100)
    (q : ∀ a0 : AS, WFA a0 → a0.S = 0 → (∀ m : Nat, m < 6 → a0.T m = 99 ∧ a0.O m = 0) → (∀ (p S M E D : Int32) (T O : Nat → Int32), FLA sgn a0 (min tpN.toInt 40) p → Q p S M E D T O) ∧ (∀ (a : AS) (r : Int32), rnA sgn a0 (min tpN.toInt 40).toNat = some a → ((40 < tpN.toInt ∨ a.S.toInt < 4) → r.toInt = min tpN.toInt 40) → (¬ (40 < tpN.toInt ∨ a.S.toInt < 4) → r = -1) → Q r a.S a.M a.E a.D a.T a.O)) : p_Rd_take tpN sgn rdS rdM rdE rdD rdT rdO Q := by
  unfold p_Rd_take
  refine Lp3.of (fun v T O => (0 ≤ v.toInt ∧ v.toInt ≤ 6) ∧ ∀ m : Nat, (m : Int) < v.toInt → T m = 99 ∧ O m = 0) (fun v _ _ => (6 - v.toInt).toNat) ?_ _ _ _ ⟨by rw [c_0]; omega, fun m hm => by rw [c_0] at hm; omega⟩
  intro rec v T O ⟨a1, a2⟩ hrec
  unfold p_Rd_take_L7
  rw [ti_le, c_6, forall_eq, forall_eq]
  refine ⟨fun g => ?_, fun g => ?_⟩
  · have a0w : WFA ⟨0, rdM, rdE, rdD, T, O⟩ := ⟨fun m hm => by
      have k := a2 m (by omega)
      refine ⟨Or.inr (Or.inl k.1), ?_⟩
      show -999 ≤ (O m).toInt ∧ (O m).toInt ≤ 999
      rw [k.2, c_0]
      omega, Or.inl rfl⟩
    obtain ⟨qF, qN⟩ := q ⟨0, rdM, rdE, rdD, T, O⟩ a0w rfl (fun m hm => a2 m (by omega))
    have hj := ti_jmin (x := tpN) (y := 40)
    rw [c_40] at hj
    generalize jmin tpN 40 = n at hj ⊢
    refine Lp7.of (fun v S M E D T' O' => (0 ≤ v.toInt ∧ v.toInt ≤ n.toInt) ∧ rnA sgn ⟨0, rdM, rdE, rdD, T, O⟩ v.toInt.toNat = some ⟨S, M, E, D, T', O'⟩) (fun v _ _ _ _ _ _ => (n.toInt - v.toInt).toNat) ?_ _ _ _ _ _ _ _ ⟨by rw [c_0]; omega, by rw [c_0]; rfl⟩
    intro rec2 w S M E D T' O' ⟨b1, b2⟩ hrec2
    unfold p_Rd_take_L46
    rw [ti_le, ti_lt, ti_le, c_40, c_4]
    refine ⟨fun c => ?_, fun c => ?_⟩
    · have e : w.toInt.toNat = (min tpN.toInt 40).toNat := by omega
      rw [e] at b2
      refine ⟨fun k => qN _ _ b2 (fun _ => hj) (fun h => absurd (Or.inl k) h), fun k => ⟨fun k2 => qN _ _ b2 (fun h => by rcases h with h | h; omega; exact absurd h (by show ¬ S.toInt < 4; omega)) (fun _ => rfl), fun k2 => qN _ _ b2 (fun _ => hj) (fun h => absurd (Or.inr (by show S.toInt < 4; omega)) h)⟩⟩
    · unfold p_Tp_signAt
      rw [ti_lt, ti_le, c_0]
      refine tn_t (by omega) (tn_t (by omega) ⟨ti_in b1.1 (by omega), ?_⟩)
      have hn := ti_a1 (x := w) (by omega)
      refine k_takeSign (a := ⟨S, M, E, D, T', O'⟩) (rnA_w a0w _ _ b2) (fun h S M E D T O => tn_f rfl (qF _ _ _ _ _ _ _ ⟨by omega, _, b2, by rw [← ti_c]; exact h⟩)) (fun b h => tn_t i10 ?_)
      rw [forall_eq]
      refine hrec2 _ _ _ _ _ _ _ ⟨by omega, ?_⟩ (by omega)
      rw [ti_c] at h
      rw [show (w + 1).toInt.toNat = w.toInt.toNat + 1 by omega]
      exact rnA_s b2 h
  · have hn := ti_a1 (x := v) (by omega)
    have hc := ti_c v
    refine ⟨ti_in a1.1 (by omega), ti_in a1.1 (by omega), hrec _ _ _ ⟨by omega, fun m hm => ?_⟩ (by omega)⟩
    by_cases e : m = v.toNatClampNeg
    · subst e
      rw [ti_up, ti_up]
      exact ⟨rfl, rfl⟩
    · rw [ti_un e, ti_un e]
      exact a2 m (by omega)
