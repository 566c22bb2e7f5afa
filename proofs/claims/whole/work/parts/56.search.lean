set_option maxHeartbeats 600000
/-! bits of a number -/
def tb (x : Int32) (k : Nat) : Prop := x.toBitVec.getLsbD k = true
theorem tb_one {v : Int32} (h : 0 ≤ v.toInt ∧ v.toInt ≤ 12) : ((1 : Int32) <<< (v &&& 31)).toBitVec = BitVec.twoPow 32 v.toInt.toNat := by
  have e : v = 0 ∨ v = 1 ∨ v = 2 ∨ v = 3 ∨ v = 4 ∨ v = 5 ∨ v = 6 ∨ v = 7 ∨ v = 8 ∨ v = 9 ∨ v = 10 ∨ v = 11 ∨ v = 12 := by
    simp only [ti_eq, c_0, c_1, c_2, c_3, c_4, c_5, c_6, c_7, c_8, c_10, c_12, show (9 : Int32).toInt = 9 by decide, show (11 : Int32).toInt = 11 by decide]
    omega
  rcases e with e | e | e | e | e | e | e | e | e | e | e | e | e <;> subst e <;> decide
theorem tb_and1 {x v : Int32} (h : 0 ≤ v.toInt ∧ v.toInt ≤ 12) : x &&& ((1 : Int32) <<< (v &&& 31)) = 0 ↔ ¬ tb x v.toInt.toNat := by
  rw [← Int32.toBitVec_inj, Int32.toBitVec_and, tb_one h, BitVec.and_twoPow]
  unfold tb
  by_cases c : x.toBitVec.getLsbD v.toInt.toNat = true
  · rw [if_pos c]
    refine ⟨fun k => ?_, fun k => absurd c k⟩
    have h32 : v.toInt.toNat < 32 := by omega
    generalize v.toInt.toNat = m at k h32
    have k2 := congrArg (fun z : BitVec 32 => z.getLsbD m) k
    simp only [BitVec.getLsbD_twoPow] at k2
    rw [show (0 : Int32).toBitVec = 0#32 from rfl, BitVec.getLsbD_zero] at k2
    simp [h32] at k2
  · rw [if_neg c]
    exact ⟨fun _ => c, fun _ => rfl⟩
theorem tb_or1 {x v : Int32} {j : Nat} (h : 0 ≤ v.toInt ∧ v.toInt ≤ 12) : tb (x ||| ((1 : Int32) <<< (v &&& 31))) j ↔ (tb x j ∨ j = v.toInt.toNat) := by
  unfold tb
  rw [Int32.toBitVec_or, tb_one h, BitVec.getLsbD_or, BitVec.getLsbD_twoPow, Bool.or_eq_true, Bool.and_eq_true, decide_eq_true_iff, decide_eq_true_iff]
  constructor
  · rintro (k | k)
    · exact Or.inl k
    · exact Or.inr k.2.symm
  · rintro (k | k)
    · exact Or.inl k
    · exact Or.inr ⟨by omega, k.symm⟩
theorem tb_and {x y : Int32} {k : Nat} : tb (x &&& y) k ↔ tb x k ∧ tb y k := by
  unfold tb
  rw [Int32.toBitVec_and, BitVec.getLsbD_and, Bool.and_eq_true]
theorem tb_shr {x v : Int32} {k : Nat} (h : 0 ≤ v.toInt ∧ v.toInt ≤ 6) (hk : k < 10) : tb (x >>> (v &&& 31)) k ↔ tb x (k + v.toInt.toNat) := by
  have key : (x >>> (v &&& 31)).toBitVec = x.toBitVec.sshiftRight v.toInt.toNat := by
    have e : v = 0 ∨ v = 1 ∨ v = 2 ∨ v = 3 ∨ v = 4 ∨ v = 5 ∨ v = 6 := by
      simp only [ti_eq, c_0, c_1, c_2, c_3, c_4, c_5, c_6]
      omega
    rcases e with e | e | e | e | e | e | e <;> subst e <;> rfl
  unfold tb
  rw [key, BitVec.getLsbD_sshiftRight]
  have h1 : ¬ 32 ≤ k := by omega
  have h2 : v.toInt.toNat + k < 32 := by omega
  rw [if_pos h2, Nat.add_comm]
  generalize k + v.toInt.toNat = m
  simp [h1]
theorem and_b {x y : Int32} (h : 0 ≤ x.toInt ∧ x.toInt ≤ 127) : 0 ≤ (x &&& y).toInt ∧ (x &&& y).toInt ≤ 127 := by
  have hx : x.toBitVec.toNat ≤ 127 := by
    have e : x.toInt = x.toBitVec.toInt := rfl
    have hm : x.toBitVec.msb = false := by
      by_cases c : x.toBitVec.msb = true
      · rw [BitVec.msb_eq_toInt] at c
        have := of_decide_eq_true c
        omega
      · exact Bool.eq_false_iff.mpr c
    have := BitVec.toInt_eq_toNat_of_msb hm
    omega
  have e : (x &&& y).toInt = (x.toBitVec &&& y.toBitVec).toInt := rfl
  have h : (x.toBitVec &&& y.toBitVec).toNat ≤ 127 := by
    rw [BitVec.toNat_and]
    exact Nat.le_trans Nat.and_le_left hx
  rw [e, BitVec.toInt_eq_toNat_of_lt (by omega)]
  omega
theorem tb_0 {k : Nat} : ¬ tb 0 k := by
  unfold tb
  rw [show (0 : Int32).toBitVec = 0#32 from rfl, BitVec.getLsbD_zero]
  exact Bool.false_ne_true
theorem tb_127 : ∀ k : Fin 7, tb 127 k.val := by unfold tb; decide
/-! the least bit -/
def bcI (v0 : Int32) : Int32 :=
  let x9 := v0 - ((((v0).toUInt32 >>> ((1 : Int32).toUInt32 &&& Int32.toUInt32 31)).toInt32) &&& 1431655765)
  let x23 := (x9 &&& 858993459) + ((((x9).toUInt32 >>> ((2 : Int32).toUInt32 &&& Int32.toUInt32 31)).toInt32) &&& 858993459)
  let x33 := (x23 + (((x23).toUInt32 >>> ((4 : Int32).toUInt32 &&& Int32.toUInt32 31)).toInt32)) &&& 252645135
  let x40 := x33 + (((x33).toUInt32 >>> ((8 : Int32).toUInt32 &&& Int32.toUInt32 31)).toInt32)
  let x47 := x40 + (((x40).toUInt32 >>> ((16 : Int32).toUInt32 &&& Int32.toUInt32 31)).toInt32)
  x47 &&& 63
def lsOk (v : Int32) : Bool := decide (0 ≤ (bcI ((v &&& (-v)) - 1)).toInt ∧ (bcI ((v &&& (-v)) - 1)).toInt ≤ 6) && v.toBitVec.getLsbD (bcI ((v &&& (-v)) - 1)).toInt.toNat && (List.range (bcI ((v &&& (-v)) - 1)).toInt.toNat).all (fun k => ! v.toBitVec.getLsbD k)
theorem ls_all : ∀ b : Fin 127, lsOk (Int32.ofNat (b.val + 1)) = true := by decide +kernel
theorem ls_ok {v : Int32} (h : 1 ≤ v.toInt ∧ v.toInt ≤ 127) : (0 ≤ (bcI ((v &&& (-v)) - 1)).toInt ∧ (bcI ((v &&& (-v)) - 1)).toInt ≤ 6) ∧ tb v (bcI ((v &&& (-v)) - 1)).toInt.toNat ∧ ∀ k : Nat, (k : Int) < (bcI ((v &&& (-v)) - 1)).toInt → ¬ tb v k := by
  have a := ls_all ⟨v.toInt.toNat - 1, by omega⟩
  have e : Int32.ofNat (v.toInt.toNat - 1 + 1) = v := ti_eq.mpr (by rw [ti_nI (by omega)]; omega)
  simp only at a
  rw [e] at a
  unfold lsOk at a
  rw [Bool.and_eq_true, Bool.and_eq_true, decide_eq_true_iff, List.all_eq_true] at a
  refine ⟨a.1.1, a.1.2, fun k hk g => ?_⟩
  have b := a.2 k (List.mem_range.mpr (by omega))
  unfold tb at g
  rw [g] at b
  cases b
theorem k_leastStep {v : Int32} {Q : Int32 → Prop} (h : 1 ≤ v.toInt ∧ v.toInt ≤ 127) (q : ∀ r : Int32, (0 ≤ r.toInt ∧ r.toInt ≤ 6) → tb v r.toInt.toNat → (∀ k : Nat, (k : Int) < r.toInt → ¬ tb v k) → Q r) : p_Ds_leastStep v Q := by
  have o := ls_ok h
  unfold p_Ds_leastStep p_Ji_bitCount
  simp only [forall_eq]
  exact q _ o.1 o.2.1 o.2.2
/-! a search through all choices, and what it may leave out -/
def lpF {β : Type} (h : Nat → β → β) : Nat → β → β
  | 0, a => a
  | k + 1, a => h k (lpF h k a)
noncomputable def srG {σ β : Type} (K : Nat) (ok : σ → Nat → Prop) (nx : σ → Nat → σ) (lf : σ → β → β) : Nat → σ → β → β
  | 0, x, b => lf x b
  | r + 1, x, b => lpF (fun k acc => @ite _ (ok x k) (Classical.propDecidable _) (srG K ok nx lf r (nx x k) acc) acc) K b
def LfG {σ : Type} (K : Nat) (ok : σ → Nat → Prop) (nx : σ → Nat → σ) : Nat → σ → σ → Prop
  | 0, x, y => y = x
  | r + 1, x, y => ∃ k, k < K ∧ ok x k ∧ LfG K ok nx r (nx x k) y
section SR
variable {σ β : Type} {K : Nat} {ok : σ → Nat → Prop} {nx : σ → Nat → σ} {lf : σ → β → β}
theorem lpF_id {h : Nat → β → β} {b : β} : ∀ k : Nat, (∀ j : Nat, j < k → h j b = b) → lpF h k b = b := by
  intro k
  induction k with
  | zero => intro _; rfl
  | succ k ih =>
    intro g
    show h k (lpF h k b) = b
    rw [ih (fun j hj => g j (by omega)), g k (by omega)]
theorem srG_skip : ∀ (r : Nat) (x : σ) (b : β), (∀ y, LfG K ok nx r x y → lf y b = b) → srG K ok nx lf r x b = b := by
  intro r
  induction r with
  | zero => intro x b h; exact h x rfl
  | succ r ih =>
    intro x b h
    show lpF _ K b = b
    refine lpF_id K (fun j hj => ?_)
    show (@ite _ (ok x j) (Classical.propDecidable _) (srG K ok nx lf r (nx x j) b) b) = b
    split
    · rename_i c
      exact ih _ _ (fun y hy => h y ⟨j, hj, c, hy⟩)
    · rfl
theorem srG_yes {r : Nat} {x : σ} {b : β} {k : Nat} (c : ok x k) : lpF (fun k acc => @ite _ (ok x k) (Classical.propDecidable _) (srG K ok nx lf r (nx x k) acc) acc) (k + 1) b = srG K ok nx lf r (nx x k) (lpF (fun k acc => @ite _ (ok x k) (Classical.propDecidable _) (srG K ok nx lf r (nx x k) acc) acc) k b) := by
  show @ite _ (ok x k) (Classical.propDecidable _) (srG K ok nx lf r (nx x k) _) _ = _
  rw [if_pos c]
theorem srG_no {r : Nat} {x : σ} {b : β} {k : Nat} (c : ¬ ok x k) : lpF (fun k acc => @ite _ (ok x k) (Classical.propDecidable _) (srG K ok nx lf r (nx x k) acc) acc) (k + 1) b = lpF (fun k acc => @ite _ (ok x k) (Classical.propDecidable _) (srG K ok nx lf r (nx x k) acc) acc) k b := by
  show @ite _ (ok x k) (Classical.propDecidable _) (srG K ok nx lf r (nx x k) _) _ = _
  rw [if_neg c]
end SR
def udN (f : Nat → Nat) (k x : Nat) : Nat → Nat := fun i => if i = k then x else f i
theorem udN_e {f : Nat → Nat} {k x : Nat} : udN f k x k = x := if_pos rfl
theorem udN_n {f : Nat → Nat} {k x i : Nat} (h : ¬ i = k) : udN f k x i = f i := if_neg h
theorem va_us {α : Type} {f : Nat → α} {k : Nat} {x : α} : va_up f k x k = x := if_pos rfl
theorem va_ur {α : Type} {f : Nat → α} {k j : Nat} {x : α} (h : ¬ j = k) : va_up f k x j = f j := if_neg h
