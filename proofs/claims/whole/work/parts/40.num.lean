/-! numbers: Int32 by its integer -/
theorem ti_lt {x y : Int32} : x < y ↔ x.toInt < y.toInt := Int32.lt_iff_toInt_lt
theorem ti_le {x y : Int32} : x ≤ y ↔ x.toInt ≤ y.toInt := Int32.le_iff_toInt_le
theorem ti_eq {x y : Int32} : x = y ↔ x.toInt = y.toInt := Int32.toInt_inj.symm
theorem ti_r (x : Int32) : -2147483648 ≤ x.toInt ∧ x.toInt ≤ 2147483647 := by
  have h1 := Int32.toInt_lt x
  have h2 := Int32.le_toInt x
  omega
theorem ti_bm {z : Int} (h1 : -2147483648 ≤ z) (h2 : z ≤ 2147483647) : z.bmod (2 ^ 32) = z := by
  rw [Int.bmod_eq_of_le] <;> omega
theorem ti_add {x y : Int32} (h1 : -2147483648 ≤ x.toInt + y.toInt) (h2 : x.toInt + y.toInt ≤ 2147483647) : (x + y).toInt = x.toInt + y.toInt := by
  rw [Int32.toInt_add]
  exact ti_bm h1 h2
theorem ti_sub {x y : Int32} (h1 : -2147483648 ≤ x.toInt - y.toInt) (h2 : x.toInt - y.toInt ≤ 2147483647) : (x - y).toInt = x.toInt - y.toInt := by
  rw [Int32.toInt_sub]
  exact ti_bm h1 h2
theorem ti_mul {x y : Int32} (h1 : -2147483648 ≤ x.toInt * y.toInt) (h2 : x.toInt * y.toInt ≤ 2147483647) : (x * y).toInt = x.toInt * y.toInt := by
  rw [Int32.toInt_mul]
  exact ti_bm h1 h2
theorem ti_neg {x : Int32} (h : -2147483647 ≤ x.toInt) : (-x).toInt = -x.toInt := by
  have := ti_r x
  rw [Int32.toInt_neg]
  exact ti_bm (by omega) (by omega)
theorem ti_l {x y : Int64} : x ≤ y ↔ x.toInt ≤ y.toInt := Int64.le_iff_toInt_le
theorem ti_ll {x y : Int64} : x < y ↔ x.toInt < y.toInt := Int64.lt_iff_toInt_lt
theorem ti_w (x : Int32) : x.toInt64.toInt = x.toInt := Int32.toInt_toInt64 x
theorem ti_c (x : Int32) : x.toNatClampNeg = x.toInt.toNat := rfl
theorem ti_in {x : Int32} {n : Nat} (h0 : 0 ≤ x.toInt) (h1 : x.toInt < n) : vp_in x n := vp_in_iff.mpr ⟨h0, h1⟩
theorem ti_nI {n : Nat} (h : n ≤ 2147483647) : (nI n).toInt = n := nI_toInt (by omega)
theorem ti_up {f : Nat → Int32} {k : Nat} {x : Int32} : upd f k x k = x := pk_us
theorem ti_un {f : Nat → Int32} {k j : Nat} {x : Int32} (h : j ≠ k) : upd f k x j = f j := pk_un h
/-- a test of the reference's -/
theorem w_in {x : Int32} {lo hi : Int64} {Q : Int32 → Prop} (h1 : lo.toInt ≤ x.toInt ∧ x.toInt ≤ hi.toInt → Q 1) (h0 : ¬ (lo.toInt ≤ x.toInt ∧ x.toInt ≤ hi.toInt) → Q 0) : p_M_in x.toInt64 lo hi Q := by
  unfold p_M_in
  rw [lg_cmp_lt, lg_cmp_gt, ti_ll, ti_ll, ti_w]
  refine ⟨fun h => h0 (by omega), fun h => ⟨fun g => h0 (by omega), fun g => h1 (by omega)⟩⟩
theorem w_inL {x lo hi : Int64} {Q : Int32 → Prop} (h1 : lo.toInt ≤ x.toInt ∧ x.toInt ≤ hi.toInt → Q 1) (h0 : ¬ (lo.toInt ≤ x.toInt ∧ x.toInt ≤ hi.toInt) → Q 0) : p_M_in x lo hi Q := by
  unfold p_M_in
  rw [lg_cmp_lt, lg_cmp_gt, ti_ll, ti_ll]
  refine ⟨fun h => h0 (by omega), fun h => ⟨fun g => h0 (by omega), fun g => h1 (by omega)⟩⟩
theorem i10 : ¬ (1 : Int32) = 0 := by decide
theorem w_isTown {n v : Int32} {Q : Int32 → Prop} (hn : 0 ≤ n.toInt ∧ n.toInt ≤ 16) (h1 : 0 ≤ v.toInt ∧ v.toInt < n.toInt → Q 1) (h0 : ¬ (0 ≤ v.toInt ∧ v.toInt < n.toInt) → Q 0) : p_M_isTown n v Q := by
  unfold p_M_isTown
  have e : (n - 1 : Int32).toInt64.toInt = n.toInt - 1 := by
    rw [ti_w, ti_sub] <;> (show _ <;> simp <;> omega)
  refine w_in (fun h => ⟨Or.inr rfl, h1 ?_⟩) (fun h => ⟨Or.inl rfl, h0 ?_⟩)
  · rw [e] at h
    have : (0 : Int64).toInt = 0 := rfl
    omega
  · rw [e] at h
    have : (0 : Int64).toInt = 0 := rfl
    omega
theorem w_has {n v : Int32} {Q : Int32 → Prop} (h1 : 0 ≤ v.toInt ∧ v.toInt < n.toInt → Q 1) (h0 : ¬ (0 ≤ v.toInt ∧ v.toInt < n.toInt) → Q 0) : p_Tn_has n v Q := by
  unfold p_Tn_has
  rw [ti_lt, ti_le]
  have : (0 : Int32).toInt = 0 := rfl
  refine ⟨fun h => h0 (by omega), fun h => ⟨fun g => h0 (by omega), fun g => h1 (by omega)⟩⟩
