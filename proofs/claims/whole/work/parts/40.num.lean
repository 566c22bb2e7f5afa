/-! numbers: Int32 by its integer -/
theorem ti_lt {x y : Int32} : x < y ↔ x.toInt < y.toInt := Int32.lt_iff_toInt_lt
theorem ti_le {x y : Int32} : x ≤ y ↔ x.toInt ≤ y.toInt := Int32.le_iff_toInt_le
theorem ti_eq {x y : Int32} : x = y ↔ x.toInt = y.toInt := Int32.toInt_inj.symm
theorem ti_r (x : Int32) : -2147483648 ≤ x.toInt ∧ x.toInt ≤ 2147483647 := by
  have h1 := Int32.toInt_lt x
  have h2 := Int32.le_toInt x
  omega
theorem ti_bm {z : Int} (h1 : -2147483648 ≤ z) (h2 : z ≤ 2147483647) : z.bmod (2 ^ 32) = z := by
  rw [Int.bmod_eq_of_le] <;> omega
theorem ti_add {x y : Int32} (h1 : -2147483648 ≤ x.toInt + y.toInt) (h2 : x.toInt + y.toInt ≤ 2147483647) : (x + y).toInt = x.toInt + y.toInt := by
  rw [Int32.toInt_add]
  exact ti_bm h1 h2
theorem ti_sub {x y : Int32} (h1 : -2147483648 ≤ x.toInt - y.toInt) (h2 : x.toInt - y.toInt ≤ 2147483647) : (x - y).toInt = x.toInt - y.toInt := by
  rw [Int32.toInt_sub]
  exact ti_bm h1 h2
theorem ti_mul {x y : Int32} (h1 : -2147483648 ≤ x.toInt * y.toInt) (h2 : x.toInt * y.toInt ≤ 2147483647) : (x * y).toInt = x.toInt * y.toInt := by
  rw [Int32.toInt_mul]
  exact ti_bm h1 h2
theorem ti_l {x y : Int64} : x ≤ y ↔ x.toInt ≤ y.toInt := Int64.le_iff_toInt_le
theorem ti_ll {x y : Int64} : x < y ↔ x.toInt < y.toInt := Int64.lt_iff_toInt_lt
theorem ti_w (x : Int32) : x.toInt64.toInt = x.toInt := Int32.toInt_toInt64 x
theorem ti_c (x : Int32) : x.toNatClampNeg = x.toInt.toNat := rfl
theorem ti_in {x : Int32} {n : Nat} (h0 : 0 ≤ x.toInt) (h1 : x.toInt < n) : vp_in x n := vp_in_iff.mpr ⟨h0, h1⟩
theorem ti_nI {n : Nat} (h : n ≤ 2147483647) : (Int32.ofNat n).toInt = n := nI_toInt (n := n) (by omega)
theorem ti_up {f : Nat → Int32} {k : Nat} {x : Int32} : upd f k x k = x := pk_us
theorem ti_un {f : Nat → Int32} {k j : Nat} {x : Int32} (h : j ≠ k) : upd f k x j = f j := pk_un h
theorem c_0 : (0 : Int32).toInt = 0 := by decide
theorem c_1 : (1 : Int32).toInt = 1 := by decide
theorem c_2 : (2 : Int32).toInt = 2 := by decide
theorem c_3 : (3 : Int32).toInt = 3 := by decide
theorem c_4 : (4 : Int32).toInt = 4 := by decide
theorem c_5 : (5 : Int32).toInt = 5 := by decide
theorem c_6 : (6 : Int32).toInt = 6 := by decide
theorem c_7 : (7 : Int32).toInt = 7 := by decide
theorem c_8 : (8 : Int32).toInt = 8 := by decide
theorem c_10 : (10 : Int32).toInt = 10 := by decide
theorem c_12 : (12 : Int32).toInt = 12 := by decide
theorem c_16 : (16 : Int32).toInt = 16 := by decide
theorem c_20 : (20 : Int32).toInt = 20 := by decide
theorem c_24 : (24 : Int32).toInt = 24 := by decide
theorem c_26 : (26 : Int32).toInt = 26 := by decide
theorem c_30 : (30 : Int32).toInt = 30 := by decide
theorem c_31 : (31 : Int32).toInt = 31 := by decide
theorem c_39 : (39 : Int32).toInt = 39 := by decide
theorem c_40 : (40 : Int32).toInt = 40 := by decide
theorem c_41 : (41 : Int32).toInt = 41 := by decide
theorem c_43 : (43 : Int32).toInt = 43 := by decide
theorem c_45 : (45 : Int32).toInt = 45 := by decide
theorem c_48 : (48 : Int32).toInt = 48 := by decide
theorem c_57 : (57 : Int32).toInt = 57 := by decide
theorem c_59 : (59 : Int32).toInt = 59 := by decide
theorem c_60 : (60 : Int32).toInt = 60 := by decide
theorem c_61 : (61 : Int32).toInt = 61 := by decide
theorem c_64 : (64 : Int32).toInt = 64 := by decide
theorem c_96 : (96 : Int32).toInt = 96 := by decide
theorem c_97 : (97 : Int32).toInt = 97 := by decide
theorem c_99 : (99 : Int32).toInt = 99 := by decide
theorem c_100 : (100 : Int32).toInt = 100 := by decide
theorem c_102 : (102 : Int32).toInt = 102 := by decide
theorem c_108 : (108 : Int32).toInt = 108 := by decide
theorem c_122 : (122 : Int32).toInt = 122 := by decide
theorem c_127 : (127 : Int32).toInt = 127 := by decide
theorem c_255 : (255 : Int32).toInt = 255 := by decide
theorem c_399 : (399 : Int32).toInt = 399 := by decide
theorem c_400 : (400 : Int32).toInt = 400 := by decide
theorem c_448 : (448 : Int32).toInt = 448 := by decide
theorem c_576720 : (576720 : Int32).toInt = 576720 := by decide
theorem c_600 : (600 : Int32).toInt = 600 := by decide
theorem c_720 : (720 : Int32).toInt = 720 := by decide
theorem c_1439 : (1439 : Int32).toInt = 1439 := by decide
theorem c_1440 : (1440 : Int32).toInt = 1440 := by decide
theorem c_575999 : (575999 : Int32).toInt = 575999 := by decide
theorem c_576000 : (576000 : Int32).toInt = 576000 := by decide
theorem c_1073741824 : (1073741824 : Int32).toInt = 1073741824 := by decide
theorem c_2147483647 : (2147483647 : Int32).toInt = 2147483647 := by decide
theorem c_m1 : (-1 : Int32).toInt = -1 := by decide
theorem c_m6 : (-6 : Int32).toInt = -6 := by decide
theorem c_m8 : (-8 : Int32).toInt = -8 := by decide
theorem c_m12 : (-12 : Int32).toInt = -12 := by decide
theorem c_m41 : (-41 : Int32).toInt = -41 := by decide
theorem c_m100 : (-100 : Int32).toInt = -100 := by decide
theorem c_m600 : (-600 : Int32).toInt = -600 := by decide
theorem c_m720 : (-720 : Int32).toInt = -720 := by decide
theorem e_0 : (0 : Int64).toInt = 0 := by decide
theorem e_1 : (1 : Int64).toInt = 1 := by decide
theorem e_2 : (2 : Int64).toInt = 2 := by decide
theorem e_5 : (5 : Int64).toInt = 5 := by decide
theorem e_12 : (12 : Int64).toInt = 12 := by decide
theorem e_30 : (30 : Int64).toInt = 30 := by decide
theorem e_60 : (60 : Int64).toInt = 60 := by decide
theorem e_399 : (399 : Int64).toInt = 399 := by decide
theorem e_600 : (600 : Int64).toInt = 600 := by decide
theorem e_720 : (720 : Int64).toInt = 720 := by decide
theorem e_1439 : (1439 : Int64).toInt = 1439 := by decide
theorem e_1440 : (1440 : Int64).toInt = 1440 := by decide
theorem e_575999 : (575999 : Int64).toInt = 575999 := by decide
theorem e_m12 : (-12 : Int64).toInt = -12 := by decide
theorem e_m600 : (-600 : Int64).toInt = -600 := by decide
theorem e_m720 : (-720 : Int64).toInt = -720 := by decide
theorem o_60 : (Int32.ofNat 60).toInt = 60 := by decide
theorem o_20 : (Int32.ofNat 20).toInt = 20 := by decide
theorem ti_s1 {x : Int32} (h : -2147483647 ≤ x.toInt) : (x - 1).toInt = x.toInt - 1 := by
  have := ti_r x
  have := c_1
  rw [ti_sub] <;> omega
theorem ti_a1 {x : Int32} (h : x.toInt ≤ 2147483646) : (x + 1).toInt = x.toInt + 1 := by
  have := ti_r x
  have := c_1
  rw [ti_add] <;> omega
theorem ti_am {x : Int32} (h : -2147483647 ≤ x.toInt) : (x + (-1)).toInt = x.toInt - 1 := by
  have := ti_r x
  have := c_m1
  rw [ti_add] <;> omega
theorem ti_as {x : Int32} : x + 1 - 1 = x := by
  have := ti_r x
  have h1 := c_1
  rw [ti_eq, Int32.toInt_sub, Int32.toInt_add, h1, Int.bmod_sub_bmod]
  rw [show x.toInt + 1 - 1 = x.toInt by omega]
  exact ti_bm this.1 this.2
theorem i10 : ¬ (1 : Int32) = 0 := by decide
/-- a test's answer -/
def bi (c : Prop) [Decidable c] : Int32 := if c then 1 else 0
theorem bi_t {c : Prop} [Decidable c] (h : c) : bi c = 1 := if_pos h
theorem bi_f {c : Prop} [Decidable c] (h : ¬ c) : bi c = 0 := if_neg h
theorem bi0 {c : Prop} [Decidable c] : (bi c = 0) = ¬ c := propext ⟨fun h g => i10 (by rw [bi_t g] at h; exact h), fun h => bi_f h⟩
theorem bi01 {c : Prop} [Decidable c] : (bi c = 0 ∨ bi c = 1) = True := by
  by_cases h : c
  · rw [bi_t h]
    exact propext ⟨fun _ => trivial, fun _ => Or.inr rfl⟩
  · rw [bi_f h]
    exact propext ⟨fun _ => trivial, fun _ => Or.inl rfl⟩
theorem k_in {x lo hi : Int64} {Q : Int32 → Prop} : p_M_in x lo hi Q = Q (bi (lo.toInt ≤ x.toInt ∧ x.toInt ≤ hi.toInt)) := by
  unfold p_M_in
  rw [lg_cmp_lt, lg_cmp_gt, ti_ll, ti_ll]
  by_cases h : lo.toInt ≤ x.toInt ∧ x.toInt ≤ hi.toInt
  · rw [bi_t h]
    exact propext ⟨fun q => (q.2 (by omega)).2 (by omega), fun q => ⟨fun g => absurd h (by omega), fun _ => ⟨fun g => absurd h (by omega), fun _ => q⟩⟩⟩
  · rw [bi_f h]
    refine propext ⟨fun q => ?_, fun q => ⟨fun _ => q, fun g => ⟨fun _ => q, fun g2 => absurd (by omega) h⟩⟩⟩
    by_cases g : x.toInt < lo.toInt
    · exact q.1 g
    · exact (q.2 g).1 (by omega)
/-- two tests in a row: x below lo, x from hi on -/
theorem k_two {x lo hi : Int32} {Q : Int32 → Prop} : ((x < lo → Q 0) ∧ (¬ x < lo → (hi ≤ x → Q 0) ∧ (¬ hi ≤ x → Q 1))) = Q (bi (lo.toInt ≤ x.toInt ∧ x.toInt < hi.toInt)) := by
  rw [ti_lt, ti_le]
  by_cases h : lo.toInt ≤ x.toInt ∧ x.toInt < hi.toInt
  · rw [bi_t h]
    exact propext ⟨fun q => (q.2 (by omega)).2 (by omega), fun q => ⟨fun g => absurd h (by omega), fun _ => ⟨fun g => absurd h (by omega), fun _ => q⟩⟩⟩
  · rw [bi_f h]
    refine propext ⟨fun q => ?_, fun q => ⟨fun _ => q, fun g => ⟨fun _ => q, fun g2 => absurd (by omega) h⟩⟩⟩
    by_cases g : x.toInt < lo.toInt
    · exact q.1 g
    · exact (q.2 g).1 (by omega)
theorem k_has {n v : Int32} {Q : Int32 → Prop} : p_Tn_has n v Q = Q (bi (0 ≤ v.toInt ∧ v.toInt < n.toInt)) := k_two (lo := 0) (hi := n)
theorem k_isDay {v : Int32} {Q : Int32 → Prop} : p_O_isDay v Q = Q (bi (0 ≤ v.toInt ∧ v.toInt < 400)) := k_two (lo := 0) (hi := 400)
theorem k_isMinute {v : Int32} {Q : Int32 → Prop} : p_O_isMinute v Q = Q (bi (0 ≤ v.toInt ∧ v.toInt < 576000)) := k_two (lo := 0) (hi := 576000)
theorem k_isTimeOfDay {v : Int32} {Q : Int32 → Prop} : p_O_isTimeOfDay v Q = Q (bi (0 ≤ v.toInt ∧ v.toInt < 1440)) := k_two (lo := 0) (hi := 1440)
theorem k_isMatter {v : Int32} {Q : Int32 → Prop} : p_O_isMatter v Q = Q (bi (0 ≤ v.toInt ∧ v.toInt < 6)) := k_two (lo := 0) (hi := 6)
theorem k_hasStation {n v : Int32} {Q : Int32 → Prop} : p_Ln_hasStation n v Q = Q (bi (0 ≤ v.toInt ∧ v.toInt < n.toInt)) := k_two (lo := 0) (hi := n)
theorem k_hasTrain {n v : Int32} {Q : Int32 → Prop} : p_Ln_hasTrain n v Q = Q (bi (0 ≤ v.toInt ∧ v.toInt < n.toInt)) := k_two (lo := 0) (hi := n)
theorem k_TwHas {n v : Int32} {Q : Int32 → Prop} : p_Tw_has n v Q = Q (bi (0 ≤ v.toInt ∧ v.toInt < n.toInt)) := k_two (lo := 0) (hi := n)
theorem bi_c {a b : Prop} [Decidable a] [Decidable b] (h : a ↔ b) : bi a = bi b := by
  by_cases g : a
  · rw [bi_t g, bi_t (h.mp g)]
  · rw [bi_f g, bi_f (fun q => g (h.mpr q))]
theorem k_inw {v : Int32} {lo hi : Int64} {Q : Int32 → Prop} : p_M_in v.toInt64 lo hi Q = Q (bi (lo.toInt ≤ v.toInt ∧ v.toInt ≤ hi.toInt)) := by
  rw [k_in]
  simp only [ti_w]
theorem k_inn {n v : Int32} {Q : Int32 → Prop} (hn : 0 ≤ n.toInt) : p_M_in v.toInt64 0 ((n - 1 : Int32).toInt64) Q = Q (bi (0 ≤ v.toInt ∧ v.toInt < n.toInt)) := by
  rw [k_inw]
  have := ti_s1 (x := n) (by omega)
  have := ti_w (n - 1)
  have := e_0
  rw [bi_c (b := 0 ≤ v.toInt ∧ v.toInt < n.toInt) (by omega)]
theorem k_isTown {n v : Int32} {Q : Int32 → Prop} (hn : 0 ≤ n.toInt) : p_M_isTown n v Q = Q (bi (0 ≤ v.toInt ∧ v.toInt < n.toInt)) := by
  unfold p_M_isTown
  rw [k_inn hn, bi01]
  exact propext ⟨fun h => h.2, fun h => ⟨trivial, h⟩⟩
theorem k_isTrain {n v : Int32} {Q : Int32 → Prop} (hn : 0 ≤ n.toInt) : p_M_isTrain n v Q = Q (bi (0 ≤ v.toInt ∧ v.toInt < n.toInt)) := by
  unfold p_M_isTrain
  rw [k_inn hn, bi01]
  exact propext ⟨fun h => h.2, fun h => ⟨trivial, h⟩⟩
theorem k_mDay {v : Int32} {Q : Int32 → Prop} : p_M_isDay v Q = Q (bi (0 ≤ v.toInt ∧ v.toInt < 400)) := by
  unfold p_M_isDay
  have := e_0
  have := e_399
  rw [k_inw, bi01, bi_c (b := 0 ≤ v.toInt ∧ v.toInt < 400) (by omega)]
  exact propext ⟨fun h => h.2, fun h => ⟨trivial, h⟩⟩
theorem k_mMinute {v : Int32} {Q : Int32 → Prop} : p_M_isMinute v Q = Q (bi (0 ≤ v.toInt ∧ v.toInt < 576000)) := by
  unfold p_M_isMinute
  have := e_0
  have := e_575999
  rw [k_inw, bi01, bi_c (b := 0 ≤ v.toInt ∧ v.toInt < 576000) (by omega)]
  exact propext ⟨fun h => h.2, fun h => ⟨trivial, h⟩⟩
theorem k_mMatter {n v w : Int32} {Q : Int32 → Prop} (hn : 0 ≤ n.toInt) : p_M_isMatter n v w Q = Q (bi ((0 ≤ v.toInt ∧ v.toInt < n.toInt) ∧ (0 ≤ w.toInt ∧ w.toInt < 6))) := by
  unfold p_M_isMatter
  rw [k_isTown hn]
  simp only [k_inw, e_0, e_5, bi0]
  by_cases h1 : 0 ≤ v.toInt ∧ v.toInt < n.toInt
  · by_cases h2 : 0 ≤ w.toInt ∧ w.toInt < 6
    · rw [bi_t ⟨h1, h2⟩]
      exact propext ⟨fun q => (q.2 (fun g => g h1)).2 (by omega), fun q => ⟨fun g => absurd h1 g, fun _ => ⟨fun g => absurd (by omega) g, fun _ => q⟩⟩⟩
    · rw [bi_f (fun g => h2 g.2)]
      exact propext ⟨fun q => (q.2 (fun g => g h1)).1 (by omega), fun q => ⟨fun g => absurd h1 g, fun _ => ⟨fun _ => q, fun g => absurd (by omega) h2⟩⟩⟩
  · rw [bi_f (fun g => h1 g.1)]
    exact propext ⟨fun q => q.1 h1, fun q => ⟨fun _ => q, fun g => absurd h1 g⟩⟩
