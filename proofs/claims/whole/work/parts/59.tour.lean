set_option maxHeartbeats 1000000
/-! round: ways, errors, what no round can do better -/
def ab (x : Int) : Int := if 0 ≤ x then x else - x
theorem ab_p {x : Int} : 0 ≤ ab x := by unfold ab; split <;> omega
theorem ab_t {a b c : Int} : ab (a - c) ≤ ab (a - b) + ab (b - c) := by unfold ab; split <;> split <;> split <;> omega
theorem ab_s {a b : Int} : ab (a - b) = ab (b - a) := by unfold ab; split <;> split <;> omega
theorem ab_0 {a : Int} : ab (a - a) = 0 := by unfold ab; split <;> omega
theorem ab_b {a b : Int} (ha : -720 ≤ a ∧ a ≤ 720) (hb : -720 ≤ b ∧ b ≤ 720) : ab (a - b) ≤ 1440 := by unfold ab; split <;> omega
theorem ab_er {d x : Int} (hx : 0 ≤ x) : ab ((d * x).tdiv 1440) = (ab d * x) / 1440 := by
  by_cases h : 0 ≤ d
  · have hp := Int.mul_nonneg h hx
    rw [td_p hp]
    have e : ab d = d := if_pos h
    rw [e]
    unfold ab
    rw [if_pos (by omega)]
  · have hp : 0 ≤ (-d) * x := Int.mul_nonneg (by omega) hx
    have e : ab d = -d := if_neg h
    rw [e]
    rw [Int.neg_mul] at hp ⊢
    by_cases c : d * x = 0
    · rw [c]
      rfl
    · rw [td_n (by omega)]
      unfold ab
      split <;> omega
def eS (M D : Nat → Int32) (j : Nat) (m : Int) : Int := ab (((D j).toInt * (m - (M j).toInt)).tdiv 1440)
theorem eS_m {M D : Nat → Int32} {j : Nat} {m m' : Int} (h : (M j).toInt ≤ m) (h' : m ≤ m') : eS M D j m ≤ eS M D j m' := by
  unfold eS
  rw [ab_er (by omega), ab_er (by omega)]
  have := Int.mul_le_mul_of_nonneg_left (show m - (M j).toInt ≤ m' - (M j).toInt by omega) (ab_p (x := (D j).toInt))
  omega
theorem eS_p {M D : Nat → Int32} {j : Nat} {m : Int} : 0 ≤ eS M D j m := ab_p
theorem eS_b {M D : Nat → Int32} {j : Nat} {m : Int} (hD : -600 ≤ (D j).toInt ∧ (D j).toInt ≤ 600) (h : (M j).toInt ≤ m) (h2 : m - (M j).toInt ≤ 2000000) : eS M D j m ≤ 1000000 := by
  unfold eS
  rw [ab_er (by omega)]
  have hd : ab (D j).toInt ≤ 600 := by unfold ab; split <;> omega
  have := Int.mul_le_mul_of_nonneg_right hd (show 0 ≤ m - (M j).toInt by omega)
  omega
/-- a setter on the way -/
abbrev RSt := Nat × (Nat → Nat) × (Nat → Bool) × Int × Int × Int
abbrev RSt.g (a : RSt) : Nat := a.1
abbrev RSt.f (a : RSt) : Nat → Nat := a.2.1
abbrev RSt.l (a : RSt) : Nat → Bool := a.2.2.1
abbrev RSt.p (a : RSt) : Int := a.2.2.2.1
abbrev RSt.t (a : RSt) : Int := a.2.2.2.2.1
abbrev RSt.w (a : RSt) : Int := a.2.2.2.2.2
def udB (l : Nat → Bool) (k : Nat) : Nat → Bool := fun i => if i = k then false else l i
theorem udB_e {l : Nat → Bool} {k : Nat} : udB l k k = false := if_pos rfl
theorem udB_n {l : Nat → Bool} {k i : Nat} (h : ¬ i = k) : udB l k i = l i := if_neg h
def okR (x : RSt) (k : Nat) : Prop := x.l k = true
def nxR (S M D : Nat → Int32) (x : RSt) (k : Nat) : RSt := ⟨x.g + 1, udN x.f x.g k, udB x.l k, (S k).toInt, x.t + 10 * ab (x.p - (S k).toInt) + 30, if x.w < eS M D k (x.t + 10 * ab (x.p - (S k).toInt)) then eS M D k (x.t + 10 * ab (x.p - (S k).toInt)) else x.w⟩
def lfR (x : RSt) : Option (Int × Int × (Nat → Nat)) → Option (Int × Int × (Nat → Nat))
  | none => some (x.w, x.t, x.f)
  | some b => if x.w < b.1 ∨ (x.w = b.1 ∧ x.t < b.2.1) then some (x.w, x.t, x.f) else some b
theorem cnt_0 {p : Nat → Bool} : ∀ n : Nat, cntB p n = 0 → ∀ i : Nat, i < n → p i = false := by
  intro n
  induction n with
  | zero => intro _ i hi; omega
  | succ n ih =>
    intro h i hi
    have h' : cntB p n + (if p n = true then 1 else 0) = 0 := h
    by_cases e : i = n
    · subst e
      by_cases c : p i = true
      · rw [if_pos c] at h'
        omega
      · exact Bool.eq_false_iff.mpr c
    · exact ih (by omega) i (by omega)
theorem cnt_00 {p : Nat → Bool} : ∀ n : Nat, (∀ i : Nat, i < n → p i = false) → cntB p n = 0 := by
  intro n
  induction n with
  | zero => intro _; rfl
  | succ n ih =>
    intro h
    show cntB p n + (if p n = true then 1 else 0) = 0
    rw [ih (fun i hi => h i (by omega)), h n (by omega)]
    rfl
theorem cnt_same {p p' : Nat → Bool} : ∀ n : Nat, (∀ i : Nat, i < n → p i = p' i) → cntB p n = cntB p' n := by
  intro n
  induction n with
  | zero => intro _; rfl
  | succ n ih =>
    intro h
    show cntB p n + (if p n = true then 1 else 0) = cntB p' n + (if p' n = true then 1 else 0)
    rw [ih (fun i hi => h i (by omega)), h n (by omega)]
theorem cnt_ud {p : Nat → Bool} {k : Nat} (hk : p k = true) : ∀ n : Nat, k < n → cntB p n = cntB (udB p k) n + 1 := by
  intro n
  induction n with
  | zero => intro h; omega
  | succ n ih =>
    intro h
    show cntB p n + (if p n = true then 1 else 0) = cntB (udB p k) n + (if udB p k n = true then 1 else 0) + 1
    by_cases e : k = n
    · subst e
      rw [cnt_same (p' := p) k (fun i hi => udB_n (by omega)), udB_e, if_pos hk]
      rfl
    · rw [ih (by omega), udB_n (l := p) (k := k) (i := n) (by omega)]
      omega
def BND (N : Nat) (S : Nat → Int32) (l : Nat → Bool) (p t E : Int) : Prop := t + 30 * (cntB l N : Int) ≤ E ∧ (∀ b : Nat, b < N → l b = true → t + 30 * (cntB l N : Int) + 10 * ab (p - (S b).toInt) ≤ E) ∧ (∀ a b : Nat, a < N → b < N → l a = true → l b = true → t + 30 * (cntB l N : Int) + 10 * (ab ((S a).toInt - (S b).toInt) + min (ab (p - (S a).toInt)) (ab (p - (S b).toInt))) ≤ E)
theorem LfR {N : Nat} {S M D : Nat → Int32} : ∀ (r : Nat) (x y : RSt), LfG N okR (nxR S M D) r x y → cntB x.l N = r → (∀ j : Nat, j < N → (M j).toInt ≤ x.t) → x.w ≤ y.w ∧ (∀ j : Nat, j < N → x.l j = true → eS M D j (x.t + 10 * ab (x.p - (S j).toInt)) ≤ y.w) ∧ BND N S x.l x.p x.t y.t := by
  intro r
  induction r with
  | zero =>
    intro x y h hc hM
    have h' : y = x := h
    subst h'
    have z := cnt_0 N hc
    refine ⟨Int.le_refl _, fun j hj hl => ?_, ?_, fun b hb hl => ?_, fun a b ha hb hl _ => ?_⟩
    · rw [z j hj] at hl; cases hl
    · rw [hc]; omega
    · rw [z b hb] at hl; cases hl
    · rw [z a ha] at hl; cases hl
  | succ r ih =>
    intro x y h hc hM
    obtain ⟨k, hk, hok, hl⟩ := h
    have hok' : x.l k = true := hok
    have hc' := cnt_ud hok' N hk
    have hp := ab_p (x := x.p - (S k).toInt)
    have hcr : cntB (udB x.l k) N = r := by omega
    have hh := ih (nxR S M D x k) y hl hcr (fun j hj => by have := hM j hj; show (M j).toInt ≤ x.t + 10 * ab (x.p - (S k).toInt) + 30; omega)
    have h1 : (if x.w < eS M D k (x.t + 10 * ab (x.p - (S k).toInt)) then eS M D k (x.t + 10 * ab (x.p - (S k).toInt)) else x.w) ≤ y.w := hh.1
    have h2 : ∀ j : Nat, j < N → udB x.l k j = true → eS M D j (x.t + 10 * ab (x.p - (S k).toInt) + 30 + 10 * ab ((S k).toInt - (S j).toInt)) ≤ y.w := hh.2.1
    obtain ⟨h3, h4, h5⟩ : BND N S (udB x.l k) (S k).toInt (x.t + 10 * ab (x.p - (S k).toInt) + 30) y.t := hh.2.2
    rw [hcr] at h3 h4 h5
    unfold BND
    rw [hc]
    clear hh ih hl hc'
    have bb : ∀ b : Nat, b < N → x.l b = true → x.t + 30 * ((r + 1 : Nat) : Int) + 10 * ab (x.p - (S b).toInt) ≤ y.t := by
      intro b hb hb1
      by_cases e : b = k
      · subst e
        omega
      · have g := h4 b hb (by rw [udB_n e]; exact hb1)
        have tr := ab_t (a := x.p) (b := (S k).toInt) (c := (S b).toInt)
        omega
    refine ⟨by split at h1 <;> omega, fun j hj hj1 => ?_, by omega, bb, fun a b ha hb ha1 hb1 => ?_⟩
    · by_cases e : j = k
      · subst e
        split at h1 <;> omega
      · have g := h2 j hj (by rw [udB_n e]; exact hj1)
        have tr := ab_t (a := x.p) (b := (S k).toInt) (c := (S j).toInt)
        have pp := ab_p (x := x.p - (S j).toInt)
        have hMj := hM j hj
        exact Int.le_trans (eS_m (by omega) (by omega)) g
    · by_cases ea : a = k
      · subst ea
        by_cases eb : b = a
        · subst eb
          have := ab_0 (a := (S b).toInt)
          have := bb b hb hb1
          omega
        · have g := h4 b hb (by rw [udB_n eb]; exact hb1)
          omega
      · by_cases eb : b = k
        · subst eb
          have g := h4 a ha (by rw [udB_n ea]; exact ha1)
          have sy := ab_s (a := (S a).toInt) (b := (S b).toInt)
          omega
        · have g := h5 a b ha hb (by rw [udB_n ea]; exact ha1) (by rw [udB_n eb]; exact hb1)
          have t1 := ab_t (a := x.p) (b := (S k).toInt) (c := (S a).toInt)
          have t2 := ab_t (a := x.p) (b := (S k).toInt) (c := (S b).toInt)
          omega
/-! the class's numbers -/
def TWb (N : Nat) (S M D : Nat → Int32) : Prop := ∀ j : Nat, j < N → (-720 ≤ (S j).toInt ∧ (S j).toInt ≤ 720) ∧ (-600 ≤ (D j).toInt ∧ (D j).toInt ≤ 600) ∧ 0 ≤ (M j).toInt
theorem k_sizeO {twN v1 v2 : Int32} {twM twD : Nat → Int32} {Q : Int32 → Prop} (hn : twN.toInt ≤ 7) (h1 : 0 ≤ v1.toInt ∧ v1.toInt < twN.toInt) (hD : -600 ≤ (twD v1.toInt.toNat).toInt ∧ (twD v1.toInt.toNat).toInt ≤ 600) (hx : 0 ≤ v2.toInt - (twM v1.toInt.toNat).toInt ∧ v2.toInt - (twM v1.toInt.toNat).toInt ≤ 2000000) (q : ∀ r : Int32, r.toInt = eS twM twD v1.toInt.toNat v2.toInt → Q r) : p_Rs_sizeOfError twN twM twD v1 v2 Q := by
  unfold p_Rs_sizeOfError
  refine k_errorAt hn h1 (q _ ?_)
  rw [ti_c]
  have e := er_O hD hx
  have b := eS_b (M := twM) (D := twD) (j := v1.toInt.toNat) (m := v2.toInt) hD (by omega) (by omega)
  have hv : (twD v1.toInt.toNat * (v2 - twM v1.toInt.toNat) / 1440).toInt = ((twD v1.toInt.toNat).toInt * (v2.toInt - (twM v1.toInt.toNat).toInt)).tdiv 1440 := e
  have ha : eS twM twD v1.toInt.toNat v2.toInt = ab (((twD v1.toInt.toNat).toInt * (v2.toInt - (twM v1.toInt.toNat).toInt)).tdiv 1440) := rfl
  rw [← hv] at ha
  rw [ha] at b ⊢
  have lo : -2147483647 ≤ (twD v1.toInt.toNat * (v2 - twM v1.toInt.toNat) / 1440).toInt := by
    unfold ab at b
    split at b <;> omega
  rw [ti_jabs lo]
  rfl
theorem k_sizeM {v1 v2 : Int32} {M D : Nat → Int32} {Q : Int32 → Prop} (h1 : 0 ≤ v1.toInt ∧ v1.toInt < 7) (hD : -600 ≤ (D v1.toInt.toNat).toInt ∧ (D v1.toInt.toNat).toInt ≤ 600) (hx : 0 ≤ v2.toInt - (M v1.toInt.toNat).toInt ∧ v2.toInt - (M v1.toInt.toNat).toInt ≤ 2000000) (q : ∀ r : Int32, (jabs r).toInt = eS M D v1.toInt.toNat v2.toInt → Q r) : p_M_errorOf M D v1 v2 Q := by
  unfold p_M_errorOf
  refine ⟨ti_in h1.1 h1.2, ti_in h1.1 h1.2, q _ ?_⟩
  rw [ti_c]
  have b := eS_b (M := M) (D := D) (j := v1.toInt.toNat) (m := v2.toInt) hD (by omega) (by omega)
  have hv : (((D v1.toInt.toNat).toInt64 * (v2 - M v1.toInt.toNat).toInt64 / 1440 : Int64).toInt32).toInt = ((D v1.toInt.toNat).toInt * (v2.toInt - (M v1.toInt.toNat).toInt)).tdiv 1440 := er_M hD hx
  have ha : eS M D v1.toInt.toNat v2.toInt = ab (((D v1.toInt.toNat).toInt * (v2.toInt - (M v1.toInt.toNat).toInt)).tdiv 1440) := rfl
  rw [← hv] at ha
  rw [ha] at b ⊢
  have lo : -2147483647 ≤ (((D v1.toInt.toNat).toInt64 * (v2 - M v1.toInt.toNat).toInt64 / 1440 : Int64).toInt32).toInt := by
    unfold ab at b
    split at b <;> omega
  rw [ti_jabs lo]
  rfl
theorem k_way {a b : Int32} (ha : -720 ≤ a.toInt ∧ a.toInt ≤ 720) (hb : -720 ≤ b.toInt ∧ b.toInt ≤ 720) : (10 * jabs (a - b)).toInt = 10 * ab (a.toInt - b.toInt) ∧ 0 ≤ 10 * ab (a.toInt - b.toInt) ∧ 10 * ab (a.toInt - b.toInt) ≤ 14400 := by
  have e1 : (a - b).toInt = a.toInt - b.toInt := ti_sub (by omega) (by omega)
  have e2 : (jabs (a - b)).toInt = ab (a.toInt - b.toInt) := by rw [ti_jabs (by omega), e1]; rfl
  have p := ab_p (x := a.toInt - b.toInt)
  have q := ab_b ha hb
  refine ⟨?_, by omega, by omega⟩
  rw [ti_mul (by rw [c_10, e2]; omega) (by rw [c_10, e2]; omega), c_10, e2]
theorem k_sunOfT {twN v1 : Int32} {twS : Nat → Int32} {Q : Int32 → Prop} (hn : twN.toInt ≤ 7) (h1 : 0 ≤ v1.toInt ∧ v1.toInt < twN.toInt) (q : Q (twS v1.toInt.toNat)) : p_Tw_sunOf twN twS v1 Q := by
  unfold p_Tw_sunOf
  rw [k_TwHas, bi_t h1]
  refine tn_t i10 ⟨ti_in h1.1 (by omega), ?_⟩
  rw [ti_c]
  exact q
def LMk (N : Nat) (m : Int32) (l : Nat → Bool) : Prop := ∀ j : Nat, j < N → (tb m j ↔ l j = true)
theorem k_can {N : Nat} {twN rsW rsE v2 v3 v4 v5 : Int32} {twS twM twD : Nat → Int32} {l : Nat → Bool} {Q : Int32 → Prop} (hN : twN.toInt = N) (hN7 : N ≤ 7) (hB : TWb N twS twM twD) (hl : LMk N v2 l) (hp : -720 ≤ v3.toInt ∧ v3.toInt ≤ 720) (hM : ∀ j : Nat, j < N → (twM j).toInt ≤ v4.toInt) (ht : 0 ≤ v4.toInt ∧ v4.toInt ≤ 1000000) (hw : 0 ≤ v5.toInt ∧ v5.toInt ≤ 1000000)
    (q1 : ((∀ j : Nat, j < N → l j = false) → (v5.toInt < rsW.toInt ∨ (v5.toInt = rsW.toInt ∧ v4.toInt < rsE.toInt))) → Q 1)
    (q0 : ∀ z e : Int, ¬ (z < rsW.toInt ∨ (z = rsW.toInt ∧ e < rsE.toInt)) → (∀ W : Int, v5.toInt ≤ W → (∀ j : Nat, j < N → l j = true → eS twM twD j (v4.toInt + 10 * ab (v3.toInt - (twS j).toInt)) ≤ W) → z ≤ W) → (∀ E : Int, BND N twS l v3.toInt v4.toInt E → e ≤ E) → Q 0) : p_Rs_canBeBetter twN rsW rsE twS twM twD v2 v3 v4 v5 Q := by
  unfold p_Rs_canBeBetter
  refine Lp5.of (fun (v6 v7 v8 v9 v10 : Int32) => (0 ≤ v10.toInt ∧ v10.toInt ≤ (N : Int)) ∧ v8.toInt = cntB l v10.toInt.toNat ∧ ((-720 ≤ v6.toInt ∧ v6.toInt ≤ v3.toInt) ∧ (v6.toInt = v3.toInt ∨ ∃ a : Nat, a < N ∧ l a = true ∧ v6.toInt = (twS a).toInt)) ∧ ((v7.toInt ≤ 720 ∧ v3.toInt ≤ v7.toInt) ∧ (v7.toInt = v3.toInt ∨ ∃ a : Nat, a < N ∧ l a = true ∧ v7.toInt = (twS a).toInt)) ∧ ((0 ≤ v9.toInt ∧ v9.toInt ≤ 1000000) ∧ ∀ W : Int, v5.toInt ≤ W → (∀ j : Nat, j < N → l j = true → eS twM twD j (v4.toInt + 10 * ab (v3.toInt - (twS j).toInt)) ≤ W) → v9.toInt ≤ W) ∧ ((∀ j : Nat, j < N → l j = false) → v6.toInt = v3.toInt ∧ v7.toInt = v3.toInt ∧ v9.toInt = v5.toInt)) (fun _ _ _ _ v10 => ((N : Int) - v10.toInt).toNat) ?_ _ _ _ _ _ ⟨by rw [c_0]; omega, by rw [c_0]; rfl, ⟨by omega, Or.inl rfl⟩, ⟨by omega, Or.inl rfl⟩, ⟨hw, fun W h _ => h⟩, fun _ => ⟨rfl, rfl, rfl⟩⟩
  intro rec v6 v7 v8 v9 v10 ⟨a1, a2, ⟨a3, a3'⟩, ⟨a4, a4'⟩, ⟨a5, a5'⟩, a6⟩ hrec
  unfold p_Rs_canBeBetter_L16
  rw [ti_le, hN]
  have hcl := cnt_le (p := l) v10.toInt.toNat
  refine ⟨fun g => ?_, fun g => ?_⟩
  · have eN : v10.toInt.toNat = N := by omega
    rw [eN] at a2 hcl
    have e1 : (v7 - v6).toInt = v7.toInt - v6.toInt := ti_sub (by omega) (by omega)
    have e2 : (v3 - v6).toInt = v3.toInt - v6.toInt := ti_sub (by omega) (by omega)
    have e3 : (v7 - v3).toInt = v7.toInt - v3.toInt := ti_sub (by omega) (by omega)
    have e4 := ti_jmin (x := v3 - v6) (y := v7 - v3)
    rw [e2, e3] at e4
    generalize jmin (v3 - v6) (v7 - v3) = mm at e4 ⊢
    have e5 : (v7 - v6 + mm).toInt = v7.toInt - v6.toInt + mm.toInt := by rw [ti_add (by omega) (by omega), e1]
    rw [forall_eq]
    generalize v7 - v6 + mm = way at e5 ⊢
    have e6 : (30 * v8).toInt = 30 * v8.toInt := by rw [ti_mul] <;> rw [c_30] <;> omega
    have e7 : (10 * way).toInt = 10 * way.toInt := by rw [ti_mul] <;> rw [c_10] <;> omega
    have e8 : (v4 + 30 * v8).toInt = v4.toInt + 30 * v8.toInt := by rw [ti_add (by omega) (by omega), e6]
    have e9 : (v4 + 30 * v8 + 10 * way).toInt = v4.toInt + 30 * v8.toInt + 10 * way.toInt := by rw [ti_add (by omega) (by omega), e8, e7]
    rw [forall_eq]
    generalize v4 + 30 * v8 + 10 * way = en at e9 ⊢
    clear e6 e7 e8
    have yes : (v9.toInt < rsW.toInt ∨ (v9.toInt = rsW.toInt ∧ en.toInt < rsE.toInt)) → Q 1 := by
      intro h
      refine q1 (fun hz => ?_)
      have k := a6 hz
      have z := cnt_00 N hz
      omega
    have no : ¬ (v9.toInt < rsW.toInt ∨ (v9.toInt = rsW.toInt ∧ en.toInt < rsE.toInt)) → Q 0 := by
      intro h
      refine q0 v9.toInt en.toInt h a5' (fun E hE => ?_)
      obtain ⟨b1, b2, b3⟩ := hE
      rcases a3' with k | ⟨a, ha, la, ka⟩
      · rcases a4' with k' | ⟨b, hb, lb, kb⟩
        · omega
        · have g1 := b2 b hb lb
          have g2 : ab (v3.toInt - (twS b).toInt) = (twS b).toInt - v3.toInt := by unfold ab; split <;> omega
          omega
      · have g0 : ab (v3.toInt - (twS a).toInt) = v3.toInt - (twS a).toInt := by unfold ab; split <;> omega
        rcases a4' with k' | ⟨b, hb, lb, kb⟩
        · have g1 := b2 a ha la
          omega
        · have g1 := b3 a b ha hb la lb
          have g2 : ab (v3.toInt - (twS b).toInt) = (twS b).toInt - v3.toInt := by unfold ab; split <;> omega
          have g3 : ab ((twS a).toInt - (twS b).toInt) = (twS b).toInt - (twS a).toInt := by unfold ab; split <;> omega
          omega
    rw [ti_lt, ti_le, ti_eq]
    exact ⟨fun h => yes (by omega), fun h => ⟨fun h2 => ⟨fun h3 => no (by omega), fun h3 => yes (by omega)⟩, fun h2 => no (by omega)⟩⟩
  · have hn1 := ti_a1 (x := v10) (by omega)
    have hbit := hl v10.toInt.toNat (by omega)
    have hst : cntB l (v10.toInt.toNat + 1) = cntB l v10.toInt.toNat + (if l v10.toInt.toNat = true then 1 else 0) := rfl
    have hnn : (v10 + 1).toInt.toNat = v10.toInt.toNat + 1 := by omega
    rw [tb_and1 (by omega)]
    refine ⟨fun nb => ?_, fun yb => ?_⟩
    · rw [forall_eq]
      have hf : ¬ l v10.toInt.toNat = true := fun k => nb (hbit.mpr k)
      refine hrec _ _ _ _ _ ⟨by omega, ?_, ⟨a3, a3'⟩, ⟨a4, a4'⟩, ⟨a5, a5'⟩, a6⟩ (by omega)
      rw [hnn, hst, if_neg hf]
      omega
    · have hy : l v10.toInt.toNat = true := hbit.mp (Classical.not_not.mp yb)
      have bj := hB v10.toInt.toNat (by omega)
      have hMj := hM v10.toInt.toNat (by omega)
      refine k_sunOfT (by omega) (by omega) ?_
      have j1 := ti_jmin (x := v6) (y := twS v10.toInt.toNat)
      have j2 := ti_jmax (x := v7) (y := twS v10.toInt.toNat)
      rw [forall_eq, forall_eq]
      generalize jmin v6 (twS v10.toInt.toNat) = x6 at j1 ⊢
      generalize jmax v7 (twS v10.toInt.toNat) = x7 at j2 ⊢
      unfold p_Rs_minutesBetween
      have kw := k_way hp bj.1
      have hadd : (v4 + 10 * jabs (v3 - twS v10.toInt.toNat)).toInt = v4.toInt + 10 * ab (v3.toInt - (twS v10.toInt.toNat).toInt) := by rw [ti_add (by omega) (by omega), kw.1]
      refine k_sizeO (by omega) (by omega) bj.2.1 (by omega) (fun r hr => ?_)
      rw [hadd] at hr
      have j3 := ti_jmax (x := v9) (y := r)
      have rb := eS_b (M := twM) (D := twD) (j := v10.toInt.toNat) (m := v4.toInt + 10 * ab (v3.toInt - (twS v10.toInt.toNat).toInt)) bj.2.1 (by omega) (by omega)
      have rp := eS_p (M := twM) (D := twD) (j := v10.toInt.toNat) (m := v4.toInt + 10 * ab (v3.toInt - (twS v10.toInt.toNat).toInt))
      rw [← hr] at rb rp
      have h8 := ti_a1 (x := v8) (by omega)
      rw [forall_eq, forall_eq, forall_eq]
      generalize jmax v9 r = x9 at j3 ⊢
      refine hrec _ _ _ _ _ ⟨by omega, ?_, ⟨by omega, ?_⟩, ⟨by split at j2 <;> omega, ?_⟩, ⟨by split at j3 <;> omega, fun W w1 w2 => ?_⟩, fun hz => ?_⟩ (by omega)
      · rw [hnn, hst, if_pos hy]
        omega
      · by_cases c : v6.toInt ≤ (twS v10.toInt.toNat).toInt
        · rcases a3' with k | ⟨a, ha, la, ka⟩
          · exact Or.inl (by omega)
          · exact Or.inr ⟨a, ha, la, by omega⟩
        · exact Or.inr ⟨v10.toInt.toNat, by omega, hy, by omega⟩
      · split at j2
        · exact Or.inr ⟨v10.toInt.toNat, by omega, hy, by omega⟩
        · rcases a4' with k | ⟨a, ha, la, ka⟩
          · exact Or.inl (by omega)
          · exact Or.inr ⟨a, ha, la, by omega⟩
      · have k1 := a5' W w1 w2
        have k2 := w2 v10.toInt.toNat (by omega) hy
        rw [← hr] at k2
        split at j3 <;> omega
      · rw [hz v10.toInt.toNat (by omega)] at hy
        cases hy
