theorem w_perm3 {D : va_G} {t1 t2 t3 : List (ClassId × FieldType)} {A : Nat → Prop} {H0 : Heap} {s : State} {a b c : va_W} {H : Heap} {locs : List Loc} (ho : oW D ((t1 ++ t2) ++ t3) A H0 s ((a ++ b) ++ c) H locs) : oW D (t2 ++ (t1 ++ t3)) A H0 s (b ++ (a ++ c)) H locs := by
  obtain ⟨hK, hN, hP, hD, hS, hA⟩ := ho
  have hm : ∀ {α : Type} {x y z : List α} {q : α}, q ∈ y ++ (x ++ z) → q ∈ (x ++ y) ++ z := by
    intro α x y z q h
    simp only [List.mem_append] at h ⊢
    rcases h with h | h | h
    · exact Or.inl (Or.inr h)
    · exact Or.inl (Or.inl h)
    · exact Or.inr h
  refine ⟨⟨hK.1, fun k q hk => ?_⟩, hN, vaP_iff.mpr (fun q hq => vaP_iff.mp hP q (hm hq)), vaD_iff.mpr ⟨?_, fun q hq => (vaD_iff.mp hD).2 q (hm hq)⟩, hS, hA⟩
  · obtain ⟨i, hi⟩ := List.getElem?_of_mem (hm (List.mem_of_getElem? hk))
    exact hK.2 i q hi
  · have h1 := (vaD_iff.mp hD).1
    have hp : ((a ++ b) ++ c).Perm (b ++ (a ++ c)) := by
      have h2 : ((a ++ b) ++ c).Perm ((b ++ a) ++ c) := List.Perm.append_right c List.perm_append_comm
      rw [List.append_assoc b a c] at h2
      exact h2
    exact (hp.map (fun q => q.1)).nodup_iff.mp h1
set_option maxHeartbeats 4000000 in
set_option maxRecDepth 100000 in
theorem start_R {p : Program} {e : Env} {s : State} {m : MethodId} {below : List Frame} {meth : Method} {c : Code} (l : Launch) (htr : l.stackTraces = false) {b L : Nat} {xs : Nat → Int32} (hL : L ≤ 3584) (R : Int32 → Int32 → Int32 → Int32 → Int32 → Int32 → Int32 → Int32 → Int32 → Int32 → Int32 → Int32 → Int32 → Int32 → (Nat → Int32) → (Nat → Int32) → (Nat → Int32) → (Nat → Int32) → (Nat → Int32) → (Nat → Int32) → (Nat → Int32) → (Nat → Int32) → (Nat → Int32) → (Nat → Int32) → (Nat → Int32) → (Nat → Int32) → (Nat → Int32) → (Nat → Int32) → (Nat → Int32) → (Nat → Int32) → (Nat → Int32) → (Nat → Int32) → (Nat → Int32) → (Nat → Int32) → (Nat → Int32) → (Nat → Int32) → (Nat → Int32) → (Nat → Int32) → Int32 → Int32 → Int32 → Int32 → Int32 → Int32 → Int32 → Int32 → Int32 → Int32 → Int32 → Int32 → Int32 → Int32 → Int32 → Int32 → (Nat → Int32) → (Nat → Int32) → (Nat → Int32) → (Nat → Int32) → (Nat → Int32) → (Nat → Int32) → (Nat → Int32) → (Nat → Int32) → (Nat → Int32) → (Nat → Int32) → (Nat → Nat → Int32) → (Nat → Nat → Int32) → (Nat → Int32) → (Nat → Int32) → (Nat → Int32) → (Nat → Int32) → (Nat → Int32) → (Nat → Int32) → (Nat → Int32) → (Nat → Int32) → (Nat → Int32) → (Nat → Int32) → (Nat → Int32) → (Nat → Int32) → (Nat → Int32) → (Nat → Int32) → (Nat → Int32) → Prop) (h_town : st_town R) (h_clock : st_clock R) (h_untell : st_untell R) (h_count : st_count R) (h_read : st_read R) (h_when : st_when R) (h_turned : st_turned R) (h_unlike : st_unlike R) (h_one : st_one R) (h_station : st_station R) (h_train : st_train R) (h_leaves : st_leaves R) (h_delay : st_delay R) (h_meet : st_meet R) (h_free : st_free R) (h_close : st_close R) (h_sign : st_sign R) (h_end : st_end R) (h_law : st_law R) (h_judged : st_judged R) (h_late : st_late R) (h_tower : st_tower R) (h_error : st_error R) (h_set : st_set R) (h_round : st_round R) (h_row : st_row R) (hR : R 0 0 0 0 0 0 0 0 0 0 0 0 0 0 (fun _ => 0) (fun _ => 0) (fun _ => 0) (fun _ => 0) (fun _ => 0) (fun _ => 0) (fun _ => 0) (fun _ => 0) (fun _ => 0) (fun _ => 0) (fun _ => 0) (fun _ => 0) (fun _ => 0) (fun _ => 0) (fun _ => 0) (fun _ => 0) (fun _ => 0) (fun _ => 0) (fun _ => 0) (fun _ => 0) (fun _ => 0) (fun _ => 0) (fun _ => 0) (fun _ => 0) 0 0 0 0 0 448 0 0 0 0 1 0 0 0 0 0 (fun _ => 0) (fun _ => 0) (fun _ => 0) (fun _ => 0) (fun _ => 0) (fun _ => 0) (fun _ => 0) (fun _ => 0) (fun _ => 0) (fun _ => 0) (fun _ _ => 0) (fun _ _ => 0) (fun _ => 0) (fun _ => 0) (fun _ => 0) (fun _ => 0) (fun _ => 0) (fun _ => 0) (fun _ => 0) (fun _ => 0) (fun _ => 0) (fun _ => 0) (fun _ => 0) (fun _ => 0) (fun _ => 0) (fun _ => 0) (fun _ => 0)) (C0 : lw_At p s m meth c b L xs) : W p l e room_1 s m #[Value.ref b] below meth c s.heap [] 0 0 (lw_Z below #[Value.ref b] s) (entryFrame m ([Value.ref b] : List Value).toArray 7) := by
  obtain ⟨hx, hb, hr, hml, hown, hts, hX, hbl, hlocks, hgv⟩ := id C0
  have htsL : ∀ w ∈ wsL_law, w.before #[Value.ref b] s = true := fun w h => hts w (lm_law w h)
  have hA : ∀ q : Nat, s.heap.size ≤ q → (fun q : Nat => s.heap.size ≤ q) q := fun _ h => h
  obtain ⟨adK, adV, hSE⟩ := en_S hts hgv
  have hE := en_E hts hgv
  have C1 : lwC p l s m c b L xs adK adV := ⟨hx, hb, hml, hown, htsL, hX, hbl, hE, hSE, htr⟩
  obtain ⟨c0, iS0, hKn0⟩ := u_known (C := RX0) (T := TX0) (N := 6) (n := 6) hts lm_X0 (hts (.instantiable RX0 6) (List.mem_of_getElem? (i := 151) rfl))
  obtain ⟨c1, iS1, hKn1⟩ := u_known (C := RX1) (T := TX1) (N := 6) (n := 6) hts lm_X1 (hts (.instantiable RX1 6) (List.mem_of_getElem? (i := 201) rfl))
  obtain ⟨c2, iS2, hKn2⟩ := u_known (C := RX2) (T := TX2) (N := 4) (n := 4) hts lm_X2 (hts (.instantiable RX2 4) (List.mem_of_getElem? (i := 193) rfl))
  obtain ⟨c3, iS3, hKn3⟩ := u_known (C := RX3) (T := TX3) (N := 8) (n := 8) hts lm_X3 (hts (.instantiable RX3 8) (List.mem_of_getElem? (i := 114) rfl))
  obtain ⟨c4, iS4, hKn4⟩ := u_known (C := RX4) (T := TX4) (N := 4) (n := 4) hts lm_X4 (hts (.instantiable RX4 4) (List.mem_of_getElem? (i := 264) rfl))
  obtain ⟨c5, iS5, hKn5⟩ := u_known (C := RX5) (T := TX5) (N := 2) (n := 2) hts lm_X5 (hts (.instantiable RX5 2) (List.mem_of_getElem? (i := 286) rfl))
  obtain ⟨c6, iS6, hKn6⟩ := u_known (C := RX6) (T := TX6) (N := 3) (n := 3) hts lm_X6 (hts (.instantiable RX6 3) (List.mem_of_getElem? (i := 75) rfl))
  obtain ⟨c7, iS7, hKn7⟩ := u_known (C := RX7) (T := TX7) (N := 2) (n := 2) hts lm_X7 (hts (.instantiable RX7 2) (List.mem_of_getElem? (i := 178) rfl))
  obtain ⟨c8, iS8, hKn8⟩ := u_known (C := RX8) (T := TX8) (N := 4) (n := 4) hts lm_X8 (hts (.instantiable RX8 4) (List.mem_of_getElem? (i := 242) rfl))
  obtain ⟨c9, iS9, hKn9⟩ := u_known (C := RX9) (T := TX9) (N := 4) (n := 4) hts lm_X9 (hts (.instantiable RX9 4) (List.mem_of_getElem? (i := 69) rfl))
  obtain ⟨c10, iS10, hKn10⟩ := u_known (C := RX10) (T := TX10) (N := 8) (n := 8) hts lm_X10 (hts (.instantiable RX10 8) (List.mem_of_getElem? (i := 61) rfl))
  obtain ⟨c11, iS11, hKn11⟩ := u_known (C := RX11) (T := TX11) (N := 38) (n := 38) hts lm_X11 (hts (.instantiable RX11 38) (List.mem_of_getElem? (i := 867) rfl))
  obtain ⟨dC, dI, hKc⟩ : ∃ (dC : Nat → ClassId) (dI : Nat → Nat → Nat), ∀ (k : Nat) (q : vw_C), vwCl[k]? = some q → u_Kn s q.1 q.2.1 q.2.2 (dC k) (dI k) := by
    refine ⟨fun k => [c0, c1, c2, c3, c4, c5, c6, c7, c8, c9, c10, c11].getD k c0, fun k => [iS0, iS1, iS2, iS3, iS4, iS5, iS6, iS7, iS8, iS9, iS10, iS11].getD k iS0, ?_⟩
    intro k q hq
    match k, hq with
    | 0, hq => cases hq; exact hKn0
    | 1, hq => cases hq; exact hKn1
    | 2, hq => cases hq; exact hKn2
    | 3, hq => cases hq; exact hKn3
    | 4, hq => cases hq; exact hKn4
    | 5, hq => cases hq; exact hKn5
    | 6, hq => cases hq; exact hKn6
    | 7, hq => cases hq; exact hKn7
    | 8, hq => cases hq; exact hKn8
    | 9, hq => cases hq; exact hKn9
    | 10, hq => cases hq; exact hKn10
    | 11, hq => cases hq; exact hKn11
    | k + 12, hq => simp [vwCl] at hq
  have ho : oW (dC, dI) [] (fun q : Nat => s.heap.size ≤ q) s.heap s [] s.heap [] := ⟨⟨hKc, fun k q h => by simp at h⟩, en_nW hts, fun k q h => by simp at h, ⟨fun i j p q h => by simp at h, fun k q h => by simp at h⟩, va_S.rf, hA⟩
  have hl := lv_entry ([.ref b]) (n := 7) (Nat.le_of_ble_eq_true rfl)
  rw [lg_entry_eq]
  generalize (lg_sl ([.ref b]) ++ List.replicate (7 - (lg_sl ([.ref b])).length) Slot.unset).toArray = ls at hl ⊢
  have hl : lv_has ls 7 [(0, .ref b)] := hl
  refine k_new (ci := 10) (fs := [.null, .null, .null, .null, .null, .null, .null, .null]) (T := TX10) (ty := tyX10) hx hb hts lm_X10 tyX10_ok hown (hts (.classLink RL 8 RX10) (List.mem_of_getElem? (i := 60) rfl)) (hts (.instantiable RX10 8) (List.mem_of_getElem? (i := 61) rfl)) (hts (.initialized RX10) (List.mem_of_getElem? (i := 37) rfl)) ho rfl (fun j hj => by rcases (show j = 0 ∨ j = 1 ∨ j = 2 ∨ j = 3 ∨ j = 4 ∨ j = 5 ∨ j = 6 ∨ j = 7 by omega) with rfl | rfl | rfl | rfl | rfl | rfl | rfl | rfl <;> rfl) (Nat.le_of_ble_eq_true rfl) (Nat.le_of_ble_eq_true rfl) dL_law_0 (fun q0 H ho => ?_)
  refine lv_dup hx hb dL_law_3 rfl ?_
  refine k_callI (rest := [.ref q0]) (pre := []) ⟨hx, hb, hml, hown, htsL⟩ ho [] rfl (k_X10_init l (dC, dI) q0) (cwI 0 htsL gL_law_X10_init rfl rfl rfl (hts (.initialized RX10) (List.mem_of_getElem? (i := 37) rfl)) (hts (.methodLink RL 32 yX10_init) (List.mem_of_getElem? (i := 62) rfl)) (hts (.instanceMethod yX10_init) (List.mem_of_getElem? (i := 63) rfl)) rfl (by decide +kernel) ⟨Nat.le_of_ble_eq_true rfl, Nat.le_of_ble_eq_true rfl⟩) rfl hl.1 rfl (Nat.le_of_ble_eq_true rfl) dL_law_4 ⟨Nat.le_of_ble_eq_true rfl, Nat.le_of_ble_eq_true rfl⟩ (fun u H2 locs2 hq hoN => ?_)
  obtain ⟨oq, ocl⟩ := u
  have hq : oq 0 = q0 := hq
  subst hq
  clear ho
  have ho : oW (dC, dI) (oT ocl) (fun q : Nat => s.heap.size ≤ q) s.heap s (wO oq ocl 0 0 0 0 0 448 0 0 0 0 1 0 0 0 0 0 (fun _ => 0) (fun _ => 0) (fun _ => 0) (fun _ => 0) (fun _ => 0) (fun _ => 0) (fun _ => 0) (fun _ => 0) (fun _ => 0) (fun _ => 0) (fun _ _ => 0) (fun _ _ => 0) (fun _ => 0) (fun _ => 0) (fun _ => 0) (fun _ => 0) (fun _ => 0) (fun _ => 0) (fun _ => 0) (fun _ => 0) (fun _ => 0) (fun _ => 0) (fun _ => 0) (fun _ => 0) (fun _ => 0) (fun _ => 0) (fun _ => 0)) H2 locs2 := hoN
  clear hoN
  refine lv_astore_n (lv' := [(1, .ref (oq 0)), (0, .ref b)]) hx hb dL_law_7 rfl hl (by decide) rfl (fun ls hl => ?_)
  refine k_new (ci := 11) (fs := [.int 0, .int 0, .null, .int 0, .null, .null, .null, .null, .int 0, .null, .int 0, .null, .null, .int 0, .null, .null, .null, .null, .null, .null, .int 0, .int 0, .null, .int 0, .int 0, .null, .null, .null, .null, .int 0, .int 0, .null, .null, .null, .null, .null, .int 0, .int 0]) (T := TX11) (ty := tyX11) hx hb hts lm_X11 tyX11_ok hown (hts (.classLink RL 33 RX11) (List.mem_of_getElem? (i := 866) rfl)) (hts (.instantiable RX11 38) (List.mem_of_getElem? (i := 867) rfl)) (hts (.initialized RX11) (List.mem_of_getElem? (i := 49) rfl)) ho rfl (fun j hj => by rcases (show j = 0 ∨ j = 1 ∨ j = 2 ∨ j = 3 ∨ j = 4 ∨ j = 5 ∨ j = 6 ∨ j = 7 ∨ j = 8 ∨ j = 9 ∨ j = 10 ∨ j = 11 ∨ j = 12 ∨ j = 13 ∨ j = 14 ∨ j = 15 ∨ j = 16 ∨ j = 17 ∨ j = 18 ∨ j = 19 ∨ j = 20 ∨ j = 21 ∨ j = 22 ∨ j = 23 ∨ j = 24 ∨ j = 25 ∨ j = 26 ∨ j = 27 ∨ j = 28 ∨ j = 29 ∨ j = 30 ∨ j = 31 ∨ j = 32 ∨ j = 33 ∨ j = 34 ∨ j = 35 ∨ j = 36 ∨ j = 37 by omega) with rfl | rfl | rfl | rfl | rfl | rfl | rfl | rfl | rfl | rfl | rfl | rfl | rfl | rfl | rfl | rfl | rfl | rfl | rfl | rfl | rfl | rfl | rfl | rfl | rfl | rfl | rfl | rfl | rfl | rfl | rfl | rfl | rfl | rfl | rfl | rfl | rfl | rfl <;> rfl) (Nat.le_of_ble_eq_true rfl) (Nat.le_of_ble_eq_true rfl) dL_law_8 (fun q1 H ho => ?_)
  refine lv_dup hx hb dL_law_11 rfl ?_
  refine k_callI (rest := [.ref q1]) (pre := wO oq ocl 0 0 0 0 0 448 0 0 0 0 1 0 0 0 0 0 (fun _ => 0) (fun _ => 0) (fun _ => 0) (fun _ => 0) (fun _ => 0) (fun _ => 0) (fun _ => 0) (fun _ => 0) (fun _ => 0) (fun _ => 0) (fun _ _ => 0) (fun _ _ => 0) (fun _ => 0) (fun _ => 0) (fun _ => 0) (fun _ => 0) (fun _ => 0) (fun _ => 0) (fun _ => 0) (fun _ => 0) (fun _ => 0) (fun _ => 0) (fun _ => 0) (fun _ => 0) (fun _ => 0) (fun _ => 0) (fun _ => 0)) ⟨hx, hb, hml, hown, htsL⟩ ho [] rfl (k_X11_init l (dC, dI) q1) (cwI 0 htsL gL_law_X11_init rfl rfl rfl (hts (.initialized RX11) (List.mem_of_getElem? (i := 49) rfl)) (hts (.methodLink RL 35 yX11_init) (List.mem_of_getElem? (i := 868) rfl)) (hts (.instanceMethod yX11_init) (List.mem_of_getElem? (i := 869) rfl)) rfl (by decide +kernel) ⟨Nat.le_of_ble_eq_true rfl, Nat.le_of_ble_eq_true rfl⟩) rfl hl.1 rfl (Nat.le_of_ble_eq_true rfl) dL_law_12 ⟨Nat.le_of_ble_eq_true rfl, Nat.le_of_ble_eq_true rfl⟩ (fun u H2 locs2 hq hoN => ?_)
  obtain ⟨mq, mcl⟩ := u
  have hq : mq 0 = q1 := hq
  subst hq
  clear ho
  have ho : oW (dC, dI) (oT ocl ++ mT mcl) (fun q : Nat => s.heap.size ≤ q) s.heap s (wO oq ocl 0 0 0 0 0 448 0 0 0 0 1 0 0 0 0 0 (fun _ => 0) (fun _ => 0) (fun _ => 0) (fun _ => 0) (fun _ => 0) (fun _ => 0) (fun _ => 0) (fun _ => 0) (fun _ => 0) (fun _ => 0) (fun _ _ => 0) (fun _ _ => 0) (fun _ => 0) (fun _ => 0) (fun _ => 0) (fun _ => 0) (fun _ => 0) (fun _ => 0) (fun _ => 0) (fun _ => 0) (fun _ => 0) (fun _ => 0) (fun _ => 0) (fun _ => 0) (fun _ => 0) (fun _ => 0) (fun _ => 0) ++ wM mq mcl 0 0 0 0 0 0 0 0 0 0 0 0 0 0 (fun _ => 0) (fun _ => 0) (fun _ => 0) (fun _ => 0) (fun _ => 0) (fun _ => 0) (fun _ => 0) (fun _ => 0) (fun _ => 0) (fun _ => 0) (fun _ => 0) (fun _ => 0) (fun _ => 0) (fun _ => 0) (fun _ => 0) (fun _ => 0) (fun _ => 0) (fun _ => 0) (fun _ => 0) (fun _ => 0) (fun _ => 0) (fun _ => 0) (fun _ => 0) (fun _ => 0)) H2 locs2 := hoN
  clear hoN
  refine lv_astore_n (lv' := [(2, .ref (mq 0)), (1, .ref (oq 0)), (0, .ref b)]) hx hb dL_law_15 rfl hl (by decide) rfl (fun ls hl => ?_)
  refine lv_iconst (v := 1) hx hb dL_law_16 (by decide) ?_
  refine k_newa (atype := .long) (ty := .long) (N' := 1) (a0 := (1, .inr (.inl (fun _ => 0)))) hx hb (hts (.arrayClass .long) (List.mem_of_getElem? (i := 1281) rfl)) rfl ho (fun _ => rfl) (by decide) (by decide) (by decide) (Nat.le_of_ble_eq_true rfl) (Nat.le_of_ble_eq_true rfl) dL_law_17 (fun qo cJ H ho => ?_)
  replace ho := w_perm3 ho
  refine lv_astore_n (lv' := [(3, .ref qo), (2, .ref (mq 0)), (1, .ref (oq 0)), (0, .ref b)]) hx hb dL_law_19 rfl hl (by decide) rfl (fun ls hl => ?_)
  refine lv_iconst (v := 0) hx hb dL_law_20 (by decide) ?_
  refine lv_istore (lv' := [(4, .int 0), (3, .ref qo), (2, .ref (mq 0)), (1, .ref (oq 0)), (0, .ref b)]) hx hb dL_law_21 hl (by decide) rfl (fun ls hl => ?_)
  exact law_loop hL R h_town h_clock h_untell h_count h_read h_when h_turned h_unlike h_one h_station h_train h_leaves h_delay h_meet h_free h_close h_sign h_end h_law h_judged h_late h_tower h_error h_set h_round h_row C1 hr hlocks 513 0 _ _ (by omega) (by omega) (Nat.le_of_ble_eq_true rfl) (Nat.le_of_ble_eq_true rfl) 0 0 0 0 0 0 0 0 0 0 0 0 0 0 (fun _ => 0) (fun _ => 0) (fun _ => 0) (fun _ => 0) (fun _ => 0) (fun _ => 0) (fun _ => 0) (fun _ => 0) (fun _ => 0) (fun _ => 0) (fun _ => 0) (fun _ => 0) (fun _ => 0) (fun _ => 0) (fun _ => 0) (fun _ => 0) (fun _ => 0) (fun _ => 0) (fun _ => 0) (fun _ => 0) (fun _ => 0) (fun _ => 0) (fun _ => 0) (fun _ => 0) 0 0 0 0 0 448 0 0 0 0 1 0 0 0 0 0 (fun _ => 0) (fun _ => 0) (fun _ => 0) (fun _ => 0) (fun _ => 0) (fun _ => 0) (fun _ => 0) (fun _ => 0) (fun _ => 0) (fun _ => 0) (fun _ _ => 0) (fun _ _ => 0) (fun _ => 0) (fun _ => 0) (fun _ => 0) (fun _ => 0) (fun _ => 0) (fun _ => 0) (fun _ => 0) (fun _ => 0) (fun _ => 0) (fun _ => 0) (fun _ => 0) (fun _ => 0) (fun _ => 0) (fun _ => 0) (fun _ => 0) (fun _ => 0) hR H locs2 ls ho (lv_sub hl [4, 3, 2, 1, 0] rfl)
