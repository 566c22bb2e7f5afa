/-! the frame rule for whole contracts: other cells beside a world stay as they are -/
theorem vaP_iff {D : va_G} {cl : List vw_C} {ws : va_W} {H : Heap} : va_P D cl ws H ↔ ∀ q ∈ ws, va_at D cl q H :=
  ⟨fun h q hq => by obtain ⟨k, hk⟩ := List.getElem?_of_mem hq; exact h k q hk, fun h k q hk => h q (List.mem_of_getElem? hk)⟩
theorem vaD_iff {A : Nat → Prop} {ws : va_W} : va_D A ws ↔ (ws.map (fun q => q.1)).Nodup ∧ ∀ q ∈ ws, A q.1 := by
  constructor
  · intro h
    refine ⟨?_, fun q hq => by obtain ⟨k, hk⟩ := List.getElem?_of_mem hq; exact h.2 k q hk⟩
    rw [List.Nodup, List.pairwise_iff_getElem]
    intro i j hi hj hij he
    have hi' : i < ws.length := by simpa using hi
    have hj' : j < ws.length := by simpa using hj
    have := h.1 i j ws[i] ws[j] (List.getElem?_eq_getElem hi') (List.getElem?_eq_getElem hj') (by simpa using he)
    omega
  · intro ⟨h1, h2⟩
    refine ⟨?_, fun k q hk => h2 q (List.mem_of_getElem? hk)⟩
    intro i j p q hi hj he
    rw [List.Nodup, List.pairwise_iff_getElem] at h1
    obtain ⟨hi', ei⟩ := List.getElem?_eq_some_iff.mp hi
    obtain ⟨hj', ej⟩ := List.getElem?_eq_some_iff.mp hj
    rcases Nat.lt_trichotomy i j with hlt | heq | hgt
    · refine absurd ?_ (h1 i j (by simpa using hi') (by simpa using hj') hlt)
      rw [List.getElem_map, List.getElem_map, ei, ej]
      exact he
    · exact heq
    · refine absurd ?_ (h1 j i (by simpa using hj') (by simpa using hi') hgt)
      rw [List.getElem_map, List.getElem_map, ei, ej]
      exact he.symm
theorem vaA_iff {ws : va_W} {sz q : Nat} : va_A ws sz q ↔ (∃ e, (q, e) ∈ ws) ∨ sz ≤ q := by
  constructor
  · rintro (⟨k, e, h⟩ | h)
    · exact Or.inl ⟨e, List.mem_of_getElem? h⟩
    · exact Or.inr h
  · rintro (⟨e, h⟩ | h)
    · obtain ⟨k, hk⟩ := List.getElem?_of_mem h
      exact Or.inl ⟨k, e, hk⟩
    · exact Or.inr h
section FR
variable {D : va_G} {t tys : List (ClassId × FieldType)} {w1 ws w2 wn : va_W} {sz : Nat} {U st t0 : State}
theorem fr_A {q : Nat} (h : va_A ws sz q) : va_A (w1 ++ (ws ++ w2)) sz q := by
  rcases vaA_iff.mp h with ⟨e, he⟩ | h
  · exact vaA_iff.mpr (Or.inl ⟨e, List.mem_append_right _ (List.mem_append_left _ he)⟩)
  · exact Or.inr h
theorem fr_pre (js : List Nat) (hj : js.filterMap (fun i => t[i]?) = tys) (h : oPre D t (w1 ++ (ws ++ w2)) sz U) : oPre D tys ws sz U := by
  obtain ⟨hs, hP, hK, hD, hN⟩ := h
  refine ⟨hs, vaP_iff.mpr (fun q hq => vaP_iff.mp hP q (List.mem_append_right _ (List.mem_append_left _ hq))), hK.sub js hj, ?_, hN⟩
  have h1 := (vaD_iff.mp hD).1
  rw [List.map_append, List.map_append] at h1
  exact vaD_iff.mpr ⟨(List.nodup_append.mp (List.nodup_append.mp h1).2.1).1, fun _ _ => trivial⟩
theorem fr_on (hst : oPre D t (w1 ++ (ws ++ w2)) sz st) (hF : va_F (va_A ws sz) st t0) (hW : st.vm.Alike t0.vm) (hB : oPost D tys (va_A ws sz) wn t0) : oPost D t (va_A (w1 ++ (ws ++ w2)) sz) (w1 ++ (wn ++ w2)) t0 := by
  obtain ⟨hs, hP, hK, hD, hN⟩ := hst
  obtain ⟨hP1, hK1, hD1⟩ := hB
  have hP' := vaP_iff.mp hP
  have h1 := (vaD_iff.mp hD).1
  have hd1 := vaD_iff.mp hD1
  rw [List.map_append, List.map_append] at h1
  have n1 := List.nodup_append.mp h1
  have n2 := List.nodup_append.mp n1.2.1
  have lt : ∀ q ∈ w1 ++ (ws ++ w2), q.1 < sz := fun q hq => by rw [← hs]; exact (hP' q hq).lt
  have out1 : ∀ q ∈ w1, ¬ va_A ws sz q.1 := by
    intro q hq h
    rcases vaA_iff.mp h with ⟨e, he⟩ | h
    · have he' : q.1 ∈ ws.map (fun q => q.1) := List.mem_map.mpr ⟨(q.1, e), he, rfl⟩
      exact n1.2.2 q.1 (List.mem_map_of_mem hq) q.1 (List.mem_append_left _ he') rfl
    · have := lt q (List.mem_append_left _ hq); omega
  have out2 : ∀ q ∈ w2, ¬ va_A ws sz q.1 := by
    intro q hq h
    rcases vaA_iff.mp h with ⟨e, he⟩ | h
    · have he' : q.1 ∈ ws.map (fun q => q.1) := List.mem_map.mpr ⟨(q.1, e), he, rfl⟩
      exact n2.2.2 q.1 he' q.1 (List.mem_map_of_mem hq) rfl
    · have := lt q (List.mem_append_right _ (List.mem_append_right _ hq)); omega
  have kept : ∀ q ∈ w1 ++ (ws ++ w2), ¬ va_A ws sz q.1 → va_at D vwCl q t0.heap := fun q hq hn => (hP' q hq).kept (hF.2 q.1 (by rw [hs]; exact lt q hq) hn)
  refine ⟨vaP_iff.mpr ?_, va_K.moved hW hK, vaD_iff.mpr ⟨?_, ?_⟩⟩
  · intro q hq
    rcases List.mem_append.mp hq with h | h
    · exact kept q (List.mem_append_left _ h) (out1 q h)
    · rcases List.mem_append.mp h with h | h
      · exact vaP_iff.mp hP1 q h
      · exact kept q (List.mem_append_right _ (List.mem_append_right _ h)) (out2 q h)
  · rw [List.map_append, List.map_append]
    refine List.nodup_append.mpr ⟨n1.1, List.nodup_append.mpr ⟨hd1.1, n2.2.1, ?_⟩, ?_⟩
    · intro a ha b hb hab
      obtain ⟨x, hx, rfl⟩ := List.mem_map.mp ha
      obtain ⟨y, hy, rfl⟩ := List.mem_map.mp hb
      exact out2 y hy (by rw [← hab]; exact hd1.2 x hx)
    · intro a ha b hb hab
      obtain ⟨x, hx, rfl⟩ := List.mem_map.mp ha
      rcases List.mem_append.mp hb with hb | hb
      · obtain ⟨y, hy, rfl⟩ := List.mem_map.mp hb
        exact out1 x hx (by rw [hab]; exact hd1.2 y hy)
      · exact n1.2.2 x.1 (List.mem_map_of_mem hx) b (List.mem_append_right _ hb) hab
  · intro q hq
    rcases List.mem_append.mp hq with h | h
    · exact vaA_iff.mpr (Or.inl ⟨q.2, List.mem_append_left _ h⟩)
    · rcases List.mem_append.mp h with h | h
      · exact fr_A (hd1.2 q h)
      · exact vaA_iff.mpr (Or.inl ⟨q.2, List.mem_append_right _ (List.mem_append_right _ h)⟩)
theorem fr_F (h : va_F (va_A ws sz) st t0) : va_F (va_A (w1 ++ (ws ++ w2)) sz) st t0 := ⟨h.1, fun q h1 h2 => h.2 q h1 (fun h3 => h2 (fr_A h3))⟩
end FR
theorem sE.narrow {adK adV : Nat → Nat} {A B : Nat → Prop} {U : State} (h : sE adK adV A U) (hB : ∀ q, B q → A q) : sE adK adV B U := ⟨h.1.narrow hB, h.2.1.narrow hB, h.2.2⟩
theorem xE.narrow {A B : Nat → Prop} {U : State} (h : xE A U) (hB : ∀ q, B q → A q) : xE B U := ⟨h.1.narrow hB, h.2.1.narrow hB, h.2.2⟩
section FR2
variable {l : Launch} {y : MethodName} {wy : List Cond} {rm : Room} {av : List Value} {D : va_G} {t tys : List (ClassId × FieldType)} {ws : va_W} {S : Type} {wf : S → va_W} {adK adV : Nat → Nat}
theorem oKi.fr {post : Int32 → S → Prop} (w1 w2 : va_W) (js : List Nat) (hj : js.filterMap (fun i => t[i]?) = tys) (h : oKi l y wy rm av D tys ws S post wf) : oKi l y wy rm av D t (w1 ++ (ws ++ w2)) S post (fun u => w1 ++ (wf u ++ w2)) := by
  intro sz p e ha hc hk s m args below hf happ hP hK
  obtain ⟨n, o, h1, h2, h3, ⟨⟨r, u, ho, hp, hB⟩, hF⟩, L, hFE, hL⟩ := h sz p e ha hc hk s m args below hf happ ⟨hP.1, fr_pre js hj hP.2⟩ hK
  exact ⟨n, o, h1, h2, h3, ⟨⟨r, u, ho, hp, fr_on hP.2 hF hFE.2.1.alike hB⟩, fr_F hF⟩, L, hFE, fun q hq => fr_A (hL q hq)⟩
theorem sKi.fr {post : Int32 → S → Prop} (w1 w2 : va_W) (js : List Nat) (hj : js.filterMap (fun i => t[i]?) = tys) (h : sKi l y wy rm adK adV av D tys ws S post wf) : sKi l y wy rm adK adV av D t (w1 ++ (ws ++ w2)) S post (fun u => w1 ++ (wf u ++ w2)) := by
  intro sz p e ha hc hk s m args below hf happ hP hK
  obtain ⟨n, o, h1, h2, h3, ⟨⟨r, u, ho, hp, hB⟩, hF⟩, L, hFE, hL⟩ := h sz p e ha hc hk s m args below hf happ ⟨hP.1, fr_pre js hj hP.2.1, hP.2.2.narrow (fun _ h => fr_A h)⟩ hK
  exact ⟨n, o, h1, h2, h3, ⟨⟨r, u, ho, hp, fr_on hP.2.1 hF hFE.2.1.alike hB⟩, fr_F hF⟩, L, hFE, fun q hq => fr_A (hL q hq)⟩
theorem xKi.fr {post : Int32 → S → Prop} {X : Prop} (w1 w2 : va_W) (js : List Nat) (hj : js.filterMap (fun i => t[i]?) = tys) (h : xKi l y wy rm av D tys ws S post wf X) : xKi l y wy rm av D t (w1 ++ (ws ++ w2)) S post (fun u => w1 ++ (wf u ++ w2)) X := by
  intro sz p e ha hc hk s m args below hf happ hP hK
  obtain ⟨n, o, h1, h2, h3, hQ⟩ := h sz p e ha hc hk s m args below hf happ ⟨hP.1, fr_pre js hj hP.2.1, hP.2.2.narrow (fun _ h => fr_A h)⟩ hK
  refine ⟨n, o, h1, h2, h3, ?_⟩
  rcases hQ with ⟨⟨⟨r, u, ho, hp, hB⟩, hF⟩, L, hFE, hL⟩ | ⟨q, ho, E, ce, L, ⟨u, hu, ⟨hE, hB⟩, hF⟩, g1, g2, g3, g4, g5, g6⟩
  · exact Or.inl ⟨⟨⟨r, u, ho, hp, fr_on hP.2.1 hF hFE.2.1.alike hB⟩, fr_F hF⟩, L, hFE, fun q hq => fr_A (hL q hq)⟩
  · exact Or.inr ⟨q, ho, E, ce, L, ⟨u, hu, ⟨hE, fr_on hP.2.1 hF g4.alike hB⟩, fr_F hF⟩, g1, g2, g3, g4, g5, fun z hz => fr_A (g6 z hz)⟩
end FR2
