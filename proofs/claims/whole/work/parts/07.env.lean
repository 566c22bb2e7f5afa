/-! what the machine needs of the start for a throw: the words and statics of Throwable, the texts of the messages -/
def xB : List Cond := xAt.filter (fun w => !goodWord w)
def xK (w : Cond) : Bool := match w with
  | .castable .. => true
  | .declares _ => true
  | _ => false
theorem xB_k : ∀ w ∈ xB, xK w = true := by decide +kernel
theorem xNw_warm {w : Cond} {s U : State} (hk : xK w = true) (hW : s.WarmedH U.vm) (h : va_Nw w s) : va_Nw w U := by
  unfold xK at hk
  split at hk
  · exact va_Nw.warmC hW h
  · exact va_Nw.warmD hW h
  · cases hk
theorem xNw_same {w : Cond} {u U : State} (hk : xK w = true) (hv : u.vm = U.vm) (h : va_Nw w u) : va_Nw w U := by
  unfold xK at hk
  split at hk
  · exact va_Nw.same rfl hv h
  · exact va_Nw.same rfl hv h
  · cases hk
theorem xNw_use {w : Cond} {U : State} {A : Array Value} (hk : xK w = true) (h : va_Nw w U) : w.before A U = true := by
  unfold xK at hk
  split at hk
  · exact va_Nw.use rfl h
  · exact va_Nw.use rfl h
  · cases hk
def xS (U : State) : Prop := (∃ a, vk_R RX10 119 "no such town or minute" a U) ∧ (∃ a, vk_R RX10 141 "no such towns" a U) ∧ (∃ a, vk_R RX10 146 "the clock never shows this" a U) ∧ (∃ a, vk_R RX10 214 "no such town, matter or minute" a U) ∧ (∃ a, vk_R RX10 239 "no such tower or minute" a U) ∧ (∃ a, vk_R RX10 264 "the row has no such number" a U)
theorem xS.warm {s U : State} (hW : s.WarmedH U.vm) (h : xS s) : xS U :=
  ⟨h.1.imp fun _ q => vk_R.warm hW q, h.2.1.imp fun _ q => vk_R.warm hW q, h.2.2.1.imp fun _ q => vk_R.warm hW q, h.2.2.2.1.imp fun _ q => vk_R.warm hW q, h.2.2.2.2.1.imp fun _ q => vk_R.warm hW q, h.2.2.2.2.2.imp fun _ q => vk_R.warm hW q⟩
theorem xS.same {u U : State} (hv : U.vm = u.vm) (h : xS u) : xS U :=
  ⟨h.1.imp fun _ q => vk_R.same hv q, h.2.1.imp fun _ q => vk_R.same hv q, h.2.2.1.imp fun _ q => vk_R.same hv q, h.2.2.2.1.imp fun _ q => vk_R.same hv q, h.2.2.2.2.1.imp fun _ q => vk_R.same hv q, h.2.2.2.2.2.imp fun _ q => vk_R.same hv q⟩
def xE (A : Nat → Prop) (U : State) : Prop := vx_Zq Bundle.tN "UNASSIGNED_STACK" Bundle.steD A U U.heap ∧ vx_Zq Bundle.tN "SUPPRESSED_SENTINEL" Bundle.listD A U U.heap ∧ (∀ w ∈ xB, va_Nw w U) ∧ xS U
theorem xE.call {A : Nat → Prop} {U : State} {g : JFrame} {mk : MethodId} {a : Array Value} (h : xE A U) : xE A (U.calling g mk a) :=
  ⟨vx_Zq.moved (u := U) (U := U.calling g mk a) (Vm.Alike.refl U.vm) h.1, vx_Zq.moved (u := U) (U := U.calling g mk a) (Vm.Alike.refl U.vm) h.2.1, fun w hw => xNw_same (u := U) (xB_k w hw) rfl (h.2.2.1 w hw), xS.same (u := U) rfl h.2.2.2⟩
theorem xE.at {A B : Nat → Prop} {s U : State} {H : Heap} {locs : List Loc} (h : xE A s) (hS : va_S A s.heap H locs) (hB : ∀ q, B q → A q) (hU : U.heap = H) (hW : s.WarmedH U.vm) : xE B U := by
  subst hU
  exact ⟨(vx_Zq.moved hW.alike (h.1.kept hS.2.1)).narrow hB, (vx_Zq.moved hW.alike (h.2.1.kept hS.2.1)).narrow hB, fun w hw => xNw_warm (xB_k w hw) hW (h.2.2.1 w hw), h.2.2.2.warm hW⟩
def xKi (l : Launch) (y : MethodName) (wy : List Cond) (rm : Room) (av : List Value) (D : va_G) (tys : List (ClassId × FieldType)) (ws : va_W) (S : Type) (post : Int32 → S → Prop) (wf : S → va_W) (X : Prop) : Prop :=
  ∀ sz : Nat, vx_Met l y wy rm (va_Pc av (fun U => oPre D tys ws sz U ∧ xE (va_A ws sz) U)) (va_Qi post (fun u t => oPost D tys (va_A ws sz) (wf u) t) (va_A ws sz)) (vx_X (fun _ : Unit => X) (fun E _ t => E = xNse ∧ oPost D tys (va_A ws sz) ws t) (va_A ws sz)) 1 6 (va_A ws sz)
theorem xPre.blind {av : List Value} {D : va_G} {tys : List (ClassId × FieldType)} {ws : va_W} {sz : Nat} {A : Nat → Prop} : FrameBlind (va_Pc av (fun U => oPre D tys ws sz U ∧ xE A U)) :=
  fun a U g mk q => ⟨q.1, ⟨q.2.1.1, q.2.1.2.1, va_K.moved (u := U) (U := U.calling g mk a) (Vm.Alike.refl U.vm) q.2.1.2.2.1, q.2.1.2.2.2.1, nW.same (u := U) (U := U.calling g mk a) rfl q.2.1.2.2.2.2⟩, q.2.2.call⟩
theorem xGood {ik : Nat} : ∀ w ∈ Cond.classLink RX10 117 xNse :: Cond.initialized xNse :: xAt, vx_ot w = true := by decide +kernel
theorem xKi.ofW {l : Launch} (htr : l.stackTraces = false) {y : MethodName} {wy w' : List Cond} {rm : Room} {cc : ByteArray} {maxL : Nat} {av : List Value} {D : va_G} {tys : List (ClassId × FieldType)} {ws : va_W} {S : Type} {wf : S → va_W} {post : Int32 → S → Prop} {X : Prop}
    (hy : plainName y.cls = true) (hyo : y.cls = RX10) (hw : wy = Cond.code y cc maxL (some .int) :: w') (hlen : (lg_sl av).length ≤ maxL)
    (hk : Cond.classLink RX10 117 xNse ∈ wy) (hi : Cond.initialized xNse ∈ wy) (hg : ∀ w ∈ xAt.filter goodWord, w ∈ wy) (hrm : 6 ≤ rm.frames ∧ 82 ≤ rm.locals ∧ rm.cells = 1 ∧ rm.slots = 6)
    (body : ∀ (p : Program) (e : Env) (s : State) (m : MethodId) (args : Array Value) (below : List Frame) (meth : Method) (c : Code) (A : Nat → Prop) (ls : Array Slot) (Z : State → Prop),
      p.tables.exec = Jvm.exec → c.code = cc → c.maxLocals = maxL → s.vm.findClass RX10 = some m.cls → (∀ w ∈ wy, w.before args s = true) → xS s →
      (∀ (v : Int32) (u : S) (H : Heap) (locs : List Loc) (pc : Nat) (ls : Array Slot), decode cc pc = .ok (.ireturn, 1) → oW D tys A s.heap s (wf u) H locs → post v u → W p l e rm s m args below meth c H locs 0 0 Z (F0 m pc ls [.int v])) →
      (∀ (is : Nat) (tx : String) (H : Heap) (locs : List Loc) (pc : Nat) (ls : Array Slot), (∃ a, vk_R RX10 is tx a s) → decode cc pc = .ok (.new 117, 3) → decode cc (pc + 3) = .ok (.dup, 1) → decode cc (pc + 4) = .ok (.ldc is, 2) → decode cc (pc + 6) = .ok (.invokespecial 121, 3) → decode cc (pc + 9) = .ok (.athrow, 1) → ls.size = maxL → oW D tys A s.heap s ws H locs → X → W p l e rm s m args below meth c H locs 0 0 Z (F0 m pc ls [])) →
      (∀ (is : Nat) (tx : String) (H : Heap) (locs : List Loc) (pc : Nat) (ls : Array Slot), (∃ a, vk_R RX10 is tx a s) → decode cc pc = .ok (.new 117, 3) → decode cc (pc + 3) = .ok (.dup, 1) → decode cc (pc + 4) = .ok (.ldc_w is, 3) → decode cc (pc + 7) = .ok (.invokespecial 121, 3) → decode cc (pc + 10) = .ok (.athrow, 1) → ls.size = maxL → oW D tys A s.heap s ws H locs → X → W p l e rm s m args below meth c H locs 0 0 Z (F0 m pc ls [])) →
      oW D tys A s.heap s ws s.heap [] → lv_has ls maxL (lv_args 0 av) →
      W p l e rm s m args below meth c s.heap [] 0 0 Z (F0 m 0 ls [])) : xKi l y wy rm av D tys ws S post wf X := by
  intro sz
  refine vx_ofW (cc := cc) (maxL := maxL) (ret := some .int) hy hw ?_
  intro p e s m args below meth c s₁ B hml htab hv
  obtain ⟨rfl, ⟨hsz, hP, hK, hD0, hN⟩, hE⟩ := hv
  have hr := B.returns
  have hown : s.vm.findClass RX10 = some m.cls := by rw [← hyo]; exact findClass_of_methodNamed B.named
  have hlocks := B.notSynchronized
  subst hsz
  have hl := lv_entry av (n := maxL) hlen
  rw [lg_entry_eq]
  have hts := atoms_spec (ws := wy) B.pre
  have hat : ∀ w ∈ xAt, w.before av.toArray s = true := vx_hat (B := xB) (fun w h => hts w (hg w h)) (fun w h => h) (fun w h => xNw_use (xB_k w h) (hE.2.2.1 w h))
  have hxx : ∀ (H : Heap) (locs : List Loc), oW D tys (va_A ws s.heap.size) s.heap s ws H locs → X → ∀ t : State, s.vm.Alike t.vm → H.size ≤ t.heap.size → (∀ q : Nat, q < H.size → t.heap[q]? = H[q]?) → vx_X (fun _ : Unit => X) (fun E _ t => E = xNse ∧ oPost D tys (va_A ws s.heap.size) ws t) (va_A ws s.heap.size) xNse s t := by
    intro H locs ho hX t hvm hz hq
    exact ⟨(), hX, ⟨rfl, ho.2.2.1.kept (fun k x hx => hq x.1 ((ho.2.2.1 k x hx).lt)), va_K.moved hvm ho.1, ho.2.2.2.1⟩, Nat.le_trans ho.2.2.2.2.1.1 hz, fun q h1 h2 => by rw [hq q (Nat.lt_of_lt_of_le h1 ho.2.2.2.2.1.1)]; exact ho.2.2.2.2.1.2.1 q h1 h2⟩
  refine body p e s m av.toArray below meth c (va_A ws s.heap.size) _ _ B.exec B.bytes hml hown hts hE.2.2.2
    (fun v u H locs pc ls hdg ho hp => vx_ret (W.widen (Nat.zero_le 1) (Nat.zero_le 6) (W.iret (v := v) B.exec B.bytes hr (fun t ht hW => ⟨⟨v, u, rfl, hp, by rw [ht]; exact ho.2.2.1, va_K.moved hW.alike ho.1, ho.2.2.2.1⟩, ho.2.2.2.2.1.F ht⟩) ho.2.2.2.2.1.2.2 hdg hlocks)))
    (fun is tx H locs pc ls hs d0 d3 d4 d6 d9 hsz ho hX => ?_) (fun is tx H locs pc ls hs d0 d3 d4 d7 d10 hsz ho hX => ?_)
    ⟨hK, hN, hP, hD0.self (sz := s.heap.size), va_S.rf, fun q h => Or.inr h⟩ hl
  · obtain ⟨sa, hsa⟩ := hs
    exact x_throwS (text := tx) (A := va_A ws s.heap.size) B.exec B.bytes htr hown (hts _ hk) (hts _ hi) hsa hat (xGood (ik := 0)) hE.1 hE.2.1 ho.2.2.2.2.1 (hsz.trans hml.symm) d0 d3 d4 d6 d9 (fun x hx => (htab x hx).elim)
      (by have := hrm.1; omega) (by have := hrm.2.1; show 0 + 82 ≤ rm.locals; omega) (by show 0 + 1 ≤ rm.cells; rw [hrm.2.2.1]; exact Nat.le_refl _) (by show 0 + 6 ≤ rm.slots; rw [hrm.2.2.2]; exact Nat.le_refl _) hlocks (hxx H locs ho hX) ho.2.2.2.2.1.2.2 (Nat.le_refl _) (Nat.le_refl _)
  · obtain ⟨sa, hsa⟩ := hs
    exact x_throwSW (text := tx) (A := va_A ws s.heap.size) B.exec B.bytes htr hown (hts _ hk) (hts _ hi) hsa hat (xGood (ik := 0)) hE.1 hE.2.1 ho.2.2.2.2.1 (hsz.trans hml.symm) d0 d3 d4 d7 d10 (fun x hx => (htab x hx).elim)
      (by have := hrm.1; omega) (by have := hrm.2.1; show 0 + 82 ≤ rm.locals; omega) (by show 0 + 1 ≤ rm.cells; rw [hrm.2.2.1]; exact Nat.le_refl _) (by show 0 + 6 ≤ rm.slots; rw [hrm.2.2.2]; exact Nat.le_refl _) hlocks (hxx H locs ho hX) ho.2.2.2.2.1.2.2 (Nat.le_refl _) (Nat.le_refl _)
