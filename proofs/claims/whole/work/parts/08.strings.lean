/-! the reference's string constants, as they lie at the start; contracts of methods that read them -/
def sR (adK : Nat → Nat) (U : State) : Prop := vk_R RX11 203 "abcdef" (adK 0) U ∧ vk_R RX11 209 "=" (adK 1) U ∧ vk_R RX11 211 "lcz" (adK 2) U ∧ vk_R RX11 213 "+-" (adK 3) U ∧ vk_R RX11 215 "0123456789" (adK 4) U ∧ vk_R RX11 220 ";" (adK 5) U
theorem sR.warm {adK : Nat → Nat} {s U : State} (hW : s.WarmedH U.vm) (h : sR adK s) : sR adK U := ⟨vk_R.warm hW h.1, vk_R.warm hW h.2.1, vk_R.warm hW h.2.2.1, vk_R.warm hW h.2.2.2.1, vk_R.warm hW h.2.2.2.2.1, vk_R.warm hW h.2.2.2.2.2⟩
theorem sR.same {adK : Nat → Nat} {u U : State} (hv : U.vm = u.vm) (h : sR adK u) : sR adK U := ⟨vk_R.same hv h.1, vk_R.same hv h.2.1, vk_R.same hv h.2.2.1, vk_R.same hv h.2.2.2.1, vk_R.same hv h.2.2.2.2.1, vk_R.same hv h.2.2.2.2.2⟩
def sE (adK adV : Nat → Nat) (A : Nat → Prop) (U : State) : Prop := vk_S 6 sLen sByt adK adV A U U.heap ∧ va_Z "java/lang/String" "COMPACT_STRINGS" "Z" (.int 1) A U U.heap ∧ sR adK U
theorem sE.call {adK adV : Nat → Nat} {A : Nat → Prop} {U : State} {g : JFrame} {mk : MethodId} {a : Array Value} (h : sE adK adV A U) : sE adK adV A (U.calling g mk a) :=
  ⟨vk_S.moved (u := U) (U := U.calling g mk a) (Vm.Alike.refl U.vm) h.1, va_Z.moved (u := U) (U := U.calling g mk a) (Vm.Alike.refl U.vm) h.2.1, sR.same (u := U) rfl h.2.2⟩
theorem sE.at {adK adV : Nat → Nat} {A B : Nat → Prop} {s U : State} {H : Heap} {locs : List Loc} (h : sE adK adV A s) (hS : va_S A s.heap H locs) (hB : ∀ q, B q → A q) (hU : U.heap = H) (hW : s.WarmedH U.vm) : sE adK adV B U := by
  subst hU
  exact ⟨(vk_S.moved hW.alike (h.1.kept hS.2.1)).narrow hB, (va_Z.moved hW.alike (h.2.1.kept hS.2.1)).narrow hB, h.2.2.warm hW⟩
def sKi (l : Launch) (y : MethodName) (wy : List Cond) (rm : Room) (adK adV : Nat → Nat) (av : List Value) (D : va_G) (tys : List (ClassId × FieldType)) (ws : va_W) (S : Type) (post : Int32 → S → Prop) (wf : S → va_W) : Prop :=
  ∀ sz : Nat, Met l y wy rm (va_Pc av (fun U => oPre D tys ws sz U ∧ sE adK adV (va_A ws sz) U)) (va_Qi post (fun u t => oPost D tys (va_A ws sz) (wf u) t) (va_A ws sz)) 0 0 (va_A ws sz)
theorem sPre.blind {adK adV : Nat → Nat} {av : List Value} {D : va_G} {tys : List (ClassId × FieldType)} {ws : va_W} {sz : Nat} {A : Nat → Prop} : FrameBlind (va_Pc av (fun U => oPre D tys ws sz U ∧ sE adK adV A U)) :=
  fun a U g mk q => ⟨q.1, ⟨q.2.1.1, q.2.1.2.1, va_K.moved (u := U) (U := U.calling g mk a) (Vm.Alike.refl U.vm) q.2.1.2.2.1, q.2.1.2.2.2.1, nW.same (u := U) (U := U.calling g mk a) rfl q.2.1.2.2.2.2⟩, q.2.2.call⟩
section SB1
variable {l : Launch} {y : MethodName} {wy w' : List Cond} {rm : Room} {cc : ByteArray} {maxL : Nat} {adK adV : Nat → Nat} {av : List Value} {D : va_G} {tys : List (ClassId × FieldType)} {ws : va_W} {S : Type} {wf : S → va_W} {own : String} {ty : FieldType}
theorem sKi.ofW {post : Int32 → S → Prop} (hy : plainFor y = true) (hyo : y.cls = own) (hw : wy = Cond.code y cc maxL (some .int) :: w') (hlen : (lg_sl av).length ≤ maxL)
    (body : ∀ (p : Program) (e : Env) (s : State) (m : MethodId) (args : Array Value) (below : List Frame) (meth : Method) (c : Code) (A : Nat → Prop) (ls : Array Slot) (Z : State → Prop),
      p.tables.exec = Jvm.exec → c.code = cc → c.maxLocals = maxL → s.vm.findClass own = some m.cls → (∀ w ∈ wy, w.before args s = true) → sE adK adV A s →
      (∀ (v : Int32) (u : S) (H : Heap) (locs : List Loc) (pc : Nat) (ls : Array Slot), decode cc pc = .ok (.ireturn, 1) → oW D tys A s.heap s (wf u) H locs → post v u → W p l e rm s m args below meth c H locs 0 0 Z (F0 m pc ls [.int v])) →
      oW D tys A s.heap s ws s.heap [] → lv_has ls maxL (lv_args 0 av) →
      W p l e rm s m args below meth c s.heap [] 0 0 Z (F0 m 0 ls [])) : sKi l y wy rm adK adV av D tys ws S post wf := by
  intro sz
  refine Met.ofWF (cc := cc) (maxL := maxL) (ret := some .int) hy hw ?_
  intro p e s m args below meth c s₁ B hml hv
  obtain ⟨rfl, ⟨hsz, hP, hK, hD0, hN⟩, hE⟩ := hv
  have hr := B.returns
  have hown : s.vm.findClass own = some m.cls := by rw [← hyo]; exact findClass_of_methodNamed B.named
  have hlocks := B.notSynchronized
  subst hsz
  have hl := lv_entry av (n := maxL) hlen
  rw [lg_entry_eq]
  exact body p e s m av.toArray below meth c _ _ _ B.exec B.bytes hml hown (atoms_spec (ws := wy) B.pre) hE
    (fun v u H locs pc ls hdg ho hp => W.iret (v := v) B.exec B.bytes hr (fun t ht hW => ⟨⟨v, u, rfl, hp, by rw [ht]; exact ho.2.2.1, va_K.moved hW.alike ho.1, ho.2.2.2.1⟩, ho.2.2.2.2.1.F ht⟩) ho.2.2.2.2.1.2.2 hdg hlocks)
    ⟨hK, hN, hP, hD0.self (sz := s.heap.size), va_S.rf, fun q h => Or.inr h⟩ hl
theorem sKi.ofWz {post : Int32 → S → Prop} (hty : ty = .boolean ∨ ty = .byte) (hy : plainFor y = true) (hyo : y.cls = own) (hw : wy = Cond.code y cc maxL (some ty) :: w') (hlen : (lg_sl av).length ≤ maxL)
    (body : ∀ (p : Program) (e : Env) (s : State) (m : MethodId) (args : Array Value) (below : List Frame) (meth : Method) (c : Code) (A : Nat → Prop) (ls : Array Slot) (Z : State → Prop),
      p.tables.exec = Jvm.exec → c.code = cc → c.maxLocals = maxL → s.vm.findClass own = some m.cls → (∀ w ∈ wy, w.before args s = true) → sE adK adV A s →
      (∀ (v : Int32) (u : S) (H : Heap) (locs : List Loc) (pc : Nat) (ls : Array Slot), decode cc pc = .ok (.ireturn, 1) → (v = 0 ∨ v = 1) → oW D tys A s.heap s (wf u) H locs → post v u → W p l e rm s m args below meth c H locs 0 0 Z (F0 m pc ls [.int v])) →
      oW D tys A s.heap s ws s.heap [] → lv_has ls maxL (lv_args 0 av) →
      W p l e rm s m args below meth c s.heap [] 0 0 Z (F0 m 0 ls [])) : sKi l y wy rm adK adV av D tys ws S post wf := by
  intro sz
  refine Met.ofWF (cc := cc) (maxL := maxL) (ret := some ty) hy hw ?_
  intro p e s m args below meth c s₁ B hml hv
  obtain ⟨rfl, ⟨hsz, hP, hK, hD0, hN⟩, hE⟩ := hv
  have hr := B.returns
  have hown : s.vm.findClass own = some m.cls := by rw [← hyo]; exact findClass_of_methodNamed B.named
  have hlocks := B.notSynchronized
  subst hsz
  have hl := lv_entry av (n := maxL) hlen
  rw [lg_entry_eq]
  exact body p e s m av.toArray below meth c _ _ _ B.exec B.bytes hml hown (atoms_spec (ws := wy) B.pre) hE
    (fun v u H locs pc ls hdg hn ho hp => W.zret (v := v) B.exec B.bytes hr (by rcases hty with rfl | rfl <;> rcases hn with rfl | rfl <;> rfl) (fun t ht hW => ⟨⟨v, u, rfl, hp, by rw [ht]; exact ho.2.2.1, va_K.moved hW.alike ho.1, ho.2.2.2.1⟩, ho.2.2.2.2.1.F ht⟩) ho.2.2.2.2.1.2.2 hdg hlocks)
    ⟨hK, hN, hP, hD0.self (sz := s.heap.size), va_S.rf, fun q h => Or.inr h⟩ hl
end SB1
section SB2
variable {p : Program} {l : Launch} {e : Env} {R : Room} {s : State} {m : MethodId} {args : Array Value} {below : List Frame} {meth : Method} {c : Code} {H : Heap} {locs : List Loc} {cells slots : Nat} {Q : State → Prop}
variable {cc : ByteArray} {pc : Nat} {ls : Array Slot} {rest : List Value} {D : va_G} {A : Nat → Prop} {a : Nat} {tys : List (ClassId × FieldType)} {ws : va_W} {S : Type} {wf : S → va_W} {av : List Value} {u : S} {adK adV : Nat → Nat}
variable {Ts : List Cond} {own C : String} {nL index n maxL ci : Nat} {T : u_T} {N : Nat} {y : MethodName} {wy : List Cond} {rm : Room} {bytes : ByteArray} {ret : Option FieldType} {As st0 : List Value} {b : Nat} {fs : List Value}
theorem s_callVi {post : Int32 → S → Prop} (C0 : CallFix p m c cc nL s args Ts own) (hE : sE adK adV A s) (ho : oW D tys A s.heap s ws H locs) (hM : sKi l y wy rm adK adV (.ref b :: As) D tys ws S post wf) (cw : CallW R s args own C index y bytes maxL ret wy rm 0 0 n)
    (hrc : ∃ cell : Cell, H[b]? = some cell ∧ cell.vm.isStatics = false ∧ s.vm.findClass C = some cell.cls) (hn : As.length = n) (hsize : ls.size = nL) (hstack : st0 = As.reverse ++ .ref b :: rest) (hroom : (rest.map fun v => v.category).sum ≤ 8) (hdg : decode cc pc = .ok (.invokevirtual index, 3)) (hcs : cells ≤ R.cells ∧ slots ≤ R.slots)
    (kk : ∀ (r : Int32) (u : S) (H1 : Heap) (locs1 : List Loc), post r u → oW D tys A s.heap s (wf u) H1 locs1 → W p l e R s m args below meth c H1 locs1 cells slots Q (F0 m (pc + 3) ls (.int r :: rest))) : W p l e R s m args below meth c H locs cells slots Q (F0 m pc ls st0) :=
  va_calli (va_runV (As := As) (rest := rest) C0 (hM H.size) cw ⟨sPre.blind, hrc, fun U hU hW => ⟨rfl, oPre.at ho U hU hW, hE.at ho.2.2.2.2.1 (oFc ho) hU hW⟩⟩ rfl hn hsize hstack (lv_room hroom) hdg hcs) ho.2.2.2.2.1 (fun q _ h => oFc ho q h) (oFc ho) (fun r u _ H1 locs1 ht _ hw hB _ _ hS => kk r u H1 locs1 hw (oPost.on ho ht hB hS))
theorem s_callSi {post : Int32 → S → Prop} (C0 : CallFix p m c cc nL s args Ts own) (hE : sE adK adV A s) (ho : oW D tys A s.heap s ws H locs) (hM : sKi l y wy rm adK adV As D tys ws S post wf) (cw : CallB R s args own index y bytes maxL ret wy rm 0 0 n ∧ (Cond.static y).before args s = true)
    (hn : As.length = n) (hsize : ls.size = nL) (hstack : st0 = As.reverse ++ rest) (hroom : (rest.map fun v => v.category).sum ≤ 8) (hdg : decode cc pc = .ok (.invokestatic index, 3)) (hcs : cells ≤ R.cells ∧ slots ≤ R.slots)
    (kk : ∀ (r : Int32) (u : S) (H1 : Heap) (locs1 : List Loc), post r u → oW D tys A s.heap s (wf u) H1 locs1 → W p l e R s m args below meth c H1 locs1 cells slots Q (F0 m (pc + 3) ls (.int r :: rest))) : W p l e R s m args below meth c H locs cells slots Q (F0 m pc ls st0) :=
  va_calli (va_runS (As := As) (rest := rest) C0 (hM H.size) cw ⟨sPre.blind, fun U hU hW => ⟨rfl, oPre.at ho U hU hW, hE.at ho.2.2.2.2.1 (oFc ho) hU hW⟩⟩ rfl hn hsize hstack (lv_room hroom) hdg hcs) ho.2.2.2.2.1 (fun q _ h => oFc ho q h) (oFc ho) (fun r u _ H1 locs1 ht _ hw hB _ _ hS => kk r u H1 locs1 hw (oPost.on ho ht hB hS))
end SB2
