/-! the law's own static methods: a call of the class within a try, its answer into a long array -/
def tKi (l : Launch) (y : MethodName) (wy : List Cond) (rm : Room) (av : List Value) (D : va_G) (tys : List (ClassId × FieldType)) (ws : va_W) (S : Type) (post : Int32 → S → Prop) (wf : S → va_W) : Prop :=
  ∀ sz : Nat, Met l y wy rm (va_Pc av (fun U => oPre D tys ws sz U ∧ xE (va_A ws sz) U)) (va_Qi post (fun u t => oPost D tys (va_A ws sz) (wf u) t) (va_A ws sz)) 1 6 (va_A ws sz)
theorem Met.ofWH {l : Launch} {y : MethodName} {ws ws' : List Cond} {rm : Room} {Pc : Array Value → State → Prop} {Qc : Array Value → State → Outcome → State → Prop} {mc ms : Nat} {free : Addr → Prop} {cc : ByteArray} {maxL : Nat} {ret : Option FieldType} {hh : List (Nat × Nat × Nat × Nat)}
    (hy : plainName y.cls = true) (hw : ws = Cond.codeWith y cc maxL ret hh :: ws')
    (body : ∀ p e s m args below meth c s₁, BodyLoose p l y (headSpec ws rm) cc maxL ret e s m args below meth c s₁ → c.maxLocals = maxL → Pc args s →
      W p l e (headSpec ws rm).room s m args below meth c s.heap [] 0 0 (MQ below Qc args s mc ms free) (entryFrame m args maxL)) : Met l y ws rm Pc Qc mc ms free := by
  refine MetFree.of_bodyS (code := cc) (maxLocals := maxL) (ret := ret) hy ?_ ?_
  · intro args s m h hn
    obtain ⟨m9, meth, c, hn9, h1, h2, h3, h4, -, h5, h6, -⟩ := Cond.codeWith_spec (atoms_spec (ws := ws) h _ (by rw [hw]; exact List.mem_cons_self))
    cases hn.symm.trans hn9
    exact ⟨meth, c, h1, h2, h3, h4, h5, h6⟩
  · intro p e s m args below meth c s₁ B hml hP _
    have hh0 : s₁.heap = s.heap := by rw [B.state]; rfl
    obtain ⟨t, a1, o, b1, b2, b3⟩ := body p e s m args below meth c s₁ B hml hP s₁ hh0 (Stand.of_body B)
    exact ⟨t, o, a1, b1, b2, ⟨b3.1, b3.2⟩⟩
theorem tKi.ofW {l : Launch} {y : MethodName} {wy w' : List Cond} {rm : Room} {cc : ByteArray} {maxL : Nat} {av : List Value} {D : va_G} {tys : List (ClassId × FieldType)} {ws : va_W} {S : Type} {wf : S → va_W} {own : String} {post : Int32 → S → Prop} {hh : List (Nat × Nat × Nat × Nat)}
    (hy : plainName y.cls = true) (hyo : y.cls = own) (hw : wy = Cond.codeWith y cc maxL (some .int) hh :: w') (hlen : (lg_sl av).length ≤ maxL)
    (body : ∀ (p : Program) (e : Env) (s : State) (m : MethodId) (args : Array Value) (below : List Frame) (meth : Method) (c : Code) (A : Nat → Prop) (ls : Array Slot) (Z : State → Prop),
      p.tables.exec = Jvm.exec → c.code = cc → c.maxLocals = maxL → s.vm.findClass own = some m.cls → (∀ w ∈ wy, w.before args s = true) → xE A s → c.exceptionTable.toList = tableOf hh →
      (∀ (v : Int32) (u : S) (H : Heap) (locs : List Loc) (pc : Nat) (ls : Array Slot), decode cc pc = .ok (.ireturn, 1) → oW D tys A s.heap s (wf u) H locs → post v u → W p l e rm s m args below meth c H locs 1 6 Z (F0 m pc ls [.int v])) →
      oW D tys A s.heap s ws s.heap [] → lv_has ls maxL (lv_args 0 av) →
      W p l e rm s m args below meth c s.heap [] 0 0 Z (F0 m 0 ls [])) : tKi l y wy rm av D tys ws S post wf := by
  intro sz
  refine Met.ofWH (cc := cc) (maxL := maxL) (ret := some .int) (hh := hh) hy hw ?_
  intro p e s m args below meth c s₁ B hml hv
  obtain ⟨rfl, ⟨hsz, hP, hK, hD0, hN⟩, hE⟩ := hv
  have hr := B.returns
  have hown : s.vm.findClass own = some m.cls := by rw [← hyo]; exact findClass_of_methodNamed B.named
  have hlocks := B.notSynchronized
  subst hsz
  have hl := lv_entry av (n := maxL) hlen
  rw [lg_entry_eq]
  have hts := atoms_spec (ws := wy) B.pre
  exact body p e s m av.toArray below meth c _ _ _ B.exec B.bytes hml hown hts hE (vx_table (x := y) B (hts _ (by rw [hw]; exact List.mem_cons_self)))
    (fun v u H locs pc ls hdg ho hp => W.iret (v := v) B.exec B.bytes hr (fun t ht hW => ⟨⟨v, u, rfl, hp, by rw [ht]; exact ho.2.2.1, va_K.moved hW.alike ho.1, ho.2.2.2.1⟩, ho.2.2.2.2.1.F ht⟩) ho.2.2.2.2.1.2.2 hdg hlocks)
    ⟨hK, hN, hP, hD0.self (sz := s.heap.size), va_S.rf, fun q h => Or.inr h⟩ hl
theorem tKi.frL {l : Launch} {y : MethodName} {wy : List Cond} {rm : Room} {av : List Value} {D : va_G} {t tys : List (ClassId × FieldType)} {ws : va_W} {S : Type} {wf : S → va_W} {post : Int32 → S → Prop} (w1 : va_W) (js : List Nat) (hj : js.filterMap (fun i => t[i]?) = tys) (h : tKi l y wy rm av D tys ws S post wf) : tKi l y wy rm av D t (w1 ++ ws) S post (fun u => w1 ++ wf u) := by
  have key : tKi l y wy rm av D t (w1 ++ (ws ++ [])) S post (fun u => w1 ++ (wf u ++ [])) := by
    intro sz p e ha hc hk s m args below hf happ hP hK
    obtain ⟨n, o, h1, h2, h3, ⟨⟨r, u, ho, hp, hB⟩, hF⟩, L, hFE, hL⟩ := h sz p e ha hc hk s m args below hf happ ⟨hP.1, fr_pre js hj hP.2.1, hP.2.2.narrow (fun _ h => fr_A h)⟩ hK
    exact ⟨n, o, h1, h2, h3, ⟨⟨r, u, ho, hp, fr_on hP.2.1 hF hFE.2.1.alike hB⟩, fr_F hF⟩, L, hFE, fun q hq => fr_A (hL q hq)⟩
  simp only [List.append_nil] at key
  exact key
theorem xCast : Cond.castable xNse xNse ∈ xB := by decide +kernel
section TB
variable {p : Program} {l : Launch} {e : Env} {R : Room} {s : State} {m : MethodId} {args : Array Value} {below : List Frame} {meth : Method} {c : Code} {H : Heap} {locs : List Loc} {cells slots : Nat} {Q : State → Prop}
variable {cc : ByteArray} {pc : Nat} {ls : Array Slot} {rest : List Value} {D : va_G} {A : Nat → Prop} {a : Nat} {tys : List (ClassId × FieldType)} {ws : va_W} {H0 : Heap} {S : Type} {wf : S → va_W} {av : List Value} {u : S}
variable {Ts : List Cond} {own C : String} {nL index n maxL ci : Nat} {T : u_T} {N : Nat} {y : MethodName} {wy : List Cond} {rm : Room} {bytes : ByteArray} {ret : Option FieldType} {As st0 : List Value} {b : Nat} {fs : List Value} {X : Prop}
theorem t_callVi {post : Int32 → S → Prop} (C0 : CallFix p m c cc nL s args Ts own) (hE : xE A s) (ho : oW D tys A s.heap s ws H locs) (hM : xKi l y wy rm (.ref b :: As) D tys ws S post wf X) (cw : CallW R s args own C index y bytes maxL ret wy rm 1 6 n)
    (q0 : Nat) (hc : vwCl[ci]? = some (C, T, N)) (he : ws[q0]? = some (b, .inr (ci, fs))) (hn : As.length = n) (hsize : ls.size = nL) (hstack : st0 = As.reverse ++ .ref b :: rest) (hroom : (rest.map fun v => v.category).sum ≤ 8) (hdg : decode cc pc = .ok (.invokevirtual index, 3)) (hcs : cells + 1 ≤ R.cells ∧ slots + 6 ≤ R.slots)
    (x : ExceptionTableEntry) (hsplit : c.exceptionTable.toList = [x]) (hcov : covers x pc = true) (h0 : x.catchType ≠ 0) (hlink : (Cond.classLink own x.catchType xNse).before args s = true)
    (kx : ∀ (q9 : Nat) (H1 : Heap) (locs1 : List Loc), X → oW D tys A s.heap s ws H1 locs1 → W p l e R s m args below meth c H1 locs1 (cells + 1) (slots + 6) Q (F0 m x.handlerPc ls [.ref q9]))
    (kk : ∀ (r : Int32) (u : S) (H1 : Heap) (locs1 : List Loc), post r u → oW D tys A s.heap s (wf u) H1 locs1 → W p l e R s m args below meth c H1 locs1 (cells + 1) (slots + 6) Q (F0 m (pc + 3) ls (.int r :: rest))) : W p l e R s m args below meth c H locs cells slots Q (F0 m pc ls st0) := by
  refine vx_calli (vx_runV (As := As) (rest := rest) C0 (hM H.size) cw ⟨xPre.blind, va_recv ho.1 ho.2.2.1 hc he, fun U hU hW => ⟨rfl, oPre.at ho U hU hW, hE.at ho.2.2.2.2.1 (oFc ho) hU hW⟩⟩ rfl hn hsize hstack (lv_room hroom) hdg hcs) ho.2.2.2.2.1 (fun q _ h => oFc ho q h) (oFc ho) (fun q _ h => oFc ho q h) ?_ (fun r u _ H1 locs1 ht _ hw hB _ _ hS => kk r u H1 locs1 hw (oPost.on ho ht hB hS))
  intro E ce q9 u t H1 locs1 ht hvm hX hB _ _ hS hcell hv hcl
  obtain ⟨hEe, hB⟩ := hB
  subst hEe
  exact vx_catch C0.2.2.2.1 [] x [] hsplit (fun z hz => absurd hz List.not_mem_nil) hcov h0 hlink (xNw_use (xB_k _ xCast) (hE.2.2.1 _ xCast)) hcell hv hcl (kx q9 H1 locs1 hX (oPost.on ho ht hB hS))
theorem t_callSi {post : Int32 → S → Prop} {hh : List (Nat × Nat × Nat × Nat)} (C0 : CallFix p m c cc nL s args Ts own) (hE : xE A s) (ho : oW D tys A s.heap s ws H locs) (hM : tKi l y wy rm As D tys ws S post wf) (cw : vx_CSW R s args own index y bytes maxL ret hh wy rm 1 6 n)
    (hn : As.length = n) (hsize : ls.size = nL) (hstack : st0 = As.reverse ++ rest) (hroom : (rest.map fun v => v.category).sum ≤ 8) (hdg : decode cc pc = .ok (.invokestatic index, 3)) (hcs : cells + 1 ≤ R.cells ∧ slots + 6 ≤ R.slots)
    (kk : ∀ (r : Int32) (u : S) (H1 : Heap) (locs1 : List Loc), post r u → oW D tys A s.heap s (wf u) H1 locs1 → W p l e R s m args below meth c H1 locs1 (cells + 1) (slots + 6) Q (F0 m (pc + 3) ls (.int r :: rest))) : W p l e R s m args below meth c H locs cells slots Q (F0 m pc ls st0) :=
  va_calli (vx_runSW (As := As) (rest := rest) C0 (hM H.size) cw ⟨xPre.blind, fun U hU hW => ⟨rfl, oPre.at ho U hU hW, hE.at ho.2.2.2.2.1 (oFc ho) hU hW⟩⟩ rfl hn hsize hstack (lv_room hroom) hdg hcs) ho.2.2.2.2.1 (fun q _ h => oFc ho q h) (oFc ho) (fun r u _ H1 locs1 ht _ hw hB _ _ hS => kk r u H1 locs1 hw (oPost.on ho ht hB hS))
theorem o_lst (hx : p.tables.exec = Jvm.exec) (hb : c.code = cc) (ho : oW D tys A H0 s ws H locs) (q0 t0 : Nat) {cA : ClassId} {n : Nat} {f : Nat → Int64} (ha : ws[q0]? = some (a, .inl (cA, n, .inr (.inl f)))) (ht : tys[t0]? = some (cA, .long)) {i : Int32} {x : Int64} (hin : vp_in i n) (hdg : decode cc pc = .ok (.lastore, 1))
    (kk : ∀ (H1 : Heap) (locs1 : List Loc), oW D tys A H0 s (ws.set q0 (a, .inl (cA, n, .inr (.inl (vp_updL f i.toNatClampNeg x))))) H1 locs1 → W p l e R s m args below meth c H1 locs1 cells slots Q (F0 m (pc + 1) ls rest)) : W p l e R s m args below meth c H locs cells slots Q (F0 m pc ls (.long x :: .int i :: .ref a :: rest)) :=
  va_last (D := D) hx hb ho.1 ho.2.2.1 ho.2.2.2.1 ho.2.2.2.2.1 q0 t0 ha ht hin hdg (fun H1 locs1 hP hD hS => kk H1 locs1 ⟨ho.1, ho.2.1, hP, hD, hS, ho.2.2.2.2.2⟩)
theorem o_lld (hx : p.tables.exec = Jvm.exec) (hb : c.code = cc) (ho : oW D tys A H0 s ws H locs) (q0 t0 : Nat) {cA : ClassId} {n : Nat} {f : Nat → Int64} (ha : ws[q0]? = some (a, .inl (cA, n, .inr (.inl f)))) (ht : tys[t0]? = some (cA, .long)) {i : Int32} (hin : vp_in i n) (hdg : decode cc pc = .ok (.laload, 1))
    (kk : W p l e R s m args below meth c H locs cells slots Q (F0 m (pc + 1) ls (.long (f i.toNatClampNeg) :: rest))) : W p l e R s m args below meth c H locs cells slots Q (F0 m pc ls (.int i :: .ref a :: rest)) :=
  va_lald (D := D) hx hb ho.1 ho.2.2.1 q0 t0 ha ht hin hdg kk
end TB
theorem vp0 : vp_in 0 1 := by
  unfold vp_in
  decide
