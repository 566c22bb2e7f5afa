/-! constructors: a world that grows -/
def kNw (l : Launch) (y : MethodName) (wy : List Cond) (rm : Room) (av : List Value) (D : va_G) (tin : List (ClassId × FieldType)) (ws : va_W) (mc ms : Nat) (S : Type) (post : S → Prop) (wf : S → va_W) (tf : S → List (ClassId × FieldType)) : Prop :=
  ∀ sz : Nat, Met l y wy rm (va_Pc av (oPre D tin ws sz)) (va_Qv post (fun u t => oPost D (tf u) (va_A ws sz) (wf u) t) (va_A ws sz)) mc ms (va_A ws sz)
theorem kNw.ofW {l : Launch} {y : MethodName} {wy w' : List Cond} {rm : Room} {cc : ByteArray} {maxL mc ms : Nat} {av : List Value} {D : va_G} {tin : List (ClassId × FieldType)} {ws : va_W} {S : Type} {wf : S → va_W} {tf : S → List (ClassId × FieldType)} {own : String} {post : S → Prop} (hy : plainFor y = true) (hyo : y.cls = own) (hyn : y.name = "<init>") (hw : wy = Cond.code y cc maxL none :: w') (hlen : (lg_sl av).length ≤ maxL)
    (body : ∀ (p : Program) (e : Env) (s : State) (m : MethodId) (args : Array Value) (below : List Frame) (meth : Method) (c : Code) (A : Nat → Prop) (ls : Array Slot) (Z : State → Prop),
      p.tables.exec = Jvm.exec → c.code = cc → c.maxLocals = maxL → s.vm.findClass own = some m.cls → (∀ w ∈ wy, w.before args s = true) → meth.name = "<init>" →
      (∀ (u : S) (H : Heap) (locs : List Loc) (pc : Nat) (ls : Array Slot), decode cc pc = .ok (.return_, 1) → oW D (tf u) A s.heap s (wf u) H locs → post u → W p l e rm s m args below meth c H locs mc ms Z (F0 m pc ls [])) →
      oW D tin A s.heap s ws s.heap [] → lv_has ls maxL (lv_args 0 av) →
      W p l e rm s m args below meth c s.heap [] 0 0 Z (F0 m 0 ls [])) : kNw l y wy rm av D tin ws mc ms S post wf tf := by
  intro sz
  refine Met.ofWF (cc := cc) (maxL := maxL) (ret := none) hy hw ?_
  intro p e s m args below meth c s₁ B hml hv
  obtain ⟨rfl, hsz, hP, hK, hD0, hN⟩ := hv
  have hr := B.returns
  have hown : s.vm.findClass own = some m.cls := by rw [← hyo]; exact findClass_of_methodNamed B.named
  have hlocks := B.notSynchronized
  have hin : meth.name = "<init>" := by rw [← hyn]; exact (name_of_methodNamed B.named B.method).1
  subst hsz
  have hl := lv_entry av (n := maxL) hlen
  rw [lg_entry_eq]
  exact body p e s m av.toArray below meth c _ _ _ B.exec B.bytes hml hown (atoms_spec (ws := wy) B.pre) hin
    (fun u H locs pc ls hdg ho hp => W.vret B.exec B.bytes hr (fun t ht hW => ⟨⟨u, rfl, hp, by rw [ht]; exact ho.2.2.1, va_K.moved hW.alike ho.1, ho.2.2.2.1⟩, ho.2.2.2.2.1.F ht⟩) ho.2.2.2.2.1.2.2 hdg hlocks)
    ⟨hK, hN, hP, hD0.self (sz := s.heap.size), va_S.rf, fun q h => Or.inr h⟩ hl
section KB
variable {p : Program} {l : Launch} {e : Env} {R : Room} {s : State} {m : MethodId} {args : Array Value} {below : List Frame} {meth : Method} {c : Code} {H : Heap} {locs : List Loc} {cells slots : Nat} {Q : State → Prop}
variable {cc : ByteArray} {pc : Nat} {ls : Array Slot} {rest : List Value} {D : va_G} {A : Nat → Prop} {a : Nat} {tys : List (ClassId × FieldType)} {ws : va_W} {H0 : Heap}
theorem k_new (hx : p.tables.exec = Jvm.exec) (hb : c.code = cc) {own C : String} {T : u_T} {N ci index : Nat} {Ts : List Cond} (hts : ∀ w ∈ Ts, w.before args s = true) (hin : ∀ w ∈ u_ws C T N, w ∈ Ts) {ty : Nat → FieldType} (hty : ∀ k, k < N → parseFieldDescriptor (T k).2.2.1 = some (ty k)) (hown : s.vm.findClass own = some m.cls) (hcl : (Cond.classLink own index C).before args s = true) (hinst : (Cond.instantiable C N).before args s = true) (hini : (Cond.initialized C).before args s = true)
    (ho : oW D tys A H0 s ws H locs) (hc : vwCl[ci]? = some (C, T, N)) {fs : List Value} (hfs : ∀ j, j < N → defaultValue (ty j) = vp_V fs j) (hcells : cells + 1 ≤ R.cells) (hslots : slots + N ≤ R.slots) (hdg : decode cc pc = .ok (.new index, 3))
    (kk : ∀ (q : Nat) (H1 : Heap), oW D tys A H0 s (ws ++ [(q, .inr (ci, fs))]) H1 locs → W p l e R s m args below meth c H1 locs (cells + 1) (slots + N) Q (F0 m (pc + 3) ls (.ref q :: rest))) : W p l e R s m args below meth c H locs cells slots Q (F0 m pc ls rest) :=
  va_new (ci := ci) (fs := fs) (C := C) (T := T) (N := N) hx hb hts hin ty hty hown hcl hinst hini ho.1 ho.2.2.1 ho.2.2.2.1 ho.2.2.2.2.1 ho.2.2.2.2.2 hc hfs hcells hslots hdg (fun q H1 hP hD hS => kk q H1 ⟨ho.1, ho.2.1, hP, hD, hS, ho.2.2.2.2.2⟩)
theorem k_newa (hx : p.tables.exec = Jvm.exec) (hb : c.code = cc) {atype : ArrayType} (harr : (Cond.arrayClass (newarray.typeOf atype)).before args s = true) {ty : FieldType} (hty : newarray.typeOf atype = ty) (ho : oW D tys A H0 s ws H locs)
    {n : Int32} {N' : Nat} {a0 : vp_A} (ha : ∀ cA : ClassId, vp_cell cA a0 = arrV cA N' (fun _ => defaultValue ty)) (hn : ¬ n < 0) (hN : n.toNatClampNeg = N') (hbytes : N' * componentBytes ty ≤ 536870912) (hcells : cells + 1 ≤ R.cells) (hslots : slots + N' ≤ R.slots) (hdg : decode cc pc = .ok (.newarray atype, 2))
    (kk : ∀ (q : Nat) (cA : ClassId) (H1 : Heap), oW D (tys ++ [(cA, ty)]) A H0 s (ws ++ [(q, .inl (cA, a0))]) H1 locs → W p l e R s m args below meth c H1 locs (cells + 1) (slots + N') Q (F0 m (pc + 2) ls (.ref q :: rest))) : W p l e R s m args below meth c H locs cells slots Q (F0 m pc ls (.int n :: rest)) :=
  va_newa hx hb harr hty ho.1 ho.2.2.1 ho.2.2.2.1 ho.2.2.2.2.1 ho.2.2.2.2.2 ha hn hN hbytes hcells hslots hdg (fun q cA H1 hK hP hD hS => kk q cA H1 ⟨hK, ho.2.1, hP, hD, hS, ho.2.2.2.2.2⟩)
theorem k_putF (hx : p.tables.exec = Jvm.exec) (hb : c.code = cc) {own C : String} {T : u_T} {N ci index : Nat} {Ts : List Cond} (hts : ∀ w ∈ Ts, w.before args s = true) (hin : ∀ w ∈ u_ws C T N, w ∈ Ts) {ty0 : Nat → FieldType} (hty : ∀ k, k < N → parseFieldDescriptor (T k).2.2.1 = some (ty0 k)) (hnm : ∀ a, a < N → ∀ b, b < N → a ≠ b → (T a).2.1 ≠ (T b).2.1) (hown : s.vm.findClass own = some m.cls) (ho : oW D tys A H0 s ws H locs) (q0 : Nat) {fs : List Value} (he : ws[q0]? = some (a, .inr (ci, fs))) (hc : vwCl[ci]? = some (C, T, N)) (k : Nat) (hk : k < N) (hlink : (Cond.fieldLink own index (T k).1 (T k).2.1 (T k).2.2.1).before args s = true) (hfin : (T k).2.2.2 = true) (hin2 : meth.name = "<init>") (hdecl : (T k).1 = own) {ty : FieldType} {v : Value} (hd : parseFieldDescriptor (T k).2.2.1 = some ty) (hn : narrow ty v = v) (hfit : fits ty v = true) (hl : k < fs.length) (hdg : decode cc pc = .ok (.putfield index, 3))
    (kk : ∀ (H1 : Heap) (locs1 : List Loc), oW D tys A H0 s (ws.set q0 (a, .inr (ci, fs.set k v))) H1 locs1 → W p l e R s m args below meth c H1 locs1 cells slots Q (F0 m (pc + 3) ls rest)) : W p l e R s m args below meth c H locs cells slots Q (F0 m pc ls (v :: .ref a :: rest)) :=
  va_putF (D := D) (v := v) (ty := ty) (C := C) (T := T) (N := N) hx hb hts hin ty0 hty hnm hown ho.1 ho.2.2.1 ho.2.2.2.1 ho.2.2.2.2.1 q0 he hc k hk hlink (fun _ h9 => h9) hfin hin2 hdecl hd hn hfit hl hdg (fun H1 locs1 hP hD hS => kk H1 locs1 ⟨ho.1, ho.2.1, hP, hD, hS, ho.2.2.2.2.2⟩)
variable {Ts : List Cond} {own : String} {nL index n maxL mc ms : Nat} {y : MethodName} {wy : List Cond} {rm : Room} {bytes : ByteArray} {As st0 : List Value} {b : Nat} {x : va_E} {host : String} {pre : va_W} {tin : List (ClassId × FieldType)} {S : Type} {wf : S → va_W} {tf : S → List (ClassId × FieldType)} {post : S → Prop}
/-- behind a constructor's call: the caller's other cells, and what it made -/
theorem k_on {t : State} {H1 : Heap} {locs1 : List Loc} {u : S} (ho : oW D tys A H0 s (pre ++ [(b, x)]) H locs) (ht : t.heap = H1) (hvm : s.vm.Alike t.vm) (hB : oPost D (tf u) (va_A [(b, x)] H.size) (wf u) t) (hk : ∀ q : Nat, q < H.size → ¬ va_A [(b, x)] H.size q → H1[q]? = H[q]?) (hS : va_S A H0 H1 locs1) : oW D (tys ++ tf u) A H0 s (pre ++ wf u) H1 locs1 := by
  obtain ⟨hK, hN, hP, hD, hS0, hA⟩ := ho
  obtain ⟨hP1, hK1, hD1⟩ := hB
  rw [ht] at hP1
  have hpre : (List.range pre.length).map (fun i => (pre ++ [(b, x)])[i]?) = pre.map some := by
    apply List.ext_getElem?
    intro i
    simp only [List.getElem?_map]
    by_cases hi : i < pre.length
    · rw [List.getElem?_range hi, Option.map_some, List.getElem?_append_left hi]
      rw [List.getElem?_eq_getElem hi]; rfl
    · rw [List.getElem?_eq_none (by simpa using hi), List.getElem?_eq_none (by simpa using hi)]; rfl
  have hlast : [pre.length].map (fun i => (pre ++ [(b, x)])[i]?) = [(b, x)].map some := by simp
  have hF : ∀ q, va_A [(b, x)] H.size q → A q := va_free hD hS0 hA [pre.length] hlast
  have hnd : ∀ n : Nat, va_nd (List.range n) = true := by
    have hgen : ∀ l : List Nat, l.Nodup → va_nd l = true := by
      intro l
      induction l with
      | nil => intro _; rfl
      | cons a l ih =>
        intro hl
        have h1 := List.nodup_cons.mp hl
        simp [va_nd, h1.1, ih h1.2]
    exact fun n => hgen _ List.nodup_range
  obtain ⟨hP2, hD2⟩ := va_join (wr := pre) (w1 := wf u) hP hD [pre.length] (List.range pre.length) hlast hpre (hnd _) (fun i hi => by simp at hi ⊢; omega) hk hF hP1 hD1
  exact ⟨hK.app (va_K.moved hvm.symm hK1), hN, hP2, hD2, hS, hA⟩
theorem k_pre (js : List Nat) (hj : js.filterMap (fun i => tys[i]?) = tin) (ho : oW D tys A H0 s (pre ++ [(b, x)]) H locs) : ∀ U : State, U.heap = H → s.WarmedH U.vm → oPre D tin [(b, x)] H.size U := by
  intro U hU hW
  have hlast : [pre.length].filterMap (fun i => (pre ++ [(b, x)])[i]?) = [(b, x)] := by simp
  refine ⟨by rw [hU], ?_, va_K.moved hW.alike (ho.1.sub js hj), ?_, ho.2.1.warm hW⟩
  · rw [hU]
    intro k q hk
    have hk0 : k = 0 := by
      have := (List.getElem?_eq_some_iff.mp hk).1
      simp at this
      omega
    subst hk0
    cases hk
    exact ho.2.2.1 pre.length (b, x) (by simp)
  · refine ⟨fun i j p q hi hj _ => ?_, fun _ _ _ => trivial⟩
    have h1 := (List.getElem?_eq_some_iff.mp hi).1
    have h2 := (List.getElem?_eq_some_iff.mp hj).1
    simp at h1 h2
    omega
theorem k_callI (C0 : CallFix p m c cc nL s args Ts own) (ho : oW D tys A H0 s (pre ++ [(b, x)]) H locs) (js : List Nat) (hj : js.filterMap (fun i => tys[i]?) = tin) (hM : kNw l y wy rm (.ref b :: As) D tin [(b, x)] mc ms S post wf tf) (cw : CallB R s args own index y bytes maxL none wy rm mc ms n ∧ y.name = "<init>" ∧ (Cond.instanceMethod y).before args s = true)
    (hn : As.length = n) (hsize : ls.size = nL) (hstack : st0 = As.reverse ++ .ref b :: rest) (hroom : (rest.map fun v => v.category).sum ≤ 8) (hdg : decode cc pc = .ok (.invokespecial index, 3)) (hcs : cells + mc ≤ R.cells ∧ slots + ms ≤ R.slots)
    (kk : ∀ (u : S) (H1 : Heap) (locs1 : List Loc), post u → oW D (tys ++ tf u) A H0 s (pre ++ wf u) H1 locs1 → W p l e R s m args below meth c H1 locs1 (cells + mc) (slots + ms) Q (F0 m (pc + 3) ls rest)) : W p l e R s m args below meth c H locs cells slots Q (F0 m pc ls st0) :=
  va_callv (va_runI (As := As) (rest := rest) C0 (hM H.size) cw ⟨oPre.blind, fun U hU hW => ⟨rfl, k_pre js hj ho U hU hW⟩⟩ rfl hn hsize hstack (lv_room hroom) hdg hcs) ho.2.2.2.2.1
    (fun q _ h => va_free ho.2.2.2.1 ho.2.2.2.2.1 ho.2.2.2.2.2 [pre.length] (wc := [(b, x)]) (by simp) q h) (va_free ho.2.2.2.1 ho.2.2.2.2.1 ho.2.2.2.2.2 [pre.length] (wc := [(b, x)]) (by simp)) (fun u _ H1 locs1 ht hvm hw hB _ hk hS => kk u H1 locs1 hw (k_on ho ht hvm hB hk hS))
theorem k_callIN (C0 : CallFix p m c cc nL s args Ts own) (ho : oW D tys A H0 s (pre ++ [(b, x)]) H locs) (js : List Nat) (hj : js.filterMap (fun i => tys[i]?) = tin) (hM : kNw l y wy rm (.ref b :: As) D tin [(b, x)] mc ms S post wf tf) (cw : va_CN R s args own index y host bytes maxL none wy rm mc ms n ∧ y.name = "<init>" ∧ (Cond.instanceMethod y).before args s = true)
    (hn : As.length = n) (hsize : ls.size = nL) (hstack : st0 = As.reverse ++ .ref b :: rest) (hroom : (rest.map fun v => v.category).sum ≤ 8) (hdg : decode cc pc = .ok (.invokespecial index, 3)) (hcs : cells + mc ≤ R.cells ∧ slots + ms ≤ R.slots)
    (kk : ∀ (u : S) (H1 : Heap) (locs1 : List Loc), post u → oW D (tys ++ tf u) A H0 s (pre ++ wf u) H1 locs1 → W p l e R s m args below meth c H1 locs1 (cells + mc) (slots + ms) Q (F0 m (pc + 3) ls rest)) : W p l e R s m args below meth c H locs cells slots Q (F0 m pc ls st0) :=
  va_callv (va_runIN (As := As) (rest := rest) C0 (hM H.size) cw ⟨oPre.blind, fun U hU hW => ⟨rfl, k_pre js hj ho U hU hW⟩⟩ rfl hn hsize hstack (lv_room hroom) hdg hcs) ho.2.2.2.2.1
    (fun q _ h => va_free ho.2.2.2.1 ho.2.2.2.2.1 ho.2.2.2.2.2 [pre.length] (wc := [(b, x)]) (by simp) q h) (va_free ho.2.2.2.1 ho.2.2.2.2.1 ho.2.2.2.2.2 [pre.length] (wc := [(b, x)]) (by simp)) (fun u _ H1 locs1 ht hvm hw hB _ hk hS => kk u H1 locs1 hw (k_on ho ht hvm hB hk hS))
/-- a world in another order -/
theorem k_perm {ws' : va_W} {tys' : List (ClassId × FieldType)} (ho : oW D tys A H0 s ws H locs) (is js : List Nat) (h1 : is.filterMap (fun i => ws[i]?) = ws') (h2 : va_nd is = true) (h3 : is.map (fun i => ws[i]?) = ws'.map some) (h4 : js.filterMap (fun i => tys[i]?) = tys') : oW D tys' A H0 s ws' H locs :=
  ⟨ho.1.sub js h4, ho.2.1, ho.2.2.1.sub is h1, ho.2.2.2.1.sub is h2 h3, ho.2.2.2.2.1, ho.2.2.2.2.2⟩
/-- new int[n][m] of a world without pooled rows: the outer array, then its rows -/
theorem k_mna (hx : p.tables.exec = Jvm.exec) (hb : c.code = cc) {own : String} {index : Nat} {cy : ClassId} (hown : s.vm.findClass own = some m.cls) (hclink : (Cond.classLink own index "[[I").before args s = true) (harr : (Cond.arrayClass .int).before args s = true) (t0 : Nat) (ht : tys[t0]? = some (cy, .int))
    (ho : oW D tys A H0 s ws H locs) {n k : Int32} {N' K' : Nat} (hn : ¬ n < 0) (hk : ¬ k < 0) (hN : n.toNatClampNeg = N') (hM : k.toNatClampNeg = K')
    (hb1 : N' * 4 ≤ 536870912) (hb2 : K' * componentBytes .int ≤ 536870912) (hb3 : K' ≤ 536870912) (hcells : cells + (1 + N') ≤ R.cells) (hslots : slots + (N' + N' * K') ≤ R.slots) (hdg : decode cc pc = .ok (.multianewarray index 2, 4))
    (kk : ∀ (q : Nat) (r : Nat → Nat) (cA : ClassId) (H1 : Heap), oW D (tys ++ [(cA, .array .int)]) A H0 s ((ws ++ [(q, .inl (cA, N', .inr (.inr (.inr (.inr (fun i => if i < N' then some (r i) else none))))))]) ++ (List.range N').map (fun i => (r i, .inl (cy, K', .inl (fun _ => 0))))) H1 locs →
      W p l e R s m args below meth c H1 locs (cells + 1 + N') (slots + N' + N' * K') Q (F0 m (pc + 4) ls (.ref q :: rest))) : W p l e R s m args below meth c H locs cells slots Q (F0 m pc ls (.int k :: .int n :: rest)) := by
  have hX : ws ++ va_pl [] (fun _ => .inl (cy, K', .inl (fun _ => 0))) = ws := by simp [va_pl]
  refine va_mna (X := ws) (L := []) (f := fun _ => .inl (cy, K', .inl (fun _ => 0))) (z := (K', .inl (fun _ => 0))) (ty := .int) hx hb hown hclink ho.2.1.2.2.2.2.2.2.2.2.2.2.2.2 harr (ho.1.2 t0 _ ht).2 ho.1 (by rw [hX]; exact ho.2.2.1) (by rw [hX]; exact ho.2.2.2.1) ho.2.2.2.2.1 ho.2.2.2.2.2 hn hk hN hM hb1 hb2 hb3 rfl rfl hcells hslots ?_ hdg ?_
  · intro c
    rw [vp_cell_i]
    first | rfl | (unfold Jvm.Free.Multi.innerC; rw [arrV_new]; rfl)
  · intro q r cA H1 _ _ hK hP hD hS
    have he : va_pl ([] ++ (List.range N').map r) (vr_up (fun _ => .inl (cy, K', .inl (fun _ => 0))) ((List.range N').map r) (.inl (cy, K', .inl (fun _ => 0)))) = (List.range N').map (fun i => (r i, .inl (cy, K', .inl (fun _ => 0)))) := by
      unfold va_pl
      rw [List.nil_append, List.map_map]
      refine List.map_congr_left (fun i hi => ?_)
      show (r i, vr_up _ _ _ (r i)) = _
      rw [vr_up_in (List.mem_map_of_mem hi)]
    rw [he] at hP hD
    exact kk q r cA H1 ⟨hK, ho.2.1, hP, hD, hS, ho.2.2.2.2.2⟩
end KB
