/-! loops of a pure picture: a body over its own continuation, turned as often as wanted -/
def lpN1 {A : Type} (b : (A → Prop) → A → Prop) : Nat → A → Prop
  | 0, _ => False
  | k + 1, x => b (lpN1 b k) x
def Lp1 {A : Type} (b : (A → Prop) → A → Prop) (x : A) : Prop := ∃ k, lpN1 b k x
theorem Lp1.ind {A : Type} {b : (A → Prop) → A → Prop} {M : A → Prop} (h : ∀ rec : A → Prop, (∀ x, rec x → M x) → ∀ x, b rec x → M x) : ∀ x, Lp1 b x → M x := by
  have key : ∀ k x, lpN1 b k x → M x := by
    intro k
    induction k with
    | zero => intro x hx; exact absurd hx (fun h => h)
    | succ k ih => intro x hx; exact h _ ih x hx
  intro x ⟨k, hk⟩
  exact key k x hk
theorem Lp1.of {A : Type} {b : (A → Prop) → A → Prop} (I : A → Prop) (μ : A → Nat) (hs : ∀ (rec : A → Prop) x, I x → (∀ y, I y → μ y < μ x → rec y) → b rec x) (x : A) (hx : I x) : Lp1 b x := by
  have key : ∀ k x, I x → μ x < k → lpN1 b k x := by
    intro k
    induction k with
    | zero => intro x _ h; omega
    | succ k ih => intro x hx hk; exact hs _ x hx (fun y hy hm => ih y hy (by omega))
  exact ⟨μ x + 1, key _ x hx (by omega)⟩
def Lp2 {A B : Type} (b : (A → B → Prop) → A → B → Prop) (x : A) (y : B) : Prop := Lp1 (A := A × B) (fun rec z => b (fun x y => rec (x, y)) z.1 z.2) (x, y)
theorem Lp2.ind {A B : Type} {b : (A → B → Prop) → A → B → Prop} {M : A → B → Prop} (h : ∀ rec : A → B → Prop, (∀ x y, rec x y → M x y) → ∀ x y, b rec x y → M x y) : ∀ x y, Lp2 b x y → M x y :=
  fun x y hq => Lp1.ind (M := fun z : A × B => M z.1 z.2) (fun rec hr z hz => h _ (fun x y q => hr (x, y) q) z.1 z.2 hz) (x, y) hq
theorem Lp2.of {A B : Type} {b : (A → B → Prop) → A → B → Prop} (I : A → B → Prop) (μ : A → B → Nat) (hs : ∀ (rec : A → B → Prop) x y, I x y → (∀ x' y', I x' y' → μ x' y' < μ x y → rec x' y') → b rec x y) (x : A) (y : B) (hx : I x y) : Lp2 b x y :=
  Lp1.of (fun z : A × B => I z.1 z.2) (fun z => μ z.1 z.2) (fun rec z hz q => hs _ z.1 z.2 hz (fun x' y' h1 h2 => q (x', y') h1 h2)) (x, y) hx
def Lp3 {A B C : Type} (b : (A → B → C → Prop) → A → B → C → Prop) (x : A) (y : B) (z : C) : Prop := Lp2 (A := A) (B := B × C) (fun rec x w => b (fun x y z => rec x (y, z)) x w.1 w.2) x (y, z)
theorem Lp3.ind {A B C : Type} {b : (A → B → C → Prop) → A → B → C → Prop} {M : A → B → C → Prop} (h : ∀ rec : A → B → C → Prop, (∀ x y z, rec x y z → M x y z) → ∀ x y z, b rec x y z → M x y z) : ∀ x y z, Lp3 b x y z → M x y z :=
  fun x y z hq => Lp2.ind (M := fun (x : A) (w : B × C) => M x w.1 w.2) (fun rec hr x w hw => h _ (fun x y z q => hr x (y, z) q) x w.1 w.2 hw) x (y, z) hq
theorem Lp3.of {A B C : Type} {b : (A → B → C → Prop) → A → B → C → Prop} (I : A → B → C → Prop) (μ : A → B → C → Nat) (hs : ∀ (rec : A → B → C → Prop) x y z, I x y z → (∀ x' y' z', I x' y' z' → μ x' y' z' < μ x y z → rec x' y' z') → b rec x y z) (x : A) (y : B) (z : C) (hx : I x y z) : Lp3 b x y z :=
  Lp2.of (fun (x : A) (w : B × C) => I x w.1 w.2) (fun x w => μ x w.1 w.2) (fun rec x w hz q => hs _ x w.1 w.2 hz (fun x' y' z' h1 h2 => q x' (y', z') h1 h2)) x (y, z) hx
def Lp4 {A B C D : Type} (b : (A → B → C → D → Prop) → A → B → C → D → Prop) (x : A) (y : B) (z : C) (w : D) : Prop := Lp3 (A := A) (B := B) (C := C × D) (fun rec x y v => b (fun x y z w => rec x y (z, w)) x y v.1 v.2) x y (z, w)
theorem Lp4.ind {A B C D : Type} {b : (A → B → C → D → Prop) → A → B → C → D → Prop} {M : A → B → C → D → Prop} (h : ∀ rec : A → B → C → D → Prop, (∀ x y z w, rec x y z w → M x y z w) → ∀ x y z w, b rec x y z w → M x y z w) : ∀ x y z w, Lp4 b x y z w → M x y z w :=
  fun x y z w hq => Lp3.ind (M := fun (x : A) (y : B) (v : C × D) => M x y v.1 v.2) (fun rec hr x y v hv => h _ (fun x y z w q => hr x y (z, w) q) x y v.1 v.2 hv) x y (z, w) hq
theorem Lp4.of {A B C D : Type} {b : (A → B → C → D → Prop) → A → B → C → D → Prop} (I : A → B → C → D → Prop) (μ : A → B → C → D → Nat) (hs : ∀ (rec : A → B → C → D → Prop) x y z w, I x y z w → (∀ x' y' z' w', I x' y' z' w' → μ x' y' z' w' < μ x y z w → rec x' y' z' w') → b rec x y z w) (x : A) (y : B) (z : C) (w : D) (hx : I x y z w) : Lp4 b x y z w :=
  Lp3.of (fun (x : A) (y : B) (v : C × D) => I x y v.1 v.2) (fun x y v => μ x y v.1 v.2) (fun rec x y v hz q => hs _ x y v.1 v.2 hz (fun x' y' z' w' h1 h2 => q x' y' (z', w') h1 h2)) x y (z, w) hx
def Lp5 {A B C D E : Type} (b : (A → B → C → D → E → Prop) → A → B → C → D → E → Prop) (x : A) (y : B) (z : C) (w : D) (v : E) : Prop := Lp4 (A := A) (B := B) (C := C) (D := D × E) (fun rec x y z u => b (fun x y z w v => rec x y z (w, v)) x y z u.1 u.2) x y z (w, v)
theorem Lp5.ind {A B C D E : Type} {b : (A → B → C → D → E → Prop) → A → B → C → D → E → Prop} {M : A → B → C → D → E → Prop} (h : ∀ rec : A → B → C → D → E → Prop, (∀ x y z w v, rec x y z w v → M x y z w v) → ∀ x y z w v, b rec x y z w v → M x y z w v) : ∀ x y z w v, Lp5 b x y z w v → M x y z w v :=
  fun x y z w v hq => Lp4.ind (M := fun (x : A) (y : B) (z : C) (u : D × E) => M x y z u.1 u.2) (fun rec hr x y z u hv => h _ (fun x y z w v q => hr x y z (w, v) q) x y z u.1 u.2 hv) x y z (w, v) hq
theorem Lp5.of {A B C D E : Type} {b : (A → B → C → D → E → Prop) → A → B → C → D → E → Prop} (I : A → B → C → D → E → Prop) (μ : A → B → C → D → E → Nat) (hs : ∀ (rec : A → B → C → D → E → Prop) x y z w v, I x y z w v → (∀ x' y' z' w' v', I x' y' z' w' v' → μ x' y' z' w' v' < μ x y z w v → rec x' y' z' w' v') → b rec x y z w v) (x : A) (y : B) (z : C) (w : D) (v : E) (hx : I x y z w v) : Lp5 b x y z w v :=
  Lp4.of (fun (x : A) (y : B) (z : C) (u : D × E) => I x y z u.1 u.2) (fun x y z u => μ x y z u.1 u.2) (fun rec x y z u hz q => hs _ x y z u.1 u.2 hz (fun x' y' z' w' v' h1 h2 => q x' y' z' (w', v') h1 h2)) x y z (w, v) hx
def Lp6 {A B C D E F : Type} (b : (A → B → C → D → E → F → Prop) → A → B → C → D → E → F → Prop) (x : A) (y : B) (z : C) (w : D) (v : E) (u : F) : Prop := Lp5 (A := A) (B := B) (C := C) (D := D) (E := E × F) (fun rec x y z w t => b (fun x y z w v u => rec x y z w (v, u)) x y z w t.1 t.2) x y z w (v, u)
theorem Lp6.ind {A B C D E F : Type} {b : (A → B → C → D → E → F → Prop) → A → B → C → D → E → F → Prop} {M : A → B → C → D → E → F → Prop} (h : ∀ rec : A → B → C → D → E → F → Prop, (∀ x y z w v u, rec x y z w v u → M x y z w v u) → ∀ x y z w v u, b rec x y z w v u → M x y z w v u) : ∀ x y z w v u, Lp6 b x y z w v u → M x y z w v u :=
  fun x y z w v u hq => Lp5.ind (M := fun (x : A) (y : B) (z : C) (w : D) (t : E × F) => M x y z w t.1 t.2) (fun rec hr x y z w t hv => h _ (fun x y z w v u q => hr x y z w (v, u) q) x y z w t.1 t.2 hv) x y z w (v, u) hq
theorem Lp6.of {A B C D E F : Type} {b : (A → B → C → D → E → F → Prop) → A → B → C → D → E → F → Prop} (I : A → B → C → D → E → F → Prop) (μ : A → B → C → D → E → F → Nat) (hs : ∀ (rec : A → B → C → D → E → F → Prop) x y z w v u, I x y z w v u → (∀ x' y' z' w' v' u', I x' y' z' w' v' u' → μ x' y' z' w' v' u' < μ x y z w v u → rec x' y' z' w' v' u') → b rec x y z w v u) (x : A) (y : B) (z : C) (w : D) (v : E) (u : F) (hx : I x y z w v u) : Lp6 b x y z w v u :=
  Lp5.of (fun (x : A) (y : B) (z : C) (w : D) (t : E × F) => I x y z w t.1 t.2) (fun x y z w t => μ x y z w t.1 t.2) (fun rec x y z w t hz q => hs _ x y z w t.1 t.2 hz (fun x' y' z' w' v' u' h1 h2 => q x' y' z' w' (v', u') h1 h2)) x y z w (v, u) hx

def Lp7 {A B C D E F G : Type} (b : (A → B → C → D → E → F → G → Prop) → A → B → C → D → E → F → G → Prop) (x : A) (y : B) (z : C) (w : D) (v : E) (u : F) (t : G) : Prop := Lp6 (A := A) (B := B) (C := C) (D := D) (E := E) (F := F × G) (fun rec x y z w v r => b (fun x y z w v u t => rec x y z w v (u, t)) x y z w v r.1 r.2) x y z w v (u, t)
theorem Lp7.ind {A B C D E F G : Type} {b : (A → B → C → D → E → F → G → Prop) → A → B → C → D → E → F → G → Prop} {M : A → B → C → D → E → F → G → Prop} (h : ∀ rec : A → B → C → D → E → F → G → Prop, (∀ x y z w v u t, rec x y z w v u t → M x y z w v u t) → ∀ x y z w v u t, b rec x y z w v u t → M x y z w v u t) : ∀ x y z w v u t, Lp7 b x y z w v u t → M x y z w v u t :=
  fun x y z w v u t hq => Lp6.ind (M := fun (x : A) (y : B) (z : C) (w : D) (v : E) (r : F × G) => M x y z w v r.1 r.2) (fun rec hr x y z w v r hv => h _ (fun x y z w v u t q => hr x y z w v (u, t) q) x y z w v r.1 r.2 hv) x y z w v (u, t) hq
theorem Lp7.of {A B C D E F G : Type} {b : (A → B → C → D → E → F → G → Prop) → A → B → C → D → E → F → G → Prop} (I : A → B → C → D → E → F → G → Prop) (μ : A → B → C → D → E → F → G → Nat) (hs : ∀ (rec : A → B → C → D → E → F → G → Prop) x y z w v u t, I x y z w v u t → (∀ x' y' z' w' v' u' t', I x' y' z' w' v' u' t' → μ x' y' z' w' v' u' t' < μ x y z w v u t → rec x' y' z' w' v' u' t') → b rec x y z w v u t) (x : A) (y : B) (z : C) (w : D) (v : E) (u : F) (t : G) (hx : I x y z w v u t) : Lp7 b x y z w v u t :=
  Lp6.of (fun (x : A) (y : B) (z : C) (w : D) (v : E) (r : F × G) => I x y z w v r.1 r.2) (fun x y z w v r => μ x y z w v r.1 r.2) (fun rec x y z w v r hz q => hs _ x y z w v r.1 r.2 hz (fun x' y' z' w' v' u' t' h1 h2 => q x' y' z' w' v' (u', t') h1 h2)) x y z w v (u, t) hx

/-! the world at a point, a method's contract over it -/
theorem va_AOA.moved {t : FieldType} {u U : State} (hvm : u.vm.Alike U.vm) (h : va_AOA t u) : va_AOA t U := by
  have h1 : (Cond.arrayOver (.array t)).before #[] (u.setVm U.vm) = true := by
    rw [Cond.arrayOver_setVmC hvm]
    exact h
  exact h1
def nV (U : State) : Prop := va_Nw (.methodLinkNest RX10 11 yX9_init RX10) U ∧ va_Nw (.methodLinkNest RX10 18 yX3_init RX10) U ∧ va_Nw (.methodLinkNest RX10 25 yX0_init RX10) U ∧ va_Nw (.methodLinkNest RX10 32 yX7_init RX10) U ∧ va_Nw (.methodLinkNest RX10 39 yX2_init RX10) U ∧ va_Nw (.methodLinkNest RX10 46 yX8_init RX10) U ∧ va_Nw (.methodLinkNest RX10 53 yX4_init RX10) U ∧ va_Nw (.methodLinkNest RX10 60 yX5_init RX10) U ∧ va_Nw (.methodLinkNest RX2 22 yX1_init RX10) U ∧ va_AOA .int U
theorem nV.warm {s U : State} (hW : s.WarmedH U.vm) (h : nV s) : nV U := ⟨va_Nw.warmM hW h.1, va_Nw.warmM hW h.2.1, va_Nw.warmM hW h.2.2.1, va_Nw.warmM hW h.2.2.2.1, va_Nw.warmM hW h.2.2.2.2.1, va_Nw.warmM hW h.2.2.2.2.2.1, va_Nw.warmM hW h.2.2.2.2.2.2.1, va_Nw.warmM hW h.2.2.2.2.2.2.2.1, va_Nw.warmM hW h.2.2.2.2.2.2.2.2.1, h.2.2.2.2.2.2.2.2.2.moved hW.alike⟩
theorem nV.same {u U : State} (h : u.vm = U.vm) (hZ : nV u) : nV U := ⟨va_Nw.same rfl h hZ.1, va_Nw.same rfl h hZ.2.1, va_Nw.same rfl h hZ.2.2.1, va_Nw.same rfl h hZ.2.2.2.1, va_Nw.same rfl h hZ.2.2.2.2.1, va_Nw.same rfl h hZ.2.2.2.2.2.1, va_Nw.same rfl h hZ.2.2.2.2.2.2.1, va_Nw.same rfl h hZ.2.2.2.2.2.2.2.1, va_Nw.same rfl h hZ.2.2.2.2.2.2.2.2.1, hZ.2.2.2.2.2.2.2.2.2.moved (by rw [h]; exact Vm.Alike.refl _)⟩
def nW (U : State) : Prop := va_Nw (.methodLinkNest RX9 64 yX10_isDay RX10) U ∧ va_Nw (.methodLinkNest RX1 66 yX10_isMatter RX10) U ∧ va_Nw (.methodLinkNest RX2 53 yX10_isMatter RX10) U ∧ nV U
theorem nW.warm {s U : State} (hW : s.WarmedH U.vm) (h : nW s) : nW U := ⟨va_Nw.warmM hW h.1, va_Nw.warmM hW h.2.1, va_Nw.warmM hW h.2.2.1, h.2.2.2.warm hW⟩
theorem nW.same {u U : State} (h : u.vm = U.vm) (hZ : nW u) : nW U := ⟨va_Nw.same rfl h hZ.1, va_Nw.same rfl h hZ.2.1, va_Nw.same rfl h hZ.2.2.1, hZ.2.2.2.same h⟩
def oW (D : va_G) (tys : List (ClassId × FieldType)) (A : Nat → Prop) (H0 : Heap) (s : State) (ws : va_W) (H : Heap) (locs : List Loc) : Prop :=
  va_K D vwCl tys s ∧ nW s ∧ va_P D vwCl ws H ∧ va_D A ws ∧ va_S A H0 H locs ∧ ∀ q, H0.size ≤ q → A q
def oPre (D : va_G) (tys : List (ClassId × FieldType)) (ws : va_W) (sz : Nat) (U : State) : Prop := U.heap.size = sz ∧ va_P D vwCl ws U.heap ∧ va_K D vwCl tys U ∧ va_D (fun _ => True) ws ∧ nW U
def oPost (D : va_G) (tys : List (ClassId × FieldType)) (A : Nat → Prop) (ws : va_W) (t : State) : Prop := va_P D vwCl ws t.heap ∧ va_K D vwCl tys t ∧ va_D A ws
def oKi (l : Launch) (y : MethodName) (wy : List Cond) (rm : Room) (av : List Value) (D : va_G) (tys : List (ClassId × FieldType)) (ws : va_W) (S : Type) (post : Int32 → S → Prop) (wf : S → va_W) : Prop :=
  ∀ sz : Nat, Met l y wy rm (va_Pc av (oPre D tys ws sz)) (va_Qi post (fun u t => oPost D tys (va_A ws sz) (wf u) t) (va_A ws sz)) 0 0 (va_A ws sz)
def oKv (l : Launch) (y : MethodName) (wy : List Cond) (rm : Room) (av : List Value) (D : va_G) (tys : List (ClassId × FieldType)) (ws : va_W) (S : Type) (post : S → Prop) (wf : S → va_W) : Prop :=
  ∀ sz : Nat, Met l y wy rm (va_Pc av (oPre D tys ws sz)) (va_Qv post (fun u t => oPost D tys (va_A ws sz) (wf u) t) (va_A ws sz)) 0 0 (va_A ws sz)
theorem oPre.blind {av : List Value} {D : va_G} {tys : List (ClassId × FieldType)} {ws : va_W} {sz : Nat} : FrameBlind (va_Pc av (oPre D tys ws sz)) :=
  fun a U g mk q => ⟨q.1, q.2.1, q.2.2.1, va_K.moved (u := U) (U := U.calling g mk a) (Vm.Alike.refl U.vm) q.2.2.2.1, q.2.2.2.2.1, nW.same (u := U) (U := U.calling g mk a) rfl q.2.2.2.2.2⟩
theorem Met.ofWF {l : Launch} {y : MethodName} {ws ws' : List Cond} {rm : Room} {Pc : Array Value → State → Prop} {Qc : Array Value → State → Outcome → State → Prop} {mc ms : Nat} {free : Addr → Prop} {cc : ByteArray} {maxL : Nat} {ret : Option FieldType}
    (hy : plainFor y = true) (hw : ws = Cond.code y cc maxL ret :: ws')
    (body : ∀ p e s m args below meth c s₁, BodyLoose p l y (headSpec ws rm) cc maxL ret e s m args below meth c s₁ → c.maxLocals = maxL → Pc args s →
      W p l e (headSpec ws rm).room s m args below meth c s.heap [] 0 0 (MQ below Qc args s mc ms free) (entryFrame m args maxL)) : Met l y ws rm Pc Qc mc ms free := by
  refine MetFree.of_bodySF (code := cc) (maxLocals := maxL) (ret := ret) hy ?_ ?_
  · intro args s m h hn
    obtain ⟨meth, c, h1, h2, h3, h4, h5, h6, -, -⟩ := Cond.code_spec hn (atoms_spec (ws := ws) h _ (by rw [hw]; exact List.mem_cons_self))
    exact ⟨meth, c, h1, h2, h3, h4, h5, h6⟩
  · intro p e s m args below meth c s₁ B hml hP _
    have hh0 : s₁.heap = s.heap := by rw [B.state]; rfl
    obtain ⟨t, a1, o, b1, b2, b3⟩ := body p e s m args below meth c s₁ B hml hP s₁ hh0 (Stand.of_body B)
    exact ⟨t, o, a1, b1, b2, ⟨b3.1, b3.2⟩⟩
section OB1
variable {l : Launch} {y : MethodName} {wy w' : List Cond} {rm : Room} {cc : ByteArray} {maxL : Nat} {av : List Value} {D : va_G} {tys : List (ClassId × FieldType)} {ws : va_W} {S : Type} {wf : S → va_W} {own : String}
theorem oKi.ofW {post : Int32 → S → Prop} (hy : plainFor y = true) (hyo : y.cls = own) (hw : wy = Cond.code y cc maxL (some .int) :: w') (hlen : (lg_sl av).length ≤ maxL)
    (body : ∀ (p : Program) (e : Env) (s : State) (m : MethodId) (args : Array Value) (below : List Frame) (meth : Method) (c : Code) (A : Nat → Prop) (ls : Array Slot) (Z : State → Prop),
      p.tables.exec = Jvm.exec → c.code = cc → c.maxLocals = maxL → s.vm.findClass own = some m.cls → (∀ w ∈ wy, w.before args s = true) →
      (∀ (v : Int32) (u : S) (H : Heap) (locs : List Loc) (pc : Nat) (ls : Array Slot), decode cc pc = .ok (.ireturn, 1) → oW D tys A s.heap s (wf u) H locs → post v u → W p l e rm s m args below meth c H locs 0 0 Z (F0 m pc ls [.int v])) →
      oW D tys A s.heap s ws s.heap [] → lv_has ls maxL (lv_args 0 av) →
      W p l e rm s m args below meth c s.heap [] 0 0 Z (F0 m 0 ls [])) : oKi l y wy rm av D tys ws S post wf := by
  intro sz
  refine Met.ofWF (cc := cc) (maxL := maxL) (ret := some .int) hy hw ?_
  intro p e s m args below meth c s₁ B hml hv
  obtain ⟨rfl, hsz, hP, hK, hD0, hN⟩ := hv
  have hr := B.returns
  have hown : s.vm.findClass own = some m.cls := by rw [← hyo]; exact findClass_of_methodNamed B.named
  have hlocks := B.notSynchronized
  subst hsz
  have hl := lv_entry av (n := maxL) hlen
  rw [lg_entry_eq]
  exact body p e s m av.toArray below meth c _ _ _ B.exec B.bytes hml hown (atoms_spec (ws := wy) B.pre)
    (fun v u H locs pc ls hdg ho hp => W.iret (v := v) B.exec B.bytes hr (fun t ht hW => ⟨⟨v, u, rfl, hp, by rw [ht]; exact ho.2.2.1, va_K.moved hW.alike ho.1, ho.2.2.2.1⟩, ho.2.2.2.2.1.F ht⟩) ho.2.2.2.2.1.2.2 hdg hlocks)
    ⟨hK, hN, hP, hD0.self (sz := s.heap.size), va_S.rf, fun q h => Or.inr h⟩ hl
theorem oKi.ofWz {post : Int32 → S → Prop} (hy : plainFor y = true) (hyo : y.cls = own) (hw : wy = Cond.code y cc maxL (some .boolean) :: w') (hlen : (lg_sl av).length ≤ maxL)
    (body : ∀ (p : Program) (e : Env) (s : State) (m : MethodId) (args : Array Value) (below : List Frame) (meth : Method) (c : Code) (A : Nat → Prop) (ls : Array Slot) (Z : State → Prop),
      p.tables.exec = Jvm.exec → c.code = cc → c.maxLocals = maxL → s.vm.findClass own = some m.cls → (∀ w ∈ wy, w.before args s = true) →
      (∀ (v : Int32) (u : S) (H : Heap) (locs : List Loc) (pc : Nat) (ls : Array Slot), decode cc pc = .ok (.ireturn, 1) → (v = 0 ∨ v = 1) → oW D tys A s.heap s (wf u) H locs → post v u → W p l e rm s m args below meth c H locs 0 0 Z (F0 m pc ls [.int v])) →
      oW D tys A s.heap s ws s.heap [] → lv_has ls maxL (lv_args 0 av) →
      W p l e rm s m args below meth c s.heap [] 0 0 Z (F0 m 0 ls [])) : oKi l y wy rm av D tys ws S post wf := by
  intro sz
  refine Met.ofWF (cc := cc) (maxL := maxL) (ret := some .boolean) hy hw ?_
  intro p e s m args below meth c s₁ B hml hv
  obtain ⟨rfl, hsz, hP, hK, hD0, hN⟩ := hv
  have hr := B.returns
  have hown : s.vm.findClass own = some m.cls := by rw [← hyo]; exact findClass_of_methodNamed B.named
  have hlocks := B.notSynchronized
  subst hsz
  have hl := lv_entry av (n := maxL) hlen
  rw [lg_entry_eq]
  exact body p e s m av.toArray below meth c _ _ _ B.exec B.bytes hml hown (atoms_spec (ws := wy) B.pre)
    (fun v u H locs pc ls hdg hn ho hp => W.zret (v := v) B.exec B.bytes hr (by rcases hn with rfl | rfl <;> rfl) (fun t ht hW => ⟨⟨v, u, rfl, hp, by rw [ht]; exact ho.2.2.1, va_K.moved hW.alike ho.1, ho.2.2.2.1⟩, ho.2.2.2.2.1.F ht⟩) ho.2.2.2.2.1.2.2 hdg hlocks)
    ⟨hK, hN, hP, hD0.self (sz := s.heap.size), va_S.rf, fun q h => Or.inr h⟩ hl
theorem oKv.ofW {post : S → Prop} (hy : plainFor y = true) (hyo : y.cls = own) (hw : wy = Cond.code y cc maxL none :: w') (hlen : (lg_sl av).length ≤ maxL)
    (body : ∀ (p : Program) (e : Env) (s : State) (m : MethodId) (args : Array Value) (below : List Frame) (meth : Method) (c : Code) (A : Nat → Prop) (ls : Array Slot) (Z : State → Prop),
      p.tables.exec = Jvm.exec → c.code = cc → c.maxLocals = maxL → s.vm.findClass own = some m.cls → (∀ w ∈ wy, w.before args s = true) →
      (∀ (u : S) (H : Heap) (locs : List Loc) (pc : Nat) (ls : Array Slot), decode cc pc = .ok (.return_, 1) → oW D tys A s.heap s (wf u) H locs → post u → W p l e rm s m args below meth c H locs 0 0 Z (F0 m pc ls [])) →
      oW D tys A s.heap s ws s.heap [] → lv_has ls maxL (lv_args 0 av) →
      W p l e rm s m args below meth c s.heap [] 0 0 Z (F0 m 0 ls [])) : oKv l y wy rm av D tys ws S post wf := by
  intro sz
  refine Met.ofWF (cc := cc) (maxL := maxL) (ret := none) hy hw ?_
  intro p e s m args below meth c s₁ B hml hv
  obtain ⟨rfl, hsz, hP, hK, hD0, hN⟩ := hv
  have hr := B.returns
  have hown : s.vm.findClass own = some m.cls := by rw [← hyo]; exact findClass_of_methodNamed B.named
  have hlocks := B.notSynchronized
  subst hsz
  have hl := lv_entry av (n := maxL) hlen
  rw [lg_entry_eq]
  exact body p e s m av.toArray below meth c _ _ _ B.exec B.bytes hml hown (atoms_spec (ws := wy) B.pre)
    (fun u H locs pc ls hdg ho hp => W.vret B.exec B.bytes hr (fun t ht hW => ⟨⟨u, rfl, hp, by rw [ht]; exact ho.2.2.1, va_K.moved hW.alike ho.1, ho.2.2.2.1⟩, ho.2.2.2.2.1.F ht⟩) ho.2.2.2.2.1.2.2 hdg hlocks)
    ⟨hK, hN, hP, hD0.self (sz := s.heap.size), va_S.rf, fun q h => Or.inr h⟩ hl
end OB1
theorem ne_ti {x : Int32} {k : Int} (y : Int32) (hy : y.toInt = k) (h : ¬ x = y) : x.toInt ≠ k := fun e => h (Int32.toInt_inj.mp (e.trans hy.symm))
abbrev jmax (x y : Int32) : Int32 := if x < y then y else x
abbrev jmin (x y : Int32) : Int32 := if y < x then y else x
abbrev jabs (x : Int32) : Int32 := if 0 ≤ x then x else 0 - x
section OB2
variable {p : Program} {l : Launch} {e : Env} {R : Room} {s : State} {m : MethodId} {args : Array Value} {below : List Frame} {meth : Method} {c : Code} {H : Heap} {locs : List Loc} {cells slots : Nat} {Q : State → Prop}
variable {cc : ByteArray} {pc : Nat} {ls : Array Slot} {rest : List Value} {D : va_G} {A : Nat → Prop} {a : Nat} {tys : List (ClassId × FieldType)} {ws : va_W} {H0 : Heap} {S : Type} {wf : S → va_W} {av : List Value} {u : S}
theorem o_get (hx : p.tables.exec = Jvm.exec) (hb : c.code = cc) {own C : String} {T : u_T} {N ci index : Nat} {Ts : List Cond} (hts : ∀ w ∈ Ts, w.before args s = true) (hin : ∀ w ∈ u_ws C T N, w ∈ Ts) (hown : s.vm.findClass own = some m.cls) (ho : oW D tys A H0 s ws H locs) (q0 : Nat) {fs : List Value} (he : ws[q0]? = some (a, .inr (ci, fs))) (hc : vwCl[ci]? = some (C, T, N)) (k : Nat) (hk : k < N) (hlink : (Cond.fieldLink own index (T k).1 (T k).2.1 (T k).2.2.1).before args s = true) {v : Value} (hv : fs[k]? = some v) (hdg : decode cc pc = .ok (.getfield index, 3))
    (kk : W p l e R s m args below meth c H locs cells slots Q (F0 m (pc + 3) ls (v :: rest))) : W p l e R s m args below meth c H locs cells slots Q (F0 m pc ls (.ref a :: rest)) :=
  va_get (D := D) (v := v) (C := C) (T := T) (N := N) hx hb hts hin hown ho.1 ho.2.2.1 q0 he hc k hk hlink (fun _ h9 => h9) hv hdg kk
theorem o_put (hx : p.tables.exec = Jvm.exec) (hb : c.code = cc) {own C : String} {T : u_T} {N ci index : Nat} {Ts : List Cond} (hts : ∀ w ∈ Ts, w.before args s = true) (hin : ∀ w ∈ u_ws C T N, w ∈ Ts) {ty0 : Nat → FieldType} (hty : ∀ k, k < N → parseFieldDescriptor (T k).2.2.1 = some (ty0 k)) (hnm : ∀ a, a < N → ∀ b, b < N → a ≠ b → (T a).2.1 ≠ (T b).2.1) (hown : s.vm.findClass own = some m.cls) (ho : oW D tys A H0 s ws H locs) (q0 : Nat) {fs : List Value} (he : ws[q0]? = some (a, .inr (ci, fs))) (hc : vwCl[ci]? = some (C, T, N)) (k : Nat) (hk : k < N) (hlink : (Cond.fieldLink own index (T k).1 (T k).2.1 (T k).2.2.1).before args s = true) (hfin : (T k).2.2.2 = false) {v : Int32} (hd : parseFieldDescriptor (T k).2.2.1 = some .int) (hl : k < fs.length) (hdg : decode cc pc = .ok (.putfield index, 3))
    (kk : ∀ (H1 : Heap) (locs1 : List Loc), oW D tys A H0 s (ws.set q0 (a, .inr (ci, fs.set k (.int v)))) H1 locs1 → W p l e R s m args below meth c H1 locs1 cells slots Q (F0 m (pc + 3) ls rest)) : W p l e R s m args below meth c H locs cells slots Q (F0 m pc ls (.int v :: .ref a :: rest)) :=
  va_put (D := D) (v := .int v) (ty := .int) (C := C) (T := T) (N := N) hx hb hts hin ty0 hty hnm hown ho.1 ho.2.2.1 ho.2.2.2.1 ho.2.2.2.2.1 q0 he hc k hk hlink (fun _ h9 => h9) hfin hd rfl rfl hl hdg (fun H1 locs1 hP hD hS => kk H1 locs1 ⟨ho.1, ho.2.1, hP, hD, hS, ho.2.2.2.2.2⟩)
theorem o_ild (hx : p.tables.exec = Jvm.exec) (hb : c.code = cc) (ho : oW D tys A H0 s ws H locs) (q0 t0 : Nat) {cA : ClassId} {n : Nat} {f : Nat → Int32} (ha : ws[q0]? = some (a, .inl (cA, n, .inl f))) (ht : tys[t0]? = some (cA, .int)) {i : Int32} (hin : vp_in i n) (hdg : decode cc pc = .ok (.iaload, 1))
    (kk : W p l e R s m args below meth c H locs cells slots Q (F0 m (pc + 1) ls (.int (f i.toNatClampNeg) :: rest))) : W p l e R s m args below meth c H locs cells slots Q (F0 m pc ls (.int i :: .ref a :: rest)) :=
  va_iald (D := D) hx hb ho.1 ho.2.2.1 q0 t0 ha ht hin hdg kk
theorem o_zld (hx : p.tables.exec = Jvm.exec) (hb : c.code = cc) (ho : oW D tys A H0 s ws H locs) (q0 t0 : Nat) {cA : ClassId} {n : Nat} {f : Nat → Int32} (ha : ws[q0]? = some (a, .inl (cA, n, .inl f))) (ht : tys[t0]? = some (cA, .boolean)) {i : Int32} (hin : vp_in i n) (hdg : decode cc pc = .ok (.baload, 1))
    (kk : W p l e R s m args below meth c H locs cells slots Q (F0 m (pc + 1) ls (.int (f i.toNatClampNeg) :: rest))) : W p l e R s m args below meth c H locs cells slots Q (F0 m pc ls (.int i :: .ref a :: rest)) :=
  va_zald (D := D) hx hb ho.1 ho.2.2.1 q0 t0 ha ht hin hdg kk
theorem o_ist (hx : p.tables.exec = Jvm.exec) (hb : c.code = cc) (ho : oW D tys A H0 s ws H locs) (q0 t0 : Nat) {cA : ClassId} {n : Nat} {f : Nat → Int32} (ha : ws[q0]? = some (a, .inl (cA, n, .inl f))) (ht : tys[t0]? = some (cA, .int)) {i x : Int32} (hin : vp_in i n) (hdg : decode cc pc = .ok (.iastore, 1))
    (kk : ∀ (H1 : Heap) (locs1 : List Loc), oW D tys A H0 s (ws.set q0 (a, .inl (cA, n, .inl (upd f i.toNatClampNeg x)))) H1 locs1 → W p l e R s m args below meth c H1 locs1 cells slots Q (F0 m (pc + 1) ls rest)) : W p l e R s m args below meth c H locs cells slots Q (F0 m pc ls (.int x :: .int i :: .ref a :: rest)) :=
  va_iast (D := D) hx hb ho.1 ho.2.2.1 ho.2.2.2.1 ho.2.2.2.2.1 q0 t0 ha ht hin hdg (fun H1 locs1 hP hD hS => kk H1 locs1 ⟨ho.1, ho.2.1, hP, hD, hS, ho.2.2.2.2.2⟩)
theorem o_zst (hx : p.tables.exec = Jvm.exec) (hb : c.code = cc) (ho : oW D tys A H0 s ws H locs) (q0 t0 : Nat) {cA : ClassId} {n : Nat} {f : Nat → Int32} (ha : ws[q0]? = some (a, .inl (cA, n, .inl f))) (ht : tys[t0]? = some (cA, .boolean)) {i x : Int32} (hin : vp_in i n) (hdg : decode cc pc = .ok (.bastore, 1))
    (kk : ∀ (H1 : Heap) (locs1 : List Loc), oW D tys A H0 s (ws.set q0 (a, .inl (cA, n, .inl (upd f i.toNatClampNeg (vp_nar .boolean x))))) H1 locs1 → W p l e R s m args below meth c H1 locs1 cells slots Q (F0 m (pc + 1) ls rest)) : W p l e R s m args below meth c H locs cells slots Q (F0 m pc ls (.int x :: .int i :: .ref a :: rest)) :=
  va_zast (D := D) hx hb ho.1 ho.2.2.1 ho.2.2.2.1 ho.2.2.2.2.1 q0 t0 ha ht hin hdg (fun H1 locs1 hP hD hS => kk H1 locs1 ⟨ho.1, ho.2.1, hP, hD, hS, ho.2.2.2.2.2⟩)
theorem o_len (hx : p.tables.exec = Jvm.exec) (hb : c.code = cc) (ho : oW D tys A H0 s ws H locs) (q0 t0 : Nat) {cA : ClassId} {x : vp_A} (ha : ws[q0]? = some (a, .inl (cA, x))) {ty : FieldType} (ht : tys[t0]? = some (cA, ty)) {v : Int32} (hv : Int32.ofNat x.1 = v) (hdg : decode cc pc = .ok (.arraylength, 1))
    (kk : W p l e R s m args below meth c H locs cells slots Q (F0 m (pc + 1) ls (.int v :: rest))) : W p l e R s m args below meth c H locs cells slots Q (F0 m pc ls (.ref a :: rest)) :=
  va_alen (D := D) hx hb ho.1 ho.2.2.1 q0 t0 ha ht hv hdg kk
theorem o_ald (hx : p.tables.exec = Jvm.exec) (hb : c.code = cc) (ho : oW D tys A H0 s ws H locs) (q0 t0 : Nat) {cA : ClassId} {n : Nat} {f : Nat → Option Nat} (ha : ws[q0]? = some (a, .inl (cA, n, .inr (.inr (.inr (.inr f)))))) (ht : tys[t0]? = some (cA, .array .int)) {i : Int32} (hin : vp_in i n) {r : Nat} (hf : f i.toNatClampNeg = some r) (hdg : decode cc pc = .ok (.aaload, 1))
    (kk : W p l e R s m args below meth c H locs cells slots Q (F0 m (pc + 1) ls (.ref r :: rest))) : W p l e R s m args below meth c H locs cells slots Q (F0 m pc ls (.int i :: .ref a :: rest)) := by
  have hlt : i.toNatClampNeg < n := Nat.not_le.mp fun q => hin (Or.inr q)
  exact W.aald (v := .ref r) (ty := .array .int) hx hb (ho.2.2.1 q0 _ ha) ((ho.1.2 t0 _ ht).1 n (fun j => va_rf (f j))) rfl (fun q => by cases q) (by show ¬ (i < 0 ∨ (arrV _ _ _).slots.size ≤ _); rw [arrV_size]; exact hin) (by show (arrV _ _ _).slots[_]? = _; rw [arrV_read _ _ hlt, hf]; rfl) rfl rfl hdg kk
variable {Ts : List Cond} {own C : String} {nL index n maxL ci : Nat} {T : u_T} {N : Nat} {y : MethodName} {wy : List Cond} {rm : Room} {bytes : ByteArray} {ret : Option FieldType} {As st0 : List Value} {b : Nat} {fs : List Value} {host : String}
theorem oFc (ho : oW D tys A H0 s ws H locs) : ∀ q, va_A ws H.size q → A q := by
  intro q h
  rcases h with ⟨k, e, h⟩ | h
  · exact ho.2.2.2.1.2 k (q, e) h
  · exact ho.2.2.2.2.2 q (Nat.le_trans ho.2.2.2.2.1.1 h)
theorem oPre.at (ho : oW D tys A H0 s ws H locs) : ∀ U : State, U.heap = H → s.WarmedH U.vm → oPre D tys ws H.size U :=
  fun U hU hW => ⟨by rw [hU], by rw [hU]; exact ho.2.2.1, va_K.moved hW.alike ho.1, ho.2.2.2.1.weaken (fun _ _ _ _ => trivial), ho.2.1.warm hW⟩
theorem oPost.on {t : State} {H1 : Heap} {locs1 : List Loc} {w1 : va_W} (ho : oW D tys A H0 s ws H locs) (ht : t.heap = H1) (hB : oPost D tys (va_A ws H.size) w1 t) (hS : va_S A H0 H1 locs1) : oW D tys A H0 s w1 H1 locs1 := by
  obtain ⟨hP1, hK1, hD1⟩ := hB
  rw [ht] at hP1
  exact ⟨ho.1, ho.2.1, hP1, hD1.weaken (fun _ q _ h => oFc ho q.1 h), hS, ho.2.2.2.2.2⟩
theorem o_callVi {post : Int32 → S → Prop} (C0 : CallFix p m c cc nL s args Ts own) (ho : oW D tys A H0 s ws H locs) (hM : oKi l y wy rm (.ref b :: As) D tys ws S post wf) (cw : CallW R s args own C index y bytes maxL ret wy rm 0 0 n)
    (q0 : Nat) (hc : vwCl[ci]? = some (C, T, N)) (he : ws[q0]? = some (b, .inr (ci, fs))) (hn : As.length = n) (hsize : ls.size = nL) (hstack : st0 = As.reverse ++ .ref b :: rest) (hroom : (rest.map fun v => v.category).sum ≤ 8) (hdg : decode cc pc = .ok (.invokevirtual index, 3)) (hcs : cells ≤ R.cells ∧ slots ≤ R.slots)
    (kk : ∀ (r : Int32) (u : S) (H1 : Heap) (locs1 : List Loc), post r u → oW D tys A H0 s (wf u) H1 locs1 → W p l e R s m args below meth c H1 locs1 cells slots Q (F0 m (pc + 3) ls (.int r :: rest))) : W p l e R s m args below meth c H locs cells slots Q (F0 m pc ls st0) :=
  va_calli (va_runV (As := As) (rest := rest) C0 (hM H.size) cw ⟨oPre.blind, va_recv ho.1 ho.2.2.1 hc he, fun U hU hW => ⟨rfl, oPre.at ho U hU hW⟩⟩ rfl hn hsize hstack (lv_room hroom) hdg hcs) ho.2.2.2.2.1 (fun q _ h => oFc ho q h) (oFc ho) (fun r u _ H1 locs1 ht _ hw hB _ _ hS => kk r u H1 locs1 hw (oPost.on ho ht hB hS))
theorem o_callVv {post : S → Prop} (C0 : CallFix p m c cc nL s args Ts own) (ho : oW D tys A H0 s ws H locs) (hM : oKv l y wy rm (.ref b :: As) D tys ws S post wf) (cw : CallW R s args own C index y bytes maxL ret wy rm 0 0 n)
    (q0 : Nat) (hc : vwCl[ci]? = some (C, T, N)) (he : ws[q0]? = some (b, .inr (ci, fs))) (hn : As.length = n) (hsize : ls.size = nL) (hstack : st0 = As.reverse ++ .ref b :: rest) (hroom : (rest.map fun v => v.category).sum ≤ 8) (hdg : decode cc pc = .ok (.invokevirtual index, 3)) (hcs : cells ≤ R.cells ∧ slots ≤ R.slots)
    (kk : ∀ (u : S) (H1 : Heap) (locs1 : List Loc), post u → oW D tys A H0 s (wf u) H1 locs1 → W p l e R s m args below meth c H1 locs1 cells slots Q (F0 m (pc + 3) ls rest)) : W p l e R s m args below meth c H locs cells slots Q (F0 m pc ls st0) :=
  va_callv (va_runV (As := As) (rest := rest) C0 (hM H.size) cw ⟨oPre.blind, va_recv ho.1 ho.2.2.1 hc he, fun U hU hW => ⟨rfl, oPre.at ho U hU hW⟩⟩ rfl hn hsize hstack (lv_room hroom) hdg hcs) ho.2.2.2.2.1 (fun q _ h => oFc ho q h) (oFc ho) (fun u _ H1 locs1 ht _ hw hB _ _ hS => kk u H1 locs1 hw (oPost.on ho ht hB hS))
theorem o_callSi {post : Int32 → S → Prop} (C0 : CallFix p m c cc nL s args Ts own) (ho : oW D tys A H0 s ws H locs) (hM : oKi l y wy rm As D tys ws S post wf) (cw : CallB R s args own index y bytes maxL ret wy rm 0 0 n ∧ (Cond.static y).before args s = true)
    (hn : As.length = n) (hsize : ls.size = nL) (hstack : st0 = As.reverse ++ rest) (hroom : (rest.map fun v => v.category).sum ≤ 8) (hdg : decode cc pc = .ok (.invokestatic index, 3)) (hcs : cells ≤ R.cells ∧ slots ≤ R.slots)
    (kk : ∀ (r : Int32) (u : S) (H1 : Heap) (locs1 : List Loc), post r u → oW D tys A H0 s (wf u) H1 locs1 → W p l e R s m args below meth c H1 locs1 cells slots Q (F0 m (pc + 3) ls (.int r :: rest))) : W p l e R s m args below meth c H locs cells slots Q (F0 m pc ls st0) :=
  va_calli (va_runS (As := As) (rest := rest) C0 (hM H.size) cw ⟨oPre.blind, fun U hU hW => ⟨rfl, oPre.at ho U hU hW⟩⟩ rfl hn hsize hstack (lv_room hroom) hdg hcs) ho.2.2.2.2.1 (fun q _ h => oFc ho q h) (oFc ho) (fun r u _ H1 locs1 ht _ hw hB _ _ hS => kk r u H1 locs1 hw (oPost.on ho ht hB hS))
theorem o_callSNi {post : Int32 → S → Prop} (C0 : CallFix p m c cc nL s args Ts own) (ho : oW D tys A H0 s ws H locs) (hM : oKi l y wy rm As D tys ws S post wf) (cw : va_CN R s args own index y host bytes maxL ret wy rm 0 0 n ∧ (Cond.static y).before args s = true ∧ True)
    (hn : As.length = n) (hsize : ls.size = nL) (hstack : st0 = As.reverse ++ rest) (hroom : (rest.map fun v => v.category).sum ≤ 8) (hdg : decode cc pc = .ok (.invokestatic index, 3)) (hcs : cells ≤ R.cells ∧ slots ≤ R.slots)
    (kk : ∀ (r : Int32) (u : S) (H1 : Heap) (locs1 : List Loc), post r u → oW D tys A H0 s (wf u) H1 locs1 → W p l e R s m args below meth c H1 locs1 cells slots Q (F0 m (pc + 3) ls (.int r :: rest))) : W p l e R s m args below meth c H locs cells slots Q (F0 m pc ls st0) :=
  va_calli (va_runSN (As := As) (rest := rest) C0 (hM H.size) cw ⟨oPre.blind, fun U hU hW => ⟨rfl, oPre.at ho U hU hW⟩⟩ rfl hn hsize hstack (lv_room hroom) hdg hcs) ho.2.2.2.2.1 (fun q _ h => oFc ho q h) (oFc ho) (fun r u _ H1 locs1 ht _ hw hB _ _ hS => kk r u H1 locs1 hw (oPost.on ho ht hB hS))
end OB2
