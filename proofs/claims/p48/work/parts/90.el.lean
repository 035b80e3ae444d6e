/-! THE LAW'S OWN JUDGEMENT: the class' world, and the law's arrays beside it (by number: shape (0, N) an int[N], (3, N) an int[N][]) -/
abbrev XS : Type := Nat → Nat × Nat
/-- the law's memory: how many places of the class' world, its references, its numbers; how many arrays, their references, their numbers -/
abbrev LM : Type := Nat × Mem × Mem × Nat × Mem × Mem
def xel (S : XS) (dA : Nat → ClassId) (ad : Nat → Nat) (η ξ : Mem) (x : Nat) : va_E := match S x with
  | (0, n) => .inl (dA 0, n, .inl fun j => Int32.ofInt (ξ x j))
  | (_, n) => .inl (dA 3, n, .inr (.inr (.inr (.inr fun j => if η x j < 0 then none else some (ad (100000 + (η x j).toNat))))))
def xl (S : XS) (dA : Nat → ClassId) (ad : Nat → Nat) (η ξ : Mem) (nx : Nat) : va_W := (List.range nx).map fun x => (ad (100000 + x), xel S dA ad η ξ x)
def ww (S : XS) (dA : Nat → ClassId) (ad : Nat → Nat) (μ : LM) : va_W := wl dA ad μ.2.1 μ.2.2.1 μ.1 ++ xl S dA ad μ.2.2.2.2.1 μ.2.2.2.2.2 μ.2.2.2.1
def xz (S : XS) : Nat → Nat
  | 0 => 0
  | x + 1 => xz S x + (S x).2
def pokx (nx : Nat) (η ξ : Mem) : Prop := (∀ x j : Int, in32 (ξ x j)) ∧ (∀ x j : Int, -1 ≤ η x j ∧ η x j < nx) ∧ ∀ x j : Int, nx ≤ x → η x j = -1 ∧ ξ x j = 0
def Cxl (S : XS) (M : MD) (z0 z1 : Nat × Nat) (p : Program) (Rm : Room) (s : State) (m : MethodId) (args : Array Value) (meth : Method) (c : Code) : Prop :=
  p.tables.exec = Jvm.exec ∧ c.code = M.2.1 ∧ meth.sig.returnType = M.2.2.2.1 ∧ c.maxLocals = M.2.2.1 ∧ s.vm.findClass M.1 = some m.cls ∧ (∀ w ∈ WS, w.before args s = true) ∧ meth.locks = false ∧ M.2.2.2.2.1 ≤ Rm.frames ∧ M.2.2.2.2.2.1 ≤ Rm.locals ∧ z1.1 - z0.1 + (z1.2 - z0.2) ≤ Rm.cells ∧ szL z1.1 - szL z0.1 + (xz S z1.2 - xz S z0.2) ≤ Rm.slots ∧ (M.2.2.2.2.2.2.1 = true → meth.name = "<init>")
/-- the tables' word of an array of int arrays -/
def va_AI (U : State) : Prop := (Cond.arrayOver (.array .int)).before #[] U = true
theorem va_AI.of {A : Array Value} {U : State} (h : (Cond.arrayOver (.array .int)).before A U = true) : va_AI U := h
theorem va_AI.use {A : Array Value} {U : State} (h : va_AI U) : (Cond.arrayOver (.array .int)).before A U = true := h
theorem va_AI.moved {u U : State} (hvm : u.vm.Alike U.vm) (h : va_AI u) : va_AI U := by
  obtain ⟨comp, c, k, h1, h2, h3, h4, h5⟩ := arrayOverA_spec h
  obtain ⟨k', hk', he⟩ := hvm.2.2 _ _ h3
  have key : ∀ F : Class → Bool, (∀ a b : Class, a.kind = b.kind → F a = F b) → U.vm.classes.findIdx? F = u.vm.classes.findIdx? F := fun F hF => by
    have hb : ∀ vm : Vm, vm.bare.classes.findIdx? F = vm.classes.findIdx? F := fun vm => by
      simp only [Vm.bare, Array.findIdx?_map]
      exact congrArg (fun G => Array.findIdx? G vm.classes) (funext fun x => hF _ _ rfl)
    rw [← hb U.vm, ← hb u.vm]
    first | rw [hvm.bare_eq] | rw [← hvm.bare_eq]
  have hi := (key _ (fun a b e => by first | rw [e] | simp only [e])).trans h2
  have hkind : k'.kind = .array comp (.array .int) := by rw [he]; exact h4
  have f1 : U.vm.findClass (FieldType.array .int).toString = some comp := by rw [hvm.findClass]; exact h1
  have f2 : U.vm.findClass ("[" ++ (FieldType.array .int).toString) = some c := by rw [hvm.findClass]; exact h5
  unfold va_AI Cond.before Cond.holds
  simp only [Cond.value]
  rw [f1, Option.bind_some]
  refine (congrArg (fun o : Option Nat => (o.bind (fun c => (U.vm.classes[c]?).map fun (k : Class) => match k.kind with | .array _ ty => decide (ty = FieldType.array .int) && decide (U.vm.findClass ("[" ++ (FieldType.array .int).toString) = some c) | _ => false) == some true)) hi).trans ?_
  simp [hk', hkind, f2]
def Cwl (M : MD) (D : va_G) (dA : Nat → ClassId) (z0 z1 : Nat × Nat) (ad0 : Nat → Nat) (A : Nat → Prop) (s : State) : Prop := va_K D vwCl (TY dA) s ∧ Sk ad0 A s s.heap ∧ (∀ q, s.heap.size ≤ q → A q) ∧ M.2.2.2.2.2.2.2 s A ad0 ∧ (∀ x, z0.2 ≤ x → x < z1.2 → ad0 (100000 + x) = s.heap.size + (x - z0.2)) ∧ va_AI s
def Chl (S : XS) (b : Bool) (D : va_G) (dA : Nat → ClassId) (z0 z1 : Nat × Nat) (μ : LM) (ad0 ad : Nat → Nat) (A : Nat → Prop) (H0 H : Heap) (locs : List Loc) : Prop := va_P D vwCl (ww S dA ad μ) H ∧ va_D A (ww S dA ad μ) ∧ va_S A H0 H locs ∧ (∀ k, k < z0.1 → ad k = ad0 k) ∧ (∀ k, 100000 ≤ k → ad k = ad0 k) ∧ pok μ.1 μ.2.1 μ.2.2.1 ∧ z0.1 ≤ μ.1 ∧ μ.1 ≤ z1.1 ∧ z1.1 ≤ 90000 ∧ pokx μ.2.2.2.1 μ.2.2.2.2.1 μ.2.2.2.2.2 ∧ z0.2 ≤ μ.2.2.2.1 ∧ μ.2.2.2.1 ≤ z1.2 ∧ z1.2 ≤ 90000 ∧ (b = true → H.size = H0.size + (μ.1 - z0.1) + (μ.2.2.2.1 - z0.2))
def Afl (z0 : Nat × Nat) (ad0 : Nat → Nat) (sz : Nat) : Nat → Prop := fun q => (∃ k, k < z0.1 ∧ q = ad0 k) ∨ (∃ x, x < z0.2 ∧ q = ad0 (100000 + x)) ∨ sz ≤ q
def Qml (S : XS) (κ : Bool) (z0 z1 : Nat × Nat) (r : Option V × LM) (D : va_G) (dA : Nat → ClassId) (ad0 : Nat → Nat) (A : Nat → Prop) : Array Value → State → Outcome → State → Prop := fun _ st oc t =>
  (∃ ad : Nat → Nat, (∀ k, k < z0.1 → ad k = ad0 k) ∧ (∀ k, 100000 ≤ k → ad k = ad0 k) ∧ oc = .returned (r.1.map (rv ad)) ∧ (∀ v, r.1 = some v → okv z1.1 v) ∧ va_P D vwCl (ww S dA ad r.2) t.heap ∧ va_D A (ww S dA ad r.2) ∧ pok z1.1 r.2.2.1 r.2.2.2.1 ∧ pokx z1.2 r.2.2.2.2.2.1 r.2.2.2.2.2.2 ∧ (r.2.1 = z1.1 ∧ r.2.2.2.2.1 = z1.2) ∧ (κ = true → t.heap.size = st.heap.size + (z1.1 - z0.1) + (z1.2 - z0.2))) ∧ va_F A st t
/-- FROM HERE IT COMES TO r, in the law's own methods -/
def El (S : XS) (M : MD) (f : Bool × Bool) (z0 z1 : Nat × Nat) (r : Option V × LM) (pc : Nat) (μ : LM) (L st : List V) : Prop :=
  ∀ (p : Program) (l : Launch) (e : Env) (Rm : Room) (s : State) (m : MethodId) (args : Array Value) (below : List Frame) (meth : Method) (c : Code) (A : Nat → Prop) (H : Heap) (locs : List Loc) (D : va_G) (dA : Nat → ClassId) (ad0 ad : Nat → Nat) (ls : Array Slot),
    Cxl S M z0 z1 p Rm s m args meth c → Cwl M D dA z0 z1 ad0 A s → Chl S f.2 D dA z0 z1 μ ad0 ad A s.heap H locs → lv_has ls M.2.2.1 (lz ad 0 L) → (∀ v ∈ L, okv μ.1 v) → L.length = M.2.2.1 → (∀ v ∈ st, okv μ.1 v) →
    W p l e Rm s m args below meth c H locs (μ.1 - z0.1 + (μ.2.2.2.1 - z0.2)) (szL μ.1 - szL z0.1 + (xz S μ.2.2.2.1 - xz S z0.2)) (MQ below (Qml S f.1 z0 z1 r D dA ad0 A) args s (z1.1 - z0.1 + (z1.2 - z0.2)) (szL z1.1 - szL z0.1 + (xz S z1.2 - xz S z0.2)) A) (F0 m pc ls (st.map (rv ad)))
theorem el_iconst {S : XS} {M : MD} {f : Bool × Bool} {z0 z1 : Nat × Nat} {r : Option V × LM} {pc : Nat} {μ : LM} {L st : List V} {k : Int} (hd : decode M.2.1 pc = .ok (.iconst k, 1)) (hv : in32 k) (hh : El S M f z0 z1 r (pc + 1) μ (L) ((0, k) :: st)) : El S M f z0 z1 r (pc) μ (L) (st) := by
  intro p l e Rm s m args below meth c A H locs D dA ad0 ad ls C K h hl hL hn hs
  have hx := C.1
  have hb := C.2.1
  exact lv_iconst hx hb hd rfl (hh p l e Rm s m args below meth c A H locs D dA ad0 ad ls C K h hl hL hn (ok_cons hv hs))
theorem el_bipush {S : XS} {M : MD} {f : Bool × Bool} {z0 z1 : Nat × Nat} {r : Option V × LM} {pc : Nat} {μ : LM} {L st : List V} {k : Int} (hd : decode M.2.1 pc = .ok (.bipush k, 2)) (hv : in32 k) (hw : (Int8.ofInt k).toInt32 = Int32.ofInt k) (hh : El S M f z0 z1 r (pc + 2) μ (L) ((0, k) :: st)) : El S M f z0 z1 r (pc) μ (L) (st) := by
  intro p l e Rm s m args below meth c A H locs D dA ad0 ad ls C K h hl hL hn hs
  have hx := C.1
  have hb := C.2.1
  exact lv_bipush hx hb hd hw (hh p l e Rm s m args below meth c A H locs D dA ad0 ad ls C K h hl hL hn (ok_cons hv hs))
theorem el_sipush {S : XS} {M : MD} {f : Bool × Bool} {z0 z1 : Nat × Nat} {r : Option V × LM} {pc : Nat} {μ : LM} {L st : List V} {k : Int} (hd : decode M.2.1 pc = .ok (.sipush k, 3)) (hv : in32 k) (hw : (Int16.ofInt k).toInt32 = Int32.ofInt k) (hh : El S M f z0 z1 r (pc + 3) μ (L) ((0, k) :: st)) : El S M f z0 z1 r (pc) μ (L) (st) := by
  intro p l e Rm s m args below meth c A H locs D dA ad0 ad ls C K h hl hL hn hs
  have hx := C.1
  have hb := C.2.1
  exact lv_sipush hx hb hd hw (hh p l e Rm s m args below meth c A H locs D dA ad0 ad ls C K h hl hL hn (ok_cons hv hs))
theorem el_lconst {S : XS} {M : MD} {f : Bool × Bool} {z0 z1 : Nat × Nat} {r : Option V × LM} {pc : Nat} {μ : LM} {L st : List V} {k : Fin 2} {x : Int} (hd : decode M.2.1 pc = .ok (.lconst k, 1)) (hv : in64 x) (hw : Int64.ofNat (k : Nat) = Int64.ofInt x) (hh : El S M f z0 z1 r (pc + 1) μ (L) ((1, x) :: st)) : El S M f z0 z1 r (pc) μ (L) (st) := by
  intro p l e Rm s m args below meth c A H locs D dA ad0 ad ls C K h hl hL hn hs
  have hx := C.1
  have hb := C.2.1
  exact lv_lconst hx hb hd hw (hh p l e Rm s m args below meth c A H locs D dA ad0 ad ls C K h hl hL hn (ok_cons hv hs))
theorem el_ldc {S : XS} {M : MD} {f : Bool × Bool} {z0 z1 : Nat × Nat} {r : Option V × LM} {pc : Nat} {μ : LM} {L st : List V} {k : Nat} {z : Int32} {x : Int} (hd : decode M.2.1 pc = .ok (.ldc k, 2)) (hw : Cond.constant M.1 k z ∈ WS) (hz : z = Int32.ofInt x) (hv : in32 x) (hh : El S M f z0 z1 r (pc + 2) μ (L) ((0, x) :: st)) : El S M f z0 z1 r (pc) μ (L) (st) := by
  intro p l e Rm s m args below meth c A H locs D dA ad0 ad ls C K h hl hL hn hs
  have hx := C.1
  have hb := C.2.1
  subst hz
  exact lv_ldc hx hb C.2.2.2.2.1 (C.2.2.2.2.2.1 _ hw) hd (hh p l e Rm s m args below meth c A H locs D dA ad0 ad ls C K h hl hL hn (ok_cons hv hs))
theorem el_ldcw {S : XS} {M : MD} {f : Bool × Bool} {z0 z1 : Nat × Nat} {r : Option V × LM} {pc : Nat} {μ : LM} {L st : List V} {k : Nat} {z : Int32} {x : Int} (hd : decode M.2.1 pc = .ok (.ldc_w k, 3)) (hw : Cond.constant M.1 k z ∈ WS) (hz : z = Int32.ofInt x) (hv : in32 x) (hh : El S M f z0 z1 r (pc + 3) μ (L) ((0, x) :: st)) : El S M f z0 z1 r (pc) μ (L) (st) := by
  intro p l e Rm s m args below meth c A H locs D dA ad0 ad ls C K h hl hL hn hs
  have hx := C.1
  have hb := C.2.1
  subst hz
  exact lv_ldcw hx hb C.2.2.2.2.1 (C.2.2.2.2.2.1 _ hw) hd (hh p l e Rm s m args below meth c A H locs D dA ad0 ad ls C K h hl hL hn (ok_cons hv hs))
theorem el_ldc2 {S : XS} {M : MD} {f : Bool × Bool} {z0 z1 : Nat × Nat} {r : Option V × LM} {pc : Nat} {μ : LM} {L st : List V} {k : Nat} {z : Int64} {x : Int} (hd : decode M.2.1 pc = .ok (.ldc2_w k, 3)) (hw : Cond.constantLong M.1 k z ∈ WS) (hz : z = Int64.ofInt x) (hv : in64 x) (hh : El S M f z0 z1 r (pc + 3) μ (L) ((1, x) :: st)) : El S M f z0 z1 r (pc) μ (L) (st) := by
  intro p l e Rm s m args below meth c A H locs D dA ad0 ad ls C K h hl hL hn hs
  have hx := C.1
  have hb := C.2.1
  subst hz
  exact lv_ldc2 hx hb C.2.2.2.2.1 (C.2.2.2.2.2.1 _ hw) hd (hh p l e Rm s m args below meth c A H locs D dA ad0 ad ls C K h hl hL hn (ok_cons hv hs))
theorem el_iload_n {S : XS} {M : MD} {f : Bool × Bool} {z0 z1 : Nat × Nat} {r : Option V × LM} {pc : Nat} {μ : LM} {L st : List V} {k : Fin 4} {x : Int} (hd : decode M.2.1 pc = .ok (.iload_n k, 1)) (hi : L[(k : Nat)]? = some (0, x)) (hh : El S M f z0 z1 r (pc + 1) μ (L) ((0, x) :: st)) : El S M f z0 z1 r (pc) μ (L) (st) := by
  intro p l e Rm s m args below meth c A H locs D dA ad0 ad ls C K h hl hL hn hs
  have hx := C.1
  have hb := C.2.1
  exact lv_iload_n hx hb hd rfl (lok_at hl hi (fun q => by cases q)) (hh p l e Rm s m args below meth c A H locs D dA ad0 ad ls C K h hl hL hn (ok_cons (hL _ (List.mem_of_getElem? hi)) hs))
theorem el_iload {S : XS} {M : MD} {f : Bool × Bool} {z0 z1 : Nat × Nat} {r : Option V × LM} {pc : Nat} {μ : LM} {L st : List V} {k : Nat} {x : Int} (hd : decode M.2.1 pc = .ok (.iload k, 2)) (hi : L[k]? = some (0, x)) (hh : El S M f z0 z1 r (pc + 2) μ (L) ((0, x) :: st)) : El S M f z0 z1 r (pc) μ (L) (st) := by
  intro p l e Rm s m args below meth c A H locs D dA ad0 ad ls C K h hl hL hn hs
  have hx := C.1
  have hb := C.2.1
  exact lv_iload hx hb hd (lok_at hl hi (fun q => by cases q)) (hh p l e Rm s m args below meth c A H locs D dA ad0 ad ls C K h hl hL hn (ok_cons (hL _ (List.mem_of_getElem? hi)) hs))
theorem el_lload_n {S : XS} {M : MD} {f : Bool × Bool} {z0 z1 : Nat × Nat} {r : Option V × LM} {pc : Nat} {μ : LM} {L st : List V} {k : Fin 4} {x : Int} (hd : decode M.2.1 pc = .ok (.lload_n k, 1)) (hi : L[(k : Nat)]? = some (1, x)) (hh : El S M f z0 z1 r (pc + 1) μ (L) ((1, x) :: st)) : El S M f z0 z1 r (pc) μ (L) (st) := by
  intro p l e Rm s m args below meth c A H locs D dA ad0 ad ls C K h hl hL hn hs
  have hx := C.1
  have hb := C.2.1
  exact lv_lload_n hx hb hd rfl (lok_at hl hi (fun q => by cases q)) (hh p l e Rm s m args below meth c A H locs D dA ad0 ad ls C K h hl hL hn (ok_cons (hL _ (List.mem_of_getElem? hi)) hs))
theorem el_lload {S : XS} {M : MD} {f : Bool × Bool} {z0 z1 : Nat × Nat} {r : Option V × LM} {pc : Nat} {μ : LM} {L st : List V} {k : Nat} {x : Int} (hd : decode M.2.1 pc = .ok (.lload k, 2)) (hi : L[k]? = some (1, x)) (hh : El S M f z0 z1 r (pc + 2) μ (L) ((1, x) :: st)) : El S M f z0 z1 r (pc) μ (L) (st) := by
  intro p l e Rm s m args below meth c A H locs D dA ad0 ad ls C K h hl hL hn hs
  have hx := C.1
  have hb := C.2.1
  exact lv_lload hx hb hd (lok_at hl hi (fun q => by cases q)) (hh p l e Rm s m args below meth c A H locs D dA ad0 ad ls C K h hl hL hn (ok_cons (hL _ (List.mem_of_getElem? hi)) hs))
theorem el_aload_n {S : XS} {M : MD} {f : Bool × Bool} {z0 z1 : Nat × Nat} {r : Option V × LM} {pc : Nat} {μ : LM} {L st : List V} {k : Fin 4} {x : Int} (hd : decode M.2.1 pc = .ok (.aload_n k, 1)) (hi : L[(k : Nat)]? = some (2, x)) (h0 : 0 ≤ x) (hh : El S M f z0 z1 r (pc + 1) μ (L) ((2, x) :: st)) : El S M f z0 z1 r (pc) μ (L) (st) := by
  intro p l e Rm s m args below meth c A H locs D dA ad0 ad ls C K h hl hL hn hs
  have hx := C.1
  have hb := C.2.1
  have h2 := hh p l e Rm s m args below meth c A H locs D dA ad0 ad ls C K h hl hL hn (ok_cons (hL _ (List.mem_of_getElem? hi)) hs)
  rw [List.map_cons, rv_ref h0] at h2
  exact lv_aload_n hx hb hd rfl (by rw [← rv_ref h0]; exact lok_at hl hi (fun q => by cases q)) h2
theorem el_aload {S : XS} {M : MD} {f : Bool × Bool} {z0 z1 : Nat × Nat} {r : Option V × LM} {pc : Nat} {μ : LM} {L st : List V} {k : Nat} {x : Int} (hd : decode M.2.1 pc = .ok (.aload k, 2)) (hi : L[k]? = some (2, x)) (h0 : 0 ≤ x) (hh : El S M f z0 z1 r (pc + 2) μ (L) ((2, x) :: st)) : El S M f z0 z1 r (pc) μ (L) (st) := by
  intro p l e Rm s m args below meth c A H locs D dA ad0 ad ls C K h hl hL hn hs
  have hx := C.1
  have hb := C.2.1
  have h2 := hh p l e Rm s m args below meth c A H locs D dA ad0 ad ls C K h hl hL hn (ok_cons (hL _ (List.mem_of_getElem? hi)) hs)
  rw [List.map_cons, rv_ref h0] at h2
  exact lv_aload hx hb hd (by rw [← rv_ref h0]; exact lok_at hl hi (fun q => by cases q)) h2
theorem el_aloadS {S : XS} {M : MD} {f : Bool × Bool} {z0 z1 : Nat × Nat} {r : Option V × LM} {pc : Nat} {μ : LM} {L st : List V} {k : Fin 4} {x : Int} (hd : decode M.2.1 pc = .ok (.aload_n k, 1)) (hi : L[(k : Nat)]? = some (3, x)) (hh : El S M f z0 z1 r (pc + 1) μ (L) ((3, x) :: st)) : El S M f z0 z1 r (pc) μ (L) (st) := by
  intro p l e Rm s m args below meth c A H locs D dA ad0 ad ls C K h hl hL hn hs
  have hx := C.1
  have hb := C.2.1
  exact lv_aload_n hx hb hd rfl (lok_at hl hi (fun q => by cases q)) (hh p l e Rm s m args below meth c A H locs D dA ad0 ad ls C K h hl hL hn (ok_cons (hL _ (List.mem_of_getElem? hi)) hs))
theorem el_istore_n {S : XS} {M : MD} {f : Bool × Bool} {z0 z1 : Nat × Nat} {r : Option V × LM} {pc : Nat} {μ : LM} {L st : List V} {k : Fin 4} {x : Int} (hd : decode M.2.1 pc = .ok (.istore_n k, 1)) (hk : stk L (k : Nat) = true) (hb' : (k : Nat) < M.2.2.1) (hh : El S M f z0 z1 r (pc + 1) μ (L.set (k : Nat) (0, x)) (st)) : El S M f z0 z1 r (pc) μ (L) ((0, x) :: st) := by
  intro p l e Rm s m args below meth c A H locs D dA ad0 ad ls C K h hl hL hn hs
  have hx := C.1
  have hb := C.2.1
  exact lv_istore_n hx hb hd rfl hl hb' rfl (fun ls' hl' => hh p l e Rm s m args below meth c A H locs D dA ad0 ad ls' C K h (lok_st1 (v := (0, x)) (show (0 : Nat) ≠ 1 by decide) hk hl') (set_ok hL (cons_ok hs).1) (by simpa using hn) (cons_ok hs).2)
theorem el_istore {S : XS} {M : MD} {f : Bool × Bool} {z0 z1 : Nat × Nat} {r : Option V × LM} {pc : Nat} {μ : LM} {L st : List V} {k : Nat} {x : Int} (hd : decode M.2.1 pc = .ok (.istore k, 2)) (hk : stk L k = true) (hb' : k < M.2.2.1) (hh : El S M f z0 z1 r (pc + 2) μ (L.set k (0, x)) (st)) : El S M f z0 z1 r (pc) μ (L) ((0, x) :: st) := by
  intro p l e Rm s m args below meth c A H locs D dA ad0 ad ls C K h hl hL hn hs
  have hx := C.1
  have hb := C.2.1
  exact lv_istore hx hb hd hl hb' rfl (fun ls' hl' => hh p l e Rm s m args below meth c A H locs D dA ad0 ad ls' C K h (lok_st1 (v := (0, x)) (show (0 : Nat) ≠ 1 by decide) hk hl') (set_ok hL (cons_ok hs).1) (by simpa using hn) (cons_ok hs).2)
theorem el_lstore_n {S : XS} {M : MD} {f : Bool × Bool} {z0 z1 : Nat × Nat} {r : Option V × LM} {pc : Nat} {μ : LM} {L st : List V} {k : Fin 4} {x : Int} (hd : decode M.2.1 pc = .ok (.lstore_n k, 1)) (hk : stk L (k : Nat) = true) (hb' : (k : Nat) + 1 < M.2.2.1) (hh : El S M f z0 z1 r (pc + 1) μ ((L.set (k : Nat) (1, x)).set ((k : Nat) + 1) (9, 0)) (st)) : El S M f z0 z1 r (pc) μ (L) ((1, x) :: st) := by
  intro p l e Rm s m args below meth c A H locs D dA ad0 ad ls C K h hl hL hn hs
  have hx := C.1
  have hb := C.2.1
  exact lv_lstore_n hx hb hd rfl hl hb' rfl (fun ls' hl' => hh p l e Rm s m args below meth c A H locs D dA ad0 ad ls' C K h (lok_st2 hk hl') (set_ok (set_ok hL (cons_ok hs).1) trivial) (by simpa using hn) (cons_ok hs).2)
theorem el_lstore {S : XS} {M : MD} {f : Bool × Bool} {z0 z1 : Nat × Nat} {r : Option V × LM} {pc : Nat} {μ : LM} {L st : List V} {k : Nat} {x : Int} (hd : decode M.2.1 pc = .ok (.lstore k, 2)) (hk : stk L k = true) (hb' : k + 1 < M.2.2.1) (hh : El S M f z0 z1 r (pc + 2) μ ((L.set k (1, x)).set (k + 1) (9, 0)) (st)) : El S M f z0 z1 r (pc) μ (L) ((1, x) :: st) := by
  intro p l e Rm s m args below meth c A H locs D dA ad0 ad ls C K h hl hL hn hs
  have hx := C.1
  have hb := C.2.1
  exact lv_lstore hx hb hd hl hb' rfl (fun ls' hl' => hh p l e Rm s m args below meth c A H locs D dA ad0 ad ls' C K h (lok_st2 hk hl') (set_ok (set_ok hL (cons_ok hs).1) trivial) (by simpa using hn) (cons_ok hs).2)
theorem el_astore_n {S : XS} {M : MD} {f : Bool × Bool} {z0 z1 : Nat × Nat} {r : Option V × LM} {pc : Nat} {μ : LM} {L st : List V} {k : Fin 4} {x : Int} (hd : decode M.2.1 pc = .ok (.astore_n k, 1)) (hk : stk L (k : Nat) = true) (hb' : (k : Nat) < M.2.2.1) (h0 : 0 ≤ x) (hh : El S M f z0 z1 r (pc + 1) μ (L.set (k : Nat) (2, x)) (st)) : El S M f z0 z1 r (pc) μ (L) ((2, x) :: st) := by
  intro p l e Rm s m args below meth c A H locs D dA ad0 ad ls C K h hl hL hn hs
  have hx := C.1
  have hb := C.2.1
  rw [List.map_cons, rv_ref h0]
  exact lv_astore_n hx hb hd rfl hl hb' rfl (fun ls' hl' => hh p l e Rm s m args below meth c A H locs D dA ad0 ad ls' C K h (lok_st1 (v := (2, x)) (show (2 : Nat) ≠ 1 by decide) hk (by rw [rv_ref h0]; exact hl')) (set_ok hL (cons_ok hs).1) (by simpa using hn) (cons_ok hs).2)
theorem el_astore {S : XS} {M : MD} {f : Bool × Bool} {z0 z1 : Nat × Nat} {r : Option V × LM} {pc : Nat} {μ : LM} {L st : List V} {k : Nat} {x : Int} (hd : decode M.2.1 pc = .ok (.astore k, 2)) (hk : stk L k = true) (hb' : k < M.2.2.1) (h0 : 0 ≤ x) (hh : El S M f z0 z1 r (pc + 2) μ (L.set k (2, x)) (st)) : El S M f z0 z1 r (pc) μ (L) ((2, x) :: st) := by
  intro p l e Rm s m args below meth c A H locs D dA ad0 ad ls C K h hl hL hn hs
  have hx := C.1
  have hb := C.2.1
  rw [List.map_cons, rv_ref h0]
  exact lv_astore hx hb hd hl hb' rfl (fun ls' hl' => hh p l e Rm s m args below meth c A H locs D dA ad0 ad ls' C K h (lok_st1 (v := (2, x)) (show (2 : Nat) ≠ 1 by decide) hk (by rw [rv_ref h0]; exact hl')) (set_ok hL (cons_ok hs).1) (by simpa using hn) (cons_ok hs).2)
theorem el_forget {S : XS} {M : MD} {f : Bool × Bool} {z0 z1 : Nat × Nat} {r : Option V × LM} {pc : Nat} {μ : LM} {L st : List V} (k : Nat) (hh : El S M f z0 z1 r (pc) μ (L.set k (9, 0)) (st)) : El S M f z0 z1 r (pc) μ (L) (st) := by
  intro p l e Rm s m args below meth c A H locs D dA ad0 ad ls C K h hl hL hn hs
  have hx := C.1
  have hb := C.2.1
  refine hh p l e Rm s m args below meth c A H locs D dA ad0 ad ls C K h (lok_sub hl fun q hq => ?_) (set_ok hL trivial) (by simpa using hn) hs
  obtain ⟨i, v, h1, h2, h3⟩ := lz_inv _ _ _ hq
  rw [Nat.zero_add] at h1
  rw [List.getElem?_set] at h2
  by_cases hk : k = i
  · rw [if_pos hk] at h2
    split at h2
    · cases h2; exact absurd rfl h3
    · cases h2
  · rw [if_neg hk] at h2
    have := lz_mem (ad := ad) h3 L 0 i h2
    rw [Nat.zero_add] at this
    rw [h1]; exact this
theorem el_iinc {S : XS} {M : MD} {f : Bool × Bool} {z0 z1 : Nat × Nat} {r : Option V × LM} {pc : Nat} {μ : LM} {L st : List V} {k : Nat} {z x : Int} (hd : decode M.2.1 pc = .ok (.iinc k z, 3)) (hi : L[k]? = some (0, x)) (hk : stk L k = true) (hh : El S M f z0 z1 r (pc + 3) μ (L.set k (0, jadd x z)) (st)) : El S M f z0 z1 r (pc) μ (L) (st) := by
  intro p l e Rm s m args below meth c A H locs D dA ad0 ad ls C K h hl hL hn hs
  have hx := C.1
  have hb := C.2.1
  obtain ⟨j, hj⟩ := List.getElem?_of_mem (show (k, rv ad (0, x)) ∈ lz ad 0 L by have := lz_mem (ad := ad) (v := (0, x)) (fun q => by cases q) L 0 k hi; rwa [Nat.zero_add] at this)
  exact lv_iinc hx hb hd hl (v := Int32.ofInt (jadd x z)) hj (by rw [jadd, Int32.ofInt_toInt]) (by rw [← hn]; exact (List.getElem?_eq_some_iff.mp hi).1) rfl (fun ls' hl' => hh p l e Rm s m args below meth c A H locs D dA ad0 ad ls' C K h (lok_st1 (v := (0, jadd x z)) (show (0 : Nat) ≠ 1 by decide) hk hl') (set_ok hL (ti32 _)) (by simpa using hn) hs)
theorem el_iadd {S : XS} {M : MD} {f : Bool × Bool} {z0 z1 : Nat × Nat} {r : Option V × LM} {pc : Nat} {μ : LM} {L st : List V} {x y : Int} (hd : decode M.2.1 pc = .ok (.iadd, 1)) (hh : El S M f z0 z1 r (pc + 1) μ (L) ((0, jadd x y) :: st)) : El S M f z0 z1 r (pc) μ (L) ((0, y) :: (0, x) :: st) := by
  intro p l e Rm s m args below meth c A H locs D dA ad0 ad ls C K h hl hL hn hs
  have hx := C.1
  have hb := C.2.1
  have h2 := hh p l e Rm s m args below meth c A H locs D dA ad0 ad ls C K h hl hL hn (ok_cons (ti32 _) (cons_ok (cons_ok hs).2).2)
  rw [List.map_cons, show rv ad (0, jadd x y) = .int (Int32.ofInt (jadd x y)) from rfl, jadd, Int32.ofInt_toInt] at h2
  exact lv_iadd hx hb hd h2
theorem el_isub {S : XS} {M : MD} {f : Bool × Bool} {z0 z1 : Nat × Nat} {r : Option V × LM} {pc : Nat} {μ : LM} {L st : List V} {x y : Int} (hd : decode M.2.1 pc = .ok (.isub, 1)) (hh : El S M f z0 z1 r (pc + 1) μ (L) ((0, jsub x y) :: st)) : El S M f z0 z1 r (pc) μ (L) ((0, y) :: (0, x) :: st) := by
  intro p l e Rm s m args below meth c A H locs D dA ad0 ad ls C K h hl hL hn hs
  have hx := C.1
  have hb := C.2.1
  have h2 := hh p l e Rm s m args below meth c A H locs D dA ad0 ad ls C K h hl hL hn (ok_cons (ti32 _) (cons_ok (cons_ok hs).2).2)
  rw [List.map_cons, show rv ad (0, jsub x y) = .int (Int32.ofInt (jsub x y)) from rfl, jsub, Int32.ofInt_toInt] at h2
  exact lv_isub hx hb hd h2
theorem el_imul {S : XS} {M : MD} {f : Bool × Bool} {z0 z1 : Nat × Nat} {r : Option V × LM} {pc : Nat} {μ : LM} {L st : List V} {x y : Int} (hd : decode M.2.1 pc = .ok (.imul, 1)) (hh : El S M f z0 z1 r (pc + 1) μ (L) ((0, jmul x y) :: st)) : El S M f z0 z1 r (pc) μ (L) ((0, y) :: (0, x) :: st) := by
  intro p l e Rm s m args below meth c A H locs D dA ad0 ad ls C K h hl hL hn hs
  have hx := C.1
  have hb := C.2.1
  have h2 := hh p l e Rm s m args below meth c A H locs D dA ad0 ad ls C K h hl hL hn (ok_cons (ti32 _) (cons_ok (cons_ok hs).2).2)
  rw [List.map_cons, show rv ad (0, jmul x y) = .int (Int32.ofInt (jmul x y)) from rfl, jmul, Int32.ofInt_toInt] at h2
  exact lv_imul hx hb hd h2
theorem el_iand {S : XS} {M : MD} {f : Bool × Bool} {z0 z1 : Nat × Nat} {r : Option V × LM} {pc : Nat} {μ : LM} {L st : List V} {x y : Int} (hd : decode M.2.1 pc = .ok (.iand, 1)) (hh : El S M f z0 z1 r (pc + 1) μ (L) ((0, jand x y) :: st)) : El S M f z0 z1 r (pc) μ (L) ((0, y) :: (0, x) :: st) := by
  intro p l e Rm s m args below meth c A H locs D dA ad0 ad ls C K h hl hL hn hs
  have hx := C.1
  have hb := C.2.1
  have h2 := hh p l e Rm s m args below meth c A H locs D dA ad0 ad ls C K h hl hL hn (ok_cons (ti32 _) (cons_ok (cons_ok hs).2).2)
  rw [List.map_cons, show rv ad (0, jand x y) = .int (Int32.ofInt (jand x y)) from rfl, jand, Int32.ofInt_toInt] at h2
  exact lv_iand hx hb hd h2
theorem el_ior {S : XS} {M : MD} {f : Bool × Bool} {z0 z1 : Nat × Nat} {r : Option V × LM} {pc : Nat} {μ : LM} {L st : List V} {x y : Int} (hd : decode M.2.1 pc = .ok (.ior, 1)) (hh : El S M f z0 z1 r (pc + 1) μ (L) ((0, jor x y) :: st)) : El S M f z0 z1 r (pc) μ (L) ((0, y) :: (0, x) :: st) := by
  intro p l e Rm s m args below meth c A H locs D dA ad0 ad ls C K h hl hL hn hs
  have hx := C.1
  have hb := C.2.1
  have h2 := hh p l e Rm s m args below meth c A H locs D dA ad0 ad ls C K h hl hL hn (ok_cons (ti32 _) (cons_ok (cons_ok hs).2).2)
  rw [List.map_cons, show rv ad (0, jor x y) = .int (Int32.ofInt (jor x y)) from rfl, jor, Int32.ofInt_toInt] at h2
  exact lv_ior hx hb hd h2
theorem el_ixor {S : XS} {M : MD} {f : Bool × Bool} {z0 z1 : Nat × Nat} {r : Option V × LM} {pc : Nat} {μ : LM} {L st : List V} {x y : Int} (hd : decode M.2.1 pc = .ok (.ixor, 1)) (hh : El S M f z0 z1 r (pc + 1) μ (L) ((0, jxor x y) :: st)) : El S M f z0 z1 r (pc) μ (L) ((0, y) :: (0, x) :: st) := by
  intro p l e Rm s m args below meth c A H locs D dA ad0 ad ls C K h hl hL hn hs
  have hx := C.1
  have hb := C.2.1
  have h2 := hh p l e Rm s m args below meth c A H locs D dA ad0 ad ls C K h hl hL hn (ok_cons (ti32 _) (cons_ok (cons_ok hs).2).2)
  rw [List.map_cons, show rv ad (0, jxor x y) = .int (Int32.ofInt (jxor x y)) from rfl, jxor, Int32.ofInt_toInt] at h2
  exact lv_ixor hx hb hd h2
theorem el_ishl {S : XS} {M : MD} {f : Bool × Bool} {z0 z1 : Nat × Nat} {r : Option V × LM} {pc : Nat} {μ : LM} {L st : List V} {x y : Int} (hd : decode M.2.1 pc = .ok (.ishl, 1)) (hh : El S M f z0 z1 r (pc + 1) μ (L) ((0, jshl x y) :: st)) : El S M f z0 z1 r (pc) μ (L) ((0, y) :: (0, x) :: st) := by
  intro p l e Rm s m args below meth c A H locs D dA ad0 ad ls C K h hl hL hn hs
  have hx := C.1
  have hb := C.2.1
  have h2 := hh p l e Rm s m args below meth c A H locs D dA ad0 ad ls C K h hl hL hn (ok_cons (ti32 _) (cons_ok (cons_ok hs).2).2)
  rw [List.map_cons, show rv ad (0, jshl x y) = .int (Int32.ofInt (jshl x y)) from rfl, jshl, Int32.ofInt_toInt] at h2
  exact lv_ishl hx hb hd h2
theorem el_ishr {S : XS} {M : MD} {f : Bool × Bool} {z0 z1 : Nat × Nat} {r : Option V × LM} {pc : Nat} {μ : LM} {L st : List V} {x y : Int} (hd : decode M.2.1 pc = .ok (.ishr, 1)) (hh : El S M f z0 z1 r (pc + 1) μ (L) ((0, jshr x y) :: st)) : El S M f z0 z1 r (pc) μ (L) ((0, y) :: (0, x) :: st) := by
  intro p l e Rm s m args below meth c A H locs D dA ad0 ad ls C K h hl hL hn hs
  have hx := C.1
  have hb := C.2.1
  have h2 := hh p l e Rm s m args below meth c A H locs D dA ad0 ad ls C K h hl hL hn (ok_cons (ti32 _) (cons_ok (cons_ok hs).2).2)
  rw [List.map_cons, show rv ad (0, jshr x y) = .int (Int32.ofInt (jshr x y)) from rfl, jshr, Int32.ofInt_toInt] at h2
  exact lv_ishr hx hb hd h2
theorem el_iushr {S : XS} {M : MD} {f : Bool × Bool} {z0 z1 : Nat × Nat} {r : Option V × LM} {pc : Nat} {μ : LM} {L st : List V} {x y : Int} (hd : decode M.2.1 pc = .ok (.iushr, 1)) (hh : El S M f z0 z1 r (pc + 1) μ (L) ((0, jushr x y) :: st)) : El S M f z0 z1 r (pc) μ (L) ((0, y) :: (0, x) :: st) := by
  intro p l e Rm s m args below meth c A H locs D dA ad0 ad ls C K h hl hL hn hs
  have hx := C.1
  have hb := C.2.1
  have h2 := hh p l e Rm s m args below meth c A H locs D dA ad0 ad ls C K h hl hL hn (ok_cons (ti32 _) (cons_ok (cons_ok hs).2).2)
  rw [List.map_cons, show rv ad (0, jushr x y) = .int (Int32.ofInt (jushr x y)) from rfl, jushr, Int32.ofInt_toInt] at h2
  exact lv_iushr hx hb hd rfl h2
theorem el_irem {S : XS} {M : MD} {f : Bool × Bool} {z0 z1 : Nat × Nat} {r : Option V × LM} {pc : Nat} {μ : LM} {L st : List V} {α : Type} {X : Option α} {q : α} {x y : Int} (hd : decode M.2.1 pc = .ok (.irem, 1)) (hf : chk (y ≠ 0) X = some q) (hh : X = some q → El S M f z0 z1 r (pc + 1) μ (L) ((0, jrem x y) :: st)) : El S M f z0 z1 r (pc) μ (L) ((0, y) :: (0, x) :: st) := by
  intro p l e Rm s m args below meth c A H locs D dA ad0 ad ls C K h hl hL hn hs
  have hx := C.1
  have hb := C.2.1
  obtain ⟨hy, hf⟩ := chk_of hf
  have h2 := hh hf p l e Rm s m args below meth c A H locs D dA ad0 ad ls C K h hl hL hn (ok_cons (ti32 _) (cons_ok (cons_ok hs).2).2)
  rw [List.map_cons, show rv ad (0, jrem x y) = .int (Int32.ofInt (jrem x y)) from rfl, jrem, Int32.ofInt_toInt] at h2
  refine lv_irem hx hb hd (fun z => hy ?_) h2
  have := congrArg Int32.toInt z
  rw [oi32 (cons_ok hs).1] at this
  exact this
theorem el_ladd {S : XS} {M : MD} {f : Bool × Bool} {z0 z1 : Nat × Nat} {r : Option V × LM} {pc : Nat} {μ : LM} {L st : List V} {x y : Int} (hd : decode M.2.1 pc = .ok (.ladd, 1)) (hh : El S M f z0 z1 r (pc + 1) μ (L) ((1, kadd x y) :: st)) : El S M f z0 z1 r (pc) μ (L) ((1, y) :: (1, x) :: st) := by
  intro p l e Rm s m args below meth c A H locs D dA ad0 ad ls C K h hl hL hn hs
  have hx := C.1
  have hb := C.2.1
  have h2 := hh p l e Rm s m args below meth c A H locs D dA ad0 ad ls C K h hl hL hn (ok_cons (ti64 _) (cons_ok (cons_ok hs).2).2)
  rw [List.map_cons, show rv ad (1, kadd x y) = .long (Int64.ofInt (kadd x y)) from rfl, kadd, Int64.ofInt_toInt] at h2
  exact lv_ladd hx hb hd h2
theorem el_lsub {S : XS} {M : MD} {f : Bool × Bool} {z0 z1 : Nat × Nat} {r : Option V × LM} {pc : Nat} {μ : LM} {L st : List V} {x y : Int} (hd : decode M.2.1 pc = .ok (.lsub, 1)) (hh : El S M f z0 z1 r (pc + 1) μ (L) ((1, ksub x y) :: st)) : El S M f z0 z1 r (pc) μ (L) ((1, y) :: (1, x) :: st) := by
  intro p l e Rm s m args below meth c A H locs D dA ad0 ad ls C K h hl hL hn hs
  have hx := C.1
  have hb := C.2.1
  have h2 := hh p l e Rm s m args below meth c A H locs D dA ad0 ad ls C K h hl hL hn (ok_cons (ti64 _) (cons_ok (cons_ok hs).2).2)
  rw [List.map_cons, show rv ad (1, ksub x y) = .long (Int64.ofInt (ksub x y)) from rfl, ksub, Int64.ofInt_toInt] at h2
  exact lv_lsub hx hb hd h2
theorem el_i2l {S : XS} {M : MD} {f : Bool × Bool} {z0 z1 : Nat × Nat} {r : Option V × LM} {pc : Nat} {μ : LM} {L st : List V} {x : Int} (hd : decode M.2.1 pc = .ok (.i2l, 1)) (hh : El S M f z0 z1 r (pc + 1) μ (L) ((1, jl x) :: st)) : El S M f z0 z1 r (pc) μ (L) ((0, x) :: st) := by
  intro p l e Rm s m args below meth c A H locs D dA ad0 ad ls C K h hl hL hn hs
  have hx := C.1
  have hb := C.2.1
  have h2 := hh p l e Rm s m args below meth c A H locs D dA ad0 ad ls C K h hl hL hn (ok_cons (ti64 _) (cons_ok hs).2)
  rw [List.map_cons, show rv ad (1, jl x) = .long (Int64.ofInt (jl x)) from rfl, jl, Int64.ofInt_toInt] at h2
  exact lv_i2l hx hb hd rfl h2
theorem el_lcmp {S : XS} {M : MD} {f : Bool × Bool} {z0 z1 : Nat × Nat} {r : Option V × LM} {pc : Nat} {μ : LM} {L st : List V} {x y : Int} (hd : decode M.2.1 pc = .ok (.lcmp, 1)) (hh : El S M f z0 z1 r (pc + 1) μ (L) ((0, lcm x y) :: st)) : El S M f z0 z1 r (pc) μ (L) ((1, y) :: (1, x) :: st) := by
  intro p l e Rm s m args below meth c A H locs D dA ad0 ad ls C K h hl hL hn hs
  have hx := C.1
  have hb := C.2.1
  have h2 := hh p l e Rm s m args below meth c A H locs D dA ad0 ad ls C K h hl hL hn (ok_cons (ti32 _) (cons_ok (cons_ok hs).2).2)
  rw [List.map_cons, show rv ad (0, lcm x y) = .int (Int32.ofInt (lcm x y)) from rfl, lcm, Int32.ofInt_toInt] at h2
  exact W.lcmp hx hb hd h2
theorem el_dup {S : XS} {M : MD} {f : Bool × Bool} {z0 z1 : Nat × Nat} {r : Option V × LM} {pc : Nat} {μ : LM} {L st : List V} {v : V} (hd : decode M.2.1 pc = .ok (.dup, 1)) (hc : v.1 ≠ 1) (hh : El S M f z0 z1 r (pc + 1) μ (L) (v :: v :: st)) : El S M f z0 z1 r (pc) μ (L) (v :: st) := by
  intro p l e Rm s m args below meth c A H locs D dA ad0 ad ls C K h hl hL hn hs
  have hx := C.1
  have hb := C.2.1
  exact lv_dup hx hb hd (by rw [rv_cat, if_neg hc]) (hh p l e Rm s m args below meth c A H locs D dA ad0 ad ls C K h hl hL hn (ok_cons (cons_ok hs).1 hs))
theorem el_pop {S : XS} {M : MD} {f : Bool × Bool} {z0 z1 : Nat × Nat} {r : Option V × LM} {pc : Nat} {μ : LM} {L st : List V} {v : V} (hd : decode M.2.1 pc = .ok (.pop, 1)) (hc : v.1 ≠ 1) (hh : El S M f z0 z1 r (pc + 1) μ (L) (st)) : El S M f z0 z1 r (pc) μ (L) (v :: st) := by
  intro p l e Rm s m args below meth c A H locs D dA ad0 ad ls C K h hl hL hn hs
  have hx := C.1
  have hb := C.2.1
  exact lv_pop hx hb hd (by rw [rv_cat, if_neg hc]) (hh p l e Rm s m args below meth c A H locs D dA ad0 ad ls C K h hl hL hn (cons_ok hs).2)
theorem el_dup2 {S : XS} {M : MD} {f : Bool × Bool} {z0 z1 : Nat × Nat} {r : Option V × LM} {pc : Nat} {μ : LM} {L st : List V} {v u : V} (hd : decode M.2.1 pc = .ok (.dup2, 1)) (hc : v.1 ≠ 1) (hc2 : u.1 ≠ 1) (hh : El S M f z0 z1 r (pc + 1) μ (L) (v :: u :: v :: u :: st)) : El S M f z0 z1 r (pc) μ (L) (v :: u :: st) := by
  intro p l e Rm s m args below meth c A H locs D dA ad0 ad ls C K h hl hL hn hs
  have hx := C.1
  have hb := C.2.1
  exact lv_dup2_11 hx hb hd (by rw [rv_cat, if_neg hc]) (by rw [rv_cat, if_neg hc2]) (hh p l e Rm s m args below meth c A H locs D dA ad0 ad ls C K h hl hL hn (ok_cons (cons_ok hs).1 (ok_cons (cons_ok (cons_ok hs).2).1 hs)))
theorem el_goto {S : XS} {M : MD} {f : Bool × Bool} {z0 z1 : Nat × Nat} {r : Option V × LM} {pc : Nat} {μ : LM} {L st : List V} {off : Int} {tgt : Nat} (hd : decode M.2.1 pc = .ok (.goto off, 3)) (ht : (pc : Int) + off = (tgt : Int)) (hh : El S M f z0 z1 r (tgt) μ (L) (st)) : El S M f z0 z1 r (pc) μ (L) (st) := by
  intro p l e Rm s m args below meth c A H locs D dA ad0 ad ls C K h hl hL hn hs
  have hx := C.1
  have hb := C.2.1
  exact lv_goto hx hb hd ht (hh p l e Rm s m args below meth c A H locs D dA ad0 ad ls C K h hl hL hn hs)
theorem el_icmp_eq {S : XS} {M : MD} {f : Bool × Bool} {z0 z1 : Nat × Nat} {r : Option V × LM} {pc : Nat} {μ : LM} {L st : List V} {α : Type} {X Y : Option α} {q : α} {x y off : Int} {tgt : Nat} (hd : decode M.2.1 pc = .ok (.if_icmp .eq off, 3)) (ht : (pc : Int) + off = (tgt : Int)) (hf : (if x = y then X else Y) = some q) (h1 : x = y → X = some q → El S M f z0 z1 r (tgt) μ (L) (st)) (h2 : ¬ (x = y) → Y = some q → El S M f z0 z1 r (pc + 3) μ (L) (st)) : El S M f z0 z1 r (pc) μ (L) ((0, y) :: (0, x) :: st) := by
  intro p l e Rm s m args below meth c A H locs D dA ad0 ad ls C K h hl hL hn hs
  have hx := C.1
  have hb := C.2.1
  have hq := eq32 (cons_ok (cons_ok hs).2).1 (cons_ok hs).1
  exact lv_icmp_eq hx hb hd ht (fun z => h1 (hq.mp z) (ite_pos' hf (hq.mp z)) p l e Rm s m args below meth c A H locs D dA ad0 ad ls C K h hl hL hn (cons_ok (cons_ok hs).2).2) (fun z => h2 (fun z2 => z (hq.mpr z2)) (ite_neg' hf (fun z2 => z (hq.mpr z2))) p l e Rm s m args below meth c A H locs D dA ad0 ad ls C K h hl hL hn (cons_ok (cons_ok hs).2).2)
theorem el_icmp_ne {S : XS} {M : MD} {f : Bool × Bool} {z0 z1 : Nat × Nat} {r : Option V × LM} {pc : Nat} {μ : LM} {L st : List V} {α : Type} {X Y : Option α} {q : α} {x y off : Int} {tgt : Nat} (hd : decode M.2.1 pc = .ok (.if_icmp .ne off, 3)) (ht : (pc : Int) + off = (tgt : Int)) (hf : (if x ≠ y then X else Y) = some q) (h1 : x ≠ y → X = some q → El S M f z0 z1 r (tgt) μ (L) (st)) (h2 : ¬ (x ≠ y) → Y = some q → El S M f z0 z1 r (pc + 3) μ (L) (st)) : El S M f z0 z1 r (pc) μ (L) ((0, y) :: (0, x) :: st) := by
  intro p l e Rm s m args below meth c A H locs D dA ad0 ad ls C K h hl hL hn hs
  have hx := C.1
  have hb := C.2.1
  have hq := not_congr (eq32 (cons_ok (cons_ok hs).2).1 (cons_ok hs).1)
  exact lv_icmp_ne hx hb hd ht (fun z => h1 (hq.mp z) (ite_pos' hf (hq.mp z)) p l e Rm s m args below meth c A H locs D dA ad0 ad ls C K h hl hL hn (cons_ok (cons_ok hs).2).2) (fun z => h2 (fun z2 => (hq.mpr z2) z) (ite_neg' hf (fun z2 => (hq.mpr z2) z)) p l e Rm s m args below meth c A H locs D dA ad0 ad ls C K h hl hL hn (cons_ok (cons_ok hs).2).2)
theorem el_icmp_lt {S : XS} {M : MD} {f : Bool × Bool} {z0 z1 : Nat × Nat} {r : Option V × LM} {pc : Nat} {μ : LM} {L st : List V} {α : Type} {X Y : Option α} {q : α} {x y off : Int} {tgt : Nat} (hd : decode M.2.1 pc = .ok (.if_icmp .lt off, 3)) (ht : (pc : Int) + off = (tgt : Int)) (hf : (if x < y then X else Y) = some q) (h1 : x < y → X = some q → El S M f z0 z1 r (tgt) μ (L) (st)) (h2 : ¬ (x < y) → Y = some q → El S M f z0 z1 r (pc + 3) μ (L) (st)) : El S M f z0 z1 r (pc) μ (L) ((0, y) :: (0, x) :: st) := by
  intro p l e Rm s m args below meth c A H locs D dA ad0 ad ls C K h hl hL hn hs
  have hx := C.1
  have hb := C.2.1
  have hq := lt32 (cons_ok (cons_ok hs).2).1 (cons_ok hs).1
  exact lv_icmp_lt hx hb hd ht (fun z => h1 (hq.mp z) (ite_pos' hf (hq.mp z)) p l e Rm s m args below meth c A H locs D dA ad0 ad ls C K h hl hL hn (cons_ok (cons_ok hs).2).2) (fun z => h2 (fun z2 => z (hq.mpr z2)) (ite_neg' hf (fun z2 => z (hq.mpr z2))) p l e Rm s m args below meth c A H locs D dA ad0 ad ls C K h hl hL hn (cons_ok (cons_ok hs).2).2)
theorem el_icmp_ge {S : XS} {M : MD} {f : Bool × Bool} {z0 z1 : Nat × Nat} {r : Option V × LM} {pc : Nat} {μ : LM} {L st : List V} {α : Type} {X Y : Option α} {q : α} {x y off : Int} {tgt : Nat} (hd : decode M.2.1 pc = .ok (.if_icmp .ge off, 3)) (ht : (pc : Int) + off = (tgt : Int)) (hf : (if y ≤ x then X else Y) = some q) (h1 : y ≤ x → X = some q → El S M f z0 z1 r (tgt) μ (L) (st)) (h2 : ¬ (y ≤ x) → Y = some q → El S M f z0 z1 r (pc + 3) μ (L) (st)) : El S M f z0 z1 r (pc) μ (L) ((0, y) :: (0, x) :: st) := by
  intro p l e Rm s m args below meth c A H locs D dA ad0 ad ls C K h hl hL hn hs
  have hx := C.1
  have hb := C.2.1
  have hq := le32 (cons_ok hs).1 (cons_ok (cons_ok hs).2).1
  exact lv_icmp_ge hx hb hd ht (fun z => h1 (hq.mp z) (ite_pos' hf (hq.mp z)) p l e Rm s m args below meth c A H locs D dA ad0 ad ls C K h hl hL hn (cons_ok (cons_ok hs).2).2) (fun z => h2 (fun z2 => z (hq.mpr z2)) (ite_neg' hf (fun z2 => z (hq.mpr z2))) p l e Rm s m args below meth c A H locs D dA ad0 ad ls C K h hl hL hn (cons_ok (cons_ok hs).2).2)
theorem el_icmp_gt {S : XS} {M : MD} {f : Bool × Bool} {z0 z1 : Nat × Nat} {r : Option V × LM} {pc : Nat} {μ : LM} {L st : List V} {α : Type} {X Y : Option α} {q : α} {x y off : Int} {tgt : Nat} (hd : decode M.2.1 pc = .ok (.if_icmp .gt off, 3)) (ht : (pc : Int) + off = (tgt : Int)) (hf : (if y < x then X else Y) = some q) (h1 : y < x → X = some q → El S M f z0 z1 r (tgt) μ (L) (st)) (h2 : ¬ (y < x) → Y = some q → El S M f z0 z1 r (pc + 3) μ (L) (st)) : El S M f z0 z1 r (pc) μ (L) ((0, y) :: (0, x) :: st) := by
  intro p l e Rm s m args below meth c A H locs D dA ad0 ad ls C K h hl hL hn hs
  have hx := C.1
  have hb := C.2.1
  have hq := lt32 (cons_ok hs).1 (cons_ok (cons_ok hs).2).1
  exact lv_icmp_gt hx hb hd ht (fun z => h1 (hq.mp z) (ite_pos' hf (hq.mp z)) p l e Rm s m args below meth c A H locs D dA ad0 ad ls C K h hl hL hn (cons_ok (cons_ok hs).2).2) (fun z => h2 (fun z2 => z (hq.mpr z2)) (ite_neg' hf (fun z2 => z (hq.mpr z2))) p l e Rm s m args below meth c A H locs D dA ad0 ad ls C K h hl hL hn (cons_ok (cons_ok hs).2).2)
theorem el_icmp_le {S : XS} {M : MD} {f : Bool × Bool} {z0 z1 : Nat × Nat} {r : Option V × LM} {pc : Nat} {μ : LM} {L st : List V} {α : Type} {X Y : Option α} {q : α} {x y off : Int} {tgt : Nat} (hd : decode M.2.1 pc = .ok (.if_icmp .le off, 3)) (ht : (pc : Int) + off = (tgt : Int)) (hf : (if x ≤ y then X else Y) = some q) (h1 : x ≤ y → X = some q → El S M f z0 z1 r (tgt) μ (L) (st)) (h2 : ¬ (x ≤ y) → Y = some q → El S M f z0 z1 r (pc + 3) μ (L) (st)) : El S M f z0 z1 r (pc) μ (L) ((0, y) :: (0, x) :: st) := by
  intro p l e Rm s m args below meth c A H locs D dA ad0 ad ls C K h hl hL hn hs
  have hx := C.1
  have hb := C.2.1
  have hq := le32 (cons_ok (cons_ok hs).2).1 (cons_ok hs).1
  exact lv_icmp_le hx hb hd ht (fun z => h1 (hq.mp z) (ite_pos' hf (hq.mp z)) p l e Rm s m args below meth c A H locs D dA ad0 ad ls C K h hl hL hn (cons_ok (cons_ok hs).2).2) (fun z => h2 (fun z2 => z (hq.mpr z2)) (ite_neg' hf (fun z2 => z (hq.mpr z2))) p l e Rm s m args below meth c A H locs D dA ad0 ad ls C K h hl hL hn (cons_ok (cons_ok hs).2).2)
theorem el_if_eq {S : XS} {M : MD} {f : Bool × Bool} {z0 z1 : Nat × Nat} {r : Option V × LM} {pc : Nat} {μ : LM} {L st : List V} {α : Type} {X Y : Option α} {q : α} {x off : Int} {tgt : Nat} (hd : decode M.2.1 pc = .ok (.ifCond .eq off, 3)) (ht : (pc : Int) + off = (tgt : Int)) (hf : (if x = 0 then X else Y) = some q) (h1 : x = 0 → X = some q → El S M f z0 z1 r (tgt) μ (L) (st)) (h2 : ¬ (x = 0) → Y = some q → El S M f z0 z1 r (pc + 3) μ (L) (st)) : El S M f z0 z1 r (pc) μ (L) ((0, x) :: st) := by
  intro p l e Rm s m args below meth c A H locs D dA ad0 ad ls C K h hl hL hn hs
  have hx := C.1
  have hb := C.2.1
  have hq := eq32 (cons_ok hs).1 in32_0
  exact lv_if_eq hx hb hd ht (fun z => h1 (hq.mp z) (ite_pos' hf (hq.mp z)) p l e Rm s m args below meth c A H locs D dA ad0 ad ls C K h hl hL hn (cons_ok hs).2) (fun z => h2 (fun z2 => z (hq.mpr z2)) (ite_neg' hf (fun z2 => z (hq.mpr z2))) p l e Rm s m args below meth c A H locs D dA ad0 ad ls C K h hl hL hn (cons_ok hs).2)
theorem el_if_ne {S : XS} {M : MD} {f : Bool × Bool} {z0 z1 : Nat × Nat} {r : Option V × LM} {pc : Nat} {μ : LM} {L st : List V} {α : Type} {X Y : Option α} {q : α} {x off : Int} {tgt : Nat} (hd : decode M.2.1 pc = .ok (.ifCond .ne off, 3)) (ht : (pc : Int) + off = (tgt : Int)) (hf : (if x ≠ 0 then X else Y) = some q) (h1 : x ≠ 0 → X = some q → El S M f z0 z1 r (tgt) μ (L) (st)) (h2 : ¬ (x ≠ 0) → Y = some q → El S M f z0 z1 r (pc + 3) μ (L) (st)) : El S M f z0 z1 r (pc) μ (L) ((0, x) :: st) := by
  intro p l e Rm s m args below meth c A H locs D dA ad0 ad ls C K h hl hL hn hs
  have hx := C.1
  have hb := C.2.1
  have hq := not_congr (eq32 (cons_ok hs).1 in32_0)
  exact lv_if_ne hx hb hd ht (fun z => h1 (hq.mp z) (ite_pos' hf (hq.mp z)) p l e Rm s m args below meth c A H locs D dA ad0 ad ls C K h hl hL hn (cons_ok hs).2) (fun z => h2 (fun z2 => (hq.mpr z2) z) (ite_neg' hf (fun z2 => (hq.mpr z2) z)) p l e Rm s m args below meth c A H locs D dA ad0 ad ls C K h hl hL hn (cons_ok hs).2)
theorem el_if_lt {S : XS} {M : MD} {f : Bool × Bool} {z0 z1 : Nat × Nat} {r : Option V × LM} {pc : Nat} {μ : LM} {L st : List V} {α : Type} {X Y : Option α} {q : α} {x off : Int} {tgt : Nat} (hd : decode M.2.1 pc = .ok (.ifCond .lt off, 3)) (ht : (pc : Int) + off = (tgt : Int)) (hf : (if x < 0 then X else Y) = some q) (h1 : x < 0 → X = some q → El S M f z0 z1 r (tgt) μ (L) (st)) (h2 : ¬ (x < 0) → Y = some q → El S M f z0 z1 r (pc + 3) μ (L) (st)) : El S M f z0 z1 r (pc) μ (L) ((0, x) :: st) := by
  intro p l e Rm s m args below meth c A H locs D dA ad0 ad ls C K h hl hL hn hs
  have hx := C.1
  have hb := C.2.1
  have hq := lt32 (cons_ok hs).1 in32_0
  exact lv_if_lt hx hb hd ht (fun z => h1 (hq.mp z) (ite_pos' hf (hq.mp z)) p l e Rm s m args below meth c A H locs D dA ad0 ad ls C K h hl hL hn (cons_ok hs).2) (fun z => h2 (fun z2 => z (hq.mpr z2)) (ite_neg' hf (fun z2 => z (hq.mpr z2))) p l e Rm s m args below meth c A H locs D dA ad0 ad ls C K h hl hL hn (cons_ok hs).2)
theorem el_if_ge {S : XS} {M : MD} {f : Bool × Bool} {z0 z1 : Nat × Nat} {r : Option V × LM} {pc : Nat} {μ : LM} {L st : List V} {α : Type} {X Y : Option α} {q : α} {x off : Int} {tgt : Nat} (hd : decode M.2.1 pc = .ok (.ifCond .ge off, 3)) (ht : (pc : Int) + off = (tgt : Int)) (hf : (if 0 ≤ x then X else Y) = some q) (h1 : 0 ≤ x → X = some q → El S M f z0 z1 r (tgt) μ (L) (st)) (h2 : ¬ (0 ≤ x) → Y = some q → El S M f z0 z1 r (pc + 3) μ (L) (st)) : El S M f z0 z1 r (pc) μ (L) ((0, x) :: st) := by
  intro p l e Rm s m args below meth c A H locs D dA ad0 ad ls C K h hl hL hn hs
  have hx := C.1
  have hb := C.2.1
  have hq := le32 in32_0 (cons_ok hs).1
  exact lv_if_ge hx hb hd ht (fun z => h1 (hq.mp z) (ite_pos' hf (hq.mp z)) p l e Rm s m args below meth c A H locs D dA ad0 ad ls C K h hl hL hn (cons_ok hs).2) (fun z => h2 (fun z2 => z (hq.mpr z2)) (ite_neg' hf (fun z2 => z (hq.mpr z2))) p l e Rm s m args below meth c A H locs D dA ad0 ad ls C K h hl hL hn (cons_ok hs).2)
theorem el_if_gt {S : XS} {M : MD} {f : Bool × Bool} {z0 z1 : Nat × Nat} {r : Option V × LM} {pc : Nat} {μ : LM} {L st : List V} {α : Type} {X Y : Option α} {q : α} {x off : Int} {tgt : Nat} (hd : decode M.2.1 pc = .ok (.ifCond .gt off, 3)) (ht : (pc : Int) + off = (tgt : Int)) (hf : (if 0 < x then X else Y) = some q) (h1 : 0 < x → X = some q → El S M f z0 z1 r (tgt) μ (L) (st)) (h2 : ¬ (0 < x) → Y = some q → El S M f z0 z1 r (pc + 3) μ (L) (st)) : El S M f z0 z1 r (pc) μ (L) ((0, x) :: st) := by
  intro p l e Rm s m args below meth c A H locs D dA ad0 ad ls C K h hl hL hn hs
  have hx := C.1
  have hb := C.2.1
  have hq := lt32 in32_0 (cons_ok hs).1
  exact lv_if_gt hx hb hd ht (fun z => h1 (hq.mp z) (ite_pos' hf (hq.mp z)) p l e Rm s m args below meth c A H locs D dA ad0 ad ls C K h hl hL hn (cons_ok hs).2) (fun z => h2 (fun z2 => z (hq.mpr z2)) (ite_neg' hf (fun z2 => z (hq.mpr z2))) p l e Rm s m args below meth c A H locs D dA ad0 ad ls C K h hl hL hn (cons_ok hs).2)
theorem el_if_le {S : XS} {M : MD} {f : Bool × Bool} {z0 z1 : Nat × Nat} {r : Option V × LM} {pc : Nat} {μ : LM} {L st : List V} {α : Type} {X Y : Option α} {q : α} {x off : Int} {tgt : Nat} (hd : decode M.2.1 pc = .ok (.ifCond .le off, 3)) (ht : (pc : Int) + off = (tgt : Int)) (hf : (if x ≤ 0 then X else Y) = some q) (h1 : x ≤ 0 → X = some q → El S M f z0 z1 r (tgt) μ (L) (st)) (h2 : ¬ (x ≤ 0) → Y = some q → El S M f z0 z1 r (pc + 3) μ (L) (st)) : El S M f z0 z1 r (pc) μ (L) ((0, x) :: st) := by
  intro p l e Rm s m args below meth c A H locs D dA ad0 ad ls C K h hl hL hn hs
  have hx := C.1
  have hb := C.2.1
  have hq := le32 (cons_ok hs).1 in32_0
  exact lv_if_le hx hb hd ht (fun z => h1 (hq.mp z) (ite_pos' hf (hq.mp z)) p l e Rm s m args below meth c A H locs D dA ad0 ad ls C K h hl hL hn (cons_ok hs).2) (fun z => h2 (fun z2 => z (hq.mpr z2)) (ite_neg' hf (fun z2 => z (hq.mpr z2))) p l e Rm s m args below meth c A H locs D dA ad0 ad ls C K h hl hL hn (cons_ok hs).2)
theorem el_fact {S : XS} {M : MD} {f : Bool × Bool} {z0 z1 : Nat × Nat} {r : Option V × LM} {pc : Nat} {μ : LM} {L st : List V} (h : (∀ v ∈ st, okv μ.1 v) → (∀ v ∈ L, okv μ.1 v) → El S M f z0 z1 r (pc) μ (L) (st)) : El S M f z0 z1 r (pc) μ (L) (st) := fun p l e Rm s m args below meth c A H locs D dA ad0 ad ls C K hc hl hL hn hs => h hs hL p l e Rm s m args below meth c A H locs D dA ad0 ad ls C K hc hl hL hn hs
theorem el_by {S : XS} {M : MD} {f : Bool × Bool} {z0 z1 : Nat × Nat} {r : Option V × LM} {pc : Nat} {μ : LM} {L st : List V} {α : Type} {X Y : Option α} {q : α} {c : Prop} [Decidable c] (hf : (if c then X else Y) = some q) (h1 : c → X = some q → El S M f z0 z1 r (pc) μ (L) (st)) (h2 : ¬ c → Y = some q → El S M f z0 z1 r (pc) μ (L) (st)) : El S M f z0 z1 r (pc) μ (L) (st) := by
  by_cases hc : c
  · exact h1 hc (ite_pos' hf hc)
  · exact h2 hc (ite_neg' hf hc)
theorem el_i2lk {S : XS} {M : MD} {f : Bool × Bool} {z0 z1 : Nat × Nat} {r : Option V × LM} {pc : Nat} {μ : LM} {L st : List V} {x : Int} (hd : decode M.2.1 pc = .ok (.i2l, 1)) (hh : El S M f z0 z1 r (pc + 1) μ (L) ((1, x) :: st)) : El S M f z0 z1 r (pc) μ (L) ((0, x) :: st) := el_fact fun hs _ => el_i2l hd (by rw [jl_eq (cons_ok hs).1]; exact hh)
theorem el_lc_eq {S : XS} {M : MD} {f : Bool × Bool} {z0 z1 : Nat × Nat} {r : Option V × LM} {pc : Nat} {μ : LM} {L st : List V} {α : Type} {X Y : Option α} {q : α} {x y off : Int} {tgt : Nat} (hd : decode M.2.1 pc = .ok (.lcmp, 1)) (hd2 : decode M.2.1 (pc + 1) = .ok (.ifCond .eq off, 3)) (ht : ((pc + 1 : Nat) : Int) + off = (tgt : Int)) (hf : (if x = y then X else Y) = some q) (h1 : x = y → X = some q → El S M f z0 z1 r (tgt) μ (L) (st)) (h2 : ¬ (x = y) → Y = some q → El S M f z0 z1 r (pc + 1 + 3) μ (L) (st)) : El S M f z0 z1 r (pc) μ (L) ((1, y) :: (1, x) :: st) := el_fact fun hs _ => by
  have hi := lcm_lt (cons_ok (cons_ok hs).2).1 (cons_ok hs).1
  have hc : lcm x y = 0 ↔ x = y := by omega
  exact el_lcmp hd (el_if_eq hd2 ht (X := X) (Y := Y) (q := q) (by
    by_cases z : x = y
    · rw [if_pos (hc.mpr z)]; exact ite_pos' hf z
    · rw [if_neg (fun z2 => z (hc.mp z2))]; exact ite_neg' hf z) (fun z => h1 (hc.mp z)) (fun z => h2 (fun z2 => z (hc.mpr z2))))
theorem el_lc_ne {S : XS} {M : MD} {f : Bool × Bool} {z0 z1 : Nat × Nat} {r : Option V × LM} {pc : Nat} {μ : LM} {L st : List V} {α : Type} {X Y : Option α} {q : α} {x y off : Int} {tgt : Nat} (hd : decode M.2.1 pc = .ok (.lcmp, 1)) (hd2 : decode M.2.1 (pc + 1) = .ok (.ifCond .ne off, 3)) (ht : ((pc + 1 : Nat) : Int) + off = (tgt : Int)) (hf : (if x ≠ y then X else Y) = some q) (h1 : x ≠ y → X = some q → El S M f z0 z1 r (tgt) μ (L) (st)) (h2 : ¬ (x ≠ y) → Y = some q → El S M f z0 z1 r (pc + 1 + 3) μ (L) (st)) : El S M f z0 z1 r (pc) μ (L) ((1, y) :: (1, x) :: st) := el_fact fun hs _ => by
  have hi := lcm_lt (cons_ok (cons_ok hs).2).1 (cons_ok hs).1
  have hc : lcm x y ≠ 0 ↔ x ≠ y := by omega
  exact el_lcmp hd (el_if_ne hd2 ht (X := X) (Y := Y) (q := q) (by
    by_cases z : x ≠ y
    · rw [if_pos (hc.mpr z)]; exact ite_pos' hf z
    · rw [if_neg (fun z2 => z (hc.mp z2))]; exact ite_neg' hf z) (fun z => h1 (hc.mp z)) (fun z => h2 (fun z2 => z (hc.mpr z2))))
theorem el_lc_lt {S : XS} {M : MD} {f : Bool × Bool} {z0 z1 : Nat × Nat} {r : Option V × LM} {pc : Nat} {μ : LM} {L st : List V} {α : Type} {X Y : Option α} {q : α} {x y off : Int} {tgt : Nat} (hd : decode M.2.1 pc = .ok (.lcmp, 1)) (hd2 : decode M.2.1 (pc + 1) = .ok (.ifCond .lt off, 3)) (ht : ((pc + 1 : Nat) : Int) + off = (tgt : Int)) (hf : (if x < y then X else Y) = some q) (h1 : x < y → X = some q → El S M f z0 z1 r (tgt) μ (L) (st)) (h2 : ¬ (x < y) → Y = some q → El S M f z0 z1 r (pc + 1 + 3) μ (L) (st)) : El S M f z0 z1 r (pc) μ (L) ((1, y) :: (1, x) :: st) := el_fact fun hs _ => by
  have hi := lcm_lt (cons_ok (cons_ok hs).2).1 (cons_ok hs).1
  have hc : lcm x y < 0 ↔ x < y := by omega
  exact el_lcmp hd (el_if_lt hd2 ht (X := X) (Y := Y) (q := q) (by
    by_cases z : x < y
    · rw [if_pos (hc.mpr z)]; exact ite_pos' hf z
    · rw [if_neg (fun z2 => z (hc.mp z2))]; exact ite_neg' hf z) (fun z => h1 (hc.mp z)) (fun z => h2 (fun z2 => z (hc.mpr z2))))
theorem el_lc_ge {S : XS} {M : MD} {f : Bool × Bool} {z0 z1 : Nat × Nat} {r : Option V × LM} {pc : Nat} {μ : LM} {L st : List V} {α : Type} {X Y : Option α} {q : α} {x y off : Int} {tgt : Nat} (hd : decode M.2.1 pc = .ok (.lcmp, 1)) (hd2 : decode M.2.1 (pc + 1) = .ok (.ifCond .ge off, 3)) (ht : ((pc + 1 : Nat) : Int) + off = (tgt : Int)) (hf : (if y ≤ x then X else Y) = some q) (h1 : y ≤ x → X = some q → El S M f z0 z1 r (tgt) μ (L) (st)) (h2 : ¬ (y ≤ x) → Y = some q → El S M f z0 z1 r (pc + 1 + 3) μ (L) (st)) : El S M f z0 z1 r (pc) μ (L) ((1, y) :: (1, x) :: st) := el_fact fun hs _ => by
  have hi := lcm_lt (cons_ok (cons_ok hs).2).1 (cons_ok hs).1
  have hc : 0 ≤ lcm x y ↔ y ≤ x := by omega
  exact el_lcmp hd (el_if_ge hd2 ht (X := X) (Y := Y) (q := q) (by
    by_cases z : y ≤ x
    · rw [if_pos (hc.mpr z)]; exact ite_pos' hf z
    · rw [if_neg (fun z2 => z (hc.mp z2))]; exact ite_neg' hf z) (fun z => h1 (hc.mp z)) (fun z => h2 (fun z2 => z (hc.mpr z2))))
theorem el_lc_gt {S : XS} {M : MD} {f : Bool × Bool} {z0 z1 : Nat × Nat} {r : Option V × LM} {pc : Nat} {μ : LM} {L st : List V} {α : Type} {X Y : Option α} {q : α} {x y off : Int} {tgt : Nat} (hd : decode M.2.1 pc = .ok (.lcmp, 1)) (hd2 : decode M.2.1 (pc + 1) = .ok (.ifCond .gt off, 3)) (ht : ((pc + 1 : Nat) : Int) + off = (tgt : Int)) (hf : (if y < x then X else Y) = some q) (h1 : y < x → X = some q → El S M f z0 z1 r (tgt) μ (L) (st)) (h2 : ¬ (y < x) → Y = some q → El S M f z0 z1 r (pc + 1 + 3) μ (L) (st)) : El S M f z0 z1 r (pc) μ (L) ((1, y) :: (1, x) :: st) := el_fact fun hs _ => by
  have hi := lcm_lt (cons_ok (cons_ok hs).2).1 (cons_ok hs).1
  have hc : 0 < lcm x y ↔ y < x := by omega
  exact el_lcmp hd (el_if_gt hd2 ht (X := X) (Y := Y) (q := q) (by
    by_cases z : y < x
    · rw [if_pos (hc.mpr z)]; exact ite_pos' hf z
    · rw [if_neg (fun z2 => z (hc.mp z2))]; exact ite_neg' hf z) (fun z => h1 (hc.mp z)) (fun z => h2 (fun z2 => z (hc.mpr z2))))
theorem el_lc_le {S : XS} {M : MD} {f : Bool × Bool} {z0 z1 : Nat × Nat} {r : Option V × LM} {pc : Nat} {μ : LM} {L st : List V} {α : Type} {X Y : Option α} {q : α} {x y off : Int} {tgt : Nat} (hd : decode M.2.1 pc = .ok (.lcmp, 1)) (hd2 : decode M.2.1 (pc + 1) = .ok (.ifCond .le off, 3)) (ht : ((pc + 1 : Nat) : Int) + off = (tgt : Int)) (hf : (if x ≤ y then X else Y) = some q) (h1 : x ≤ y → X = some q → El S M f z0 z1 r (tgt) μ (L) (st)) (h2 : ¬ (x ≤ y) → Y = some q → El S M f z0 z1 r (pc + 1 + 3) μ (L) (st)) : El S M f z0 z1 r (pc) μ (L) ((1, y) :: (1, x) :: st) := el_fact fun hs _ => by
  have hi := lcm_lt (cons_ok (cons_ok hs).2).1 (cons_ok hs).1
  have hc : lcm x y ≤ 0 ↔ x ≤ y := by omega
  exact el_lcmp hd (el_if_le hd2 ht (X := X) (Y := Y) (q := q) (by
    by_cases z : x ≤ y
    · rw [if_pos (hc.mpr z)]; exact ite_pos' hf z
    · rw [if_neg (fun z2 => z (hc.mp z2))]; exact ite_neg' hf z) (fun z => h1 (hc.mp z)) (fun z => h2 (fun z2 => z (hc.mpr z2))))
theorem el_istore_nG {S : XS} {M : MD} {f : Bool × Bool} {z0 z1 : Nat × Nat} {r : Option V × LM} {pc : Nat} {μ : LM} {L st : List V} {β : Type} {X : Int → Option β} {q : β} {k : Fin 4} {x : Int} (hd : decode M.2.1 pc = .ok (.istore_n k, 1)) (hf : (some x).bind X = some q) (hk : stk L (k : Nat) = true) (hb' : (k : Nat) < M.2.2.1) (hh : ∀ y, X y = some q → El S M f z0 z1 r (pc + 1) μ (L.set (k : Nat) (0, y)) (st)) : El S M f z0 z1 r (pc) μ (L) ((0, x) :: st) := el_istore_n hd hk hb' (hh x hf)
theorem el_istoreG {S : XS} {M : MD} {f : Bool × Bool} {z0 z1 : Nat × Nat} {r : Option V × LM} {pc : Nat} {μ : LM} {L st : List V} {β : Type} {X : Int → Option β} {q : β} {k : Nat} {x : Int} (hd : decode M.2.1 pc = .ok (.istore k, 2)) (hf : (some x).bind X = some q) (hk : stk L k = true) (hb' : k < M.2.2.1) (hh : ∀ y, X y = some q → El S M f z0 z1 r (pc + 2) μ (L.set k (0, y)) (st)) : El S M f z0 z1 r (pc) μ (L) ((0, x) :: st) := el_istore hd hk hb' (hh x hf)
theorem el_lstore_nG {S : XS} {M : MD} {f : Bool × Bool} {z0 z1 : Nat × Nat} {r : Option V × LM} {pc : Nat} {μ : LM} {L st : List V} {β : Type} {X : Int → Option β} {q : β} {k : Fin 4} {x : Int} (hd : decode M.2.1 pc = .ok (.lstore_n k, 1)) (hf : (some x).bind X = some q) (hk : stk L (k : Nat) = true) (hb' : (k : Nat) + 1 < M.2.2.1) (hh : ∀ y, X y = some q → El S M f z0 z1 r (pc + 1) μ ((L.set (k : Nat) (1, y)).set ((k : Nat) + 1) (9, 0)) (st)) : El S M f z0 z1 r (pc) μ (L) ((1, x) :: st) := el_lstore_n hd hk hb' (hh x hf)
theorem el_lstoreG {S : XS} {M : MD} {f : Bool × Bool} {z0 z1 : Nat × Nat} {r : Option V × LM} {pc : Nat} {μ : LM} {L st : List V} {β : Type} {X : Int → Option β} {q : β} {k : Nat} {x : Int} (hd : decode M.2.1 pc = .ok (.lstore k, 2)) (hf : (some x).bind X = some q) (hk : stk L k = true) (hb' : k + 1 < M.2.2.1) (hh : ∀ y, X y = some q → El S M f z0 z1 r (pc + 2) μ ((L.set k (1, y)).set (k + 1) (9, 0)) (st)) : El S M f z0 z1 r (pc) μ (L) ((1, x) :: st) := el_lstore hd hk hb' (hh x hf)
theorem el_iincG {S : XS} {M : MD} {f : Bool × Bool} {z0 z1 : Nat × Nat} {r : Option V × LM} {pc : Nat} {μ : LM} {L st : List V} {β : Type} {X : Int → Option β} {q : β} {k : Nat} {z x : Int} (hd : decode M.2.1 pc = .ok (.iinc k z, 3)) (hi : L[k]? = some (0, x)) (hf : (some (jadd x z)).bind X = some q) (hk : stk L k = true) (hh : ∀ y, X y = some q → El S M f z0 z1 r (pc + 3) μ (L.set k (0, y)) (st)) : El S M f z0 z1 r (pc) μ (L) (st) := el_iinc hd hi hk (hh _ hf)
theorem el_sub {S : XS} {M : MD} {f : Bool × Bool} {z0 z1 : Nat × Nat} {r : Option V × LM} {pc : Nat} {μ : LM} {L st : List V} {L2 : List V} (hh : El S M f z0 z1 r (pc) μ (L2) (st)) (hs2 : subL L L2) : El S M f z0 z1 r (pc) μ (L) (st) := by
  intro p l e Rm s m args below meth c A H locs D dA ad0 ad ls C K h hl hL hn hs
  have hx := C.1
  have hb := C.2.1
  refine hh p l e Rm s m args below meth c A H locs D dA ad0 ad ls C K h (lok_sub hl fun q hq => ?_) (subL_ok hs2 hL) (by rw [← subL_len hs2]; exact hn) hs
  obtain ⟨i, v, h1, h2, h3⟩ := lz_inv _ _ _ hq
  rw [Nat.zero_add] at h1
  have := lz_mem (ad := ad) h3 L 0 i (subL_get hs2 h2 h3)
  rw [Nat.zero_add] at this
  rw [h1]; exact this
theorem wl_len {dA : Nat → ClassId} {ad : Nat → Nat} {ρ σ : Mem} {n : Nat} : (wl dA ad ρ σ n).length = n := by simp [wl]
theorem ww_c {S : XS} {dA : Nat → ClassId} {ad : Nat → Nat} {μ : LM} {k : Nat} (h : k < μ.1) : (ww S dA ad μ)[k]? = some (ad k, cel dA ad μ.2.1 μ.2.2.1 k) := by
  unfold ww
  rw [List.getElem?_append_left (by rw [wl_len]; exact h), wl_get h]
theorem xl_get {S : XS} {dA : Nat → ClassId} {ad : Nat → Nat} {η ξ : Mem} {nx x : Nat} (h : x < nx) : (xl S dA ad η ξ nx)[x]? = some (ad (100000 + x), xel S dA ad η ξ x) := by simp [xl, h]
theorem ww_x {S : XS} {dA : Nat → ClassId} {ad : Nat → Nat} {μ : LM} {x : Nat} (h : x < μ.2.2.2.1) : (ww S dA ad μ)[μ.1 + x]? = some (ad (100000 + x), xel S dA ad μ.2.2.2.2.1 μ.2.2.2.2.2 x) := by
  unfold ww
  rw [List.getElem?_append_right (by rw [wl_len]; omega), wl_len, Nat.add_sub_cancel_left, xl_get h]
theorem xel_0 {S : XS} {dA : Nat → ClassId} {ad : Nat → Nat} {η ξ : Mem} {x n : Nat} (h : S x = (0, n)) : xel S dA ad η ξ x = .inl (dA 0, n, .inl fun j => Int32.ofInt (ξ x j)) := by unfold xel; rw [h]; rfl
theorem xel_3 {S : XS} {dA : Nat → ClassId} {ad : Nat → Nat} {η ξ : Mem} {x n : Nat} (h : S x = (3, n)) : xel S dA ad η ξ x = .inl (dA 3, n, .inr (.inr (.inr (.inr fun j => if η x j < 0 then none else some (ad (100000 + (η x j).toNat)))))) := by unfold xel; rw [h]; rfl
theorem xl_set {S : XS} {dA : Nat → ClassId} {ad : Nat → Nat} {η ξ η' ξ' : Mem} {nx x : Nat} (h : ∀ i, i < nx → i ≠ x → xel S dA ad η' ξ' i = xel S dA ad η ξ i) : (xl S dA ad η ξ nx).set x (ad (100000 + x), xel S dA ad η' ξ' x) = xl S dA ad η' ξ' nx := by
  apply List.ext_getElem?
  intro i
  rw [List.getElem?_set]
  by_cases hk : x = i
  · subst hk
    rw [if_pos rfl]
    by_cases hn : x < nx
    · rw [xl_get hn, if_pos (by simp [xl, hn])]
    · rw [if_neg (by simp [xl]; omega)]
      simp [xl, hn]
  · rw [if_neg hk]
    by_cases hn : i < nx
    · rw [xl_get hn, xl_get hn, h i hn (Ne.symm hk)]
    · simp [xl, hn]
theorem ww_set {S : XS} {dA : Nat → ClassId} {ad : Nat → Nat} {n nx x : Nat} {ρ σ η ξ η' ξ' : Mem} (h : ∀ i, i < nx → i ≠ x → xel S dA ad η' ξ' i = xel S dA ad η ξ i) : (ww S dA ad (n, ρ, σ, nx, η, ξ)).set (n + x) (ad (100000 + x), xel S dA ad η' ξ' x) = ww S dA ad (n, ρ, σ, nx, η', ξ') := by
  show List.set (wl dA ad ρ σ n ++ xl S dA ad η ξ nx) (n + x) _ = wl dA ad ρ σ n ++ xl S dA ad η' ξ' nx
  rw [List.set_append_right _ _ (by rw [wl_len]; omega), wl_len, Nat.add_sub_cancel_left, xl_set h]
theorem xel_mup {S : XS} {dA : Nat → ClassId} {ad : Nat → Nat} {η ξ : Mem} {k j v : Int} {i : Nat} (h : (i : Int) ≠ k) : xel S dA ad η (mup ξ k j v) i = xel S dA ad η ξ i := by
  have e : ∀ j' : Int, mup ξ k j v i j' = ξ i j' := fun j' => by simp [mup, h]
  unfold xel
  simp only [e]
theorem xel_mupr {S : XS} {dA : Nat → ClassId} {ad : Nat → Nat} {η ξ : Mem} {k j v : Int} {i : Nat} (h : (i : Int) ≠ k) : xel S dA ad (mup η k j v) ξ i = xel S dA ad η ξ i := by
  have e : ∀ j' : Int, mup η k j v i j' = η i j' := fun j' => by simp [mup, h]
  unfold xel
  simp only [e]
theorem xel_agree {S : XS} {dA : Nat → ClassId} {ad ad' : Nat → Nat} {η ξ : Mem} {x : Nat} (h2 : ∀ i, 100000 ≤ i → ad' i = ad i) : xel S dA ad' η ξ x = xel S dA ad η ξ x := by
  unfold xel
  have e : ∀ z : Nat, ad' (100000 + z) = ad (100000 + z) := fun z => h2 _ (by omega)
  simp only [e]
theorem xl_agree {S : XS} {dA : Nat → ClassId} {ad ad' : Nat → Nat} {η ξ : Mem} {nx : Nat} (h2 : ∀ i, 100000 ≤ i → ad' i = ad i) : xl S dA ad' η ξ nx = xl S dA ad η ξ nx := by
  unfold xl
  refine List.map_congr_left fun k _ => ?_
  rw [xel_agree h2, h2 _ (by omega)]
theorem xl_push {S : XS} {dA : Nat → ClassId} {ad : Nat → Nat} {η ξ : Mem} {nx : Nat} : xl S dA ad η ξ (nx + 1) = xl S dA ad η ξ nx ++ [(ad (100000 + nx), xel S dA ad η ξ nx)] := by
  unfold xl
  rw [List.range_succ, List.map_append]; rfl
theorem xz_mono {S : XS} {a b : Nat} (h : a ≤ b) : xz S a ≤ xz S b := by
  induction b with
  | zero => have : a = 0 := by omega
            subst this; exact Nat.le_refl _
  | succ b ih =>
    by_cases hb : a = b + 1
    · subst hb; exact Nat.le_refl _
    · have := ih (by omega)
      show xz S a ≤ xz S b + (S b).2
      omega
theorem pokx_mup {nx : Nat} {η ξ : Mem} {k j v : Int} (h : pokx nx η ξ) (hk : k < nx) (hv : in32 v) : pokx nx η (mup ξ k j v) := by
  refine ⟨fun x y => ?_, h.2.1, fun x y hx => ⟨(h.2.2 x y hx).1, ?_⟩⟩
  · unfold mup
    split
    · exact hv
    · exact h.1 x y
  · unfold mup
    rw [if_neg (fun q => by omega)]
    exact (h.2.2 x y hx).2
theorem pokx_mupr {nx : Nat} {η ξ : Mem} {k j v : Int} (h : pokx nx η ξ) (hk : k < nx) (hv : -1 ≤ v ∧ v < nx) : pokx nx (mup η k j v) ξ := by
  refine ⟨h.1, fun x y => ?_, fun x y hx => ⟨?_, (h.2.2 x y hx).2⟩⟩
  · unfold mup
    split
    · exact hv
    · exact h.2.1 x y
  · unfold mup
    rw [if_neg (fun q => by omega)]
    exact (h.2.2 x y hx).1
theorem pokx_push {nx : Nat} {η ξ : Mem} (h : pokx nx η ξ) : pokx (nx + 1) η ξ := ⟨h.1, fun x j => ⟨(h.2.1 x j).1, by have := (h.2.1 x j).2; omega⟩, fun x j hx => h.2.2 x j (by omega)⟩
theorem el_lmul {S : XS} {M : MD} {f : Bool × Bool} {z0 z1 : Nat × Nat} {r : Option V × LM} {pc : Nat} {μ : LM} {L st : List V} {x y : Int} (hd : decode M.2.1 pc = .ok (.lmul, 1)) (hh : El S M f z0 z1 r (pc + 1) μ (L) ((1, kmul x y) :: st)) : El S M f z0 z1 r (pc) μ (L) ((1, y) :: (1, x) :: st) := by
  intro p l e Rm s m args below meth c A H locs D dA ad0 ad ls C K h hl hL hn hs
  have hx := C.1
  have hb := C.2.1
  have h2 := hh p l e Rm s m args below meth c A H locs D dA ad0 ad ls C K h hl hL hn (ok_cons (ti64 _) (cons_ok (cons_ok hs).2).2)
  rw [List.map_cons, show rv ad (1, kmul x y) = .long (Int64.ofInt (kmul x y)) from rfl, kmul, Int64.ofInt_toInt] at h2
  exact lv_lmul hx hb hd h2
theorem el_aloadS2 {S : XS} {M : MD} {f : Bool × Bool} {z0 z1 : Nat × Nat} {r : Option V × LM} {pc : Nat} {μ : LM} {L st : List V} {k : Nat} {x : Int} (hd : decode M.2.1 pc = .ok (.aload k, 2)) (hi : L[k]? = some (3, x)) (hh : El S M f z0 z1 r (pc + 2) μ (L) ((3, x) :: st)) : El S M f z0 z1 r (pc) μ (L) (st) := by
  intro p l e Rm s m args below meth c A H locs D dA ad0 ad ls C K h hl hL hn hs
  have hx := C.1
  have hb := C.2.1
  exact lv_aload hx hb hd (lok_at hl hi (fun q => by cases q)) (hh p l e Rm s m args below meth c A H locs D dA ad0 ad ls C K h hl hL hn (ok_cons (hL _ (List.mem_of_getElem? hi)) hs))
theorem el_astoreS_n {S : XS} {M : MD} {f : Bool × Bool} {z0 z1 : Nat × Nat} {r : Option V × LM} {pc : Nat} {μ : LM} {L st : List V} {k : Fin 4} {x : Int} (hd : decode M.2.1 pc = .ok (.astore_n k, 1)) (hk : stk L (k : Nat) = true) (hb' : (k : Nat) < M.2.2.1) (hh : El S M f z0 z1 r (pc + 1) μ (L.set (k : Nat) (3, x)) (st)) : El S M f z0 z1 r (pc) μ (L) ((3, x) :: st) := by
  intro p l e Rm s m args below meth c A H locs D dA ad0 ad ls C K h hl hL hn hs
  have hx := C.1
  have hb := C.2.1
  exact lv_astore_n hx hb hd rfl hl hb' rfl (fun ls' hl' => hh p l e Rm s m args below meth c A H locs D dA ad0 ad ls' C K h (lok_st1 (v := (3, x)) (show (3 : Nat) ≠ 1 by decide) hk hl') (set_ok hL trivial) (by simpa using hn) (cons_ok hs).2)
theorem el_astoreS {S : XS} {M : MD} {f : Bool × Bool} {z0 z1 : Nat × Nat} {r : Option V × LM} {pc : Nat} {μ : LM} {L st : List V} {k : Nat} {x : Int} (hd : decode M.2.1 pc = .ok (.astore k, 2)) (hk : stk L k = true) (hb' : k < M.2.2.1) (hh : El S M f z0 z1 r (pc + 2) μ (L.set k (3, x)) (st)) : El S M f z0 z1 r (pc) μ (L) ((3, x) :: st) := by
  intro p l e Rm s m args below meth c A H locs D dA ad0 ad ls C K h hl hL hn hs
  have hx := C.1
  have hb := C.2.1
  exact lv_astore hx hb hd hl hb' rfl (fun ls' hl' => hh p l e Rm s m args below meth c A H locs D dA ad0 ad ls' C K h (lok_st1 (v := (3, x)) (show (3 : Nat) ≠ 1 by decide) hk hl') (set_ok hL trivial) (by simpa using hn) (cons_ok hs).2)
theorem rv_3 {ad : Nat → Nat} {k : Int} : rv ad (3, k) = .ref (ad (100000 + k.toNat)) := rfl
/-- the script -/
theorem el_scl {S : XS} {M : MD} {f : Bool × Bool} {z0 z1 : Nat × Nat} {r : Option V × LM} {pc : Nat} {μ : LM} {L st : List V} {N : Nat} {xs : Nat → Int32} (hd : decode M.2.1 pc = .ok (.arraylength, 1)) (hex : M.2.2.2.2.2.2.2 = scrX N xs) (hN : (N : Int) ≤ 2147483647) (hh : El S M f z0 z1 r (pc + 1) μ L ((0, (N : Int)) :: st)) : El S M f z0 z1 r (pc) μ L ((3, 200000) :: st) := by
  intro p l e Rm s m args below meth c A H locs D dA ad0 ad ls C K h hl hL hn hs
  have hx := C.1
  have hb := C.2.1
  have hX := K.2.2.2.1
  rw [hex] at hX
  have h2 := hh p l e Rm s m args below meth c A H locs D dA ad0 ad ls C K h hl hL hn (ok_cons (show okv μ.1 (0, (N : Int)) from ⟨by omega, hN⟩) (cons_ok hs).2)
  rw [List.map_cons, show rv ad (3, 200000) = .ref (ad 300000) from rfl, h.2.2.2.2.1 _ (by omega)]
  exact va_slen hx hb hX.1 hX.2.1 hX.2.2 h.2.2.1 hd h2
theorem el_scld {S : XS} {M : MD} {f : Bool × Bool} {z0 z1 : Nat × Nat} {r : Option V × LM} {pc : Nat} {μ : LM} {L st : List V} {α : Type} {X : Option α} {q : α} {i : Int} {N : Nat} {xs : Nat → Int32} (hd : decode M.2.1 pc = .ok (.iaload, 1)) (hex : M.2.2.2.2.2.2.2 = scrX N xs) (hf : chk (0 ≤ i ∧ i < N) X = some q) (hh : X = some q → El S M f z0 z1 r (pc + 1) μ L ((0, (xs i.toNat).toInt) :: st)) : El S M f z0 z1 r (pc) μ L ((0, i) :: (3, 200000) :: st) := by
  intro p l e Rm s m args below meth c A H locs D dA ad0 ad ls C K h hl hL hn hs
  have hx := C.1
  have hb := C.2.1
  obtain ⟨hi, hf⟩ := chk_of hf
  have hX := K.2.2.2.1
  rw [hex] at hX
  have hvp := in32_vp (cons_ok hs).1 hi.1 hi.2
  have h2 := hh hf p l e Rm s m args below meth c A H locs D dA ad0 ad ls C K h hl hL hn (ok_cons (show okv μ.1 (0, (xs i.toNat).toInt) from ti32 _) (cons_ok (cons_ok hs).2).2)
  rw [List.map_cons, show rv ad (0, (xs i.toNat).toInt) = .int (Int32.ofInt (xs i.toNat).toInt) from rfl, Int32.ofInt_toInt] at h2
  rw [List.map_cons, List.map_cons, show rv ad (3, 200000) = .ref (ad 300000) from rfl, h.2.2.2.2.1 _ (by omega)]
  refine va_sld hx hb hX.1 hX.2.1 hX.2.2 h.2.2.1 hvp.1 hd ?_
  rw [hvp.2]
  exact h2
/-- the law's arrays: lengths, reads, writes -/
theorem el_xlen {S : XS} {M : MD} {f : Bool × Bool} {z0 z1 : Nat × Nat} {r : Option V × LM} {pc : Nat} {μ : LM} {L st : List V} {k : Int} {N d : Nat} (hd : decode M.2.1 pc = .ok (.arraylength, 1)) (hsh : S k.toNat = (d, N)) (hd3 : d = 0 ∨ d = 3) (hN : (N : Int) ≤ 2147483647) (h0 : 0 ≤ k) (hkn : k < μ.2.2.2.1) (hh : El S M f z0 z1 r (pc + 1) μ L ((0, (N : Int)) :: st)) : El S M f z0 z1 r (pc) μ L ((3, k) :: st) := by
  intro p l e Rm s m args below meth c A H locs D dA ad0 ad ls C K h hl hL hn hs
  have hx := C.1
  have hb := C.2.1
  obtain ⟨z, rfl⟩ := Int.eq_ofNat_of_zero_le h0
  have hq : z < μ.2.2.2.1 := by omega
  have hsq : S z = (d, N) := by simpa using hsh
  rw [List.map_cons, rv_3, Int.toNat_natCast]
  have h2 := hh p l e Rm s m args below meth c A H locs D dA ad0 ad ls C K h hl hL hn (ok_cons (show in32 (N : Int) from ⟨by omega, hN⟩) (cons_ok hs).2)
  rcases hd3 with rfl | rfl
  · exact va_alen (D := D) (tys := TY dA) (x := (N, .inl fun j => Int32.ofInt (μ.2.2.2.2.2 z j))) (v := Int32.ofInt (N : Int)) hx hb K.1 h.1 (μ.1 + z) 0 (by rw [ww_x hq, xel_0 hsq]) rfl rfl hd h2
  · exact va_alen (D := D) (tys := TY dA) (x := (N, .inr (.inr (.inr (.inr fun j => if μ.2.2.2.2.1 z j < 0 then none else some (ad (100000 + (μ.2.2.2.2.1 z j).toNat))))))) (v := Int32.ofInt (N : Int)) hx hb K.1 h.1 (μ.1 + z) 3 (by rw [ww_x hq, xel_3 hsq]) rfl rfl hd h2
theorem el_xald {S : XS} {M : MD} {f : Bool × Bool} {z0 z1 : Nat × Nat} {r : Option V × LM} {pc : Nat} {μ : LM} {L st : List V} {α : Type} {X : Option α} {q : α} {k i : Int} {N : Nat} (hd : decode M.2.1 pc = .ok (.iaload, 1)) (hsh : S k.toNat = (0, N)) (h0 : 0 ≤ k) (hkn : k < μ.2.2.2.1) (hf : chk (0 ≤ i ∧ i < N) X = some q) (hh : X = some q → El S M f z0 z1 r (pc + 1) μ L ((0, μ.2.2.2.2.2 k i) :: st)) : El S M f z0 z1 r (pc) μ L ((0, i) :: (3, k) :: st) := by
  intro p l e Rm s m args below meth c A H locs D dA ad0 ad ls C K h hl hL hn hs
  have hx := C.1
  have hb := C.2.1
  obtain ⟨hi, hf⟩ := chk_of hf
  obtain ⟨z, rfl⟩ := Int.eq_ofNat_of_zero_le h0
  have hq : z < μ.2.2.2.1 := by omega
  have hsq : S z = (0, N) := by simpa using hsh
  have hvp := in32_vp (cons_ok hs).1 hi.1 hi.2
  have hpx := h.2.2.2.2.2.2.2.2.2.1
  have h2 := hh hf p l e Rm s m args below meth c A H locs D dA ad0 ad ls C K h hl hL hn (ok_cons (show in32 _ from hpx.1 (z : Int) i) (cons_ok (cons_ok hs).2).2)
  rw [List.map_cons, List.map_cons, rv_3, Int.toNat_natCast]
  refine va_iald (D := D) (tys := TY dA) hx hb K.1 h.1 (μ.1 + z) 0 (by rw [ww_x hq, xel_0 hsq]) rfl hvp.1 hd ?_
  rw [hvp.2, Int.toNat_of_nonneg hi.1]
  exact h2
theorem el_xaald {S : XS} {M : MD} {f : Bool × Bool} {z0 z1 : Nat × Nat} {r : Option V × LM} {pc : Nat} {μ : LM} {L st : List V} {α : Type} {X : Option α} {q : α} {k i v : Int} {N : Nat} (hd : decode M.2.1 pc = .ok (.aaload, 1)) (hsh : S k.toNat = (3, N)) (h0 : 0 ≤ k) (hkn : k < μ.2.2.2.1) (hf : chk (0 ≤ i ∧ i < N) X = some q) (hv : 0 ≤ i ∧ i < N → μ.2.2.2.2.1 k i = v ∧ 0 ≤ v) (hh : X = some q → El S M f z0 z1 r (pc + 1) μ L ((3, v) :: st)) : El S M f z0 z1 r (pc) μ L ((0, i) :: (3, k) :: st) := by
  intro p l e Rm s m args below meth c A H locs D dA ad0 ad ls C K h hl hL hn hs
  have hx := C.1
  have hb := C.2.1
  obtain ⟨hi, hf⟩ := chk_of hf
  obtain ⟨hv1, hv2⟩ := hv hi
  obtain ⟨z, rfl⟩ := Int.eq_ofNat_of_zero_le h0
  have hq : z < μ.2.2.2.1 := by omega
  have hsq : S z = (3, N) := by simpa using hsh
  have hvp := in32_vp (cons_ok hs).1 hi.1 hi.2
  have h2 := hh hf p l e Rm s m args below meth c A H locs D dA ad0 ad ls C K h hl hL hn (ok_cons (show okv μ.1 (3, v) from trivial) (cons_ok (cons_ok hs).2).2)
  rw [List.map_cons, List.map_cons, rv_3, Int.toNat_natCast]
  have hlt : (Int32.ofInt i).toNatClampNeg < N := Nat.not_le.mp fun q => hvp.1 (Or.inr q)
  have ha : (ww S dA ad μ)[μ.1 + z]? = some (ad (100000 + z), .inl (dA 3, N, .inr (.inr (.inr (.inr fun j => if μ.2.2.2.2.1 z j < 0 then none else some (ad (100000 + (μ.2.2.2.2.1 z j).toNat))))))) := by rw [ww_x hq, xel_3 hsq]
  refine W.aald (v := .ref (ad (100000 + v.toNat))) (ty := .array .int) hx hb (h.1 (μ.1 + z) _ ha) ((K.1.2 3 (dA 3, .array .int) rfl).1 N (fun j => va_rf (if μ.2.2.2.2.1 z j < 0 then none else some (ad (100000 + (μ.2.2.2.2.1 z j).toNat))))) rfl (fun q => by cases q) (by show ¬ ((Int32.ofInt i) < 0 ∨ (arrV _ _ _).slots.size ≤ _); rw [arrV_size]; exact hvp.1) ?_ rfl rfl hd h2
  show (arrV _ _ _).slots[_]? = _
  rw [arrV_read _ _ hlt, hvp.2]
  show some (va_rf (if μ.2.2.2.2.1 (z : Int) ((i.toNat : Nat) : Int) < 0 then none else some (ad (100000 + (μ.2.2.2.2.1 (z : Int) ((i.toNat : Nat) : Int)).toNat)))) = _
  rw [Int.toNat_of_nonneg hi.1, hv1, if_neg (by omega)]
  rfl
theorem el_xast {S : XS} {M : MD} {f : Bool × Bool} {z0 z1 : Nat × Nat} {r : Option V × LM} {pc : Nat} {n nx : Nat} {ρ σ η ξ : Mem} {L st : List V} {α : Type} {X : Option α} {q : α} {k i x : Int} {N : Nat} (hd : decode M.2.1 pc = .ok (.iastore, 1)) (hsh : S k.toNat = (0, N)) (h0 : 0 ≤ k) (hkn : k < nx) (hf : chk (0 ≤ i ∧ i < N) X = some q) (hh : X = some q → El S M f z0 z1 r (pc + 1) (n, ρ, σ, nx, η, mup ξ k i x) L st) : El S M f z0 z1 r (pc) (n, ρ, σ, nx, η, ξ) L ((0, x) :: (0, i) :: (3, k) :: st) := by
  intro p l e Rm s m args below meth c A H locs D dA ad0 ad ls C K h hl hL hn hs
  have hx := C.1
  have hb := C.2.1
  obtain ⟨hi, hf⟩ := chk_of hf
  obtain ⟨z, rfl⟩ := Int.eq_ofNat_of_zero_le h0
  have hq : z < nx := by omega
  have hsq : S z = (0, N) := by simpa using hsh
  have hvp := in32_vp (cons_ok (cons_ok hs).2).1 hi.1 hi.2
  rw [List.map_cons, List.map_cons, List.map_cons, rv_3, Int.toNat_natCast]
  have hset : (ww S dA ad (n, ρ, σ, nx, η, ξ)).set (n + z) (ad (100000 + z), .inl (dA 0, N, .inl (upd (fun j : Nat => Int32.ofInt (ξ z j)) (Int32.ofInt i).toNatClampNeg (Int32.ofInt x)))) = ww S dA ad (n, ρ, σ, nx, η, mup ξ z i x) := by
    have e : .inl (upd (fun j : Nat => Int32.ofInt (ξ z j)) (Int32.ofInt i).toNatClampNeg (Int32.ofInt x)) = ((.inl fun j : Nat => Int32.ofInt (mup ξ z i x z j)) : (Nat → Int32) ⊕ (Nat → Int64) ⊕ (Nat → UInt32) ⊕ (Nat → UInt64) ⊕ (Nat → Option Nat)) := by
      congr 1
      funext j
      rw [hvp.2]
      show (if j = i.toNat then _ else _) = Int32.ofInt (if _ ∧ _ then _ else _)
      by_cases hj : j = i.toNat
      · have hj2 : (j : Int) = i := by omega
        rw [if_pos hj, if_pos ⟨rfl, hj2⟩]
      · have hj2 : ¬ (j : Int) = i := by omega
        rw [if_neg hj, if_neg (fun h9 => hj2 h9.2)]
    rw [e, ← xel_0 (dA := dA) (ad := ad) (η := η) hsq]
    exact ww_set fun a _ ha => xel_mup (ne_cast ha)
  obtain ⟨hP, hD, hS, hA0, hA1, hpk, hn0, hn1, h9, hpx, hx0, hx1, hx9, hsz⟩ := id h
  have ha : (ww S dA ad (n, ρ, σ, nx, η, ξ))[n + z]? = some (ad (100000 + z), .inl (dA 0, N, .inl fun j : Nat => Int32.ofInt (ξ z j))) := by rw [ww_x (μ := (n, ρ, σ, nx, η, ξ)) hq, xel_0 hsq]
  refine W.iast hx hb (hP (n + z) _ ha) ((K.1.2 0 (dA 0, .int) rfl).1 N (fun j => .int (Int32.ofInt (ξ z j)))) (fun q => by cases q) (by show ¬ ((Int32.ofInt i) < 0 ∨ (arrV _ _ _).slots.size ≤ _); rw [arrV_size]; exact hvp.1) rfl rfl hd fun H1 ee z1 oq => ?_
  have hP1 := hP.set (e := .inl (dA 0, N, .inl (upd (fun j : Nat => Int32.ofInt (ξ z j)) (Int32.ofInt i).toNatClampNeg (Int32.ofInt x)))) hD ha (by
    show H1[_]? = some (vp_cell _ _)
    rw [ee]
    rw [vp_cell_i, vp_cell_i, arrV_store]
    congr 2
    funext q
    by_cases hq : q = (Int32.ofInt i).toNatClampNeg
    · subst hq
      simp [updV, upd]
    · simp [updV, upd, hq]) oq
  have hD1 := hD.set (e := .inl (dA 0, N, .inl (upd (fun j : Nat => Int32.ofInt (ξ z j)) (Int32.ofInt i).toNatClampNeg (Int32.ofInt x)))) ha
  rw [hset] at hP1 hD1
  exact hh hf p l e Rm s m args below meth c A H1 _ D dA ad0 ad ls C K ⟨hP1, hD1, hS.put z1 oq (hD.2 (n + z) _ ha), hA0, hA1, hpk, hn0, hn1, h9, pokx_mup hpx hkn (cons_ok hs).1, hx0, hx1, hx9, fun hb => by rw [z1]; exact hsz hb⟩ hl hL hn (cons_ok (cons_ok (cons_ok hs).2).2).2
/-- the arrays of arrays: a write -/
theorem el_xaast {S : XS} {M : MD} {f : Bool × Bool} {z0 z1 : Nat × Nat} {r : Option V × LM} {pc : Nat} {n nx : Nat} {ρ σ η ξ : Mem} {L st : List V} {k i v : Int} {N N2 : Nat} (hd : decode M.2.1 pc = .ok (.aastore, 1)) (hsh : S k.toNat = (3, N)) (h0 : 0 ≤ k) (hkn : k < nx) (hsv : S v.toNat = (0, N2)) (hv0 : 0 ≤ v) (hvn : v < nx) (hi : 0 ≤ i ∧ i < N) (hh : El S M f z0 z1 r (pc + 1) (n, ρ, σ, nx, mup η k i v, ξ) L st) : El S M f z0 z1 r (pc) (n, ρ, σ, nx, η, ξ) L ((3, v) :: (0, i) :: (3, k) :: st) := by
  intro p l e Rm s m args below meth c A H locs D dA ad0 ad ls C K h hl hL hn hs
  have hx := C.1
  have hb := C.2.1
  obtain ⟨z, rfl⟩ := Int.eq_ofNat_of_zero_le h0
  obtain ⟨zv, rfl⟩ := Int.eq_ofNat_of_zero_le hv0
  have hq : z < nx := by omega
  have hqv : zv < nx := by omega
  have hsq : S z = (3, N) := by simpa using hsh
  have hsqv : S zv = (0, N2) := by simpa using hsv
  have hvp := in32_vp (cons_ok (cons_ok hs).2).1 hi.1 hi.2
  rw [List.map_cons, List.map_cons, List.map_cons, rv_3, rv_3, Int.toNat_natCast, Int.toNat_natCast]
  have hset : (ww S dA ad (n, ρ, σ, nx, η, ξ)).set (n + z) (ad (100000 + z), .inl (dA 3, N, .inr (.inr (.inr (.inr (va_up (fun j : Nat => if η z j < 0 then none else some (ad (100000 + (η z j).toNat))) (Int32.ofInt i).toNatClampNeg (some (ad (100000 + zv))))))))) = ww S dA ad (n, ρ, σ, nx, mup η z i zv, ξ) := by
    have e : (va_up (fun j : Nat => if η z j < 0 then none else some (ad (100000 + (η z j).toNat))) (Int32.ofInt i).toNatClampNeg (some (ad (100000 + zv)))) = fun j : Nat => if mup η z i zv z j < 0 then none else some (ad (100000 + (mup η z i zv z j).toNat)) := by
      funext j
      unfold va_up mup
      rw [hvp.2]
      by_cases hj : j = i.toNat
      · have hj2 : (j : Int) = i := by omega
        rw [if_pos hj]
        simp [hj2]
      · have hj2 : ¬ (j : Int) = i := by omega
        rw [if_neg hj]
        simp [hj2]
    rw [e, ← xel_3 (dA := dA) (ad := ad) (ξ := ξ) hsq]
    exact ww_set fun a _ ha => xel_mupr (ne_cast ha)
  obtain ⟨hP, hD, hS, hA0, hA1, hpk, hn0, hn1, h9, hpx, hx0, hx1, hx9, hsz⟩ := id h
  have ha : (ww S dA ad (n, ρ, σ, nx, η, ξ))[n + z]? = some (ad (100000 + z), .inl (dA 3, N, .inr (.inr (.inr (.inr fun j : Nat => if η z j < 0 then none else some (ad (100000 + (η z j).toNat))))))) := by rw [ww_x (μ := (n, ρ, σ, nx, η, ξ)) hq, xel_3 hsq]
  have hav : (ww S dA ad (n, ρ, σ, nx, η, ξ))[n + zv]? = some (ad (100000 + zv), .inl (dA 0, N2, .inl fun j : Nat => Int32.ofInt (ξ zv j))) := by rw [ww_x (μ := (n, ρ, σ, nx, η, ξ)) hqv, xel_0 hsqv]
  obtain ⟨comp, cA, kA, w1, w2, w3, w4, w5⟩ := arrayOverA_spec K.2.2.2.2.2
  have g3 : s.vm.findClass ("[" ++ (FieldType.array .int).toString) = some (dA 3) := (K.1.2 3 (dA 3, .array .int) rfl).2
  have g0 : s.vm.findClass ("[" ++ (FieldType.int).toString) = some (dA 0) := (K.1.2 0 (dA 0, .int) rfl).2
  have hcA : cA = dA 3 := Option.some.inj (w5.symm.trans g3)
  have hcomp : comp = dA 0 := Option.some.inj (w1.symm.trans g0)
  subst hcA hcomp
  obtain ⟨kC, hkC, -⟩ := Vm.findClass_spec w1
  refine W.aast hx hb (hP (n + z) _ ha) (fun q h => by cases h) (fun h => by cases h) w3 w4 rfl hkC ⟨fun q => hvp.1 (Or.inl q), by show _ < (arrV _ _ _).slots.size; rw [arrV_size]; exact Nat.not_le.mp fun q => hvp.1 (Or.inr q)⟩ (hP (n + zv) _ hav) (fun q h => by cases h) hkC (va_asg _ _) rfl rfl hd fun H1 ee z1 oq => ?_
  have hP1 := hP.set (e := .inl (dA 3, N, .inr (.inr (.inr (.inr (va_up (fun j : Nat => if η z j < 0 then none else some (ad (100000 + (η z j).toNat))) (Int32.ofInt i).toNatClampNeg (some (ad (100000 + zv))))))))) hD ha (by
    show H1[_]? = some (vp_cell _ _)
    rw [ee]
    rw [vp_cell_q, vp_cell_q, arrV_store]
    congr 2
    funext q
    by_cases hq : q = (Int32.ofInt i).toNatClampNeg
    · subst hq
      simp [updV, va_up, va_rf]
    · simp [updV, va_up, hq]) oq
  have hD1 := hD.set (e := .inl (dA 3, N, .inr (.inr (.inr (.inr (va_up (fun j : Nat => if η z j < 0 then none else some (ad (100000 + (η z j).toNat))) (Int32.ofInt i).toNatClampNeg (some (ad (100000 + zv))))))))) ha
  rw [hset] at hP1 hD1
  exact hh p l e Rm s m args below meth c A H1 _ D dA ad0 ad ls C K ⟨hP1, hD1, hS.put z1 oq (hD.2 (n + z) _ ha), hA0, hA1, hpk, hn0, hn1, h9, pokx_mupr hpx hkn ⟨by omega, hvn⟩, hx0, hx1, hx9, fun hb => by rw [z1]; exact hsz hb⟩ hl hL hn (cons_ok (cons_ok (cons_ok hs).2).2).2
/-- behind the making of an array -/
theorem el_made {S : XS} {M : MD} {z0 z1 : Nat × Nat} {κ : Bool} {r : Option V × LM} {pc : Nat} {n nx N : Nat} {ρ σ η ξ : Mem} {L st : List V} {p : Program} {l : Launch} {e : Env} {Rm : Room} {s : State} {m : MethodId} {args : Array Value} {below : List Frame} {meth : Method} {c : Code} {A : Nat → Prop} {H H1 : Heap} {locs : List Loc} {D : va_G} {dA : Nat → ClassId} {ad0 ad : Nat → Nat} {ls : Array Slot} (C : Cxl S M z0 z1 p Rm s m args meth c) (K : Cwl M D dA z0 z1 ad0 A s) (h : Chl S true D dA z0 z1 (n, ρ, σ, nx, η, ξ) ad0 ad A s.heap H locs) (hl : lv_has ls M.2.2.1 (lz ad 0 L)) (hL : ∀ v ∈ L, okv n v) (hn : L.length = M.2.2.1) (hs : ∀ v ∈ st, okv n v) (hn0 : n = z0.1) (hx1 : nx < z1.2) (hN : (S nx).2 = N) (o1 : ∀ q : Nat, q < H.size → H1[q]? = H[q]?) (hz : H1.size = H.size + 1) (hv : va_at D vwCl (H.size, xel S dA ad η ξ nx) H1)
    (hh : El S M (κ, true) z0 z1 r pc (n, ρ, σ, nx + 1, η, ξ) L ((3, (nx : Int)) :: st)) : W p l e Rm s m args below meth c H1 locs (n - z0.1 + (nx - z0.2) + 1) (szL n - szL z0.1 + (xz S nx - xz S z0.2) + N) (MQ below (Qml S κ z0 z1 r D dA ad0 A) args s (z1.1 - z0.1 + (z1.2 - z0.2)) (szL z1.1 - szL z0.1 + (xz S z1.2 - xz S z0.2)) A) (F0 m pc ls (.ref H.size :: st.map (rv ad))) := by
  obtain ⟨hP, hD, hS, hA0, hA1, hpk, hz0, hz1, h9, hpx, hx0, hxx, hx9, hsz⟩ := id h
  have ea : ad (100000 + nx) = H.size := by
    rw [hA1 _ (by omega), K.2.2.2.2.1 nx hx0 hx1, hsz rfl]
    show _ = s.heap.size + (n - z0.1) + (nx - z0.2)
    omega
  have hw : ww S dA ad (n, ρ, σ, nx + 1, η, ξ) = ww S dA ad (n, ρ, σ, nx, η, ξ) ++ [(H.size, xel S dA ad η ξ nx)] := by
    unfold ww
    rw [xl_push, ea, List.append_assoc]
  have hk : ∀ (k : Nat) (x : Nat × va_E), (ww S dA ad (n, ρ, σ, nx, η, ξ))[k]? = some x → H1[x.1]? = H[x.1]? := fun k x hx => o1 x.1 ((hP k x hx).lt)
  have key := hh p l e Rm s m args below meth c A H1 locs D dA ad0 ad ls C K
    ⟨by
      rw [hw]
      refine (hP.kept hk).app fun k x hx => ?_
      have hz : k < 1 := (List.getElem?_eq_some_iff.mp hx).1
      rw [show k = 0 by omega] at hx
      cases hx
      exact hv, by rw [hw]; exact hD.push hP rfl (K.2.2.1 _ hS.1), ⟨Nat.le_trans hS.1 (by omega), fun x h1 h2 => (o1 x (Nat.lt_of_lt_of_le h1 hS.1)).trans (hS.2.1 x h1 h2), hS.2.2⟩, hA0, hA1, hpk, hz0, hz1, h9, pokx_push hpx, by show z0.2 ≤ nx + 1; have : z0.2 ≤ nx := hx0; omega, hx1, hx9, fun _ => by
        rw [hz, hsz rfl]
        show s.heap.size + (n - z0.1) + (nx - z0.2) + 1 = s.heap.size + (n - z0.1) + (nx + 1 - z0.2)
        have : z0.2 ≤ nx := hx0
        omega⟩ hl hL hn (ok_cons (show okv n (3, (nx : Int)) from trivial) hs)
  have hx0' : z0.2 ≤ nx := hx0
  have q1 : n - z0.1 + (nx + 1 - z0.2) = n - z0.1 + (nx - z0.2) + 1 := by omega
  have q2 : szL n - szL z0.1 + (xz S (nx + 1) - xz S z0.2) = szL n - szL z0.1 + (xz S nx - xz S z0.2) + N := by
    have := xz_mono (S := S) hx0'
    show _ + (xz S nx + (S nx).2 - xz S z0.2) = _
    rw [hN]; omega
  rw [List.map_cons, rv_3, Int.toNat_natCast, ea] at key
  rw [← q1, ← q2]
  exact key
theorem room_x {S : XS} {M : MD} {z0 z1 : Nat × Nat} {n nx N : Nat} {p : Program} {Rm : Room} {s : State} {m : MethodId} {args : Array Value} {meth : Method} {c : Code} (C : Cxl S M z0 z1 p Rm s m args meth c) (h0 : z0.1 ≤ n) (h1 : n ≤ z1.1) (hx0 : z0.2 ≤ nx) (hx1 : nx < z1.2) (hN : (S nx).2 = N) : n - z0.1 + (nx - z0.2) + 1 ≤ Rm.cells ∧ szL n - szL z0.1 + (xz S nx - xz S z0.2) + N ≤ Rm.slots := by
  have h1' := C.2.2.2.2.2.2.2.2.2.1
  have h2 := C.2.2.2.2.2.2.2.2.2.2.1
  have h3 := szL_mono h0
  have h4 := szL_mono h1
  have h5 := xz_mono (S := S) hx0
  have h6 : xz S (nx + 1) ≤ xz S z1.2 := xz_mono hx1
  have h7 : xz S (nx + 1) = xz S nx + N := by show xz S nx + (S nx).2 = _; rw [hN]
  omega
theorem el_newi {S : XS} {M : MD} {κ : Bool} {z0 z1 : Nat × Nat} {r : Option V × LM} {pc : Nat} {n nx : Nat} {ρ σ η ξ : Mem} {L st : List V} {N : Nat} (hd : decode M.2.1 pc = .ok (.newarray .int, 2)) (hw : Cond.arrayClass .int ∈ WS) (hsh : S nx = (0, N)) (hN : N ≤ 10000) (hn0 : n = z0.1) (hx1 : nx < z1.2) (hh : El S M (κ, true) z0 z1 r (pc + 2) (n, ρ, σ, nx + 1, η, ξ) L ((3, (nx : Int)) :: st)) : El S M (κ, true) z0 z1 r (pc) (n, ρ, σ, nx, η, ξ) L ((0, (N : Int)) :: st) := by
  intro p l e Rm s m args below meth c A H locs D dA ad0 ad ls C K h hl hL hn hs
  have hx := C.1
  have hb := C.2.1
  have hr := room_x C h.2.2.2.2.2.2.1 h.2.2.2.2.2.2.2.1 h.2.2.2.2.2.2.2.2.2.2.1 hx1 (show (S nx).2 = N by rw [hsh])
  have hts := C.2.2.2.2.2.1
  have hin : in32 (N : Int) := ⟨by omega, by omega⟩
  refine va_newaK (atype := .int) (n := Int32.ofInt (N : Int)) (N := N) hx hb (hts _ hw) rfl hd rfl (fun z => by have := (lt32 hin in32_0).mp z; omega) (by show (Int32.ofInt (N : Int)).toInt.toNat = N; rw [oi32 hin]; omega) (by simp [componentBytes, newarray.typeOf]; omega) hr.1 hr.2 rfl fun H1 cA e1 hz o1 hAr hNm => ?_
  have e0 : cA = dA 0 := Option.some.inj (hNm.symm.trans (K.1.2 0 (dA 0, .int) rfl).2)
  subst e0
  refine el_made C K h hl hL hn (cons_ok hs).2 hn0 hx1 (show (S nx).2 = N by rw [hsh]) o1 hz ?_ hh
  rw [xel_0 hsh]
  show H1[H.size]? = some (vp_cell _ _)
  have hfr : ∀ j : Int, ξ nx j = 0 := fun j => (h.2.2.2.2.2.2.2.2.2.1.2.2 nx j (Int.le_refl _)).2
  simp only [hfr]
  exact e1
theorem el_newa {S : XS} {M : MD} {κ : Bool} {z0 z1 : Nat × Nat} {r : Option V × LM} {pc : Nat} {n nx idx : Nat} {ρ σ η ξ : Mem} {L st : List V} {N : Nat} (hd : decode M.2.1 pc = .ok (.anewarray idx, 3)) (hwc : Cond.classLink M.1 idx "[I" ∈ WS) (hsh : S nx = (3, N)) (hN : N ≤ 10000) (hn0 : n = z0.1) (hx1 : nx < z1.2) (hh : El S M (κ, true) z0 z1 r (pc + 3) (n, ρ, σ, nx + 1, η, ξ) L ((3, (nx : Int)) :: st)) : El S M (κ, true) z0 z1 r (pc) (n, ρ, σ, nx, η, ξ) L ((0, (N : Int)) :: st) := by
  intro p l e Rm s m args below meth c A H locs D dA ad0 ad ls C K h hl hL hn hs
  have hx := C.1
  have hb := C.2.1
  have hr := room_x C h.2.2.2.2.2.2.1 h.2.2.2.2.2.2.2.1 h.2.2.2.2.2.2.2.2.2.2.1 hx1 (show (S nx).2 = N by rw [hsh])
  have hts := C.2.2.2.2.2.1
  have hin : in32 (N : Int) := ⟨by omega, by omega⟩
  have hNc : (Int32.ofInt (N : Int)).toNatClampNeg = N := by show (Int32.ofInt (N : Int)).toInt.toNat = N; rw [oi32 hin]; omega
  refine W.anewA (t := .int) (n := Int32.ofInt (N : Int)) hx hb C.2.2.2.2.1 (hts _ hwc) (va_AI.use K.2.2.2.2.2) rfl hd rfl (fun z => by have := (lt32 hin in32_0).mp z; omega) (by rw [hNc]; omega) hr.1 (by rw [hNc]; exact hr.2) fun cA kA comp f1 f2 f3 f4 => ?_
  rw [hNc]
  have e0 : cA = dA 3 := Option.some.inj (f1.symm.trans (K.1.2 3 (dA 3, .array .int) rfl).2)
  subst e0
  refine el_made C K h hl hL hn (cons_ok hs).2 hn0 hx1 (show (S nx).2 = N by rw [hsh]) (fun q hq => by rw [Array.getElem?_push, if_neg (Nat.ne_of_lt hq)]) (by simp) ?_ hh
  rw [xel_3 hsh]
  show (H.push _)[H.size]? = some (vp_cell _ _)
  have hfr : ∀ j : Int, η nx j = -1 := fun j => (h.2.2.2.2.2.2.2.2.2.1.2.2 nx j (Int.le_refl _)).1
  simp only [hfr]
  rw [Array.getElem?_push_size, vp_cell_q, ← arrV_new]
  rfl
/-- the size of the heap is no longer looked at -/
theorem el_loose {S : XS} {M : MD} {κ : Bool} {z0 z1 : Nat × Nat} {r : Option V × LM} {pc : Nat} {μ : LM} {L st : List V} (hh : El S M (κ, false) z0 z1 r pc μ L st) : El S M (κ, true) z0 z1 r pc μ L st := fun p l e Rm s m args below meth c A H locs D dA ad0 ad ls C K h hl hL hn hs => hh p l e Rm s m args below meth c A H locs D dA ad0 ad ls C K ⟨h.1, h.2.1, h.2.2.1, h.2.2.2.1, h.2.2.2.2.1, h.2.2.2.2.2.1, h.2.2.2.2.2.2.1, h.2.2.2.2.2.2.2.1, h.2.2.2.2.2.2.2.2.1, h.2.2.2.2.2.2.2.2.2.1, h.2.2.2.2.2.2.2.2.2.2.1, h.2.2.2.2.2.2.2.2.2.2.2.1, h.2.2.2.2.2.2.2.2.2.2.2.2.1, fun z => by cases z⟩ hl hL hn hs
