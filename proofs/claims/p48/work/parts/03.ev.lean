/-! MEMORY AND VALUES: an object or array has a place (a number, in the order of its making); memory gives a place's k-th entry as a whole number -/
abbrev Mem : Type := Int → Int → Int
abbrev V : Type := Nat × Int
abbrev MD : Type := String × ByteArray × Nat × Option FieldType × Nat × Nat × Bool × (State → (Nat → Prop) → (Nat → Nat) → Prop)
abbrev in32 (x : Int) : Prop := -2147483648 ≤ x ∧ x ≤ 2147483647
abbrev in64 (x : Int) : Prop := -9223372036854775808 ≤ x ∧ x ≤ 9223372036854775807
def rv (ad : Nat → Nat) : V → Value
  | (0, x) => .int (Int32.ofInt x)
  | (1, x) => .long (Int64.ofInt x)
  | (2, x) => if x < 0 then .null else .ref (ad x.toNat)
  | (3, x) => .ref (ad (100000 + x.toNat))
  | (_, _) => if ad 500000 = 0 then .null else .ref (ad 500001)
def okv (n : Nat) : V → Prop
  | (0, x) => in32 x
  | (1, x) => in64 x
  | (2, x) => -1 ≤ x ∧ x < n
  | _ => True
def shp (k : Nat) : Nat × Nat := shL.getD k (0, 0)
def fts (c : Nat) : List Nat := ftL.getD c []
def szL : Nat → Nat
  | 0 => 0
  | n + 1 => szL n + (shp n).2
def cel (dA : Nat → ClassId) (ad : Nat → Nat) (ρ σ : Mem) (k : Nat) : va_E := match shp k with
  | (0, n) => .inl (dA 0, n, .inl fun j => Int32.ofInt (σ k j))
  | (1, n) => .inl (dA 1, n, .inr (.inl fun j => Int64.ofInt (σ k j)))
  | (2, n) => .inl (dA 2, n, .inl fun j => Int32.ofInt (σ k j))
  | (3, n) => .inl (dA 3, n, .inl fun j => Int32.ofInt (σ k j))
  | (4, n) => .inl (dA 4, n, .inr (.inr (.inr (.inr fun j => if ρ k j < 0 then none else some (ad (ρ k j).toNat)))))
  | (c + 5, _) => .inr (c, (fts c).mapIdx fun j t => rv ad (t, if t = 2 then ρ k j else σ k j))
def wl (dA : Nat → ClassId) (ad : Nat → Nat) (ρ σ : Mem) (n : Nat) : va_W := (List.range n).map fun k => (ad k, cel dA ad ρ σ k)
def TY (dA : Nat → ClassId) : List (ClassId × FieldType) := [(dA 0, .int), (dA 1, .long), (dA 2, .boolean), (dA 3, .array .int), (dA 4, .object "ClashDays$Week")]
def lgt (k j : Int) : Bool := match shp k.toNat with
  | (0, _) => false
  | (1, _) => true
  | (2, _) => false
  | (3, _) => false
  | (4, _) => false
  | (c + 5, _) => (fts c).getD j.toNat 0 == 1
def rok (σ : Mem) : Prop := ∀ k j : Int, if lgt k j = true then in64 (σ k j) else in32 (σ k j)
def rokr (n : Nat) (ρ : Mem) : Prop := ∀ k j : Int, -1 ≤ ρ k j ∧ ρ k j < n
def frs (n : Nat) (ρ σ : Mem) : Prop := ∀ k j : Int, n ≤ k → ρ k j = -1 ∧ σ k j = 0
def pok (n : Nat) (ρ σ : Mem) : Prop := rok σ ∧ rokr n ρ ∧ frs n ρ σ
def mup (σ : Mem) (k j v : Int) : Mem := fun a b => if a = k ∧ b = j then v else σ a b
def mcp (σ : Mem) (a i b j n : Int) : Mem := fun x y => if x = b ∧ j ≤ y ∧ y < j + n then σ a (i + (y - j)) else σ x y
def Sk (_ad : Nat → Nat) (_A : Nat → Prop) (U : State) (_H : Heap) : Prop := va_AO "ClashDays$Week" U ∧ ∀ q ∈ nwL, va_Nw (.methodLinkNest q.1 q.2.1 q.2.2.1 q.2.2.2) U
/-- a class's facts: its row of vwCl, its words, the types of its fields -/
def tgF : FieldType → Nat
  | .long => 1
  | .object _ => 2
  | .array _ => 2
  | _ => 0
def CF (ci : Nat) (C : String) (T : u_T) (N : Nat) (ty : Nat → FieldType) : Prop := vwCl[ci]? = some (C, T, N) ∧ (∀ w ∈ u_ws C T N, w ∈ WS) ∧ (∀ k, k < N → parseFieldDescriptor (T k).2.2.1 = some (ty k)) ∧ (∀ a, a < N → ∀ b, b < N → a ≠ b → (T a).2.1 ≠ (T b).2.1) ∧ (fts ci).length = N ∧ ∀ k, k < N → (fts ci)[k]? = some (tgF (ty k)) ∧ (ty k = .int ∨ ty k = .boolean ∨ ty k = .long ∨ (∃ c, ty k = .object c) ∨ ∃ c, ty k = .array c)
/-- the local variables: each with its value; 9: nothing known of it -/
def lz (ad : Nat → Nat) : Nat → List V → List (Nat × Value)
  | _, [] => []
  | i, v :: L => if v.1 = 9 then lz ad (i + 1) L else (i, rv ad v) :: lz ad (i + 1) L
def Cx (M : MD) (n0 n1 : Nat) (p : Program) (Rm : Room) (s : State) (m : MethodId) (args : Array Value) (meth : Method) (c : Code) : Prop :=
  p.tables.exec = Jvm.exec ∧ c.code = M.2.1 ∧ meth.sig.returnType = M.2.2.2.1 ∧ c.maxLocals = M.2.2.1 ∧ s.vm.findClass M.1 = some m.cls ∧ (∀ w ∈ WS, w.before args s = true) ∧ meth.locks = false ∧ M.2.2.2.2.1 ≤ Rm.frames ∧ M.2.2.2.2.2.1 ≤ Rm.locals ∧ n1 - n0 ≤ Rm.cells ∧ szL n1 - szL n0 ≤ Rm.slots ∧ (M.2.2.2.2.2.2.1 = true → meth.name = "<init>")
def Cw (M : MD) (D : va_G) (dA : Nat → ClassId) (n0 : Nat) (ad0 : Nat → Nat) (A : Nat → Prop) (s : State) : Prop := va_K D vwCl (TY dA) s ∧ Sk ad0 A s s.heap ∧ (∀ q, s.heap.size ≤ q → A q) ∧ (∀ k, k < n0 → A (ad0 k)) ∧ M.2.2.2.2.2.2.2 s A ad0
def Ch (D : va_G) (dA : Nat → ClassId) (n0 n1 n : Nat) (ad0 ad : Nat → Nat) (ρ σ : Mem) (A : Nat → Prop) (H0 H : Heap) (locs : List Loc) : Prop := va_P D vwCl (wl dA ad ρ σ n) H ∧ va_D A (wl dA ad ρ σ n) ∧ va_S A H0 H locs ∧ (∀ k, k < n0 → ad k = ad0 k) ∧ (∀ k, 100000 ≤ k → ad k = ad0 k) ∧ pok n ρ σ ∧ n0 ≤ n ∧ n ≤ n1 ∧ n1 ≤ 90000
def Af (n0 : Nat) (ad0 : Nat → Nat) (sz : Nat) : Nat → Prop := fun q => (∃ k, k < n0 ∧ q = ad0 k) ∨ sz ≤ q
def Qm (n0 n1 : Nat) (r : Option V × Mem × Mem) (D : va_G) (dA : Nat → ClassId) (ad0 : Nat → Nat) (A : Nat → Prop) : Array Value → State → Outcome → State → Prop := fun _ st oc t =>
  (∃ ad : Nat → Nat, (∀ k, k < n0 → ad k = ad0 k) ∧ (∀ k, 100000 ≤ k → ad k = ad0 k) ∧ oc = .returned (r.1.map (rv ad)) ∧ (∀ v, r.1 = some v → okv n1 v) ∧ va_P D vwCl (wl dA ad r.2.1 r.2.2 n1) t.heap ∧ va_D A (wl dA ad r.2.1 r.2.2 n1) ∧ pok n1 r.2.1 r.2.2 ∧ n0 ≤ n1 ∧ n1 ≤ 90000) ∧ va_F A st t
/-- FROM HERE IT COMES TO r: the method's code from pc on, with these locals, this stack, this memory, comes to its end, with the answer and memory r -/
def Ev (M : MD) (n0 n1 : Nat) (r : Option V × Mem × Mem) (pc n : Nat) (ρ σ : Mem) (L st : List V) : Prop :=
  ∀ (p : Program) (l : Launch) (e : Env) (Rm : Room) (s : State) (m : MethodId) (args : Array Value) (below : List Frame) (meth : Method) (c : Code) (A : Nat → Prop) (H : Heap) (locs : List Loc) (D : va_G) (dA : Nat → ClassId) (ad0 ad : Nat → Nat) (ls : Array Slot),
    Cx M n0 n1 p Rm s m args meth c → Cw M D dA n0 ad0 A s → Ch D dA n0 n1 n ad0 ad ρ σ A s.heap H locs → lv_has ls M.2.2.1 (lz ad 0 L) → (∀ v ∈ L, okv n v) → L.length = M.2.2.1 → (∀ v ∈ st, okv n v) →
    W p l e Rm s m args below meth c H locs (n - n0) (szL n - szL n0) (MQ below (Qm n0 n1 r D dA ad0 A) args s (n1 - n0) (szL n1 - szL n0) A) (F0 m pc ls (st.map (rv ad)))
theorem cons_ok {n : Nat} {v : V} {st : List V} (h : ∀ w ∈ v :: st, okv n w) : okv n v ∧ ∀ w ∈ st, okv n w := ⟨h v List.mem_cons_self, fun w hw => h w (List.mem_cons_of_mem _ hw)⟩
theorem ok_cons {n : Nat} {v : V} {st : List V} (h1 : okv n v) (h2 : ∀ w ∈ st, okv n w) : ∀ w ∈ v :: st, okv n w := by
  intro w hw
  rcases List.mem_cons.mp hw with h | h
  · rw [h]; exact h1
  · exact h2 w h
theorem ti32 (z : Int32) : in32 z.toInt := ⟨z.le_toInt, by have := z.toInt_lt; omega⟩
theorem ti64 (z : Int64) : in64 z.toInt := ⟨z.le_toInt, by have := z.toInt_lt; omega⟩
theorem oi32 {x : Int} (h : in32 x) : (Int32.ofInt x).toInt = x := Int32.toInt_ofInt_of_le h.1 (by have := h.2; omega)
theorem oi64 {x : Int} (h : in64 x) : (Int64.ofInt x).toInt = x := Int64.toInt_ofInt_of_le h.1 (by have := h.2; omega)
theorem lz_mem {ad : Nat → Nat} {v : V} (hv : v.1 ≠ 9) : ∀ (L : List V) (j i : Nat), L[i]? = some v → (j + i, rv ad v) ∈ lz ad j L := by
  intro L
  induction L with
  | nil => intro j i h; simp at h
  | cons a L ih =>
    intro j i h
    cases i with
    | zero =>
      simp at h; subst h
      simp [lz, hv]
    | succ i =>
      have h2 := ih (j + 1) i (by simpa using h)
      have e : j + 1 + i = j + (i + 1) := by omega
      rw [e] at h2
      unfold lz
      split
      · exact h2
      · exact List.mem_cons_of_mem _ h2
theorem lz_inv {ad : Nat → Nat} : ∀ (L : List V) (j : Nat) (q : Nat × Value), q ∈ lz ad j L → ∃ i v, q = (j + i, rv ad v) ∧ L[i]? = some v ∧ v.1 ≠ 9 := by
  intro L
  induction L with
  | nil => intro j q h; simp [lz] at h
  | cons a L ih =>
    intro j q h
    unfold lz at h
    split at h
    · obtain ⟨i, v, h1, h2, h3⟩ := ih (j + 1) q h
      exact ⟨i + 1, v, by rw [h1]; congr 1; omega, by simpa using h2, h3⟩
    · rename_i ha
      rcases List.mem_cons.mp h with h | h
      · exact ⟨0, a, by simpa using h, by simp, ha⟩
      · obtain ⟨i, v, h1, h2, h3⟩ := ih (j + 1) q h
        exact ⟨i + 1, v, by rw [h1]; congr 1; omega, by simpa using h2, h3⟩
theorem lok_at {ls : Array Slot} {nL : Nat} {ad : Nat → Nat} {L : List V} {i : Nat} {v : V} (h : lv_has ls nL (lz ad 0 L)) (hi : L[i]? = some v) (hv : v.1 ≠ 9) : ls[i]? = some (.val (rv ad v)) := by
  have h1 := lz_mem (ad := ad) hv L 0 i hi
  rw [Nat.zero_add] at h1
  exact h.2.2 _ h1
theorem lok_sub {ls : Array Slot} {nL : Nat} {l l' : List (Nat × Value)} (h : lv_has ls nL l) (hs : ∀ q ∈ l', q ∈ l) : lv_has ls nL l' := ⟨h.1, h.2.1, fun q hq => h.2.2 q (hs q hq)⟩
theorem rv_cat (ad : Nat → Nat) (v : V) : (rv ad v).category = if v.1 = 1 then 2 else 1 := by
  obtain ⟨t, x⟩ := v
  match t with
  | 0 => rfl
  | 1 => rfl
  | 2 => show (if x < 0 then Value.null else Value.ref _).category = 1; split <;> rfl
  | 3 => rfl
  | t + 4 => show (if ad 500000 = 0 then Value.null else Value.ref _).category = _; split <;> simp [Value.category]
/-- a store does not cut a long in two -/
def stk (L : List V) (i : Nat) : Bool := match i with
  | 0 => true
  | j + 1 => match L[j]? with
    | some (1, _) => false
    | _ => true
theorem lok_st1 {ad : Nat → Nat} {L : List V} {i : Nat} {v : V} {ls : Array Slot} {nL : Nat} (hc : v.1 ≠ 1) (hk : stk L i = true) (h : lv_has ls nL ((i, rv ad v) :: (lz ad 0 L).filter (fun q => !(q.1 == i) && !(q.1 + 1 == i && q.2.category == 2)))) : lv_has ls nL (lz ad 0 (L.set i v)) := by
  refine lok_sub h fun q hq => ?_
  obtain ⟨j, u, h1, h2, h3⟩ := lz_inv _ _ _ hq
  rw [Nat.zero_add] at h1
  rw [List.getElem?_set] at h2
  by_cases hij : i = j
  · rw [if_pos hij] at h2
    split at h2
    · cases h2
      rw [h1, hij]
      exact List.mem_cons_self
    · cases h2
  · rw [if_neg hij] at h2
    refine List.mem_cons_of_mem _ (List.mem_filter.mpr ⟨?_, ?_⟩)
    · have := lz_mem (ad := ad) h3 L 0 j h2
      rw [Nat.zero_add] at this
      rw [h1]; exact this
    · rw [h1]
      have e1 : (j == i) = false := by simpa using (Ne.symm hij)
      simp only [e1, Bool.not_false, Bool.true_and]
      by_cases h4 : j + 1 = i
      · subst h4
        have : u.1 ≠ 1 := by
          intro hu
          obtain ⟨t, x⟩ := u
          simp only at hu
          subst hu
          simp [stk, h2] at hk
        simp [rv_cat, this]
      · simp [h4]
theorem lok_st2 {ad : Nat → Nat} {L : List V} {i : Nat} {v : V} {ls : Array Slot} {nL : Nat} (hk : stk L i = true) (h : lv_has ls nL ((i, rv ad v) :: (lz ad 0 L).filter (fun q => !(q.1 == i) && (!(q.1 == i + 1) && !(q.1 + 1 == i && q.2.category == 2))))) : lv_has ls nL (lz ad 0 ((L.set i v).set (i + 1) (9, 0))) := by
  refine lok_sub h fun q hq => ?_
  obtain ⟨j, u, h1, h2, h3⟩ := lz_inv _ _ _ hq
  rw [Nat.zero_add] at h1
  rw [List.getElem?_set] at h2
  by_cases hj1 : i + 1 = j
  · rw [if_pos hj1] at h2
    split at h2
    · cases h2; exact absurd rfl h3
    · cases h2
  rw [if_neg hj1, List.getElem?_set] at h2
  by_cases hij : i = j
  · rw [if_pos hij] at h2
    split at h2
    · cases h2
      rw [h1, hij]
      exact List.mem_cons_self
    · cases h2
  · rw [if_neg hij] at h2
    refine List.mem_cons_of_mem _ (List.mem_filter.mpr ⟨?_, ?_⟩)
    · have := lz_mem (ad := ad) h3 L 0 j h2
      rw [Nat.zero_add] at this
      rw [h1]; exact this
    · rw [h1]
      have e1 : (j == i) = false := by simpa using (Ne.symm hij)
      have e2 : (j == i + 1) = false := by simpa using (Ne.symm hj1)
      simp only [e1, e2, Bool.not_false, Bool.true_and]
      by_cases h4 : j + 1 = i
      · subst h4
        have : u.1 ≠ 1 := by
          intro hu
          obtain ⟨t, x⟩ := u
          simp only at hu
          subst hu
          simp [stk, h2] at hk
        simp [rv_cat, this]
      · simp [h4]
theorem set_ok {n : Nat} {L : List V} {i : Nat} {v : V} (h : ∀ w ∈ L, okv n w) (hv : okv n v) : ∀ w ∈ L.set i v, okv n w := by
  intro w hw
  rcases List.mem_or_eq_of_mem_set hw with h1 | h1
  · exact h w h1
  · rw [h1]; exact hv
theorem rv_ref {ad : Nat → Nat} {k : Int} (h : 0 ≤ k) : rv ad (2, k) = .ref (ad k.toNat) := by
  show (if k < 0 then Value.null else _) = _
  rw [if_neg (by omega)]
theorem wl_get {dA : Nat → ClassId} {ad : Nat → Nat} {ρ σ : Mem} {n k : Nat} (h : k < n) : (wl dA ad ρ σ n)[k]? = some (ad k, cel dA ad ρ σ k) := by
  simp [wl, h]
theorem wl_set {dA : Nat → ClassId} {ad : Nat → Nat} {ρ σ ρ' σ' : Mem} {n k : Nat} (h : ∀ i, i < n → i ≠ k → cel dA ad ρ' σ' i = cel dA ad ρ σ i) : (wl dA ad ρ σ n).set k (ad k, cel dA ad ρ' σ' k) = wl dA ad ρ' σ' n := by
  apply List.ext_getElem?
  intro i
  rw [List.getElem?_set]
  by_cases hk : k = i
  · subst hk
    rw [if_pos rfl]
    by_cases hn : k < n
    · rw [wl_get hn, if_pos (by simp [wl, hn])]
    · rw [if_neg (by simp [wl]; omega)]
      simp [wl, hn]
  · rw [if_neg hk]
    by_cases hn : i < n
    · rw [wl_get hn, wl_get hn, h i hn (Ne.symm hk)]
    · simp [wl, hn]
theorem cel_mup {dA : Nat → ClassId} {ad : Nat → Nat} {ρ σ : Mem} {k j v : Int} {i : Nat} (h : (i : Int) ≠ k) : cel dA ad ρ (mup σ k j v) i = cel dA ad ρ σ i := by
  have e : ∀ j' : Int, mup σ k j v i j' = σ i j' := fun j' => by simp [mup, h]
  unfold cel
  simp only [e]
theorem cel_mupr {dA : Nat → ClassId} {ad : Nat → Nat} {ρ σ : Mem} {k j v : Int} {i : Nat} (h : (i : Int) ≠ k) : cel dA ad (mup ρ k j v) σ i = cel dA ad ρ σ i := by
  have e : ∀ j' : Int, mup ρ k j v i j' = ρ i j' := fun j' => by simp [mup, h]
  unfold cel
  simp only [e]
theorem cel_mcp {dA : Nat → ClassId} {ad : Nat → Nat} {ρ σ : Mem} {a i b j n : Int} {x : Nat} (h : (x : Int) ≠ b) : cel dA ad ρ (mcp σ a i b j n) x = cel dA ad ρ σ x := by
  have e : ∀ j' : Int, mcp σ a i b j n x j' = σ x j' := fun j' => by simp [mcp, h]
  unfold cel
  simp only [e]
theorem rok_mup {σ : Mem} {k j v : Int} (h : rok σ) (hv : if lgt k j = true then in64 v else in32 v) : rok (mup σ k j v) := by
  intro a b
  unfold mup
  by_cases hc : a = k ∧ b = j
  · rw [if_pos hc, hc.1, hc.2]; exact hv
  · rw [if_neg hc]; exact h a b
theorem in32_vp {i : Int} {n : Nat} (h : in32 i) (h0 : 0 ≤ i) (h1 : i < n) : vp_in (Int32.ofInt i) n ∧ (Int32.ofInt i).toNatClampNeg = i.toNat := by
  have e : (Int32.ofInt i).toInt = i := oi32 h
  refine ⟨vp_in_iff.mpr (by rw [e]; exact ⟨h0, h1⟩), ?_⟩
  show (Int32.ofInt i).toInt.toNat = i.toNat
  rw [e]

theorem ev_iconst {M : MD} {n0 n1 : Nat} {r : Option V × Mem × Mem} {pc n : Nat} {ρ σ : Mem} {L st : List V} {k : Int} (hd : decode M.2.1 pc = .ok (.iconst k, 1)) (hv : in32 k) (hh : Ev M n0 n1 r (pc + 1) n ρ σ (L) ((0, k) :: st)) : Ev M n0 n1 r (pc) n ρ σ (L) (st) := by
  intro p l e Rm s m args below meth c A H locs D dA ad0 ad ls C K h hl hL hn hs
  have hx := C.1
  have hb := C.2.1
  exact lv_iconst hx hb hd rfl (hh p l e Rm s m args below meth c A H locs D dA ad0 ad ls C K h hl hL hn (ok_cons hv hs))
theorem ev_bipush {M : MD} {n0 n1 : Nat} {r : Option V × Mem × Mem} {pc n : Nat} {ρ σ : Mem} {L st : List V} {k : Int} (hd : decode M.2.1 pc = .ok (.bipush k, 2)) (hv : in32 k) (hw : (Int8.ofInt k).toInt32 = Int32.ofInt k) (hh : Ev M n0 n1 r (pc + 2) n ρ σ (L) ((0, k) :: st)) : Ev M n0 n1 r (pc) n ρ σ (L) (st) := by
  intro p l e Rm s m args below meth c A H locs D dA ad0 ad ls C K h hl hL hn hs
  have hx := C.1
  have hb := C.2.1
  exact lv_bipush hx hb hd hw (hh p l e Rm s m args below meth c A H locs D dA ad0 ad ls C K h hl hL hn (ok_cons hv hs))
theorem ev_sipush {M : MD} {n0 n1 : Nat} {r : Option V × Mem × Mem} {pc n : Nat} {ρ σ : Mem} {L st : List V} {k : Int} (hd : decode M.2.1 pc = .ok (.sipush k, 3)) (hv : in32 k) (hw : (Int16.ofInt k).toInt32 = Int32.ofInt k) (hh : Ev M n0 n1 r (pc + 3) n ρ σ (L) ((0, k) :: st)) : Ev M n0 n1 r (pc) n ρ σ (L) (st) := by
  intro p l e Rm s m args below meth c A H locs D dA ad0 ad ls C K h hl hL hn hs
  have hx := C.1
  have hb := C.2.1
  exact lv_sipush hx hb hd hw (hh p l e Rm s m args below meth c A H locs D dA ad0 ad ls C K h hl hL hn (ok_cons hv hs))
theorem ev_lconst {M : MD} {n0 n1 : Nat} {r : Option V × Mem × Mem} {pc n : Nat} {ρ σ : Mem} {L st : List V} {k : Fin 2} {x : Int} (hd : decode M.2.1 pc = .ok (.lconst k, 1)) (hv : in64 x) (hw : Int64.ofNat (k : Nat) = Int64.ofInt x) (hh : Ev M n0 n1 r (pc + 1) n ρ σ (L) ((1, x) :: st)) : Ev M n0 n1 r (pc) n ρ σ (L) (st) := by
  intro p l e Rm s m args below meth c A H locs D dA ad0 ad ls C K h hl hL hn hs
  have hx := C.1
  have hb := C.2.1
  exact lv_lconst hx hb hd hw (hh p l e Rm s m args below meth c A H locs D dA ad0 ad ls C K h hl hL hn (ok_cons hv hs))
theorem ev_ldc {M : MD} {n0 n1 : Nat} {r : Option V × Mem × Mem} {pc n : Nat} {ρ σ : Mem} {L st : List V} {k : Nat} {z : Int32} {x : Int} (hd : decode M.2.1 pc = .ok (.ldc k, 2)) (hw : Cond.constant M.1 k z ∈ WS) (hz : z = Int32.ofInt x) (hv : in32 x) (hh : Ev M n0 n1 r (pc + 2) n ρ σ (L) ((0, x) :: st)) : Ev M n0 n1 r (pc) n ρ σ (L) (st) := by
  intro p l e Rm s m args below meth c A H locs D dA ad0 ad ls C K h hl hL hn hs
  have hx := C.1
  have hb := C.2.1
  subst hz
  exact lv_ldc hx hb C.2.2.2.2.1 (C.2.2.2.2.2.1 _ hw) hd (hh p l e Rm s m args below meth c A H locs D dA ad0 ad ls C K h hl hL hn (ok_cons hv hs))
theorem ev_ldcw {M : MD} {n0 n1 : Nat} {r : Option V × Mem × Mem} {pc n : Nat} {ρ σ : Mem} {L st : List V} {k : Nat} {z : Int32} {x : Int} (hd : decode M.2.1 pc = .ok (.ldc_w k, 3)) (hw : Cond.constant M.1 k z ∈ WS) (hz : z = Int32.ofInt x) (hv : in32 x) (hh : Ev M n0 n1 r (pc + 3) n ρ σ (L) ((0, x) :: st)) : Ev M n0 n1 r (pc) n ρ σ (L) (st) := by
  intro p l e Rm s m args below meth c A H locs D dA ad0 ad ls C K h hl hL hn hs
  have hx := C.1
  have hb := C.2.1
  subst hz
  exact lv_ldcw hx hb C.2.2.2.2.1 (C.2.2.2.2.2.1 _ hw) hd (hh p l e Rm s m args below meth c A H locs D dA ad0 ad ls C K h hl hL hn (ok_cons hv hs))
theorem ev_ldc2 {M : MD} {n0 n1 : Nat} {r : Option V × Mem × Mem} {pc n : Nat} {ρ σ : Mem} {L st : List V} {k : Nat} {z : Int64} {x : Int} (hd : decode M.2.1 pc = .ok (.ldc2_w k, 3)) (hw : Cond.constantLong M.1 k z ∈ WS) (hz : z = Int64.ofInt x) (hv : in64 x) (hh : Ev M n0 n1 r (pc + 3) n ρ σ (L) ((1, x) :: st)) : Ev M n0 n1 r (pc) n ρ σ (L) (st) := by
  intro p l e Rm s m args below meth c A H locs D dA ad0 ad ls C K h hl hL hn hs
  have hx := C.1
  have hb := C.2.1
  subst hz
  exact lv_ldc2 hx hb C.2.2.2.2.1 (C.2.2.2.2.2.1 _ hw) hd (hh p l e Rm s m args below meth c A H locs D dA ad0 ad ls C K h hl hL hn (ok_cons hv hs))
theorem ev_iload_n {M : MD} {n0 n1 : Nat} {r : Option V × Mem × Mem} {pc n : Nat} {ρ σ : Mem} {L st : List V} {k : Fin 4} {x : Int} (hd : decode M.2.1 pc = .ok (.iload_n k, 1)) (hi : L[(k : Nat)]? = some (0, x)) (hh : Ev M n0 n1 r (pc + 1) n ρ σ (L) ((0, x) :: st)) : Ev M n0 n1 r (pc) n ρ σ (L) (st) := by
  intro p l e Rm s m args below meth c A H locs D dA ad0 ad ls C K h hl hL hn hs
  have hx := C.1
  have hb := C.2.1
  exact lv_iload_n hx hb hd rfl (lok_at hl hi (fun q => by cases q)) (hh p l e Rm s m args below meth c A H locs D dA ad0 ad ls C K h hl hL hn (ok_cons (hL _ (List.mem_of_getElem? hi)) hs))
theorem ev_iload {M : MD} {n0 n1 : Nat} {r : Option V × Mem × Mem} {pc n : Nat} {ρ σ : Mem} {L st : List V} {k : Nat} {x : Int} (hd : decode M.2.1 pc = .ok (.iload k, 2)) (hi : L[k]? = some (0, x)) (hh : Ev M n0 n1 r (pc + 2) n ρ σ (L) ((0, x) :: st)) : Ev M n0 n1 r (pc) n ρ σ (L) (st) := by
  intro p l e Rm s m args below meth c A H locs D dA ad0 ad ls C K h hl hL hn hs
  have hx := C.1
  have hb := C.2.1
  exact lv_iload hx hb hd (lok_at hl hi (fun q => by cases q)) (hh p l e Rm s m args below meth c A H locs D dA ad0 ad ls C K h hl hL hn (ok_cons (hL _ (List.mem_of_getElem? hi)) hs))
theorem ev_lload_n {M : MD} {n0 n1 : Nat} {r : Option V × Mem × Mem} {pc n : Nat} {ρ σ : Mem} {L st : List V} {k : Fin 4} {x : Int} (hd : decode M.2.1 pc = .ok (.lload_n k, 1)) (hi : L[(k : Nat)]? = some (1, x)) (hh : Ev M n0 n1 r (pc + 1) n ρ σ (L) ((1, x) :: st)) : Ev M n0 n1 r (pc) n ρ σ (L) (st) := by
  intro p l e Rm s m args below meth c A H locs D dA ad0 ad ls C K h hl hL hn hs
  have hx := C.1
  have hb := C.2.1
  exact lv_lload_n hx hb hd rfl (lok_at hl hi (fun q => by cases q)) (hh p l e Rm s m args below meth c A H locs D dA ad0 ad ls C K h hl hL hn (ok_cons (hL _ (List.mem_of_getElem? hi)) hs))
theorem ev_lload {M : MD} {n0 n1 : Nat} {r : Option V × Mem × Mem} {pc n : Nat} {ρ σ : Mem} {L st : List V} {k : Nat} {x : Int} (hd : decode M.2.1 pc = .ok (.lload k, 2)) (hi : L[k]? = some (1, x)) (hh : Ev M n0 n1 r (pc + 2) n ρ σ (L) ((1, x) :: st)) : Ev M n0 n1 r (pc) n ρ σ (L) (st) := by
  intro p l e Rm s m args below meth c A H locs D dA ad0 ad ls C K h hl hL hn hs
  have hx := C.1
  have hb := C.2.1
  exact lv_lload hx hb hd (lok_at hl hi (fun q => by cases q)) (hh p l e Rm s m args below meth c A H locs D dA ad0 ad ls C K h hl hL hn (ok_cons (hL _ (List.mem_of_getElem? hi)) hs))
theorem ev_aload_n {M : MD} {n0 n1 : Nat} {r : Option V × Mem × Mem} {pc n : Nat} {ρ σ : Mem} {L st : List V} {k : Fin 4} {x : Int} (hd : decode M.2.1 pc = .ok (.aload_n k, 1)) (hi : L[(k : Nat)]? = some (2, x)) (h0 : 0 ≤ x) (hh : Ev M n0 n1 r (pc + 1) n ρ σ (L) ((2, x) :: st)) : Ev M n0 n1 r (pc) n ρ σ (L) (st) := by
  intro p l e Rm s m args below meth c A H locs D dA ad0 ad ls C K h hl hL hn hs
  have hx := C.1
  have hb := C.2.1
  have h2 := hh p l e Rm s m args below meth c A H locs D dA ad0 ad ls C K h hl hL hn (ok_cons (hL _ (List.mem_of_getElem? hi)) hs)
  rw [List.map_cons, rv_ref h0] at h2
  exact lv_aload_n hx hb hd rfl (by rw [← rv_ref h0]; exact lok_at hl hi (fun q => by cases q)) h2
theorem ev_aload {M : MD} {n0 n1 : Nat} {r : Option V × Mem × Mem} {pc n : Nat} {ρ σ : Mem} {L st : List V} {k : Nat} {x : Int} (hd : decode M.2.1 pc = .ok (.aload k, 2)) (hi : L[k]? = some (2, x)) (h0 : 0 ≤ x) (hh : Ev M n0 n1 r (pc + 2) n ρ σ (L) ((2, x) :: st)) : Ev M n0 n1 r (pc) n ρ σ (L) (st) := by
  intro p l e Rm s m args below meth c A H locs D dA ad0 ad ls C K h hl hL hn hs
  have hx := C.1
  have hb := C.2.1
  have h2 := hh p l e Rm s m args below meth c A H locs D dA ad0 ad ls C K h hl hL hn (ok_cons (hL _ (List.mem_of_getElem? hi)) hs)
  rw [List.map_cons, rv_ref h0] at h2
  exact lv_aload hx hb hd (by rw [← rv_ref h0]; exact lok_at hl hi (fun q => by cases q)) h2
theorem ev_aloadS {M : MD} {n0 n1 : Nat} {r : Option V × Mem × Mem} {pc n : Nat} {ρ σ : Mem} {L st : List V} {k : Fin 4} {x : Int} (hd : decode M.2.1 pc = .ok (.aload_n k, 1)) (hi : L[(k : Nat)]? = some (3, x)) (hh : Ev M n0 n1 r (pc + 1) n ρ σ (L) ((3, x) :: st)) : Ev M n0 n1 r (pc) n ρ σ (L) (st) := by
  intro p l e Rm s m args below meth c A H locs D dA ad0 ad ls C K h hl hL hn hs
  have hx := C.1
  have hb := C.2.1
  exact lv_aload_n hx hb hd rfl (lok_at hl hi (fun q => by cases q)) (hh p l e Rm s m args below meth c A H locs D dA ad0 ad ls C K h hl hL hn (ok_cons (hL _ (List.mem_of_getElem? hi)) hs))
theorem ev_istore_n {M : MD} {n0 n1 : Nat} {r : Option V × Mem × Mem} {pc n : Nat} {ρ σ : Mem} {L st : List V} {k : Fin 4} {x : Int} (hd : decode M.2.1 pc = .ok (.istore_n k, 1)) (hk : stk L (k : Nat) = true) (hb' : (k : Nat) < M.2.2.1) (hh : Ev M n0 n1 r (pc + 1) n ρ σ (L.set (k : Nat) (0, x)) (st)) : Ev M n0 n1 r (pc) n ρ σ (L) ((0, x) :: st) := by
  intro p l e Rm s m args below meth c A H locs D dA ad0 ad ls C K h hl hL hn hs
  have hx := C.1
  have hb := C.2.1
  exact lv_istore_n hx hb hd rfl hl hb' rfl (fun ls' hl' => hh p l e Rm s m args below meth c A H locs D dA ad0 ad ls' C K h (lok_st1 (v := (0, x)) (show (0 : Nat) ≠ 1 by decide) hk hl') (set_ok hL (cons_ok hs).1) (by simpa using hn) (cons_ok hs).2)
theorem ev_istore {M : MD} {n0 n1 : Nat} {r : Option V × Mem × Mem} {pc n : Nat} {ρ σ : Mem} {L st : List V} {k : Nat} {x : Int} (hd : decode M.2.1 pc = .ok (.istore k, 2)) (hk : stk L k = true) (hb' : k < M.2.2.1) (hh : Ev M n0 n1 r (pc + 2) n ρ σ (L.set k (0, x)) (st)) : Ev M n0 n1 r (pc) n ρ σ (L) ((0, x) :: st) := by
  intro p l e Rm s m args below meth c A H locs D dA ad0 ad ls C K h hl hL hn hs
  have hx := C.1
  have hb := C.2.1
  exact lv_istore hx hb hd hl hb' rfl (fun ls' hl' => hh p l e Rm s m args below meth c A H locs D dA ad0 ad ls' C K h (lok_st1 (v := (0, x)) (show (0 : Nat) ≠ 1 by decide) hk hl') (set_ok hL (cons_ok hs).1) (by simpa using hn) (cons_ok hs).2)
theorem ev_lstore_n {M : MD} {n0 n1 : Nat} {r : Option V × Mem × Mem} {pc n : Nat} {ρ σ : Mem} {L st : List V} {k : Fin 4} {x : Int} (hd : decode M.2.1 pc = .ok (.lstore_n k, 1)) (hk : stk L (k : Nat) = true) (hb' : (k : Nat) + 1 < M.2.2.1) (hh : Ev M n0 n1 r (pc + 1) n ρ σ ((L.set (k : Nat) (1, x)).set ((k : Nat) + 1) (9, 0)) (st)) : Ev M n0 n1 r (pc) n ρ σ (L) ((1, x) :: st) := by
  intro p l e Rm s m args below meth c A H locs D dA ad0 ad ls C K h hl hL hn hs
  have hx := C.1
  have hb := C.2.1
  exact lv_lstore_n hx hb hd rfl hl hb' rfl (fun ls' hl' => hh p l e Rm s m args below meth c A H locs D dA ad0 ad ls' C K h (lok_st2 hk hl') (set_ok (set_ok hL (cons_ok hs).1) trivial) (by simpa using hn) (cons_ok hs).2)
theorem ev_lstore {M : MD} {n0 n1 : Nat} {r : Option V × Mem × Mem} {pc n : Nat} {ρ σ : Mem} {L st : List V} {k : Nat} {x : Int} (hd : decode M.2.1 pc = .ok (.lstore k, 2)) (hk : stk L k = true) (hb' : k + 1 < M.2.2.1) (hh : Ev M n0 n1 r (pc + 2) n ρ σ ((L.set k (1, x)).set (k + 1) (9, 0)) (st)) : Ev M n0 n1 r (pc) n ρ σ (L) ((1, x) :: st) := by
  intro p l e Rm s m args below meth c A H locs D dA ad0 ad ls C K h hl hL hn hs
  have hx := C.1
  have hb := C.2.1
  exact lv_lstore hx hb hd hl hb' rfl (fun ls' hl' => hh p l e Rm s m args below meth c A H locs D dA ad0 ad ls' C K h (lok_st2 hk hl') (set_ok (set_ok hL (cons_ok hs).1) trivial) (by simpa using hn) (cons_ok hs).2)
theorem ev_astore_n {M : MD} {n0 n1 : Nat} {r : Option V × Mem × Mem} {pc n : Nat} {ρ σ : Mem} {L st : List V} {k : Fin 4} {x : Int} (hd : decode M.2.1 pc = .ok (.astore_n k, 1)) (hk : stk L (k : Nat) = true) (hb' : (k : Nat) < M.2.2.1) (h0 : 0 ≤ x) (hh : Ev M n0 n1 r (pc + 1) n ρ σ (L.set (k : Nat) (2, x)) (st)) : Ev M n0 n1 r (pc) n ρ σ (L) ((2, x) :: st) := by
  intro p l e Rm s m args below meth c A H locs D dA ad0 ad ls C K h hl hL hn hs
  have hx := C.1
  have hb := C.2.1
  rw [List.map_cons, rv_ref h0]
  exact lv_astore_n hx hb hd rfl hl hb' rfl (fun ls' hl' => hh p l e Rm s m args below meth c A H locs D dA ad0 ad ls' C K h (lok_st1 (v := (2, x)) (show (2 : Nat) ≠ 1 by decide) hk (by rw [rv_ref h0]; exact hl')) (set_ok hL (cons_ok hs).1) (by simpa using hn) (cons_ok hs).2)
theorem ev_astore {M : MD} {n0 n1 : Nat} {r : Option V × Mem × Mem} {pc n : Nat} {ρ σ : Mem} {L st : List V} {k : Nat} {x : Int} (hd : decode M.2.1 pc = .ok (.astore k, 2)) (hk : stk L k = true) (hb' : k < M.2.2.1) (h0 : 0 ≤ x) (hh : Ev M n0 n1 r (pc + 2) n ρ σ (L.set k (2, x)) (st)) : Ev M n0 n1 r (pc) n ρ σ (L) ((2, x) :: st) := by
  intro p l e Rm s m args below meth c A H locs D dA ad0 ad ls C K h hl hL hn hs
  have hx := C.1
  have hb := C.2.1
  rw [List.map_cons, rv_ref h0]
  exact lv_astore hx hb hd hl hb' rfl (fun ls' hl' => hh p l e Rm s m args below meth c A H locs D dA ad0 ad ls' C K h (lok_st1 (v := (2, x)) (show (2 : Nat) ≠ 1 by decide) hk (by rw [rv_ref h0]; exact hl')) (set_ok hL (cons_ok hs).1) (by simpa using hn) (cons_ok hs).2)
theorem ev_forget {M : MD} {n0 n1 : Nat} {r : Option V × Mem × Mem} {pc n : Nat} {ρ σ : Mem} {L st : List V} (k : Nat) (hh : Ev M n0 n1 r (pc) n ρ σ (L.set k (9, 0)) (st)) : Ev M n0 n1 r (pc) n ρ σ (L) (st) := by
  intro p l e Rm s m args below meth c A H locs D dA ad0 ad ls C K h hl hL hn hs
  have hx := C.1
  have hb := C.2.1
  refine hh p l e Rm s m args below meth c A H locs D dA ad0 ad ls C K h (lok_sub hl fun q hq => ?_) (set_ok hL trivial) (by simpa using hn) hs
  obtain ⟨i, v, h1, h2, h3⟩ := lz_inv _ _ _ hq
  rw [Nat.zero_add] at h1
  rw [List.getElem?_set] at h2
  by_cases hk : k = i
  · rw [if_pos hk] at h2
    split at h2
    · cases h2; exact absurd rfl h3
    · cases h2
  · rw [if_neg hk] at h2
    have := lz_mem (ad := ad) h3 L 0 i h2
    rw [Nat.zero_add] at this
    rw [h1]; exact this
def jadd (a b : Int) : Int := (Int32.ofInt a + Int32.ofInt b).toInt
theorem ev_iinc {M : MD} {n0 n1 : Nat} {r : Option V × Mem × Mem} {pc n : Nat} {ρ σ : Mem} {L st : List V} {k : Nat} {z x : Int} (hd : decode M.2.1 pc = .ok (.iinc k z, 3)) (hi : L[k]? = some (0, x)) (hk : stk L k = true) (hh : Ev M n0 n1 r (pc + 3) n ρ σ (L.set k (0, jadd x z)) (st)) : Ev M n0 n1 r (pc) n ρ σ (L) (st) := by
  intro p l e Rm s m args below meth c A H locs D dA ad0 ad ls C K h hl hL hn hs
  have hx := C.1
  have hb := C.2.1
  obtain ⟨j, hj⟩ := List.getElem?_of_mem (show (k, rv ad (0, x)) ∈ lz ad 0 L by have := lz_mem (ad := ad) (v := (0, x)) (fun q => by cases q) L 0 k hi; rwa [Nat.zero_add] at this)
  exact lv_iinc hx hb hd hl (v := Int32.ofInt (jadd x z)) hj (by rw [jadd, Int32.ofInt_toInt]) (by rw [← hn]; exact (List.getElem?_eq_some_iff.mp hi).1) rfl (fun ls' hl' => hh p l e Rm s m args below meth c A H locs D dA ad0 ad ls' C K h (lok_st1 (v := (0, jadd x z)) (show (0 : Nat) ≠ 1 by decide) hk hl') (set_ok hL (ti32 _)) (by simpa using hn) hs)
def jsub (a b : Int) : Int := (Int32.ofInt a - Int32.ofInt b).toInt
def jmul (a b : Int) : Int := (Int32.ofInt a * Int32.ofInt b).toInt
def jand (a b : Int) : Int := (Int32.ofInt a &&& Int32.ofInt b).toInt
def jor (a b : Int) : Int := (Int32.ofInt a ||| Int32.ofInt b).toInt
def jxor (a b : Int) : Int := (Int32.ofInt a ^^^ Int32.ofInt b).toInt
def jshl (a b : Int) : Int := (Int32.ofInt a <<< (Int32.ofInt b &&& 31)).toInt
def jshr (a b : Int) : Int := (Int32.ofInt a >>> (Int32.ofInt b &&& 31)).toInt
def jushr (a b : Int) : Int := ((Int32.ofInt a).toUInt32 >>> ((Int32.ofInt b).toUInt32 &&& Int32.toUInt32 31)).toInt32.toInt
theorem ev_iadd {M : MD} {n0 n1 : Nat} {r : Option V × Mem × Mem} {pc n : Nat} {ρ σ : Mem} {L st : List V} {x y : Int} (hd : decode M.2.1 pc = .ok (.iadd, 1)) (hh : Ev M n0 n1 r (pc + 1) n ρ σ (L) ((0, jadd x y) :: st)) : Ev M n0 n1 r (pc) n ρ σ (L) ((0, y) :: (0, x) :: st) := by
  intro p l e Rm s m args below meth c A H locs D dA ad0 ad ls C K h hl hL hn hs
  have hx := C.1
  have hb := C.2.1
  have h2 := hh p l e Rm s m args below meth c A H locs D dA ad0 ad ls C K h hl hL hn (ok_cons (ti32 _) (cons_ok (cons_ok hs).2).2)
  rw [List.map_cons, show rv ad (0, jadd x y) = .int (Int32.ofInt (jadd x y)) from rfl, jadd, Int32.ofInt_toInt] at h2
  exact lv_iadd hx hb hd h2
theorem ev_isub {M : MD} {n0 n1 : Nat} {r : Option V × Mem × Mem} {pc n : Nat} {ρ σ : Mem} {L st : List V} {x y : Int} (hd : decode M.2.1 pc = .ok (.isub, 1)) (hh : Ev M n0 n1 r (pc + 1) n ρ σ (L) ((0, jsub x y) :: st)) : Ev M n0 n1 r (pc) n ρ σ (L) ((0, y) :: (0, x) :: st) := by
  intro p l e Rm s m args below meth c A H locs D dA ad0 ad ls C K h hl hL hn hs
  have hx := C.1
  have hb := C.2.1
  have h2 := hh p l e Rm s m args below meth c A H locs D dA ad0 ad ls C K h hl hL hn (ok_cons (ti32 _) (cons_ok (cons_ok hs).2).2)
  rw [List.map_cons, show rv ad (0, jsub x y) = .int (Int32.ofInt (jsub x y)) from rfl, jsub, Int32.ofInt_toInt] at h2
  exact lv_isub hx hb hd h2
theorem ev_imul {M : MD} {n0 n1 : Nat} {r : Option V × Mem × Mem} {pc n : Nat} {ρ σ : Mem} {L st : List V} {x y : Int} (hd : decode M.2.1 pc = .ok (.imul, 1)) (hh : Ev M n0 n1 r (pc + 1) n ρ σ (L) ((0, jmul x y) :: st)) : Ev M n0 n1 r (pc) n ρ σ (L) ((0, y) :: (0, x) :: st) := by
  intro p l e Rm s m args below meth c A H locs D dA ad0 ad ls C K h hl hL hn hs
  have hx := C.1
  have hb := C.2.1
  have h2 := hh p l e Rm s m args below meth c A H locs D dA ad0 ad ls C K h hl hL hn (ok_cons (ti32 _) (cons_ok (cons_ok hs).2).2)
  rw [List.map_cons, show rv ad (0, jmul x y) = .int (Int32.ofInt (jmul x y)) from rfl, jmul, Int32.ofInt_toInt] at h2
  exact lv_imul hx hb hd h2
theorem ev_iand {M : MD} {n0 n1 : Nat} {r : Option V × Mem × Mem} {pc n : Nat} {ρ σ : Mem} {L st : List V} {x y : Int} (hd : decode M.2.1 pc = .ok (.iand, 1)) (hh : Ev M n0 n1 r (pc + 1) n ρ σ (L) ((0, jand x y) :: st)) : Ev M n0 n1 r (pc) n ρ σ (L) ((0, y) :: (0, x) :: st) := by
  intro p l e Rm s m args below meth c A H locs D dA ad0 ad ls C K h hl hL hn hs
  have hx := C.1
  have hb := C.2.1
  have h2 := hh p l e Rm s m args below meth c A H locs D dA ad0 ad ls C K h hl hL hn (ok_cons (ti32 _) (cons_ok (cons_ok hs).2).2)
  rw [List.map_cons, show rv ad (0, jand x y) = .int (Int32.ofInt (jand x y)) from rfl, jand, Int32.ofInt_toInt] at h2
  exact lv_iand hx hb hd h2
theorem ev_ior {M : MD} {n0 n1 : Nat} {r : Option V × Mem × Mem} {pc n : Nat} {ρ σ : Mem} {L st : List V} {x y : Int} (hd : decode M.2.1 pc = .ok (.ior, 1)) (hh : Ev M n0 n1 r (pc + 1) n ρ σ (L) ((0, jor x y) :: st)) : Ev M n0 n1 r (pc) n ρ σ (L) ((0, y) :: (0, x) :: st) := by
  intro p l e Rm s m args below meth c A H locs D dA ad0 ad ls C K h hl hL hn hs
  have hx := C.1
  have hb := C.2.1
  have h2 := hh p l e Rm s m args below meth c A H locs D dA ad0 ad ls C K h hl hL hn (ok_cons (ti32 _) (cons_ok (cons_ok hs).2).2)
  rw [List.map_cons, show rv ad (0, jor x y) = .int (Int32.ofInt (jor x y)) from rfl, jor, Int32.ofInt_toInt] at h2
  exact lv_ior hx hb hd h2
theorem ev_ixor {M : MD} {n0 n1 : Nat} {r : Option V × Mem × Mem} {pc n : Nat} {ρ σ : Mem} {L st : List V} {x y : Int} (hd : decode M.2.1 pc = .ok (.ixor, 1)) (hh : Ev M n0 n1 r (pc + 1) n ρ σ (L) ((0, jxor x y) :: st)) : Ev M n0 n1 r (pc) n ρ σ (L) ((0, y) :: (0, x) :: st) := by
  intro p l e Rm s m args below meth c A H locs D dA ad0 ad ls C K h hl hL hn hs
  have hx := C.1
  have hb := C.2.1
  have h2 := hh p l e Rm s m args below meth c A H locs D dA ad0 ad ls C K h hl hL hn (ok_cons (ti32 _) (cons_ok (cons_ok hs).2).2)
  rw [List.map_cons, show rv ad (0, jxor x y) = .int (Int32.ofInt (jxor x y)) from rfl, jxor, Int32.ofInt_toInt] at h2
  exact lv_ixor hx hb hd h2
theorem ev_ishl {M : MD} {n0 n1 : Nat} {r : Option V × Mem × Mem} {pc n : Nat} {ρ σ : Mem} {L st : List V} {x y : Int} (hd : decode M.2.1 pc = .ok (.ishl, 1)) (hh : Ev M n0 n1 r (pc + 1) n ρ σ (L) ((0, jshl x y) :: st)) : Ev M n0 n1 r (pc) n ρ σ (L) ((0, y) :: (0, x) :: st) := by
  intro p l e Rm s m args below meth c A H locs D dA ad0 ad ls C K h hl hL hn hs
  have hx := C.1
  have hb := C.2.1
  have h2 := hh p l e Rm s m args below meth c A H locs D dA ad0 ad ls C K h hl hL hn (ok_cons (ti32 _) (cons_ok (cons_ok hs).2).2)
  rw [List.map_cons, show rv ad (0, jshl x y) = .int (Int32.ofInt (jshl x y)) from rfl, jshl, Int32.ofInt_toInt] at h2
  exact lv_ishl hx hb hd h2
theorem ev_ishr {M : MD} {n0 n1 : Nat} {r : Option V × Mem × Mem} {pc n : Nat} {ρ σ : Mem} {L st : List V} {x y : Int} (hd : decode M.2.1 pc = .ok (.ishr, 1)) (hh : Ev M n0 n1 r (pc + 1) n ρ σ (L) ((0, jshr x y) :: st)) : Ev M n0 n1 r (pc) n ρ σ (L) ((0, y) :: (0, x) :: st) := by
  intro p l e Rm s m args below meth c A H locs D dA ad0 ad ls C K h hl hL hn hs
  have hx := C.1
  have hb := C.2.1
  have h2 := hh p l e Rm s m args below meth c A H locs D dA ad0 ad ls C K h hl hL hn (ok_cons (ti32 _) (cons_ok (cons_ok hs).2).2)
  rw [List.map_cons, show rv ad (0, jshr x y) = .int (Int32.ofInt (jshr x y)) from rfl, jshr, Int32.ofInt_toInt] at h2
  exact lv_ishr hx hb hd h2
theorem ev_iushr {M : MD} {n0 n1 : Nat} {r : Option V × Mem × Mem} {pc n : Nat} {ρ σ : Mem} {L st : List V} {x y : Int} (hd : decode M.2.1 pc = .ok (.iushr, 1)) (hh : Ev M n0 n1 r (pc + 1) n ρ σ (L) ((0, jushr x y) :: st)) : Ev M n0 n1 r (pc) n ρ σ (L) ((0, y) :: (0, x) :: st) := by
  intro p l e Rm s m args below meth c A H locs D dA ad0 ad ls C K h hl hL hn hs
  have hx := C.1
  have hb := C.2.1
  have h2 := hh p l e Rm s m args below meth c A H locs D dA ad0 ad ls C K h hl hL hn (ok_cons (ti32 _) (cons_ok (cons_ok hs).2).2)
  rw [List.map_cons, show rv ad (0, jushr x y) = .int (Int32.ofInt (jushr x y)) from rfl, jushr, Int32.ofInt_toInt] at h2
  exact lv_iushr hx hb hd rfl h2
def jdiv (a b : Int) : Int := (Int32.ofInt a / Int32.ofInt b).toInt
def jrem (a b : Int) : Int := (Int32.ofInt a - Int32.ofInt a / Int32.ofInt b * Int32.ofInt b).toInt
def chk {α : Type} (c : Prop) [Decidable c] (x : Option α) : Option α := if c then x else none
theorem chk_of {α : Type} {c : Prop} [Decidable c] {x : Option α} {y : α} (h : chk c x = some y) : c ∧ x = some y := by
  unfold chk at h
  split at h
  · exact ⟨by assumption, h⟩
  · cases h
theorem chk_pos {α : Type} {c : Prop} [Decidable c] {x : Option α} (h : c) : chk c x = x := if_pos h
theorem ev_idiv {M : MD} {n0 n1 : Nat} {r : Option V × Mem × Mem} {pc n : Nat} {ρ σ : Mem} {L st : List V} {α : Type} {X : Option α} {q : α} {x y : Int} (hd : decode M.2.1 pc = .ok (.idiv, 1)) (hf : chk (y ≠ 0) X = some q) (hh : X = some q → Ev M n0 n1 r (pc + 1) n ρ σ (L) ((0, jdiv x y) :: st)) : Ev M n0 n1 r (pc) n ρ σ (L) ((0, y) :: (0, x) :: st) := by
  intro p l e Rm s m args below meth c A H locs D dA ad0 ad ls C K h hl hL hn hs
  have hx := C.1
  have hb := C.2.1
  obtain ⟨hy, hf⟩ := chk_of hf
  have h2 := hh hf p l e Rm s m args below meth c A H locs D dA ad0 ad ls C K h hl hL hn (ok_cons (ti32 _) (cons_ok (cons_ok hs).2).2)
  rw [List.map_cons, show rv ad (0, jdiv x y) = .int (Int32.ofInt (jdiv x y)) from rfl, jdiv, Int32.ofInt_toInt] at h2
  refine lv_idiv hx hb hd (fun z => hy ?_) h2
  have := congrArg Int32.toInt z
  rw [oi32 (cons_ok hs).1] at this
  exact this
theorem ev_irem {M : MD} {n0 n1 : Nat} {r : Option V × Mem × Mem} {pc n : Nat} {ρ σ : Mem} {L st : List V} {α : Type} {X : Option α} {q : α} {x y : Int} (hd : decode M.2.1 pc = .ok (.irem, 1)) (hf : chk (y ≠ 0) X = some q) (hh : X = some q → Ev M n0 n1 r (pc + 1) n ρ σ (L) ((0, jrem x y) :: st)) : Ev M n0 n1 r (pc) n ρ σ (L) ((0, y) :: (0, x) :: st) := by
  intro p l e Rm s m args below meth c A H locs D dA ad0 ad ls C K h hl hL hn hs
  have hx := C.1
  have hb := C.2.1
  obtain ⟨hy, hf⟩ := chk_of hf
  have h2 := hh hf p l e Rm s m args below meth c A H locs D dA ad0 ad ls C K h hl hL hn (ok_cons (ti32 _) (cons_ok (cons_ok hs).2).2)
  rw [List.map_cons, show rv ad (0, jrem x y) = .int (Int32.ofInt (jrem x y)) from rfl, jrem, Int32.ofInt_toInt] at h2
  refine lv_irem hx hb hd (fun z => hy ?_) h2
  have := congrArg Int32.toInt z
  rw [oi32 (cons_ok hs).1] at this
  exact this
def kadd (a b : Int) : Int := (Int64.ofInt a + Int64.ofInt b).toInt
theorem ev_ladd {M : MD} {n0 n1 : Nat} {r : Option V × Mem × Mem} {pc n : Nat} {ρ σ : Mem} {L st : List V} {x y : Int} (hd : decode M.2.1 pc = .ok (.ladd, 1)) (hh : Ev M n0 n1 r (pc + 1) n ρ σ (L) ((1, kadd x y) :: st)) : Ev M n0 n1 r (pc) n ρ σ (L) ((1, y) :: (1, x) :: st) := by
  intro p l e Rm s m args below meth c A H locs D dA ad0 ad ls C K h hl hL hn hs
  have hx := C.1
  have hb := C.2.1
  have h2 := hh p l e Rm s m args below meth c A H locs D dA ad0 ad ls C K h hl hL hn (ok_cons (ti64 _) (cons_ok (cons_ok hs).2).2)
  rw [List.map_cons, show rv ad (1, kadd x y) = .long (Int64.ofInt (kadd x y)) from rfl, kadd, Int64.ofInt_toInt] at h2
  exact lv_ladd hx hb hd h2
def ksub (a b : Int) : Int := (Int64.ofInt a - Int64.ofInt b).toInt
theorem ev_lsub {M : MD} {n0 n1 : Nat} {r : Option V × Mem × Mem} {pc n : Nat} {ρ σ : Mem} {L st : List V} {x y : Int} (hd : decode M.2.1 pc = .ok (.lsub, 1)) (hh : Ev M n0 n1 r (pc + 1) n ρ σ (L) ((1, ksub x y) :: st)) : Ev M n0 n1 r (pc) n ρ σ (L) ((1, y) :: (1, x) :: st) := by
  intro p l e Rm s m args below meth c A H locs D dA ad0 ad ls C K h hl hL hn hs
  have hx := C.1
  have hb := C.2.1
  have h2 := hh p l e Rm s m args below meth c A H locs D dA ad0 ad ls C K h hl hL hn (ok_cons (ti64 _) (cons_ok (cons_ok hs).2).2)
  rw [List.map_cons, show rv ad (1, ksub x y) = .long (Int64.ofInt (ksub x y)) from rfl, ksub, Int64.ofInt_toInt] at h2
  exact lv_lsub hx hb hd h2
def kand (a b : Int) : Int := (Int64.ofInt a &&& Int64.ofInt b).toInt
theorem ev_land {M : MD} {n0 n1 : Nat} {r : Option V × Mem × Mem} {pc n : Nat} {ρ σ : Mem} {L st : List V} {x y : Int} (hd : decode M.2.1 pc = .ok (.land, 1)) (hh : Ev M n0 n1 r (pc + 1) n ρ σ (L) ((1, kand x y) :: st)) : Ev M n0 n1 r (pc) n ρ σ (L) ((1, y) :: (1, x) :: st) := by
  intro p l e Rm s m args below meth c A H locs D dA ad0 ad ls C K h hl hL hn hs
  have hx := C.1
  have hb := C.2.1
  have h2 := hh p l e Rm s m args below meth c A H locs D dA ad0 ad ls C K h hl hL hn (ok_cons (ti64 _) (cons_ok (cons_ok hs).2).2)
  rw [List.map_cons, show rv ad (1, kand x y) = .long (Int64.ofInt (kand x y)) from rfl, kand, Int64.ofInt_toInt] at h2
  exact lv_land hx hb hd h2
def kor (a b : Int) : Int := (Int64.ofInt a ||| Int64.ofInt b).toInt
theorem ev_lor {M : MD} {n0 n1 : Nat} {r : Option V × Mem × Mem} {pc n : Nat} {ρ σ : Mem} {L st : List V} {x y : Int} (hd : decode M.2.1 pc = .ok (.lor, 1)) (hh : Ev M n0 n1 r (pc + 1) n ρ σ (L) ((1, kor x y) :: st)) : Ev M n0 n1 r (pc) n ρ σ (L) ((1, y) :: (1, x) :: st) := by
  intro p l e Rm s m args below meth c A H locs D dA ad0 ad ls C K h hl hL hn hs
  have hx := C.1
  have hb := C.2.1
  have h2 := hh p l e Rm s m args below meth c A H locs D dA ad0 ad ls C K h hl hL hn (ok_cons (ti64 _) (cons_ok (cons_ok hs).2).2)
  rw [List.map_cons, show rv ad (1, kor x y) = .long (Int64.ofInt (kor x y)) from rfl, kor, Int64.ofInt_toInt] at h2
  exact lv_lor hx hb hd h2
def kxor (a b : Int) : Int := (Int64.ofInt a ^^^ Int64.ofInt b).toInt
theorem ev_lxor {M : MD} {n0 n1 : Nat} {r : Option V × Mem × Mem} {pc n : Nat} {ρ σ : Mem} {L st : List V} {x y : Int} (hd : decode M.2.1 pc = .ok (.lxor, 1)) (hh : Ev M n0 n1 r (pc + 1) n ρ σ (L) ((1, kxor x y) :: st)) : Ev M n0 n1 r (pc) n ρ σ (L) ((1, y) :: (1, x) :: st) := by
  intro p l e Rm s m args below meth c A H locs D dA ad0 ad ls C K h hl hL hn hs
  have hx := C.1
  have hb := C.2.1
  have h2 := hh p l e Rm s m args below meth c A H locs D dA ad0 ad ls C K h hl hL hn (ok_cons (ti64 _) (cons_ok (cons_ok hs).2).2)
  rw [List.map_cons, show rv ad (1, kxor x y) = .long (Int64.ofInt (kxor x y)) from rfl, kxor, Int64.ofInt_toInt] at h2
  exact lv_lxor hx hb hd h2
def kshl (a b : Int) : Int := (Int64.ofInt a <<< ((Int32.ofInt b).toInt64 &&& 63)).toInt
theorem ev_lshl {M : MD} {n0 n1 : Nat} {r : Option V × Mem × Mem} {pc n : Nat} {ρ σ : Mem} {L st : List V} {x y : Int} (hd : decode M.2.1 pc = .ok (.lshl, 1)) (hh : Ev M n0 n1 r (pc + 1) n ρ σ (L) ((1, kshl x y) :: st)) : Ev M n0 n1 r (pc) n ρ σ (L) ((0, y) :: (1, x) :: st) := by
  intro p l e Rm s m args below meth c A H locs D dA ad0 ad ls C K h hl hL hn hs
  have hx := C.1
  have hb := C.2.1
  have h2 := hh p l e Rm s m args below meth c A H locs D dA ad0 ad ls C K h hl hL hn (ok_cons (ti64 _) (cons_ok (cons_ok hs).2).2)
  rw [List.map_cons, show rv ad (1, kshl x y) = .long (Int64.ofInt (kshl x y)) from rfl, kshl, Int64.ofInt_toInt] at h2
  exact lv_lshl hx hb hd rfl h2
def kshr (a b : Int) : Int := (Int64.ofInt a >>> ((Int32.ofInt b).toInt64 &&& 63)).toInt
theorem ev_lshr {M : MD} {n0 n1 : Nat} {r : Option V × Mem × Mem} {pc n : Nat} {ρ σ : Mem} {L st : List V} {x y : Int} (hd : decode M.2.1 pc = .ok (.lshr, 1)) (hh : Ev M n0 n1 r (pc + 1) n ρ σ (L) ((1, kshr x y) :: st)) : Ev M n0 n1 r (pc) n ρ σ (L) ((0, y) :: (1, x) :: st) := by
  intro p l e Rm s m args below meth c A H locs D dA ad0 ad ls C K h hl hL hn hs
  have hx := C.1
  have hb := C.2.1
  have h2 := hh p l e Rm s m args below meth c A H locs D dA ad0 ad ls C K h hl hL hn (ok_cons (ti64 _) (cons_ok (cons_ok hs).2).2)
  rw [List.map_cons, show rv ad (1, kshr x y) = .long (Int64.ofInt (kshr x y)) from rfl, kshr, Int64.ofInt_toInt] at h2
  exact lv_lshr hx hb hd rfl h2
def kushr (a b : Int) : Int := ((Int64.ofInt a).toUInt64 >>> ((Int32.ofInt b).toInt64.toUInt64 &&& Int64.toUInt64 63)).toInt64.toInt
theorem ev_lushr {M : MD} {n0 n1 : Nat} {r : Option V × Mem × Mem} {pc n : Nat} {ρ σ : Mem} {L st : List V} {x y : Int} (hd : decode M.2.1 pc = .ok (.lushr, 1)) (hh : Ev M n0 n1 r (pc + 1) n ρ σ (L) ((1, kushr x y) :: st)) : Ev M n0 n1 r (pc) n ρ σ (L) ((0, y) :: (1, x) :: st) := by
  intro p l e Rm s m args below meth c A H locs D dA ad0 ad ls C K h hl hL hn hs
  have hx := C.1
  have hb := C.2.1
  have h2 := hh p l e Rm s m args below meth c A H locs D dA ad0 ad ls C K h hl hL hn (ok_cons (ti64 _) (cons_ok (cons_ok hs).2).2)
  rw [List.map_cons, show rv ad (1, kushr x y) = .long (Int64.ofInt (kushr x y)) from rfl, kushr, Int64.ofInt_toInt] at h2
  exact lv_lushr hx hb hd rfl h2
def jl (a : Int) : Int := (Int32.ofInt a).toInt64.toInt
def lj (a : Int) : Int := (Int64.ofInt a).toInt32.toInt
def jb (a : Int) : Int := (Int32.ofInt a).toInt8.toInt32.toInt
def js (a : Int) : Int := (Int32.ofInt a).toInt16.toInt32.toInt
theorem ev_i2l {M : MD} {n0 n1 : Nat} {r : Option V × Mem × Mem} {pc n : Nat} {ρ σ : Mem} {L st : List V} {x : Int} (hd : decode M.2.1 pc = .ok (.i2l, 1)) (hh : Ev M n0 n1 r (pc + 1) n ρ σ (L) ((1, jl x) :: st)) : Ev M n0 n1 r (pc) n ρ σ (L) ((0, x) :: st) := by
  intro p l e Rm s m args below meth c A H locs D dA ad0 ad ls C K h hl hL hn hs
  have hx := C.1
  have hb := C.2.1
  have h2 := hh p l e Rm s m args below meth c A H locs D dA ad0 ad ls C K h hl hL hn (ok_cons (ti64 _) (cons_ok hs).2)
  rw [List.map_cons, show rv ad (1, jl x) = .long (Int64.ofInt (jl x)) from rfl, jl, Int64.ofInt_toInt] at h2
  exact lv_i2l hx hb hd rfl h2
theorem ev_l2i {M : MD} {n0 n1 : Nat} {r : Option V × Mem × Mem} {pc n : Nat} {ρ σ : Mem} {L st : List V} {x : Int} (hd : decode M.2.1 pc = .ok (.l2i, 1)) (hh : Ev M n0 n1 r (pc + 1) n ρ σ (L) ((0, lj x) :: st)) : Ev M n0 n1 r (pc) n ρ σ (L) ((1, x) :: st) := by
  intro p l e Rm s m args below meth c A H locs D dA ad0 ad ls C K h hl hL hn hs
  have hx := C.1
  have hb := C.2.1
  have h2 := hh p l e Rm s m args below meth c A H locs D dA ad0 ad ls C K h hl hL hn (ok_cons (ti32 _) (cons_ok hs).2)
  rw [List.map_cons, show rv ad (0, lj x) = .int (Int32.ofInt (lj x)) from rfl, lj, Int32.ofInt_toInt] at h2
  exact lv_l2i hx hb hd rfl h2
theorem ev_i2b {M : MD} {n0 n1 : Nat} {r : Option V × Mem × Mem} {pc n : Nat} {ρ σ : Mem} {L st : List V} {x : Int} (hd : decode M.2.1 pc = .ok (.i2b, 1)) (hh : Ev M n0 n1 r (pc + 1) n ρ σ (L) ((0, jb x) :: st)) : Ev M n0 n1 r (pc) n ρ σ (L) ((0, x) :: st) := by
  intro p l e Rm s m args below meth c A H locs D dA ad0 ad ls C K h hl hL hn hs
  have hx := C.1
  have hb := C.2.1
  have h2 := hh p l e Rm s m args below meth c A H locs D dA ad0 ad ls C K h hl hL hn (ok_cons (ti32 _) (cons_ok hs).2)
  rw [List.map_cons, show rv ad (0, jb x) = .int (Int32.ofInt (jb x)) from rfl, jb, Int32.ofInt_toInt] at h2
  exact lv_i2b hx hb hd rfl h2
theorem ev_i2s {M : MD} {n0 n1 : Nat} {r : Option V × Mem × Mem} {pc n : Nat} {ρ σ : Mem} {L st : List V} {x : Int} (hd : decode M.2.1 pc = .ok (.i2s, 1)) (hh : Ev M n0 n1 r (pc + 1) n ρ σ (L) ((0, js x) :: st)) : Ev M n0 n1 r (pc) n ρ σ (L) ((0, x) :: st) := by
  intro p l e Rm s m args below meth c A H locs D dA ad0 ad ls C K h hl hL hn hs
  have hx := C.1
  have hb := C.2.1
  have h2 := hh p l e Rm s m args below meth c A H locs D dA ad0 ad ls C K h hl hL hn (ok_cons (ti32 _) (cons_ok hs).2)
  rw [List.map_cons, show rv ad (0, js x) = .int (Int32.ofInt (js x)) from rfl, js, Int32.ofInt_toInt] at h2
  exact lv_i2s hx hb hd rfl h2
def lcm (a b : Int) : Int := (lg_cmp (Int64.ofInt a) (Int64.ofInt b)).toInt
theorem ev_lcmp {M : MD} {n0 n1 : Nat} {r : Option V × Mem × Mem} {pc n : Nat} {ρ σ : Mem} {L st : List V} {x y : Int} (hd : decode M.2.1 pc = .ok (.lcmp, 1)) (hh : Ev M n0 n1 r (pc + 1) n ρ σ (L) ((0, lcm x y) :: st)) : Ev M n0 n1 r (pc) n ρ σ (L) ((1, y) :: (1, x) :: st) := by
  intro p l e Rm s m args below meth c A H locs D dA ad0 ad ls C K h hl hL hn hs
  have hx := C.1
  have hb := C.2.1
  have h2 := hh p l e Rm s m args below meth c A H locs D dA ad0 ad ls C K h hl hL hn (ok_cons (ti32 _) (cons_ok (cons_ok hs).2).2)
  rw [List.map_cons, show rv ad (0, lcm x y) = .int (Int32.ofInt (lcm x y)) from rfl, lcm, Int32.ofInt_toInt] at h2
  exact W.lcmp hx hb hd h2
theorem ev_dup {M : MD} {n0 n1 : Nat} {r : Option V × Mem × Mem} {pc n : Nat} {ρ σ : Mem} {L st : List V} {v : V} (hd : decode M.2.1 pc = .ok (.dup, 1)) (hc : v.1 ≠ 1) (hh : Ev M n0 n1 r (pc + 1) n ρ σ (L) (v :: v :: st)) : Ev M n0 n1 r (pc) n ρ σ (L) (v :: st) := by
  intro p l e Rm s m args below meth c A H locs D dA ad0 ad ls C K h hl hL hn hs
  have hx := C.1
  have hb := C.2.1
  exact lv_dup hx hb hd (by rw [rv_cat, if_neg hc]) (hh p l e Rm s m args below meth c A H locs D dA ad0 ad ls C K h hl hL hn (ok_cons (cons_ok hs).1 hs))
theorem ev_pop {M : MD} {n0 n1 : Nat} {r : Option V × Mem × Mem} {pc n : Nat} {ρ σ : Mem} {L st : List V} {v : V} (hd : decode M.2.1 pc = .ok (.pop, 1)) (hc : v.1 ≠ 1) (hh : Ev M n0 n1 r (pc + 1) n ρ σ (L) (st)) : Ev M n0 n1 r (pc) n ρ σ (L) (v :: st) := by
  intro p l e Rm s m args below meth c A H locs D dA ad0 ad ls C K h hl hL hn hs
  have hx := C.1
  have hb := C.2.1
  exact lv_pop hx hb hd (by rw [rv_cat, if_neg hc]) (hh p l e Rm s m args below meth c A H locs D dA ad0 ad ls C K h hl hL hn (cons_ok hs).2)
theorem ev_dup2 {M : MD} {n0 n1 : Nat} {r : Option V × Mem × Mem} {pc n : Nat} {ρ σ : Mem} {L st : List V} {v u : V} (hd : decode M.2.1 pc = .ok (.dup2, 1)) (hc : v.1 ≠ 1) (hc2 : u.1 ≠ 1) (hh : Ev M n0 n1 r (pc + 1) n ρ σ (L) (v :: u :: v :: u :: st)) : Ev M n0 n1 r (pc) n ρ σ (L) (v :: u :: st) := by
  intro p l e Rm s m args below meth c A H locs D dA ad0 ad ls C K h hl hL hn hs
  have hx := C.1
  have hb := C.2.1
  exact lv_dup2_11 hx hb hd (by rw [rv_cat, if_neg hc]) (by rw [rv_cat, if_neg hc2]) (hh p l e Rm s m args below meth c A H locs D dA ad0 ad ls C K h hl hL hn (ok_cons (cons_ok hs).1 (ok_cons (cons_ok (cons_ok hs).2).1 hs)))
theorem ev_goto {M : MD} {n0 n1 : Nat} {r : Option V × Mem × Mem} {pc n : Nat} {ρ σ : Mem} {L st : List V} {off : Int} {tgt : Nat} (hd : decode M.2.1 pc = .ok (.goto off, 3)) (ht : (pc : Int) + off = (tgt : Int)) (hh : Ev M n0 n1 r (tgt) n ρ σ (L) (st)) : Ev M n0 n1 r (pc) n ρ σ (L) (st) := by
  intro p l e Rm s m args below meth c A H locs D dA ad0 ad ls C K h hl hL hn hs
  have hx := C.1
  have hb := C.2.1
  exact lv_goto hx hb hd ht (hh p l e Rm s m args below meth c A H locs D dA ad0 ad ls C K h hl hL hn hs)
theorem eq32 {x y : Int} (hx : in32 x) (hy : in32 y) : Int32.ofInt x = Int32.ofInt y ↔ x = y := ⟨fun h => by have := congrArg Int32.toInt h; rwa [oi32 hx, oi32 hy] at this, fun h => by rw [h]⟩
theorem lt32 {x y : Int} (hx : in32 x) (hy : in32 y) : Int32.ofInt x < Int32.ofInt y ↔ x < y := by rw [Int32.lt_iff_toInt_lt, oi32 hx, oi32 hy]
theorem le32 {x y : Int} (hx : in32 x) (hy : in32 y) : Int32.ofInt x ≤ Int32.ofInt y ↔ x ≤ y := by rw [Int32.le_iff_toInt_le, oi32 hx, oi32 hy]
theorem in32_0 : in32 0 := by decide
theorem ite_pos' {α : Type} {c : Prop} [Decidable c] {x y z : α} (h : (if c then x else y) = z) (hc : c) : x = z := by rwa [if_pos hc] at h
theorem ite_neg' {α : Type} {c : Prop} [Decidable c] {x y z : α} (h : (if c then x else y) = z) (hc : ¬ c) : y = z := by rwa [if_neg hc] at h
theorem ev_icmp_eq {M : MD} {n0 n1 : Nat} {r : Option V × Mem × Mem} {pc n : Nat} {ρ σ : Mem} {L st : List V} {α : Type} {X Y : Option α} {q : α} {x y off : Int} {tgt : Nat} (hd : decode M.2.1 pc = .ok (.if_icmp .eq off, 3)) (ht : (pc : Int) + off = (tgt : Int)) (hf : (if x = y then X else Y) = some q) (h1 : x = y → X = some q → Ev M n0 n1 r (tgt) n ρ σ (L) (st)) (h2 : ¬ (x = y) → Y = some q → Ev M n0 n1 r (pc + 3) n ρ σ (L) (st)) : Ev M n0 n1 r (pc) n ρ σ (L) ((0, y) :: (0, x) :: st) := by
  intro p l e Rm s m args below meth c A H locs D dA ad0 ad ls C K h hl hL hn hs
  have hx := C.1
  have hb := C.2.1
  have hq := eq32 (cons_ok (cons_ok hs).2).1 (cons_ok hs).1
  exact lv_icmp_eq hx hb hd ht (fun z => h1 (hq.mp z) (ite_pos' hf (hq.mp z)) p l e Rm s m args below meth c A H locs D dA ad0 ad ls C K h hl hL hn (cons_ok (cons_ok hs).2).2) (fun z => h2 (fun z2 => z (hq.mpr z2)) (ite_neg' hf (fun z2 => z (hq.mpr z2))) p l e Rm s m args below meth c A H locs D dA ad0 ad ls C K h hl hL hn (cons_ok (cons_ok hs).2).2)
theorem ev_icmp_ne {M : MD} {n0 n1 : Nat} {r : Option V × Mem × Mem} {pc n : Nat} {ρ σ : Mem} {L st : List V} {α : Type} {X Y : Option α} {q : α} {x y off : Int} {tgt : Nat} (hd : decode M.2.1 pc = .ok (.if_icmp .ne off, 3)) (ht : (pc : Int) + off = (tgt : Int)) (hf : (if x ≠ y then X else Y) = some q) (h1 : x ≠ y → X = some q → Ev M n0 n1 r (tgt) n ρ σ (L) (st)) (h2 : ¬ (x ≠ y) → Y = some q → Ev M n0 n1 r (pc + 3) n ρ σ (L) (st)) : Ev M n0 n1 r (pc) n ρ σ (L) ((0, y) :: (0, x) :: st) := by
  intro p l e Rm s m args below meth c A H locs D dA ad0 ad ls C K h hl hL hn hs
  have hx := C.1
  have hb := C.2.1
  have hq := not_congr (eq32 (cons_ok (cons_ok hs).2).1 (cons_ok hs).1)
  exact lv_icmp_ne hx hb hd ht (fun z => h1 (hq.mp z) (ite_pos' hf (hq.mp z)) p l e Rm s m args below meth c A H locs D dA ad0 ad ls C K h hl hL hn (cons_ok (cons_ok hs).2).2) (fun z => h2 (fun z2 => (hq.mpr z2) z) (ite_neg' hf (fun z2 => (hq.mpr z2) z)) p l e Rm s m args below meth c A H locs D dA ad0 ad ls C K h hl hL hn (cons_ok (cons_ok hs).2).2)
theorem ev_icmp_lt {M : MD} {n0 n1 : Nat} {r : Option V × Mem × Mem} {pc n : Nat} {ρ σ : Mem} {L st : List V} {α : Type} {X Y : Option α} {q : α} {x y off : Int} {tgt : Nat} (hd : decode M.2.1 pc = .ok (.if_icmp .lt off, 3)) (ht : (pc : Int) + off = (tgt : Int)) (hf : (if x < y then X else Y) = some q) (h1 : x < y → X = some q → Ev M n0 n1 r (tgt) n ρ σ (L) (st)) (h2 : ¬ (x < y) → Y = some q → Ev M n0 n1 r (pc + 3) n ρ σ (L) (st)) : Ev M n0 n1 r (pc) n ρ σ (L) ((0, y) :: (0, x) :: st) := by
  intro p l e Rm s m args below meth c A H locs D dA ad0 ad ls C K h hl hL hn hs
  have hx := C.1
  have hb := C.2.1
  have hq := lt32 (cons_ok (cons_ok hs).2).1 (cons_ok hs).1
  exact lv_icmp_lt hx hb hd ht (fun z => h1 (hq.mp z) (ite_pos' hf (hq.mp z)) p l e Rm s m args below meth c A H locs D dA ad0 ad ls C K h hl hL hn (cons_ok (cons_ok hs).2).2) (fun z => h2 (fun z2 => z (hq.mpr z2)) (ite_neg' hf (fun z2 => z (hq.mpr z2))) p l e Rm s m args below meth c A H locs D dA ad0 ad ls C K h hl hL hn (cons_ok (cons_ok hs).2).2)
theorem ev_icmp_ge {M : MD} {n0 n1 : Nat} {r : Option V × Mem × Mem} {pc n : Nat} {ρ σ : Mem} {L st : List V} {α : Type} {X Y : Option α} {q : α} {x y off : Int} {tgt : Nat} (hd : decode M.2.1 pc = .ok (.if_icmp .ge off, 3)) (ht : (pc : Int) + off = (tgt : Int)) (hf : (if y ≤ x then X else Y) = some q) (h1 : y ≤ x → X = some q → Ev M n0 n1 r (tgt) n ρ σ (L) (st)) (h2 : ¬ (y ≤ x) → Y = some q → Ev M n0 n1 r (pc + 3) n ρ σ (L) (st)) : Ev M n0 n1 r (pc) n ρ σ (L) ((0, y) :: (0, x) :: st) := by
  intro p l e Rm s m args below meth c A H locs D dA ad0 ad ls C K h hl hL hn hs
  have hx := C.1
  have hb := C.2.1
  have hq := le32 (cons_ok hs).1 (cons_ok (cons_ok hs).2).1
  exact lv_icmp_ge hx hb hd ht (fun z => h1 (hq.mp z) (ite_pos' hf (hq.mp z)) p l e Rm s m args below meth c A H locs D dA ad0 ad ls C K h hl hL hn (cons_ok (cons_ok hs).2).2) (fun z => h2 (fun z2 => z (hq.mpr z2)) (ite_neg' hf (fun z2 => z (hq.mpr z2))) p l e Rm s m args below meth c A H locs D dA ad0 ad ls C K h hl hL hn (cons_ok (cons_ok hs).2).2)
theorem ev_icmp_gt {M : MD} {n0 n1 : Nat} {r : Option V × Mem × Mem} {pc n : Nat} {ρ σ : Mem} {L st : List V} {α : Type} {X Y : Option α} {q : α} {x y off : Int} {tgt : Nat} (hd : decode M.2.1 pc = .ok (.if_icmp .gt off, 3)) (ht : (pc : Int) + off = (tgt : Int)) (hf : (if y < x then X else Y) = some q) (h1 : y < x → X = some q → Ev M n0 n1 r (tgt) n ρ σ (L) (st)) (h2 : ¬ (y < x) → Y = some q → Ev M n0 n1 r (pc + 3) n ρ σ (L) (st)) : Ev M n0 n1 r (pc) n ρ σ (L) ((0, y) :: (0, x) :: st) := by
  intro p l e Rm s m args below meth c A H locs D dA ad0 ad ls C K h hl hL hn hs
  have hx := C.1
  have hb := C.2.1
  have hq := lt32 (cons_ok hs).1 (cons_ok (cons_ok hs).2).1
  exact lv_icmp_gt hx hb hd ht (fun z => h1 (hq.mp z) (ite_pos' hf (hq.mp z)) p l e Rm s m args below meth c A H locs D dA ad0 ad ls C K h hl hL hn (cons_ok (cons_ok hs).2).2) (fun z => h2 (fun z2 => z (hq.mpr z2)) (ite_neg' hf (fun z2 => z (hq.mpr z2))) p l e Rm s m args below meth c A H locs D dA ad0 ad ls C K h hl hL hn (cons_ok (cons_ok hs).2).2)
theorem ev_icmp_le {M : MD} {n0 n1 : Nat} {r : Option V × Mem × Mem} {pc n : Nat} {ρ σ : Mem} {L st : List V} {α : Type} {X Y : Option α} {q : α} {x y off : Int} {tgt : Nat} (hd : decode M.2.1 pc = .ok (.if_icmp .le off, 3)) (ht : (pc : Int) + off = (tgt : Int)) (hf : (if x ≤ y then X else Y) = some q) (h1 : x ≤ y → X = some q → Ev M n0 n1 r (tgt) n ρ σ (L) (st)) (h2 : ¬ (x ≤ y) → Y = some q → Ev M n0 n1 r (pc + 3) n ρ σ (L) (st)) : Ev M n0 n1 r (pc) n ρ σ (L) ((0, y) :: (0, x) :: st) := by
  intro p l e Rm s m args below meth c A H locs D dA ad0 ad ls C K h hl hL hn hs
  have hx := C.1
  have hb := C.2.1
  have hq := le32 (cons_ok (cons_ok hs).2).1 (cons_ok hs).1
  exact lv_icmp_le hx hb hd ht (fun z => h1 (hq.mp z) (ite_pos' hf (hq.mp z)) p l e Rm s m args below meth c A H locs D dA ad0 ad ls C K h hl hL hn (cons_ok (cons_ok hs).2).2) (fun z => h2 (fun z2 => z (hq.mpr z2)) (ite_neg' hf (fun z2 => z (hq.mpr z2))) p l e Rm s m args below meth c A H locs D dA ad0 ad ls C K h hl hL hn (cons_ok (cons_ok hs).2).2)
theorem ev_if_eq {M : MD} {n0 n1 : Nat} {r : Option V × Mem × Mem} {pc n : Nat} {ρ σ : Mem} {L st : List V} {α : Type} {X Y : Option α} {q : α} {x off : Int} {tgt : Nat} (hd : decode M.2.1 pc = .ok (.ifCond .eq off, 3)) (ht : (pc : Int) + off = (tgt : Int)) (hf : (if x = 0 then X else Y) = some q) (h1 : x = 0 → X = some q → Ev M n0 n1 r (tgt) n ρ σ (L) (st)) (h2 : ¬ (x = 0) → Y = some q → Ev M n0 n1 r (pc + 3) n ρ σ (L) (st)) : Ev M n0 n1 r (pc) n ρ σ (L) ((0, x) :: st) := by
  intro p l e Rm s m args below meth c A H locs D dA ad0 ad ls C K h hl hL hn hs
  have hx := C.1
  have hb := C.2.1
  have hq := eq32 (cons_ok hs).1 in32_0
  exact lv_if_eq hx hb hd ht (fun z => h1 (hq.mp z) (ite_pos' hf (hq.mp z)) p l e Rm s m args below meth c A H locs D dA ad0 ad ls C K h hl hL hn (cons_ok hs).2) (fun z => h2 (fun z2 => z (hq.mpr z2)) (ite_neg' hf (fun z2 => z (hq.mpr z2))) p l e Rm s m args below meth c A H locs D dA ad0 ad ls C K h hl hL hn (cons_ok hs).2)
theorem ev_if_ne {M : MD} {n0 n1 : Nat} {r : Option V × Mem × Mem} {pc n : Nat} {ρ σ : Mem} {L st : List V} {α : Type} {X Y : Option α} {q : α} {x off : Int} {tgt : Nat} (hd : decode M.2.1 pc = .ok (.ifCond .ne off, 3)) (ht : (pc : Int) + off = (tgt : Int)) (hf : (if x ≠ 0 then X else Y) = some q) (h1 : x ≠ 0 → X = some q → Ev M n0 n1 r (tgt) n ρ σ (L) (st)) (h2 : ¬ (x ≠ 0) → Y = some q → Ev M n0 n1 r (pc + 3) n ρ σ (L) (st)) : Ev M n0 n1 r (pc) n ρ σ (L) ((0, x) :: st) := by
  intro p l e Rm s m args below meth c A H locs D dA ad0 ad ls C K h hl hL hn hs
  have hx := C.1
  have hb := C.2.1
  have hq := not_congr (eq32 (cons_ok hs).1 in32_0)
  exact lv_if_ne hx hb hd ht (fun z => h1 (hq.mp z) (ite_pos' hf (hq.mp z)) p l e Rm s m args below meth c A H locs D dA ad0 ad ls C K h hl hL hn (cons_ok hs).2) (fun z => h2 (fun z2 => (hq.mpr z2) z) (ite_neg' hf (fun z2 => (hq.mpr z2) z)) p l e Rm s m args below meth c A H locs D dA ad0 ad ls C K h hl hL hn (cons_ok hs).2)
theorem ev_if_lt {M : MD} {n0 n1 : Nat} {r : Option V × Mem × Mem} {pc n : Nat} {ρ σ : Mem} {L st : List V} {α : Type} {X Y : Option α} {q : α} {x off : Int} {tgt : Nat} (hd : decode M.2.1 pc = .ok (.ifCond .lt off, 3)) (ht : (pc : Int) + off = (tgt : Int)) (hf : (if x < 0 then X else Y) = some q) (h1 : x < 0 → X = some q → Ev M n0 n1 r (tgt) n ρ σ (L) (st)) (h2 : ¬ (x < 0) → Y = some q → Ev M n0 n1 r (pc + 3) n ρ σ (L) (st)) : Ev M n0 n1 r (pc) n ρ σ (L) ((0, x) :: st) := by
  intro p l e Rm s m args below meth c A H locs D dA ad0 ad ls C K h hl hL hn hs
  have hx := C.1
  have hb := C.2.1
  have hq := lt32 (cons_ok hs).1 in32_0
  exact lv_if_lt hx hb hd ht (fun z => h1 (hq.mp z) (ite_pos' hf (hq.mp z)) p l e Rm s m args below meth c A H locs D dA ad0 ad ls C K h hl hL hn (cons_ok hs).2) (fun z => h2 (fun z2 => z (hq.mpr z2)) (ite_neg' hf (fun z2 => z (hq.mpr z2))) p l e Rm s m args below meth c A H locs D dA ad0 ad ls C K h hl hL hn (cons_ok hs).2)
theorem ev_if_ge {M : MD} {n0 n1 : Nat} {r : Option V × Mem × Mem} {pc n : Nat} {ρ σ : Mem} {L st : List V} {α : Type} {X Y : Option α} {q : α} {x off : Int} {tgt : Nat} (hd : decode M.2.1 pc = .ok (.ifCond .ge off, 3)) (ht : (pc : Int) + off = (tgt : Int)) (hf : (if 0 ≤ x then X else Y) = some q) (h1 : 0 ≤ x → X = some q → Ev M n0 n1 r (tgt) n ρ σ (L) (st)) (h2 : ¬ (0 ≤ x) → Y = some q → Ev M n0 n1 r (pc + 3) n ρ σ (L) (st)) : Ev M n0 n1 r (pc) n ρ σ (L) ((0, x) :: st) := by
  intro p l e Rm s m args below meth c A H locs D dA ad0 ad ls C K h hl hL hn hs
  have hx := C.1
  have hb := C.2.1
  have hq := le32 in32_0 (cons_ok hs).1
  exact lv_if_ge hx hb hd ht (fun z => h1 (hq.mp z) (ite_pos' hf (hq.mp z)) p l e Rm s m args below meth c A H locs D dA ad0 ad ls C K h hl hL hn (cons_ok hs).2) (fun z => h2 (fun z2 => z (hq.mpr z2)) (ite_neg' hf (fun z2 => z (hq.mpr z2))) p l e Rm s m args below meth c A H locs D dA ad0 ad ls C K h hl hL hn (cons_ok hs).2)
theorem ev_if_gt {M : MD} {n0 n1 : Nat} {r : Option V × Mem × Mem} {pc n : Nat} {ρ σ : Mem} {L st : List V} {α : Type} {X Y : Option α} {q : α} {x off : Int} {tgt : Nat} (hd : decode M.2.1 pc = .ok (.ifCond .gt off, 3)) (ht : (pc : Int) + off = (tgt : Int)) (hf : (if 0 < x then X else Y) = some q) (h1 : 0 < x → X = some q → Ev M n0 n1 r (tgt) n ρ σ (L) (st)) (h2 : ¬ (0 < x) → Y = some q → Ev M n0 n1 r (pc + 3) n ρ σ (L) (st)) : Ev M n0 n1 r (pc) n ρ σ (L) ((0, x) :: st) := by
  intro p l e Rm s m args below meth c A H locs D dA ad0 ad ls C K h hl hL hn hs
  have hx := C.1
  have hb := C.2.1
  have hq := lt32 in32_0 (cons_ok hs).1
  exact lv_if_gt hx hb hd ht (fun z => h1 (hq.mp z) (ite_pos' hf (hq.mp z)) p l e Rm s m args below meth c A H locs D dA ad0 ad ls C K h hl hL hn (cons_ok hs).2) (fun z => h2 (fun z2 => z (hq.mpr z2)) (ite_neg' hf (fun z2 => z (hq.mpr z2))) p l e Rm s m args below meth c A H locs D dA ad0 ad ls C K h hl hL hn (cons_ok hs).2)
theorem ev_if_le {M : MD} {n0 n1 : Nat} {r : Option V × Mem × Mem} {pc n : Nat} {ρ σ : Mem} {L st : List V} {α : Type} {X Y : Option α} {q : α} {x off : Int} {tgt : Nat} (hd : decode M.2.1 pc = .ok (.ifCond .le off, 3)) (ht : (pc : Int) + off = (tgt : Int)) (hf : (if x ≤ 0 then X else Y) = some q) (h1 : x ≤ 0 → X = some q → Ev M n0 n1 r (tgt) n ρ σ (L) (st)) (h2 : ¬ (x ≤ 0) → Y = some q → Ev M n0 n1 r (pc + 3) n ρ σ (L) (st)) : Ev M n0 n1 r (pc) n ρ σ (L) ((0, x) :: st) := by
  intro p l e Rm s m args below meth c A H locs D dA ad0 ad ls C K h hl hL hn hs
  have hx := C.1
  have hb := C.2.1
  have hq := le32 (cons_ok hs).1 in32_0
  exact lv_if_le hx hb hd ht (fun z => h1 (hq.mp z) (ite_pos' hf (hq.mp z)) p l e Rm s m args below meth c A H locs D dA ad0 ad ls C K h hl hL hn (cons_ok hs).2) (fun z => h2 (fun z2 => z (hq.mpr z2)) (ite_neg' hf (fun z2 => z (hq.mpr z2))) p l e Rm s m args below meth c A H locs D dA ad0 ad ls C K h hl hL hn (cons_ok hs).2)
theorem ev_tswIn {M : MD} {n0 n1 : Nat} {r : Option V × Mem × Mem} {pc n : Nat} {ρ σ : Mem} {L st : List V} {dflt lo hi x off : Int} {offs : Array Int} {len tgt : Nat} (hd : decode M.2.1 pc = .ok (.tableswitch dflt lo hi offs, len)) (h1 : lo ≤ x) (h2 : x ≤ hi) (ho : offs[(x - lo).toNat]? = some off) (ht : (pc : Int) + off = (tgt : Int)) (hh : Ev M n0 n1 r (tgt) n ρ σ (L) (st)) : Ev M n0 n1 r (pc) n ρ σ (L) ((0, x) :: st) := by
  intro p l e Rm s m args below meth c A H locs D dA ad0 ad ls C K h hl hL hn hs
  have hx := C.1
  have hb := C.2.1
  have hq := oi32 (cons_ok hs).1
  exact lv_tableIn (off := off) hx hb hd (by rw [hq]; omega) (by rw [hq]; omega) (by rw [hq]; exact ho) ht (hh p l e Rm s m args below meth c A H locs D dA ad0 ad ls C K h hl hL hn (cons_ok hs).2)
theorem ev_tswOut {M : MD} {n0 n1 : Nat} {r : Option V × Mem × Mem} {pc n : Nat} {ρ σ : Mem} {L st : List V} {dflt lo hi x : Int} {offs : Array Int} {len tgt : Nat} (hd : decode M.2.1 pc = .ok (.tableswitch dflt lo hi offs, len)) (h1 : x < lo ∨ hi < x) (ht : (pc : Int) + dflt = (tgt : Int)) (hh : Ev M n0 n1 r (tgt) n ρ σ (L) (st)) : Ev M n0 n1 r (pc) n ρ σ (L) ((0, x) :: st) := by
  intro p l e Rm s m args below meth c A H locs D dA ad0 ad ls C K h hl hL hn hs
  have hx := C.1
  have hb := C.2.1
  have hq := oi32 (cons_ok hs).1
  exact lv_tableOut hx hb hd (by rw [hq]; exact h1) ht (hh p l e Rm s m args below meth c A H locs D dA ad0 ad ls C K h hl hL hn (cons_ok hs).2)
theorem ev_lsw {M : MD} {n0 n1 : Nat} {r : Option V × Mem × Mem} {pc n : Nat} {ρ σ : Mem} {L st : List V} {dflt x off : Int} {ps : Array (Int × Int)} {len tgt : Nat} (hd : decode M.2.1 pc = .ok (.lookupswitch dflt ps, len)) (hp : (ps.toList.zip (ps.toList.drop 1)).all (fun (a, next) => a.1 < next.1) = true) (ho : Op.lookupswitch.offset ps.toList dflt x = off) (ht : (pc : Int) + off = (tgt : Int)) (hh : Ev M n0 n1 r (tgt) n ρ σ (L) (st)) : Ev M n0 n1 r (pc) n ρ σ (L) ((0, x) :: st) := by
  intro p l e Rm s m args below meth c A H locs D dA ad0 ad ls C K h hl hL hn hs
  have hx := C.1
  have hb := C.2.1
  have hq := oi32 (cons_ok hs).1
  exact lv_lookup hx hb hd hp (by rw [hq]; exact ho) ht (hh p l e Rm s m args below meth c A H locs D dA ad0 ad ls C K h hl hL hn (cons_ok hs).2)
