theorem rv_agree {ad ad' : Nat → Nat} {n : Nat} {v : V} (h1 : ∀ k, k < n → ad' k = ad k) (h2 : ∀ k, 100000 ≤ k → ad' k = ad k) (hv : okv n v) : rv ad' v = rv ad v := by
  obtain ⟨t, x⟩ := v
  match t with
  | 0 => rfl
  | 1 => rfl
  | 2 =>
    show (if x < 0 then Value.null else _) = (if x < 0 then Value.null else _)
    by_cases hx : x < 0
    · rw [if_pos hx, if_pos hx]
    · rw [if_neg hx, if_neg hx, h1 x.toNat (by have := hv.2; omega)]
  | 3 => show Value.ref _ = Value.ref _; rw [h2 _ (by omega)]
  | t + 4 => show (if ad' 500000 = 0 then Value.null else Value.ref (ad' 500001)) = _; rw [h2 500000 (by omega), h2 500001 (by omega)]; rfl
theorem map_agree {ad ad' : Nat → Nat} {n : Nat} {st : List V} (h1 : ∀ k, k < n → ad' k = ad k) (h2 : ∀ k, 100000 ≤ k → ad' k = ad k) (hv : ∀ v ∈ st, okv n v) : st.map (rv ad') = st.map (rv ad) := List.map_congr_left fun v h => rv_agree h1 h2 (hv v h)
theorem lz_agree {ad ad' : Nat → Nat} {n : Nat} (h1 : ∀ k, k < n → ad' k = ad k) (h2 : ∀ k, 100000 ≤ k → ad' k = ad k) : ∀ (L : List V) (j : Nat), (∀ v ∈ L, okv n v) → lz ad' j L = lz ad j L := by
  intro L
  induction L with
  | nil => intro j _; rfl
  | cons v L ih =>
    intro j hv
    unfold lz
    rw [ih (j + 1) (cons_ok hv).2, rv_agree h1 h2 (cons_ok hv).1]
theorem okv_mono {n n' : Nat} (h : n ≤ n') {v : V} (hv : okv n v) : okv n' v := by
  obtain ⟨t, x⟩ := v
  match t with
  | 0 => exact hv
  | 1 => exact hv
  | 2 => exact ⟨hv.1, by have := hv.2; show x < (n' : Int); omega⟩
  | t + 3 => trivial
theorem szL_mono {a b : Nat} (h : a ≤ b) : szL a ≤ szL b := by
  induction b with
  | zero => have : a = 0 := by omega
            subst this; exact Nat.le_refl _
  | succ b ih =>
    by_cases hb : a = b + 1
    · subst hb; exact Nat.le_refl _
    · have := ih (by omega)
      show szL a ≤ szL b + (shp b).2
      omega
theorem Sk.warm {ad : Nat → Nat} {A : Nat → Prop} {s U : State} {H : Heap} (hW : s.WarmedH U.vm) (h : Sk ad A s H) : Sk ad A U H := ⟨h.1.moved hW.alike, fun q hq => va_Nw.warmM hW (h.2 q hq)⟩
theorem Sk.same {ad : Nat → Nat} {A : Nat → Prop} {u U : State} {H : Heap} (hv : U.vm = u.vm) (h : Sk ad A u H) : Sk ad A U H := ⟨h.1.moved (by rw [hv]; exact Vm.Alike.refl _), fun q hq => va_Nw.same rfl hv.symm (h.2 q hq)⟩
theorem Sk.ad {ad ad' : Nat → Nat} {A : Nat → Prop} {U : State} {H : Heap} (_h2 : ∀ k, 100000 ≤ k → ad' k = ad k) (h : Sk ad A U H) : Sk ad' A U H := h
theorem Sk.kept {ad : Nat → Nat} {A B : Nat → Prop} {U : State} {H H1 : Heap} (h : Sk ad A U H) (_hq : ∀ a : Nat, a < H.size → ¬ A a → H1[a]? = H[a]?) (_hAB : ∀ q, B q → A q) : Sk ad B U H1 := h
def Pm (n0 : Nat) (av : List V) (ρ σ : Mem) (D : va_G) (dA : Nat → ClassId) (ad : Nat → Nat) (sz : Nat) : Array Value → State → Prop := va_Pc (av.map (rv ad)) fun U => U.heap.size = sz ∧ va_P D vwCl (wl dA ad ρ σ n0) U.heap ∧ va_D (fun _ => True) (wl dA ad ρ σ n0) ∧ va_K D vwCl (TY dA) U ∧ Sk ad (Af n0 ad sz) U U.heap
/-- THE CONTRACT: called with these arguments and this memory, the method answers r and leaves r's memory -/
def Ms (y : MethodName) (M : MD) (n0 n1 : Nat) (av : List V) (ρ σ : Mem) (r : Option V × Mem × Mem) : Prop := pok n0 ρ σ → n0 ≤ n1 → n1 ≤ 90000 → (∀ v ∈ av, okv n0 v) → ∀ (l : Launch) (D : va_G) (dA : Nat → ClassId) (ad : Nat → Nat) (sz : Nat), Met l y (Cond.code y M.2.1 M.2.2.1 M.2.2.2.1 :: WS) ({ frames := M.2.2.2.2.1, cells := n1 - n0, slots := szL n1 - szL n0, locals := M.2.2.2.2.2.1 }) (Pm n0 av ρ σ D dA ad sz) (Qm n0 n1 r D dA ad (Af n0 ad sz)) (n1 - n0) (szL n1 - szL n0) (Af n0 ad sz)
theorem Pm_blind {n0 : Nat} {av : List V} {ρ σ : Mem} {D : va_G} {dA : Nat → ClassId} {ad : Nat → Nat} {sz : Nat} : FrameBlind (Pm n0 av ρ σ D dA ad sz) := fun a U g mk q => by
  obtain ⟨q0, q1, qP, qD, qK, qS⟩ := q
  exact ⟨q0, q1, qP, qD, va_K.moved (u := U) (U := U.calling g mk a) (Vm.Alike.refl U.vm) qK, Sk.same (u := U) rfl qS⟩
def lav : List V → List V
  | [] => []
  | v :: av => if v.1 = 1 then v :: (9, 0) :: lav av else v :: lav av
theorem lav_len {ad : Nat → Nat} : ∀ av : List V, (lg_sl (av.map (rv ad))).length = (lav av).length := by
  intro av
  induction av with
  | nil => rfl
  | cons v av ih =>
    unfold lav
    rw [List.map_cons]
    unfold lg_sl at ih ⊢
    rw [List.flatMap_cons, List.length_append, ih, rv_cat]
    by_cases h : v.1 = 1
    · simp [h]; omega
    · simp [h]; omega
theorem lz_pad {ad : Nat → Nat} (k : Nat) : ∀ j, lz ad j (List.replicate k (9, 0)) = [] := by
  induction k with
  | zero => intro j; rfl
  | succ k ih => intro j; rw [List.replicate_succ]; unfold lz; rw [if_pos rfl]; exact ih _
theorem lz_lav {ad : Nat → Nat} {k : Nat} : ∀ (av : List V) (j : Nat), (∀ v ∈ av, v.1 ≠ 9) → lz ad j (lav av ++ List.replicate k (9, 0)) = lv_args j (av.map (rv ad)) := by
  intro av
  induction av with
  | nil => intro j _; exact lz_pad k j
  | cons v av ih =>
    intro j h9
    have hv := h9 v List.mem_cons_self
    have ht := fun j => ih j (fun u hu => h9 u (List.mem_cons_of_mem _ hu))
    unfold lav
    rw [List.map_cons]
    unfold lv_args
    rw [rv_cat]
    by_cases h : v.1 = 1
    · rw [if_pos h, if_pos (by rw [if_pos h])]
      rw [List.cons_append, List.cons_append]
      unfold lz
      rw [if_neg hv]
      unfold lz
      rw [if_pos rfl, ht]
    · rw [if_neg h, if_neg (by rw [if_neg h]; decide)]
      rw [List.cons_append]
      unfold lz
      rw [if_neg hv, ht]
theorem lav_ok {n : Nat} : ∀ av : List V, (∀ v ∈ av, okv n v) → ∀ v ∈ lav av, okv n v := by
  intro av
  induction av with
  | nil => intro _ v hv; cases hv
  | cons u av ih =>
    intro h v hv
    have ht := ih (cons_ok h).2
    unfold lav at hv
    split at hv
    · rcases List.mem_cons.mp hv with q | q
      · rw [q]; exact (cons_ok h).1
      · rcases List.mem_cons.mp q with q | q
        · rw [q]; trivial
        · exact ht v q
    · rcases List.mem_cons.mp hv with q | q
      · rw [q]; exact (cons_ok h).1
      · exact ht v q
theorem Ms.of {y : MethodName} {M : MD} {n0 n1 : Nat} {av : List V} {ρ σ : Mem} {r : Option V × Mem × Mem} (k : Nat) (hy : plainName y.cls = true) (hown : y.cls = M.1) (hinit : M.2.2.2.2.2.2.1 = true → y.name = "<init>") (hex : ∀ s A ad, M.2.2.2.2.2.2.2 s A ad) (h9 : av.all (fun v => v.1 != 9) = true) (hlen : (lav av).length + k = M.2.2.1) (h : Ev M n0 n1 r 0 n0 ρ σ (lav av ++ List.replicate k (9, 0)) []) : Ms y M n0 n1 av ρ σ r := by
  intro hp h01 h90 hav l D dA ad sz
  refine Met.ofW (cc := M.2.1) (maxL := M.2.2.1) (ret := M.2.2.2.1) hy rfl ?_
  intro p e s m args below meth c s₁ B hml hv
  obtain ⟨rfl, hsz, hP, hD0, hK, hSk⟩ := hv
  have hts := atoms_spec (ws := Cond.code y M.2.1 M.2.2.1 M.2.2.2.1 :: WS) B.pre
  have ho : s.vm.findClass M.1 = some m.cls := by rw [← hown]; exact findClass_of_methodNamed B.named
  subst hsz
  have h9' : ∀ v ∈ av, v.1 ≠ 9 := fun v hv => by have := List.all_eq_true.mp h9 v hv; simpa using this
  have hl := lv_entry (av.map (rv ad)) (n := M.2.2.1) (by rw [lav_len]; omega)
  rw [lg_entry_eq]
  generalize (lg_sl (av.map (rv ad)) ++ List.replicate (M.2.2.1 - (lg_sl (av.map (rv ad))).length) Slot.unset).toArray = ls at hl ⊢
  rw [← lz_lav (k := k) av 0 h9'] at hl
  have hD : va_D (Af n0 ad s.heap.size) (wl dA ad ρ σ n0) := ⟨hD0.1, fun i q hq => by
    have hi : i < n0 := by have := (List.getElem?_eq_some_iff.mp hq).1; simpa [wl] using this
    rw [wl_get hi] at hq
    cases hq
    exact Or.inl ⟨i, hi, rfl⟩⟩
  have := h p l e (headSpec (Cond.code y M.2.1 M.2.2.1 M.2.2.2.1 :: WS) { frames := M.2.2.2.2.1, cells := n1 - n0, slots := szL n1 - szL n0, locals := M.2.2.2.2.2.1 }).room s m (av.map (rv ad)).toArray below meth c (Af n0 ad s.heap.size) s.heap [] D dA ad ad ls
    ⟨B.exec, B.bytes, B.returns, hml, ho, fun w hw => hts w (List.mem_cons_of_mem _ hw), B.notSynchronized, Nat.le_refl _, Nat.le_refl _, Nat.le_refl _, Nat.le_refl _, fun hi => by rw [(name_of_methodNamed B.named B.method).1]; exact hinit hi⟩
    ⟨hK, hSk, fun q hq => Or.inr hq, fun k hk => Or.inl ⟨k, hk, rfl⟩, hex _ _ _⟩
    ⟨hP, hD, va_S.rf, fun _ _ => rfl, fun _ _ => rfl, hp, Nat.le_refl _, h01, h90⟩
    hl (fun v hv => by
      rcases List.mem_append.mp hv with q | q
      · exact lav_ok av hav v q
      · rw [(List.mem_replicate.mp q).2]; trivial) (by simp; omega) (fun v hv => by cases hv)
  rw [Nat.sub_self, Nat.sub_self] at this
  exact this
theorem ev_iret {M : MD} {n0 n1 : Nat} {r : Option V × Mem × Mem} {pc : Nat} {ρ σ : Mem} {L : List V} {x : Int} (hd : decode M.2.1 pc = .ok (.ireturn, 1)) (hr : M.2.2.2.1 = some .int) (he : (some (0, x), ρ, σ) = r) : Ev M n0 n1 r pc n1 ρ σ L [(0, x)] := by
  intro p l e Rm s m args below meth c A H locs D dA ad0 ad ls C K h hl hL hn hs
  have hx := C.1
  have hb := C.2.1
  subst he
  exact W.iret (v := Int32.ofInt x) hx hb (by rw [C.2.2.1, hr]) (fun t ht hW => ⟨⟨ad, h.2.2.2.1, h.2.2.2.2.1, rfl, fun v hv => by cases hv; exact (cons_ok hs).1, by rw [ht]; exact h.1, h.2.1, h.2.2.2.2.2.1, h.2.2.2.2.2.2.1, h.2.2.2.2.2.2.2.2⟩, h.2.2.1.F ht⟩) h.2.2.1.2.2 hd C.2.2.2.2.2.2.1
theorem ev_lret {M : MD} {n0 n1 : Nat} {r : Option V × Mem × Mem} {pc : Nat} {ρ σ : Mem} {L : List V} {x : Int} (hd : decode M.2.1 pc = .ok (.lreturn, 1)) (hr : M.2.2.2.1 = some .long) (he : (some (1, x), ρ, σ) = r) : Ev M n0 n1 r pc n1 ρ σ L [(1, x)] := by
  intro p l e Rm s m args below meth c A H locs D dA ad0 ad ls C K h hl hL hn hs
  have hx := C.1
  have hb := C.2.1
  subst he
  exact W.lret (v := Int64.ofInt x) hx hb (by rw [C.2.2.1, hr]) (fun t ht hW => ⟨⟨ad, h.2.2.2.1, h.2.2.2.2.1, rfl, fun v hv => by cases hv; exact (cons_ok hs).1, by rw [ht]; exact h.1, h.2.1, h.2.2.2.2.2.1, h.2.2.2.2.2.2.1, h.2.2.2.2.2.2.2.2⟩, h.2.2.1.F ht⟩) h.2.2.1.2.2 hd C.2.2.2.2.2.2.1
theorem ev_zret {M : MD} {n0 n1 : Nat} {r : Option V × Mem × Mem} {pc : Nat} {ρ σ : Mem} {L : List V} {x : Int} (hd : decode M.2.1 pc = .ok (.ireturn, 1)) (hr : M.2.2.2.1 = some .boolean) (he : chk (x = 0 ∨ x = 1) (some (some (0, x), ρ, σ)) = some r) : Ev M n0 n1 r pc n1 ρ σ L [(0, x)] := by
  intro p l e Rm s m args below meth c A H locs D dA ad0 ad ls C K h hl hL hn hs
  have hx := C.1
  have hb := C.2.1
  obtain ⟨hz, he⟩ := chk_of he
  cases he
  exact W.zret (v := Int32.ofInt x) (ty := .boolean) hx hb (by rw [C.2.2.1, hr]) (by rcases hz with q | q <;> subst q <;> rfl) (fun t ht hW => ⟨⟨ad, h.2.2.2.1, h.2.2.2.2.1, rfl, fun v hv => by cases hv; exact (cons_ok hs).1, by rw [ht]; exact h.1, h.2.1, h.2.2.2.2.2.1, h.2.2.2.2.2.2.1, h.2.2.2.2.2.2.2.2⟩, h.2.2.1.F ht⟩) h.2.2.1.2.2 hd C.2.2.2.2.2.2.1
theorem ev_vret {M : MD} {n0 n1 : Nat} {r : Option V × Mem × Mem} {pc : Nat} {ρ σ : Mem} {L : List V} (hd : decode M.2.1 pc = .ok (.return_, 1)) (hr : M.2.2.2.1 = none) (he : (none, ρ, σ) = r) : Ev M n0 n1 r pc n1 ρ σ L [] := by
  intro p l e Rm s m args below meth c A H locs D dA ad0 ad ls C K h hl hL hn hs
  have hx := C.1
  have hb := C.2.1
  subst he
  exact W.vret hx hb (by rw [C.2.2.1, hr]) (fun t ht hW => ⟨⟨ad, h.2.2.2.1, h.2.2.2.2.1, rfl, (fun v hv => by cases hv), by rw [ht]; exact h.1, h.2.1, h.2.2.2.2.2.1, h.2.2.2.2.2.2.1, h.2.2.2.2.2.2.2.2⟩, h.2.2.1.F ht⟩) h.2.2.1.2.2 hd C.2.2.2.2.2.2.1
theorem ev_aret {M : MD} {n0 n1 : Nat} {r : Option V × Mem × Mem} {pc : Nat} {ρ σ : Mem} {L : List V} {x : Int} {cn : String} (hd : decode M.2.1 pc = .ok (.areturn, 1)) (hr : M.2.2.2.1 = some (.object cn)) (he : (some (2, x), ρ, σ) = r) : Ev M n0 n1 r pc n1 ρ σ L [(2, x)] := by
  intro p l e Rm s m args below meth c A H locs D dA ad0 ad ls C K h hl hL hn hs
  have hx := C.1
  have hb := C.2.1
  subst he
  exact W.aret (v := rv ad (2, x)) (rt := .object cn) hx hb (by rw [C.2.2.1, hr]) (Or.inl ⟨cn, rfl⟩) (by show (if x < 0 then Value.null else _) = _ ∨ ∃ a, (if x < 0 then Value.null else _) = _; split; exact Or.inl rfl; exact Or.inr ⟨_, rfl⟩) (fun t ht hW => ⟨⟨ad, h.2.2.2.1, h.2.2.2.2.1, rfl, fun v hv => by cases hv; exact (cons_ok hs).1, by rw [ht]; exact h.1, h.2.1, h.2.2.2.2.2.1, h.2.2.2.2.2.2.1, h.2.2.2.2.2.2.2.2⟩, h.2.2.1.F ht⟩) h.2.2.1.2.2 hd C.2.2.2.2.2.2.1
theorem gWS {y : MethodName} {c : ByteArray} {nL : Nat} {rt : Option FieldType} (h : Cond.code y c nL rt ∈ WS) : GoodIn WS (Cond.code y c nL rt :: WS) := by
  intro x hx
  rcases List.mem_cons.mp hx with q | q
  · rw [q]; exact ⟨h, good_of_word (WS_good h)⟩
  · exact ⟨q, good_of_word (WS_good q)⟩
theorem cat_sum {ad : Nat → Nat} {st : List V} (h : st.length ≤ 4) : ((st.map (rv ad)).map fun v => v.category).sum ≤ 8 := by
  have : ∀ l : List V, ((l.map (rv ad)).map fun v => v.category).sum ≤ 2 * l.length := by
    intro l
    induction l with
    | nil => simp
    | cons v l ih =>
      simp only [List.map_cons, List.sum_cons, List.length_cons]
      have : (rv ad v).category ≤ 2 := by rw [rv_cat]; split <;> omega
      omega
  have := this st
  omega
/-- what is behind a call, out of the callee's contract -/
theorem ev_back {M : MD} {n0 n1 n n2 : Nat} {r r2 : Option V × Mem × Mem} {pc : Nat} {ρ σ : Mem} {L st st0 : List V} {p : Program} {l : Launch} {e : Env} {Rm : Room} {s : State} {m : MethodId} {args : Array Value} {below : List Frame} {meth : Method} {c : Code} {A : Nat → Prop} {H : Heap} {locs : List Loc} {D : va_G} {dA : Nat → ClassId} {ad0 ad : Nat → Nat} {ls : Array Slot} {a : Array Value} (C : Cx M n0 n1 p Rm s m args meth c) (K : Cw M D dA n0 ad0 A s) (h : Ch D dA n0 n1 n ad0 ad ρ σ A s.heap H locs) (hl : lv_has ls M.2.2.1 (lz ad 0 L)) (hL : ∀ v ∈ L, okv n v) (hn : L.length = M.2.2.1) (hs : ∀ v ∈ st, okv n v) (h2 : n ≤ n2 ∧ n2 ≤ n1)
    (hr : va_Run p l e Rm s m args below meth c H locs (n - n0) (szL n - szL n0) (n2 - n) (szL n2 - szL n) (F0 m pc ls (st0.map (rv ad))) (st.map (rv ad)) (Qm n n2 r2 D dA ad (Af n ad H.size) a) (Af n ad H.size))
    (hh : Ev M n0 n1 r (pc + 3) n2 r2.2.1 r2.2.2 L (r2.1.toList ++ st)) : W p l e Rm s m args below meth c H locs (n - n0) (szL n - szL n0) (MQ below (Qm n0 n1 r D dA ad0 A) args s (n1 - n0) (szL n1 - szL n0) A) (F0 m pc ls (st0.map (rv ad))) := by
  intro T hT X
  obtain ⟨v, st₀, t, T', Lc, h0', X', hLc, e1, e2, ⟨⟨ad', a1, a2, hv, hok, hP', hD', hpk, -, -⟩, hF⟩, stp⟩ := hr T hT X
  have hAf : ∀ q, Af n ad H.size q → A q := by
    intro q hq
    rcases hq with ⟨k, hk, rfl⟩ | hq
    · exact h.2.1.2 k _ (wl_get hk)
    · exact K.2.2.1 q (Nat.le_trans h.2.2.1.1 hq)
  have ev : v = r2.1.map (rv ad') := by cases hv; rfl
  have b1 : ∀ k, k < n0 → ad' k = ad0 k := fun k hk => by rw [a1 k (by have := h.2.2.2.2.2.2.1; omega)]; exact h.2.2.2.1 k hk
  have b2 : ∀ k, 100000 ≤ k → ad' k = ad0 k := fun k hk => by rw [a2 k hk]; exact h.2.2.2.2.1 k hk
  have hz := hF.1
  have hk1 := hF.2
  rw [h0'] at hz hk1
  have hS : va_S A s.heap T'.heap (locs ++ Lc) := ⟨Nat.le_trans h.2.2.1.1 (by rw [e1]; exact hz), fun q h1 h2 => by rw [e1, hk1 q (Nat.lt_of_lt_of_le h1 h.2.2.1.1) (fun z => h2 (hAf q z))]; exact h.2.2.1.2.1 q h1 h2, fun q hq => by
    rcases List.mem_append.mp hq with g | g
    · exact h.2.2.1.2.2 q g
    · exact hAf _ (hLc q g)⟩
  have hw := hh p l e Rm s m args below meth c A T'.heap (locs ++ Lc) D dA ad0 ad' ls C K
    ⟨by rw [e1]; exact hP', hD'.weaken (fun k q _ g => hAf _ g), hS, b1, b2, hpk, Nat.le_trans h.2.2.2.2.2.2.1 h2.1, h2.2, h.2.2.2.2.2.2.2.2⟩
    (by rw [lz_agree a1 a2 L 0 hL]; exact hl) (fun v hv => okv_mono h2.1 (hL v hv)) hn (fun v hv => by
      rcases List.mem_append.mp hv with g | g
      · exact hok v (by cases hq : r2.1 with | none => rw [hq] at g; cases g | some u => rw [hq] at g; rw [List.mem_singleton.mp g])
      · exact okv_mono h2.1 (hs v g))
  have q1 : n - n0 + (n2 - n) = n2 - n0 := by have := h.2.2.2.2.2.2.1; omega
  have q2 : szL n - szL n0 + (szL n2 - szL n) = szL n2 - szL n0 := by
    have := szL_mono h.2.2.2.2.2.2.1
    have := szL_mono h2.1
    omega
  rw [q1, q2] at X'
  obtain ⟨t2, g1, g2⟩ := hw T' rfl X'
  refine ⟨t2, stp t2 ?_, g2⟩
  have e3 : (r2.1.toList ++ st).map (rv ad') = v.toList ++ st.map (rv ad) := by
    rw [List.map_append, map_agree a1 a2 hs, ev]
    cases r2.1 <;> rfl
  rw [e3] at g1
  exact g1
theorem Pm_call {M : MD} {n0 n1 n : Nat} {av : List V} {ρ σ : Mem} {s : State} {A : Nat → Prop} {H : Heap} {locs : List Loc} {D : va_G} {dA : Nat → ClassId} {ad0 ad : Nat → Nat} (K : Cw M D dA n0 ad0 A s) (h : Ch D dA n0 n1 n ad0 ad ρ σ A s.heap H locs) : ∀ U : State, U.heap = H → s.WarmedH U.vm → Pm n av ρ σ D dA ad H.size (av.map (rv ad)).toArray U := by
  intro U hU hW
  have hAf : ∀ q, Af n ad H.size q → A q := by
    intro q hq
    rcases hq with ⟨k, hk, rfl⟩ | hq
    · exact h.2.1.2 k _ (wl_get hk)
    · exact K.2.2.1 q (Nat.le_trans h.2.2.1.1 hq)
  refine ⟨rfl, by rw [hU], by rw [hU]; exact h.1, h.2.1.weaken (fun _ _ _ _ => trivial), va_K.moved hW.alike K.1, ?_⟩
  rw [hU]
  exact Sk.warm hW (((K.2.1.ad h.2.2.2.2.1).kept h.2.2.1.2.1) hAf)
/-- what a call's words are -/
def ML (own : String) (idx : Nat) (y : MethodName) (My : MD) : Prop := Cond.methodLink own idx y ∈ WS ∧ Cond.initialized y.cls ∈ WS ∧ Cond.code y My.2.1 My.2.2.1 My.2.2.2.1 ∈ WS ∧ (y.cls ≠ "java/lang/invoke/MethodHandle" ∧ y.cls ≠ "java/lang/invoke/VarHandle")
def MLn (own : String) (idx : Nat) (y : MethodName) (My : MD) : Prop := (∃ host, (own, idx, y, host) ∈ nwL) ∧ Cond.initialized y.cls ∈ WS ∧ Cond.code y My.2.1 My.2.2.1 My.2.2.2.1 ∈ WS ∧ (y.cls ≠ "java/lang/invoke/MethodHandle" ∧ y.cls ≠ "java/lang/invoke/VarHandle")
def MLv (y : MethodName) : Prop := Cond.instanceMethod y ∈ WS ∧ Cond.selects y.cls y y ∈ WS
def rmOk (M My : MD) : Prop := My.2.2.2.2.1 + 1 ≤ M.2.2.2.2.1 ∧ 8 + (My.2.2.1 + 11) + My.2.2.2.2.2.1 ≤ M.2.2.2.2.2.1
theorem sig_len {y : MethodName} {k : Nat} (h : (parseMethodDescriptor y.desc).map (fun d => d.parameters.length) = some k) : ∀ sig, parseMethodDescriptor y.desc = some sig → k = sig.parameters.length := fun sig hs => by
  rw [hs] at h
  exact (Option.some.inj h).symm
theorem ev_invV {M : MD} {n0 n1 : Nat} {r : Option V × Mem × Mem} {pc n : Nat} {ρ σ : Mem} {L st : List V} {idx n2 : Nat} {y : MethodName} {My : MD} {k : Int} {av : List V} {r2 : Option V × Mem × Mem} (hd : decode M.2.1 pc = .ok (.invokevirtual idx, 3)) (hw : ML M.1 idx y My) (hv : MLv y) {ci nf N : Nat} {T : u_T} (hcl : vwCl[ci]? = some (y.cls, T, N)) (hsh : shp k.toNat = (ci + 5, nf)) (h0 : 0 ≤ k) (hkn : k < n) (hsg : (parseMethodDescriptor y.desc).map (fun d => d.parameters.length) = some av.length) (hR : rmOk M My) (hst : st.length ≤ 4) (hm : Ms y My n n2 ((2, k) :: av) ρ σ r2) (h2 : n ≤ n2 ∧ n2 ≤ n1) (hh : Ev M n0 n1 r (pc + 3) n2 r2.2.1 r2.2.2 L (r2.1.toList ++ st)) : Ev M n0 n1 r (pc) (n) (ρ) (σ) (L) (av.reverse ++ (2, k) :: st) := by
  intro p l e Rm s m args below meth c A H locs D dA ad0 ad ls C K h hl hL hn hs
  have hx := C.1
  have hb := C.2.1
  obtain ⟨z, rfl⟩ := Int.eq_ofNat_of_zero_le h0
  have hq : z < n := by omega
  have hsq : shp z = (ci + 5, nf) := by simpa using hsh
  have hM := hm h.2.2.2.2.2.1 h2.1 (Nat.le_trans h2.2 h.2.2.2.2.2.2.2.2) (fun v hv9 => hs v (by rcases List.mem_cons.mp hv9 with q | q; rw [q]; exact List.mem_append_right _ List.mem_cons_self; exact List.mem_append_left _ (List.mem_reverse.mpr q))) l D dA ad H.size
  refine ev_back C K h hl hL hn (fun v hv9 => hs v (List.mem_append_right _ (List.mem_cons_of_mem _ hv9))) h2 (va_runV (nL := M.2.2.1) (own := M.1) (y := y) (bytes := My.2.1) (maxL := My.2.2.1) (ret := My.2.2.2.1) (n := av.length) (As := av.map (rv ad)) (Ts := WS) ⟨hx, hb, C.2.2.2.1, C.2.2.2.2.1, C.2.2.2.2.2.1⟩ hM ⟨⟨rfl, rfl, Nat.le_trans hR.1 C.2.2.2.2.2.2.2.1, Nat.le_trans hR.2 C.2.2.2.2.2.2.2.2.1, pay_in C.2.2.2.2.2.1 (gWS hw.2.2.1), List.mem_cons_self, C.2.2.2.2.2.1 _ hw.2.2.1, C.2.2.2.2.2.1 _ hw.2.1, hw.2.2.2, sig_len hsg, C.2.2.2.2.2.1 _ hw.1⟩, C.2.2.2.2.2.1 _ hv.1, C.2.2.2.2.2.1 _ hv.2⟩ ⟨Pm_blind, va_recv (D := D) (tys := TY dA) K.1 h.1 hcl (by rw [wl_get hq, cel_obj hsq]), fun U hU hW => by have := Pm_call (av := (2, (z : Int)) :: av) K h U hU hW; rw [List.map_cons, rv_ref h0, Int.toNat_natCast] at this; exact this⟩ rfl (List.length_map _) hl.1 (by show (List.map (rv ad) (av.reverse ++ (2, (z : Int)) :: st)) = (av.map (rv ad)).reverse ++ Value.ref (ad z) :: st.map (rv ad); rw [List.map_append, List.map_reverse, List.map_cons, rv_ref h0, Int.toNat_natCast]) (lv_room (cat_sum hst)) hd ⟨by have := C.2.2.2.2.2.2.2.2.2.1; have := h.2.2.2.2.2.2.1; omega, by have := C.2.2.2.2.2.2.2.2.2.2.1; have := szL_mono h.2.2.2.2.2.2.1; have := szL_mono h2.1; have := szL_mono h2.2; omega⟩) hh
theorem ev_invS {M : MD} {n0 n1 : Nat} {r : Option V × Mem × Mem} {pc n : Nat} {ρ σ : Mem} {L st : List V} {idx n2 : Nat} {y : MethodName} {My : MD} {av : List V} {r2 : Option V × Mem × Mem} (hd : decode M.2.1 pc = .ok (.invokestatic idx, 3)) (hw : ML M.1 idx y My) (hv : Cond.static y ∈ WS) (hsg : (parseMethodDescriptor y.desc).map (fun d => d.parameters.length) = some av.length) (hR : rmOk M My) (hst : st.length ≤ 4) (hm : Ms y My n n2 (av) ρ σ r2) (h2 : n ≤ n2 ∧ n2 ≤ n1) (hh : Ev M n0 n1 r (pc + 3) n2 r2.2.1 r2.2.2 L (r2.1.toList ++ st)) : Ev M n0 n1 r (pc) (n) (ρ) (σ) (L) (av.reverse ++ st) := by
  intro p l e Rm s m args below meth c A H locs D dA ad0 ad ls C K h hl hL hn hs
  have hx := C.1
  have hb := C.2.1
  have hM := hm h.2.2.2.2.2.1 h2.1 (Nat.le_trans h2.2 h.2.2.2.2.2.2.2.2) (fun v hv9 => hs v (List.mem_append_left _ (List.mem_reverse.mpr hv9))) l D dA ad H.size
  refine ev_back C K h hl hL hn (fun v hv9 => hs v (List.mem_append_right _ hv9)) h2 (va_runS (nL := M.2.2.1) (own := M.1) (y := y) (bytes := My.2.1) (maxL := My.2.2.1) (ret := My.2.2.2.1) (n := av.length) (As := av.map (rv ad)) (Ts := WS) ⟨hx, hb, C.2.2.2.1, C.2.2.2.2.1, C.2.2.2.2.2.1⟩ hM ⟨⟨rfl, rfl, Nat.le_trans hR.1 C.2.2.2.2.2.2.2.1, Nat.le_trans hR.2 C.2.2.2.2.2.2.2.2.1, pay_in C.2.2.2.2.2.1 (gWS hw.2.2.1), List.mem_cons_self, C.2.2.2.2.2.1 _ hw.2.2.1, C.2.2.2.2.2.1 _ hw.2.1, hw.2.2.2, sig_len hsg, C.2.2.2.2.2.1 _ hw.1⟩, C.2.2.2.2.2.1 _ hv⟩ ⟨Pm_blind, Pm_call K h⟩ rfl (List.length_map _) hl.1 (by show (List.map (rv ad) (av.reverse ++ st)) = (av.map (rv ad)).reverse ++ st.map (rv ad); rw [List.map_append, List.map_reverse]) (lv_room (cat_sum hst)) hd ⟨by have := C.2.2.2.2.2.2.2.2.2.1; have := h.2.2.2.2.2.2.1; omega, by have := C.2.2.2.2.2.2.2.2.2.2.1; have := szL_mono h.2.2.2.2.2.2.1; have := szL_mono h2.1; have := szL_mono h2.2; omega⟩) hh
theorem ev_invSN {M : MD} {n0 n1 : Nat} {r : Option V × Mem × Mem} {pc n : Nat} {ρ σ : Mem} {L st : List V} {idx n2 : Nat} {y : MethodName} {My : MD} {av : List V} {r2 : Option V × Mem × Mem} (hd : decode M.2.1 pc = .ok (.invokestatic idx, 3)) (hw : MLn M.1 idx y My) (hv : Cond.static y ∈ WS) (hsg : (parseMethodDescriptor y.desc).map (fun d => d.parameters.length) = some av.length) (hR : rmOk M My) (hst : st.length ≤ 4) (hm : Ms y My n n2 (av) ρ σ r2) (h2 : n ≤ n2 ∧ n2 ≤ n1) (hh : Ev M n0 n1 r (pc + 3) n2 r2.2.1 r2.2.2 L (r2.1.toList ++ st)) : Ev M n0 n1 r (pc) (n) (ρ) (σ) (L) (av.reverse ++ st) := by
  intro p l e Rm s m args below meth c A H locs D dA ad0 ad ls C K h hl hL hn hs
  have hx := C.1
  have hb := C.2.1
  obtain ⟨⟨host, hhost⟩, hw1, hw2, hw3⟩ := hw
  have hM := hm h.2.2.2.2.2.1 h2.1 (Nat.le_trans h2.2 h.2.2.2.2.2.2.2.2) (fun v hv9 => hs v (List.mem_append_left _ (List.mem_reverse.mpr hv9))) l D dA ad H.size
  refine ev_back C K h hl hL hn (fun v hv9 => hs v (List.mem_append_right _ hv9)) h2 (va_runSN (nL := M.2.2.1) (own := M.1) (y := y) (bytes := My.2.1) (maxL := My.2.2.1) (ret := My.2.2.2.1) (host := host) (n := av.length) (As := av.map (rv ad)) (Ts := WS) ⟨hx, hb, C.2.2.2.1, C.2.2.2.2.1, C.2.2.2.2.2.1⟩ hM ⟨⟨⟨rfl, rfl, Nat.le_trans hR.1 C.2.2.2.2.2.2.2.1, Nat.le_trans hR.2 C.2.2.2.2.2.2.2.2.1, pay_in C.2.2.2.2.2.1 (gWS hw2), List.mem_cons_self⟩, C.2.2.2.2.2.1 _ hw2, C.2.2.2.2.2.1 _ hw1, hw3, sig_len hsg, va_Nw.use rfl (K.2.1.2 _ hhost)⟩, C.2.2.2.2.2.1 _ hv, trivial⟩ ⟨Pm_blind, Pm_call K h⟩ rfl (List.length_map _) hl.1 (by show (List.map (rv ad) (av.reverse ++ st)) = (av.map (rv ad)).reverse ++ st.map (rv ad); rw [List.map_append, List.map_reverse]) (lv_room (cat_sum hst)) hd ⟨by have := C.2.2.2.2.2.2.2.2.2.1; have := h.2.2.2.2.2.2.1; omega, by have := C.2.2.2.2.2.2.2.2.2.2.1; have := szL_mono h.2.2.2.2.2.2.1; have := szL_mono h2.1; have := szL_mono h2.2; omega⟩) hh
theorem ev_invI {M : MD} {n0 n1 : Nat} {r : Option V × Mem × Mem} {pc n : Nat} {ρ σ : Mem} {L st : List V} {idx n2 : Nat} {y : MethodName} {My : MD} {k : Int} {av : List V} {r2 : Option V × Mem × Mem} (hd : decode M.2.1 pc = .ok (.invokespecial idx, 3)) (hw : ML M.1 idx y My) (hv : Cond.instanceMethod y ∈ WS) (hyn : y.name = "<init>") (h0 : 0 ≤ k) (hrt : My.2.2.2.1 = none) (hsg : (parseMethodDescriptor y.desc).map (fun d => d.parameters.length) = some av.length) (hR : rmOk M My) (hst : st.length ≤ 4) (hm : Ms y My n n2 ((2, k) :: av) ρ σ r2) (h2 : n ≤ n2 ∧ n2 ≤ n1) (hh : Ev M n0 n1 r (pc + 3) n2 r2.2.1 r2.2.2 L (r2.1.toList ++ st)) : Ev M n0 n1 r (pc) (n) (ρ) (σ) (L) (av.reverse ++ (2, k) :: st) := by
  intro p l e Rm s m args below meth c A H locs D dA ad0 ad ls C K h hl hL hn hs
  have hx := C.1
  have hb := C.2.1
  obtain ⟨z, rfl⟩ := Int.eq_ofNat_of_zero_le h0
  have hM := hm h.2.2.2.2.2.1 h2.1 (Nat.le_trans h2.2 h.2.2.2.2.2.2.2.2) (fun v hv9 => hs v (by rcases List.mem_cons.mp hv9 with q | q; rw [q]; exact List.mem_append_right _ List.mem_cons_self; exact List.mem_append_left _ (List.mem_reverse.mpr q))) l D dA ad H.size
  unfold ML at hw
  rw [hrt] at hM hw
  refine ev_back C K h hl hL hn (fun v hv9 => hs v (List.mem_append_right _ (List.mem_cons_of_mem _ hv9))) h2 (va_runI (nL := M.2.2.1) (own := M.1) (y := y) (bytes := My.2.1) (maxL := My.2.2.1)  (n := av.length) (As := av.map (rv ad)) (Ts := WS) ⟨hx, hb, C.2.2.2.1, C.2.2.2.2.1, C.2.2.2.2.2.1⟩ hM ⟨⟨rfl, rfl, Nat.le_trans hR.1 C.2.2.2.2.2.2.2.1, Nat.le_trans hR.2 C.2.2.2.2.2.2.2.2.1, pay_in C.2.2.2.2.2.1 (gWS hw.2.2.1), List.mem_cons_self, C.2.2.2.2.2.1 _ hw.2.2.1, C.2.2.2.2.2.1 _ hw.2.1, hw.2.2.2, sig_len hsg, C.2.2.2.2.2.1 _ hw.1⟩, hyn, C.2.2.2.2.2.1 _ hv⟩ ⟨Pm_blind, fun U hU hW => by have := Pm_call (av := (2, (z : Int)) :: av) K h U hU hW; rw [List.map_cons, rv_ref h0, Int.toNat_natCast] at this; exact this⟩ rfl (List.length_map _) hl.1 (by show (List.map (rv ad) (av.reverse ++ (2, (z : Int)) :: st)) = (av.map (rv ad)).reverse ++ Value.ref (ad z) :: st.map (rv ad); rw [List.map_append, List.map_reverse, List.map_cons, rv_ref h0, Int.toNat_natCast]) (lv_room (cat_sum hst)) hd ⟨by have := C.2.2.2.2.2.2.2.2.2.1; have := h.2.2.2.2.2.2.1; omega, by have := C.2.2.2.2.2.2.2.2.2.2.1; have := szL_mono h.2.2.2.2.2.2.1; have := szL_mono h2.1; have := szL_mono h2.2; omega⟩) hh
theorem ev_invIN {M : MD} {n0 n1 : Nat} {r : Option V × Mem × Mem} {pc n : Nat} {ρ σ : Mem} {L st : List V} {idx n2 : Nat} {y : MethodName} {My : MD} {k : Int} {av : List V} {r2 : Option V × Mem × Mem} (hd : decode M.2.1 pc = .ok (.invokespecial idx, 3)) (hw : MLn M.1 idx y My) (hv : Cond.instanceMethod y ∈ WS) (hyn : y.name = "<init>") (h0 : 0 ≤ k) (hrt : My.2.2.2.1 = none) (hsg : (parseMethodDescriptor y.desc).map (fun d => d.parameters.length) = some av.length) (hR : rmOk M My) (hst : st.length ≤ 4) (hm : Ms y My n n2 ((2, k) :: av) ρ σ r2) (h2 : n ≤ n2 ∧ n2 ≤ n1) (hh : Ev M n0 n1 r (pc + 3) n2 r2.2.1 r2.2.2 L (r2.1.toList ++ st)) : Ev M n0 n1 r (pc) (n) (ρ) (σ) (L) (av.reverse ++ (2, k) :: st) := by
  intro p l e Rm s m args below meth c A H locs D dA ad0 ad ls C K h hl hL hn hs
  have hx := C.1
  have hb := C.2.1
  obtain ⟨z, rfl⟩ := Int.eq_ofNat_of_zero_le h0
  obtain ⟨⟨host, hhost⟩, hw1, hw2, hw3⟩ := hw
  have hM := hm h.2.2.2.2.2.1 h2.1 (Nat.le_trans h2.2 h.2.2.2.2.2.2.2.2) (fun v hv9 => hs v (by rcases List.mem_cons.mp hv9 with q | q; rw [q]; exact List.mem_append_right _ List.mem_cons_self; exact List.mem_append_left _ (List.mem_reverse.mpr q))) l D dA ad H.size
  rw [hrt] at hM hw2
  refine ev_back C K h hl hL hn (fun v hv9 => hs v (List.mem_append_right _ (List.mem_cons_of_mem _ hv9))) h2 (va_runIN (nL := M.2.2.1) (own := M.1) (y := y) (bytes := My.2.1) (maxL := My.2.2.1)  (host := host) (n := av.length) (As := av.map (rv ad)) (Ts := WS) ⟨hx, hb, C.2.2.2.1, C.2.2.2.2.1, C.2.2.2.2.2.1⟩ hM ⟨⟨⟨rfl, rfl, Nat.le_trans hR.1 C.2.2.2.2.2.2.2.1, Nat.le_trans hR.2 C.2.2.2.2.2.2.2.2.1, pay_in C.2.2.2.2.2.1 (gWS hw2), List.mem_cons_self⟩, C.2.2.2.2.2.1 _ hw2, C.2.2.2.2.2.1 _ hw1, hw3, sig_len hsg, va_Nw.use rfl (K.2.1.2 _ hhost)⟩, hyn, C.2.2.2.2.2.1 _ hv⟩ ⟨Pm_blind, fun U hU hW => by have := Pm_call (av := (2, (z : Int)) :: av) K h U hU hW; rw [List.map_cons, rv_ref h0, Int.toNat_natCast] at this; exact this⟩ rfl (List.length_map _) hl.1 (by show (List.map (rv ad) (av.reverse ++ (2, (z : Int)) :: st)) = (av.map (rv ad)).reverse ++ Value.ref (ad z) :: st.map (rv ad); rw [List.map_append, List.map_reverse, List.map_cons, rv_ref h0, Int.toNat_natCast]) (lv_room (cat_sum hst)) hd ⟨by have := C.2.2.2.2.2.2.2.2.2.1; have := h.2.2.2.2.2.2.1; omega, by have := C.2.2.2.2.2.2.2.2.2.2.1; have := szL_mono h.2.2.2.2.2.2.1; have := szL_mono h2.1; have := szL_mono h2.2; omega⟩) hh
