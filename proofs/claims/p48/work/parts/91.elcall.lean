def stc : List V → Nat
  | [] => 0
  | v :: st => (if v.1 = 1 then 2 else 1) + stc st
theorem stc_eq {ad : Nat → Nat} : ∀ st : List V, ((st.map (rv ad)).map fun v => v.category).sum = stc st
  | [] => rfl
  | v :: st => by
    rw [List.map_cons, List.map_cons, List.sum_cons, stc_eq st, rv_cat]
    rfl
theorem stc_sum {ad : Nat → Nat} {st : List V} (h : stc st ≤ 8) : ((st.map (rv ad)).map fun v => v.category).sum ≤ 8 := by rw [stc_eq]; exact h
/-- the ends -/
theorem el_iret {S : XS} {M : MD} {f : Bool × Bool} {z0 z1 : Nat × Nat} {r : Option V × LM} {pc : Nat} {μ : LM} {L : List V} {x : Int} (hd : decode M.2.1 pc = .ok (.ireturn, 1)) (hr : M.2.2.2.1 = some .int) (hf : f.1 = true → f.2 = true) (hz : μ.1 = z1.1 ∧ μ.2.2.2.1 = z1.2) (he : (some (0, x), μ) = r) : El S M f z0 z1 r pc μ L [(0, x)] := by
  intro p l e Rm s m args below meth c A H locs D dA ad0 ad ls C K h hl hL hn hs
  have hx := C.1
  have hb := C.2.1
  obtain ⟨z, z'⟩ := z1
  obtain ⟨rfl, rfl⟩ := hz
  subst he
  exact W.iret (v := Int32.ofInt x) hx hb (by rw [C.2.2.1, hr]) (fun t ht hW => ⟨⟨ad, h.2.2.2.1, h.2.2.2.2.1, rfl, fun v hv => by cases hv; exact (cons_ok hs).1, by rw [ht]; exact h.1, h.2.1, h.2.2.2.2.2.1, h.2.2.2.2.2.2.2.2.2.1, ⟨rfl, rfl⟩, fun q => by rw [ht]; exact h.2.2.2.2.2.2.2.2.2.2.2.2.2 (hf q)⟩, h.2.2.1.F ht⟩) h.2.2.1.2.2 hd C.2.2.2.2.2.2.1
theorem el_lret {S : XS} {M : MD} {f : Bool × Bool} {z0 z1 : Nat × Nat} {r : Option V × LM} {pc : Nat} {μ : LM} {L : List V} {x : Int} (hd : decode M.2.1 pc = .ok (.lreturn, 1)) (hr : M.2.2.2.1 = some .long) (hf : f.1 = true → f.2 = true) (hz : μ.1 = z1.1 ∧ μ.2.2.2.1 = z1.2) (he : (some (1, x), μ) = r) : El S M f z0 z1 r pc μ L [(1, x)] := by
  intro p l e Rm s m args below meth c A H locs D dA ad0 ad ls C K h hl hL hn hs
  have hx := C.1
  have hb := C.2.1
  obtain ⟨z, z'⟩ := z1
  obtain ⟨rfl, rfl⟩ := hz
  subst he
  exact W.lret (v := Int64.ofInt x) hx hb (by rw [C.2.2.1, hr]) (fun t ht hW => ⟨⟨ad, h.2.2.2.1, h.2.2.2.2.1, rfl, fun v hv => by cases hv; exact (cons_ok hs).1, by rw [ht]; exact h.1, h.2.1, h.2.2.2.2.2.1, h.2.2.2.2.2.2.2.2.2.1, ⟨rfl, rfl⟩, fun q => by rw [ht]; exact h.2.2.2.2.2.2.2.2.2.2.2.2.2 (hf q)⟩, h.2.2.1.F ht⟩) h.2.2.1.2.2 hd C.2.2.2.2.2.2.1
theorem el_zret {S : XS} {M : MD} {f : Bool × Bool} {z0 z1 : Nat × Nat} {r : Option V × LM} {pc : Nat} {μ : LM} {L : List V} {x : Int} (hd : decode M.2.1 pc = .ok (.ireturn, 1)) (hr : M.2.2.2.1 = some .boolean) (hf : f.1 = true → f.2 = true) (hz : μ.1 = z1.1 ∧ μ.2.2.2.1 = z1.2) (he : chk (x = 0 ∨ x = 1) (some (some (0, x), μ)) = some r) : El S M f z0 z1 r pc μ L [(0, x)] := by
  intro p l e Rm s m args below meth c A H locs D dA ad0 ad ls C K h hl hL hn hs
  have hx := C.1
  have hb := C.2.1
  obtain ⟨hq, he⟩ := chk_of he
  obtain ⟨z, z'⟩ := z1
  obtain ⟨rfl, rfl⟩ := hz
  cases he
  exact W.zret (v := Int32.ofInt x) (ty := .boolean) hx hb (by rw [C.2.2.1, hr]) (by rcases hq with q | q <;> subst q <;> rfl) (fun t ht hW => ⟨⟨ad, h.2.2.2.1, h.2.2.2.2.1, rfl, fun v hv => by cases hv; exact (cons_ok hs).1, by rw [ht]; exact h.1, h.2.1, h.2.2.2.2.2.1, h.2.2.2.2.2.2.2.2.2.1, ⟨rfl, rfl⟩, fun q => by rw [ht]; exact h.2.2.2.2.2.2.2.2.2.2.2.2.2 (hf q)⟩, h.2.2.1.F ht⟩) h.2.2.1.2.2 hd C.2.2.2.2.2.2.1
theorem el_aret {S : XS} {M : MD} {f : Bool × Bool} {z0 z1 : Nat × Nat} {r : Option V × LM} {pc : Nat} {μ : LM} {L : List V} {x : Int} {t : FieldType} (hd : decode M.2.1 pc = .ok (.areturn, 1)) (hr : M.2.2.2.1 = some (.array t)) (hf : f.1 = true → f.2 = true) (hz : μ.1 = z1.1 ∧ μ.2.2.2.1 = z1.2) (he : (some (3, x), μ) = r) : El S M f z0 z1 r pc μ L [(3, x)] := by
  intro p l e Rm s m args below meth c A H locs D dA ad0 ad ls C K h hl hL hn hs
  have hx := C.1
  have hb := C.2.1
  obtain ⟨z, z'⟩ := z1
  obtain ⟨rfl, rfl⟩ := hz
  subst he
  exact W.aret (v := rv ad (3, x)) (rt := .array t) hx hb (by rw [C.2.2.1, hr]) (Or.inr ⟨t, rfl⟩) (Or.inr ⟨_, rfl⟩) (fun t ht hW => ⟨⟨ad, h.2.2.2.1, h.2.2.2.2.1, rfl, fun v hv => by cases hv; exact (cons_ok hs).1, by rw [ht]; exact h.1, h.2.1, h.2.2.2.2.2.1, h.2.2.2.2.2.2.2.2.2.1, ⟨rfl, rfl⟩, fun q => by rw [ht]; exact h.2.2.2.2.2.2.2.2.2.2.2.2.2 (hf q)⟩, h.2.2.1.F ht⟩) h.2.2.1.2.2 hd C.2.2.2.2.2.2.1
/-- behind a call of the class -/
theorem el_back {S : XS} {M : MD} {κ : Bool} {z0 z1 : Nat × Nat} {n n2 nx : Nat} {r : Option V × LM} {r2 : Option V × Mem × Mem} {pc : Nat} {ρ σ η ξ : Mem} {L st st0 : List V} {p : Program} {l : Launch} {e : Env} {Rm : Room} {s : State} {m : MethodId} {args : Array Value} {below : List Frame} {meth : Method} {c : Code} {A : Nat → Prop} {H : Heap} {locs : List Loc} {D : va_G} {dA : Nat → ClassId} {ad0 ad : Nat → Nat} {ls : Array Slot} {a : Array Value} (C : Cxl S M z0 z1 p Rm s m args meth c) (K : Cwl M D dA z0 z1 ad0 A s) (h : Chl S false D dA z0 z1 (n, ρ, σ, nx, η, ξ) ad0 ad A s.heap H locs) (hl : lv_has ls M.2.2.1 (lz ad 0 L)) (hL : ∀ v ∈ L, okv n v) (hn : L.length = M.2.2.1) (hs : ∀ v ∈ st, okv n v) (h2 : n ≤ n2 ∧ n2 ≤ z1.1)
    (hr : va_Run p l e Rm s m args below meth c H locs (n - z0.1 + (nx - z0.2)) (szL n - szL z0.1 + (xz S nx - xz S z0.2)) (n2 - n) (szL n2 - szL n) (F0 m pc ls (st0.map (rv ad))) (st.map (rv ad)) (Qm n n2 r2 D dA ad (Af n ad H.size) a) (Af n ad H.size))
    (hh : El S M (κ, false) z0 z1 r (pc + 3) (n2, r2.2.1, r2.2.2, nx, η, ξ) L (r2.1.toList ++ st)) : W p l e Rm s m args below meth c H locs (n - z0.1 + (nx - z0.2)) (szL n - szL z0.1 + (xz S nx - xz S z0.2)) (MQ below (Qml S κ z0 z1 r D dA ad0 A) args s (z1.1 - z0.1 + (z1.2 - z0.2)) (szL z1.1 - szL z0.1 + (xz S z1.2 - xz S z0.2)) A) (F0 m pc ls (st0.map (rv ad))) := by
  intro T hT X
  obtain ⟨hP, hD, hS, hA0, hA1, hpk, hz0, hz1, h9, hpx, hx0, hx1, hx9, -⟩ := id h
  have hz0 : z0.1 ≤ n := hz0
  obtain ⟨v, st₀, t, T', Lc, h0', X', hLc, e1, e2, ⟨⟨ad', a1, a2, hv, hok, hP', hD', hpk', -, -⟩, hF⟩, stp⟩ := hr T hT X
  have hAf : ∀ q, Af n ad H.size q → A q := by
    intro q hq
    rcases hq with ⟨k, hk, rfl⟩ | hq
    · exact hD.2 k _ (ww_c (μ := (n, ρ, σ, nx, η, ξ)) hk)
    · exact K.2.2.1 q (Nat.le_trans hS.1 hq)
  have ev : v = r2.1.map (rv ad') := by cases hv; rfl
  have b1 : ∀ k, k < z0.1 → ad' k = ad0 k := fun k hk => by rw [a1 k (by omega)]; exact hA0 k hk
  have b2 : ∀ k, 100000 ≤ k → ad' k = ad0 k := fun k hk => by rw [a2 k hk]; exact hA1 k hk
  have hz := hF.1
  have hk1 := hF.2
  rw [h0'] at hz hk1
  have hS' : va_S A s.heap T'.heap (locs ++ Lc) := ⟨Nat.le_trans hS.1 (by rw [e1]; exact hz), fun q h1 h2 => by rw [e1, hk1 q (Nat.lt_of_lt_of_le h1 hS.1) (fun z => h2 (hAf q z))]; exact hS.2.1 q h1 h2, fun q hq => by
    rcases List.mem_append.mp hq with g | g
    · exact hS.2.2 q g
    · exact hAf _ (hLc q g)⟩
  -- the law's arrays lie apart from what the call may change
  have hnot : ∀ x, x < nx → ¬ Af n ad H.size (ad (100000 + x)) ∧ ad (100000 + x) < H.size := fun x hx => by
    have g := ww_x (S := S) (dA := dA) (ad := ad) (μ := (n, ρ, σ, nx, η, ξ)) (x := x) hx
    have hlt : ad (100000 + x) < H.size := (hP _ _ g).lt
    refine ⟨fun q => ?_, hlt⟩
    rcases q with ⟨k, hk, q⟩ | q
    · have := hD.1 _ _ _ _ g (ww_c (S := S) (dA := dA) (ad := ad) (μ := (n, ρ, σ, nx, η, ξ)) hk) q
      omega
    · omega
  have hPx : va_P D vwCl (xl S dA ad η ξ nx) t.heap := fun k q hq => by
    have hk : k < nx := by have := (List.getElem?_eq_some_iff.mp hq).1; simpa [xl] using this
    have g := hP _ _ (ww_x (S := S) (dA := dA) (ad := ad) (μ := (n, ρ, σ, nx, η, ξ)) (x := k) hk)
    rw [xl_get hk] at hq
    cases hq
    exact g.kept (hk1 _ (hnot k hk).2 (hnot k hk).1)
  have hPw : va_P D vwCl (ww S dA ad' (n2, r2.2.1, r2.2.2, nx, η, ξ)) t.heap := by
    unfold ww
    refine hP'.app ?_
    rw [xl_agree a2]
    exact hPx
  have hDw : va_D A (ww S dA ad' (n2, r2.2.1, r2.2.2, nx, η, ξ)) := by
    unfold ww
    refine va_D.app (hD'.weaken fun k q _ g => hAf _ g) ?_ ?_
    · rw [xl_agree a2]
      refine ⟨fun i j p q hi hj hpq => ?_, fun k q hq => ?_⟩
      · have hi' : i < nx := by have := (List.getElem?_eq_some_iff.mp hi).1; simpa [xl] using this
        have hj' : j < nx := by have := (List.getElem?_eq_some_iff.mp hj).1; simpa [xl] using this
        rw [xl_get hi'] at hi
        rw [xl_get hj'] at hj
        cases hi; cases hj
        have := hD.1 _ _ _ _ (ww_x (S := S) (dA := dA) (ad := ad) (μ := (n, ρ, σ, nx, η, ξ)) (x := i) hi') (ww_x (S := S) (dA := dA) (ad := ad) (μ := (n, ρ, σ, nx, η, ξ)) (x := j) hj') hpq
        omega
      · have hk : k < nx := by have := (List.getElem?_eq_some_iff.mp hq).1; simpa [xl] using this
        have g := hD.2 _ _ (ww_x (S := S) (dA := dA) (ad := ad) (μ := (n, ρ, σ, nx, η, ξ)) (x := k) hk)
        rw [xl_get hk] at hq
        cases hq
        exact g
    · intro i j p q hi hj hpq
      have hj' : j < nx := by have := (List.getElem?_eq_some_iff.mp hj).1; simpa [xl] using this
      rw [xl_agree a2, xl_get hj'] at hj
      cases hj
      have := hD'.2 i p hi
      rw [hpq] at this
      exact (hnot j hj').1 this
  have hw := hh p l e Rm s m args below meth c A T'.heap (locs ++ Lc) D dA ad0 ad' ls C K
    ⟨by rw [e1]; exact hPw, hDw, hS', b1, b2, hpk', Nat.le_trans hz0 h2.1, h2.2, h9, hpx, hx0, hx1, hx9, fun q => by cases q⟩
    (by rw [lz_agree a1 a2 L 0 hL]; exact hl) (fun v hv => okv_mono h2.1 (hL v hv)) hn (fun v hv => by
      rcases List.mem_append.mp hv with g | g
      · exact hok v (by cases hq : r2.1 with | none => rw [hq] at g; cases g | some u => rw [hq] at g; rw [List.mem_singleton.mp g])
      · exact okv_mono h2.1 (hs v g))
  have q1 : n - z0.1 + (nx - z0.2) + (n2 - n) = n2 - z0.1 + (nx - z0.2) := by omega
  have q2 : szL n - szL z0.1 + (xz S nx - xz S z0.2) + (szL n2 - szL n) = szL n2 - szL z0.1 + (xz S nx - xz S z0.2) := by
    have := szL_mono hz0
    have := szL_mono h2.1
    omega
  rw [q1, q2] at X'
  obtain ⟨t2, g1, g2⟩ := hw T' rfl X'
  refine ⟨t2, stp t2 ?_, g2⟩
  have e3 : (r2.1.toList ++ st).map (rv ad') = v.toList ++ st.map (rv ad) := by
    rw [List.map_append, map_agree a1 a2 hs, ev]
    cases r2.1 <;> rfl
  rw [e3] at g1
  exact g1
theorem Pml_c {S : XS} {M : MD} {b : Bool} {z0 z1 : Nat × Nat} {n nx : Nat} {av : List V} {ρ σ η ξ : Mem} {s : State} {A : Nat → Prop} {H : Heap} {locs : List Loc} {D : va_G} {dA : Nat → ClassId} {ad0 ad : Nat → Nat} (K : Cwl M D dA z0 z1 ad0 A s) (h : Chl S b D dA z0 z1 (n, ρ, σ, nx, η, ξ) ad0 ad A s.heap H locs) : ∀ U : State, U.heap = H → s.WarmedH U.vm → Pm n av ρ σ D dA ad H.size (av.map (rv ad)).toArray U := by
  intro U hU hW
  obtain ⟨hP, hD, hS, hA0, hA1, hpk, hz0, hz1, h9, hpx, hx0, hx1, hx9, -⟩ := id h
  have hAf : ∀ q, Af n ad H.size q → A q := by
    intro q hq
    rcases hq with ⟨k, hk, rfl⟩ | hq
    · exact hD.2 k _ (ww_c (μ := (n, ρ, σ, nx, η, ξ)) hk)
    · exact K.2.2.1 q (Nat.le_trans hS.1 hq)
  have hPc : va_P D vwCl (wl dA ad ρ σ n) H := fun k q hq => by
    have hk : k < n := by have := (List.getElem?_eq_some_iff.mp hq).1; simpa [wl] using this
    have g := hP _ _ (ww_c (S := S) (dA := dA) (ad := ad) (μ := (n, ρ, σ, nx, η, ξ)) (k := k) hk)
    rw [wl_get hk] at hq
    cases hq
    exact g
  have hDc : va_D (fun _ => True) (wl dA ad ρ σ n) := ⟨fun i j p q hi hj hpq => by
    have hi' : i < n := by have := (List.getElem?_eq_some_iff.mp hi).1; simpa [wl] using this
    have hj' : j < n := by have := (List.getElem?_eq_some_iff.mp hj).1; simpa [wl] using this
    rw [wl_get hi'] at hi
    rw [wl_get hj'] at hj
    cases hi; cases hj
    exact hD.1 _ _ _ _ (ww_c (S := S) (dA := dA) (ad := ad) (μ := (n, ρ, σ, nx, η, ξ)) hi') (ww_c (S := S) (dA := dA) (ad := ad) (μ := (n, ρ, σ, nx, η, ξ)) hj') hpq, fun _ _ _ => trivial⟩
  refine ⟨rfl, by rw [hU], by rw [hU]; exact hPc, hDc, va_K.moved hW.alike K.1, ?_⟩
  rw [hU]
  exact Sk.warm hW (((K.2.1.ad hA1).kept hS.2.1) hAf)
theorem el_invV {S : XS} {M : MD} {κ : Bool} {z0 z1 : Nat × Nat} {r : Option V × LM} {pc n nx : Nat} {ρ σ η ξ : Mem} {L st : List V} {idx n2 : Nat} {y : MethodName} {My : MD} {k : Int} {av : List V} {r2 : Option V × Mem × Mem} (hd : decode M.2.1 pc = .ok (.invokevirtual idx, 3)) (hw : ML M.1 idx y My) (hv : MLv y) {ci nf N : Nat} {T : u_T} (hcl : vwCl[ci]? = some (y.cls, T, N)) (hsh : shp k.toNat = (ci + 5, nf)) (h0 : 0 ≤ k) (hkn : k < n) (hsg : (parseMethodDescriptor y.desc).map (fun d => d.parameters.length) = some av.length) (hR : rmOk M My) (hst : stc st ≤ 8) (hm : Ms y My n n2 ((2, k) :: av) ρ σ r2) (h2 : n ≤ n2 ∧ n2 ≤ z1.1) (hh : El S M (κ, false) z0 z1 r (pc + 3) (n2, r2.2.1, r2.2.2, nx, η, ξ) L (r2.1.toList ++ st)) : El S M (κ, false) z0 z1 r (pc) (n, ρ, σ, nx, η, ξ) (L) (av.reverse ++ (2, k) :: st) := by
  intro p l e Rm s m args below meth c A H locs D dA ad0 ad ls C K h hl hL hn hs
  have hx := C.1
  have hb := C.2.1
  have hz0 : z0.1 ≤ n := h.2.2.2.2.2.2.1
  have hx0 : z0.2 ≤ nx := h.2.2.2.2.2.2.2.2.2.2.1
  have hx1 : nx ≤ z1.2 := h.2.2.2.2.2.2.2.2.2.2.2.1
  obtain ⟨z, rfl⟩ := Int.eq_ofNat_of_zero_le h0
  have hq : z < n := by omega
  have hsq : shp z = (ci + 5, nf) := by simpa using hsh
  have hM := hm h.2.2.2.2.2.1 h2.1 (Nat.le_trans h2.2 h.2.2.2.2.2.2.2.2.1) (fun v hv9 => hs v (by rcases List.mem_cons.mp hv9 with q | q; rw [q]; exact List.mem_append_right _ List.mem_cons_self; exact List.mem_append_left _ (List.mem_reverse.mpr q))) l D dA ad H.size
  refine el_back C K h hl hL hn (fun v hv9 => hs v (List.mem_append_right _ (List.mem_cons_of_mem _ hv9))) h2 (va_runV (nL := M.2.2.1) (own := M.1) (y := y) (bytes := My.2.1) (maxL := My.2.2.1) (ret := My.2.2.2.1) (n := av.length) (As := av.map (rv ad)) (Ts := WS) ⟨hx, hb, C.2.2.2.1, C.2.2.2.2.1, C.2.2.2.2.2.1⟩ hM ⟨⟨rfl, rfl, Nat.le_trans hR.1 C.2.2.2.2.2.2.2.1, Nat.le_trans hR.2 C.2.2.2.2.2.2.2.2.1, pay_in C.2.2.2.2.2.1 (gWS hw.2.2.1), List.mem_cons_self, C.2.2.2.2.2.1 _ hw.2.2.1, C.2.2.2.2.2.1 _ hw.2.1, hw.2.2.2, sig_len hsg, C.2.2.2.2.2.1 _ hw.1⟩, C.2.2.2.2.2.1 _ hv.1, C.2.2.2.2.2.1 _ hv.2⟩ ⟨Pm_blind, va_recv (D := D) (tys := TY dA) K.1 h.1 hcl (by rw [ww_c (μ := (n, ρ, σ, nx, η, ξ)) hq, cel_obj hsq]), fun U hU hW => by have := Pml_c (av := (2, (z : Int)) :: av) K h U hU hW; rw [List.map_cons, rv_ref h0, Int.toNat_natCast] at this; exact this⟩ rfl (List.length_map _) hl.1 (by show (List.map (rv ad) (av.reverse ++ (2, (z : Int)) :: st)) = (av.map (rv ad)).reverse ++ Value.ref (ad z) :: st.map (rv ad); rw [List.map_append, List.map_reverse, List.map_cons, rv_ref h0, Int.toNat_natCast]) (lv_room (stc_sum hst)) hd ⟨by have := C.2.2.2.2.2.2.2.2.2.1; show n - z0.1 + (nx - z0.2) + (n2 - n) ≤ _; omega, by have := C.2.2.2.2.2.2.2.2.2.2.1; have := szL_mono hz0; have := szL_mono h2.1; have := szL_mono h2.2; have := xz_mono (S := S) hx0; have := xz_mono (S := S) hx1; show szL n - szL z0.1 + (xz S nx - xz S z0.2) + (szL n2 - szL n) ≤ _; omega⟩) hh
theorem el_invI {S : XS} {M : MD} {κ : Bool} {z0 z1 : Nat × Nat} {r : Option V × LM} {pc n nx : Nat} {ρ σ η ξ : Mem} {L st : List V} {idx n2 : Nat} {y : MethodName} {My : MD} {k : Int} {av : List V} {r2 : Option V × Mem × Mem} (hd : decode M.2.1 pc = .ok (.invokespecial idx, 3)) (hw : ML M.1 idx y My) (hv : Cond.instanceMethod y ∈ WS) (hyn : y.name = "<init>") (h0 : 0 ≤ k) (hrt : My.2.2.2.1 = none) (hsg : (parseMethodDescriptor y.desc).map (fun d => d.parameters.length) = some av.length) (hR : rmOk M My) (hst : stc st ≤ 8) (hm : Ms y My n n2 ((2, k) :: av) ρ σ r2) (h2 : n ≤ n2 ∧ n2 ≤ z1.1) (hh : El S M (κ, false) z0 z1 r (pc + 3) (n2, r2.2.1, r2.2.2, nx, η, ξ) L (r2.1.toList ++ st)) : El S M (κ, false) z0 z1 r (pc) (n, ρ, σ, nx, η, ξ) (L) (av.reverse ++ (2, k) :: st) := by
  intro p l e Rm s m args below meth c A H locs D dA ad0 ad ls C K h hl hL hn hs
  have hx := C.1
  have hb := C.2.1
  have hz0 : z0.1 ≤ n := h.2.2.2.2.2.2.1
  have hx0 : z0.2 ≤ nx := h.2.2.2.2.2.2.2.2.2.2.1
  have hx1 : nx ≤ z1.2 := h.2.2.2.2.2.2.2.2.2.2.2.1
  obtain ⟨z, rfl⟩ := Int.eq_ofNat_of_zero_le h0
  have hM := hm h.2.2.2.2.2.1 h2.1 (Nat.le_trans h2.2 h.2.2.2.2.2.2.2.2.1) (fun v hv9 => hs v (by rcases List.mem_cons.mp hv9 with q | q; rw [q]; exact List.mem_append_right _ List.mem_cons_self; exact List.mem_append_left _ (List.mem_reverse.mpr q))) l D dA ad H.size
  unfold ML at hw
  rw [hrt] at hM hw
  refine el_back C K h hl hL hn (fun v hv9 => hs v (List.mem_append_right _ (List.mem_cons_of_mem _ hv9))) h2 (va_runI (nL := M.2.2.1) (own := M.1) (y := y) (bytes := My.2.1) (maxL := My.2.2.1)  (n := av.length) (As := av.map (rv ad)) (Ts := WS) ⟨hx, hb, C.2.2.2.1, C.2.2.2.2.1, C.2.2.2.2.2.1⟩ hM ⟨⟨rfl, rfl, Nat.le_trans hR.1 C.2.2.2.2.2.2.2.1, Nat.le_trans hR.2 C.2.2.2.2.2.2.2.2.1, pay_in C.2.2.2.2.2.1 (gWS hw.2.2.1), List.mem_cons_self, C.2.2.2.2.2.1 _ hw.2.2.1, C.2.2.2.2.2.1 _ hw.2.1, hw.2.2.2, sig_len hsg, C.2.2.2.2.2.1 _ hw.1⟩, hyn, C.2.2.2.2.2.1 _ hv⟩ ⟨Pm_blind, fun U hU hW => by have := Pml_c (av := (2, (z : Int)) :: av) K h U hU hW; rw [List.map_cons, rv_ref h0, Int.toNat_natCast] at this; exact this⟩ rfl (List.length_map _) hl.1 (by show (List.map (rv ad) (av.reverse ++ (2, (z : Int)) :: st)) = (av.map (rv ad)).reverse ++ Value.ref (ad z) :: st.map (rv ad); rw [List.map_append, List.map_reverse, List.map_cons, rv_ref h0, Int.toNat_natCast]) (lv_room (stc_sum hst)) hd ⟨by have := C.2.2.2.2.2.2.2.2.2.1; show n - z0.1 + (nx - z0.2) + (n2 - n) ≤ _; omega, by have := C.2.2.2.2.2.2.2.2.2.2.1; have := szL_mono hz0; have := szL_mono h2.1; have := szL_mono h2.2; have := xz_mono (S := S) hx0; have := xz_mono (S := S) hx1; show szL n - szL z0.1 + (xz S nx - xz S z0.2) + (szL n2 - szL n) ≤ _; omega⟩) hh
/-- an object of the class is made -/
theorem el_new {S : XS} {M : MD} {κ : Bool} {z0 z1 : Nat × Nat} {r : Option V × LM} {pc n nx : Nat} {ρ σ η ξ : Mem} {L st : List V} {idx ci N : Nat} {CN : String} {T : u_T} {ty : Nat → FieldType} (hd : decode M.2.1 pc = .ok (.new idx, 3)) (cf : CF ci CN T N ty) (hw : Cond.classLink M.1 idx CN ∈ WS) (hw2 : Cond.instantiable CN N ∈ WS) (hw3 : Cond.initialized CN ∈ WS) (hsh : shp n = (ci + 5, N)) (hn1 : n < z1.1) (hh : El S M (κ, false) z0 z1 r (pc + 3) (n + 1, ρ, σ, nx, η, ξ) L ((2, (n : Int)) :: st)) : El S M (κ, false) z0 z1 r (pc) (n, ρ, σ, nx, η, ξ) (L) (st) := by
  intro p l e Rm s m args below meth c A H locs D dA ad0 ad ls C K h hl hL hn hs
  have hx := C.1
  have hb := C.2.1
  obtain ⟨hP, hD, hS, hA0, hA1, hpk, hz0, hz1, h9, hpx, hx0, hx1, hx9, -⟩ := id h
  have hz0 : z0.1 ≤ n := hz0
  have hx0 : z0.2 ≤ nx := hx0
  have hx1 : nx ≤ z1.2 := hx1
  have hN : (shp n).2 = N := by rw [hsh]
  have hts := C.2.2.2.2.2.1
  have g1 := C.2.2.2.2.2.2.2.2.2.1
  have g2 := C.2.2.2.2.2.2.2.2.2.2.1
  have g3 := szL_mono hz0
  have g4 : szL (n + 1) ≤ szL z1.1 := szL_mono hn1
  have g5 : szL (n + 1) = szL n + N := by show szL n + (shp n).2 = _; rw [hN]
  have g6 := xz_mono (S := S) hx0
  have g7 := xz_mono (S := S) hx1
  refine va_new (D := D) (ci := ci) (fs := (fts ci).map fun t => if t = 2 then Value.null else if t = 1 then .long 0 else .int 0) hx hb hts cf.2.1 ty cf.2.2.1 C.2.2.2.2.1 (hts _ hw) (hts _ hw2) (hts _ hw3) K.1 hP hD hS K.2.2.1 cf.1 (fun j hj => ?_) (by show n - z0.1 + (nx - z0.2) + 1 ≤ _; omega) (by show szL n - szL z0.1 + (xz S nx - xz S z0.2) + N ≤ _; omega) hd (fun q H1 hP1 hD1 hS1 => ?_)
  · obtain ⟨h1, h2⟩ := cf.2.2.2.2.2 j hj
    have e : vp_V ((fts ci).map fun t => if t = 2 then Value.null else if t = 1 then .long 0 else .int 0) j = if tgF (ty j) = 2 then Value.null else if tgF (ty j) = 1 then .long 0 else .int 0 := by
      unfold vp_V
      rw [List.getD_eq_getElem?_getD, List.getElem?_map, h1]
      rfl
    rw [e]
    rcases h2 with q | q | q | ⟨_, q⟩ | ⟨_, q⟩ <;> rw [q] <;> rfl
  · have a1 : ∀ k, k < n → adq ad n q k = ad k := fun k hk => by unfold adq; rw [if_neg (by omega)]
    have a2 : ∀ k, 100000 ≤ k → adq ad n q k = ad k := fun k hk => by unfold adq; rw [if_neg (by omega)]
    have hx : cel dA (adq ad n q) ρ σ n = .inr (ci, (fts ci).map fun t => if t = 2 then Value.null else if t = 1 then .long 0 else .int 0) := by
      rw [cel_obj hsh]
      congr 2
      apply List.ext_getElem?
      intro i
      simp only [List.getElem?_mapIdx, List.getElem?_map]
      cases hf : (fts ci)[i]? with
      | none => rfl
      | some t =>
        have hfr1 : ρ n i = -1 := (hpk.2.2 n i (Int.le_refl _)).1
        have hfr2 : σ n i = 0 := (hpk.2.2 n i (Int.le_refl _)).2
        simp only [Option.map_some, hfr1, hfr2]
        have ht3 : t = 0 ∨ t = 1 ∨ t = 2 := by
          have hi : i < N := by rw [← cf.2.2.2.2.1]; exact (List.getElem?_eq_some_iff.mp hf).1
          obtain ⟨g1, g2⟩ := cf.2.2.2.2.2 i hi
          have g3 : t = tgF (ty i) := Option.some.inj (hf.symm.trans g1)
          rw [g3]
          rcases g2 with q | q | q | ⟨_, q⟩ | ⟨_, q⟩ <;> rw [q] <;> simp [tgF]
        rcases ht3 with q | q | q <;> subst q <;> rfl
    have hw : ww S dA (adq ad n q) (n + 1, ρ, σ, nx, η, ξ) = (wl dA ad ρ σ n ++ [(q, .inr (ci, (fts ci).map fun t => if t = 2 then Value.null else if t = 1 then .long 0 else .int 0))]) ++ xl S dA ad η ξ nx := by
      unfold ww
      rw [wl_push a1 a2 hpk.2.1, hx, xl_agree a2]
      simp [adq]
    have key := hh p l e Rm s m args below meth c A H1 locs D dA ad0 (adq ad n q) ls C K
      ⟨by rw [hw]; exact hP1.swap, by rw [hw]; exact hD1.swap, hS1, fun k hk => by rw [a1 k (by omega)]; exact hA0 k hk, fun k hk => by rw [a2 k hk]; exact hA1 k hk, pok_push hpk, by show z0.1 ≤ n + 1; omega, hn1, h9, hpx, hx0, hx1, hx9, fun z => by cases z⟩
      (by rw [lz_agree a1 a2 L 0 hL]; exact hl) (fun v hv => okv_mono (Nat.le_succ n) (hL v hv)) hn (fun v hv => by
        rcases List.mem_cons.mp hv with g | g
        · rw [g]; exact ⟨by omega, by show (n : Int) < ((n + 1 : Nat) : Int); omega⟩
        · exact okv_mono (Nat.le_succ n) (hs v g))
    have q1 : n + 1 - z0.1 + (nx - z0.2) = n - z0.1 + (nx - z0.2) + 1 := by omega
    have q2 : szL (n + 1) - szL z0.1 + (xz S nx - xz S z0.2) = szL n - szL z0.1 + (xz S nx - xz S z0.2) + N := by omega
    have q3 : ((2, (n : Int)) :: st).map (rv (adq ad n q)) = .ref q :: st.map (rv ad) := by
      rw [List.map_cons, map_agree a1 a2 hs, rv_ref (by omega)]
      simp [adq]
    rw [← q1, ← q2, ← q3]
    exact key
/-- THE CONTRACT of a method of the law: the script, the arrays and the class' world, before and behind -/
def Pml (S : XS) (N : Nat) (xs : Nat → Int32) (z1 : Nat × Nat) (av : List V) (μ : LM) (D : va_G) (dA : Nat → ClassId) (ad : Nat → Nat) (sz : Nat) : Array Value → State → Prop := va_Pc (av.map (rv ad)) fun U => U.heap.size = sz ∧ va_P D vwCl (ww S dA ad μ) U.heap ∧ va_D (fun _ => True) (ww S dA ad μ) ∧ va_K D vwCl (TY dA) U ∧ Sk ad (Afl (μ.1, μ.2.2.2.1) ad sz) U U.heap ∧ (∀ x, μ.2.2.2.1 ≤ x → x < z1.2 → ad (100000 + x) = sz + (x - μ.2.2.2.1)) ∧ va_X (ad 300000) N xs U U.heap ∧ (ad 300000 < sz ∧ ¬ Afl (μ.1, μ.2.2.2.1) ad sz (ad 300000)) ∧ va_AI U
def MsL (S : XS) (N : Nat) (xs : Nat → Int32) (y : MethodName) (M : MD) (κ : Bool) (z1 : Nat × Nat) (av : List V) (μ : LM) (r : Option V × LM) : Prop := pok μ.1 μ.2.1 μ.2.2.1 → pokx μ.2.2.2.1 μ.2.2.2.2.1 μ.2.2.2.2.2 → μ.1 ≤ z1.1 → z1.1 ≤ 90000 → μ.2.2.2.1 ≤ z1.2 → z1.2 ≤ 90000 → (∀ v ∈ av, okv μ.1 v) → ∀ (l : Launch) (D : va_G) (dA : Nat → ClassId) (ad : Nat → Nat) (sz : Nat), Met l y (Cond.code y M.2.1 M.2.2.1 M.2.2.2.1 :: WS) ({ frames := M.2.2.2.2.1, cells := z1.1 - μ.1 + (z1.2 - μ.2.2.2.1), slots := szL z1.1 - szL μ.1 + (xz S z1.2 - xz S μ.2.2.2.1), locals := M.2.2.2.2.2.1 }) (Pml S N xs z1 av μ D dA ad sz) (Qml S κ (μ.1, μ.2.2.2.1) z1 r D dA ad (Afl (μ.1, μ.2.2.2.1) ad sz)) (z1.1 - μ.1 + (z1.2 - μ.2.2.2.1)) (szL z1.1 - szL μ.1 + (xz S z1.2 - xz S μ.2.2.2.1)) (Afl (μ.1, μ.2.2.2.1) ad sz)
theorem Pml_blind {S : XS} {N : Nat} {xs : Nat → Int32} {z1 : Nat × Nat} {av : List V} {μ : LM} {D : va_G} {dA : Nat → ClassId} {ad : Nat → Nat} {sz : Nat} : FrameBlind (Pml S N xs z1 av μ D dA ad sz) := fun a U g mk q => by
  obtain ⟨q0, q1, qP, qD, qK, qS, qf, qX, q2, q3⟩ := q
  exact ⟨q0, q1, qP, qD, va_K.moved (u := U) (U := U.calling g mk a) (Vm.Alike.refl U.vm) qK, Sk.same (u := U) rfl qS, qf, va_X.moved (u := U) (U := U.calling g mk a) (Vm.Alike.refl U.vm) qX, q2, va_AI.moved (u := U) (U := U.calling g mk a) (Vm.Alike.refl U.vm) q3⟩
theorem MsL.of {S : XS} {N : Nat} {xs : Nat → Int32} {y : MethodName} {M : MD} {κ : Bool} {z1 : Nat × Nat} {av : List V} {μ : LM} {r : Option V × LM} (k : Nat) (hy : plainName y.cls = true) (hown : y.cls = M.1) (hinit : M.2.2.2.2.2.2.1 = false) (hex : M.2.2.2.2.2.2.2 = scrX N xs) (h9 : av.all (fun v => v.1 != 9) = true) (hlen : (lav av).length + k = M.2.2.1) (h : El S M (κ, true) (μ.1, μ.2.2.2.1) z1 r 0 μ (lav av ++ List.replicate k (9, 0)) []) : MsL S N xs y M κ z1 av μ r := by
  intro hp hpx h01 h90 hx01 hx90 hav l D dA ad sz
  refine Met.ofW (cc := M.2.1) (maxL := M.2.2.1) (ret := M.2.2.2.1) hy rfl ?_
  intro p e s m args below meth c s₁ B hml hv
  obtain ⟨rfl, hsz, hP, hD0, hK, hSk, hfu, hX, ⟨hX1, hX2⟩, hai⟩ := hv
  have hts := atoms_spec (ws := Cond.code y M.2.1 M.2.2.1 M.2.2.2.1 :: WS) B.pre
  have ho : s.vm.findClass M.1 = some m.cls := by rw [← hown]; exact findClass_of_methodNamed B.named
  subst hsz
  have h9' : ∀ v ∈ av, v.1 ≠ 9 := fun v hv => by have := List.all_eq_true.mp h9 v hv; simpa using this
  have hl := lv_entry (av.map (rv ad)) (n := M.2.2.1) (by rw [lav_len]; omega)
  rw [lg_entry_eq]
  generalize (lg_sl (av.map (rv ad)) ++ List.replicate (M.2.2.1 - (lg_sl (av.map (rv ad))).length) Slot.unset).toArray = ls at hl ⊢
  rw [← lz_lav (k := k) av 0 h9'] at hl
  have hD : va_D (Afl (μ.1, μ.2.2.2.1) ad s.heap.size) (ww S dA ad μ) := ⟨hD0.1, fun i q hq => by
    have hi : i < μ.1 + μ.2.2.2.1 := by have := (List.getElem?_eq_some_iff.mp hq).1; simpa [ww, wl, xl] using this
    by_cases hc : i < μ.1
    · rw [ww_c hc] at hq
      cases hq
      exact Or.inl ⟨i, hc, rfl⟩
    · have e : i = μ.1 + (i - μ.1) := by omega
      rw [e, ww_x (by omega)] at hq
      cases hq
      exact Or.inr (Or.inl ⟨i - μ.1, by show i - μ.1 < μ.2.2.2.1; omega, rfl⟩)⟩
  have := h p l e (headSpec (Cond.code y M.2.1 M.2.2.1 M.2.2.2.1 :: WS) { frames := M.2.2.2.2.1, cells := z1.1 - μ.1 + (z1.2 - μ.2.2.2.1), slots := szL z1.1 - szL μ.1 + (xz S z1.2 - xz S μ.2.2.2.1), locals := M.2.2.2.2.2.1 }).room s m (av.map (rv ad)).toArray below meth c (Afl (μ.1, μ.2.2.2.1) ad s.heap.size) s.heap [] D dA ad ad ls
    ⟨B.exec, B.bytes, B.returns, hml, ho, fun w hw => hts w (List.mem_cons_of_mem _ hw), B.notSynchronized, Nat.le_refl _, Nat.le_refl _, Nat.le_refl _, Nat.le_refl _, fun hi => by rw [hinit] at hi; cases hi⟩
    ⟨hK, hSk, fun q hq => Or.inr (Or.inr hq), by rw [hex]; exact ⟨hX, hX1, hX2⟩, hfu, hai⟩
    ⟨hP, hD, va_S.rf, fun _ _ => rfl, fun _ _ => rfl, hp, Nat.le_refl _, h01, h90, hpx, Nat.le_refl _, hx01, hx90, fun _ => by show s.heap.size = s.heap.size + (μ.1 - μ.1) + (μ.2.2.2.1 - μ.2.2.2.1); omega⟩
    hl (fun v hv => by
      rcases List.mem_append.mp hv with q | q
      · exact lav_ok av hav v q
      · rw [(List.mem_replicate.mp q).2]; trivial) (by simp; omega) (fun v hv => by cases hv)
  rw [Nat.sub_self, Nat.sub_self, Nat.sub_self, Nat.sub_self] at this
  exact this
/-- a call of a method of the law -/
theorem el_call {S : XS} {N : Nat} {xs : Nat → Int32} {M : MD} {κ b κ2 : Bool} {z0 z1 z2 : Nat × Nat} {r : Option V × LM} {pc : Nat} {μ : LM} {L st : List V} {idx : Nat} {y : MethodName} {My : MD} {av : List V} {r2 : Option V × LM} (hd : decode M.2.1 pc = .ok (.invokestatic idx, 3)) (hex : M.2.2.2.2.2.2.2 = scrX N xs) (hw : ML M.1 idx y My) (hv : Cond.static y ∈ WS) (hsg : (parseMethodDescriptor y.desc).map (fun d => d.parameters.length) = some av.length) (hR : rmOk M My) (hst : stc st ≤ 8) (hm : MsL S N xs y My κ2 z2 av μ r2) (hz2 : μ.1 ≤ z2.1 ∧ z2.1 ≤ z1.1 ∧ μ.2.2.2.1 ≤ z2.2 ∧ z2.2 ≤ z1.2) (hr2 : r2.2.1 = z2.1 ∧ r2.2.2.2.2.1 = z2.2) (hfu : z2.2 = μ.2.2.2.1 ∨ (b = true ∧ μ.1 = z0.1)) (hb2 : b = true → κ2 = true) (hh : El S M (κ, b) z0 z1 r (pc + 3) r2.2 L (r2.1.toList ++ st)) : El S M (κ, b) z0 z1 r (pc) μ (L) (av.reverse ++ st) := by
  intro p l e Rm s m args below meth c A H locs D dA ad0 ad ls C K h hl hL hn hs
  have hx := C.1
  have hb := C.2.1
  obtain ⟨hP, hD, hS, hA0, hA1, hpk, hz0, hz1, h9, hpx, hx0, hx1, hx9, hsz⟩ := id h
  have hAf : ∀ q, Afl (μ.1, μ.2.2.2.1) ad H.size q → A q := by
    intro q hq
    rcases hq with ⟨k, hk, rfl⟩ | ⟨x, hx, rfl⟩ | hq
    · exact hD.2 k _ (ww_c hk)
    · exact hD.2 _ _ (ww_x hx)
    · exact K.2.2.1 q (Nat.le_trans hS.1 hq)
  have hX := K.2.2.2.1
  rw [hex] at hX
  have e3 : ad 300000 = ad0 300000 := hA1 _ (by omega)
  have hPm : ∀ U : State, U.heap = H → s.WarmedH U.vm → Pml S N xs z2 av μ D dA ad H.size (av.map (rv ad)).toArray U := by
    intro U hU hW
    refine ⟨rfl, by rw [hU], by rw [hU]; exact hP, hD.weaken (fun _ _ _ _ => trivial), va_K.moved hW.alike K.1, ?_, fun x q1 q2 => ?_, ?_, ⟨?_, ?_⟩, va_AI.moved hW.alike K.2.2.2.2.2⟩
    · rw [hU]
      exact Sk.warm hW (((K.2.1.ad hA1).kept hS.2.1) hAf)
    · rcases hfu with q | ⟨q, q'⟩
      · omega
      · rw [hA1 _ (by omega), K.2.2.2.2.1 x (Nat.le_trans hx0 q1) (Nat.lt_of_lt_of_le q2 hz2.2.2.2), hsz q]
        omega
    · rw [hU, e3]
      exact va_X.moved hW.alike (hX.1.kept (hS.2.1 _ hX.2.1 hX.2.2))
    · rw [e3]
      exact Nat.lt_of_lt_of_le hX.2.1 hS.1
    · rw [e3]
      exact fun q => hX.2.2 (hAf _ q)
  have hM := hm hpk hpx hz2.1 (Nat.le_trans hz2.2.1 h9) hz2.2.2.1 (Nat.le_trans hz2.2.2.2 hx9) (fun v hv9 => hs v (List.mem_append_left _ (List.mem_reverse.mpr hv9))) l D dA ad H.size
  have g1 := C.2.2.2.2.2.2.2.2.2.1
  have g2 := C.2.2.2.2.2.2.2.2.2.2.1
  have g3 := szL_mono hz0
  have g4 := szL_mono hz2.1
  have g5 := szL_mono hz2.2.1
  have g6 := xz_mono (S := S) hx0
  have g7 := xz_mono (S := S) hz2.2.2.1
  have g8 := xz_mono (S := S) hz2.2.2.2
  have hr := va_runS (p := p) (l := l) (e := e) (R := Rm) (s := s) (m := m) (args := args) (below := below) (meth := meth) (c := c) (H := H) (locs := locs) (cells := μ.1 - z0.1 + (μ.2.2.2.1 - z0.2)) (slots := szL μ.1 - szL z0.1 + (xz S μ.2.2.2.1 - xz S z0.2)) (g := F0 m pc ls ((av.reverse ++ st).map (rv ad))) (rest := st.map (rv ad)) (index := idx) (cc := M.2.1) (nL := M.2.2.1) (own := M.1) (y := y) (bytes := My.2.1) (maxL := My.2.2.1) (ret := My.2.2.2.1) (n := av.length) (As := av.map (rv ad)) (Ts := WS) ⟨hx, hb, C.2.2.2.1, C.2.2.2.2.1, C.2.2.2.2.2.1⟩ hM ⟨⟨rfl, rfl, Nat.le_trans hR.1 C.2.2.2.2.2.2.2.1, Nat.le_trans hR.2 C.2.2.2.2.2.2.2.2.1, pay_in C.2.2.2.2.2.1 (gWS hw.2.2.1), List.mem_cons_self, C.2.2.2.2.2.1 _ hw.2.2.1, C.2.2.2.2.2.1 _ hw.2.1, hw.2.2.2, sig_len hsg, C.2.2.2.2.2.1 _ hw.1⟩, C.2.2.2.2.2.1 _ hv⟩ ⟨Pml_blind, hPm⟩ rfl (List.length_map _) hl.1 (by show (List.map (rv ad) (av.reverse ++ st)) = (av.map (rv ad)).reverse ++ st.map (rv ad); rw [List.map_append, List.map_reverse]) (lv_room (stc_sum hst)) hd ⟨by omega, by omega⟩
  intro T hT X
  obtain ⟨v, st₀, t, T', Lc, h0', X', hLc, e1, e2, ⟨⟨ad', a1, a2, hv, hok, hP', hD', hpk', hpx', -, hsz'⟩, hF⟩, stp⟩ := hr T hT X
  have ev : v = r2.1.map (rv ad') := by cases hv; rfl
  have b1 : ∀ k, k < z0.1 → ad' k = ad0 k := fun k hk => by rw [a1 k (Nat.lt_of_lt_of_le hk hz0)]; exact hA0 k hk
  have b2 : ∀ k, 100000 ≤ k → ad' k = ad0 k := fun k hk => by rw [a2 k hk]; exact hA1 k hk
  have hz := hF.1
  have hk1 := hF.2
  rw [h0'] at hz hk1 hsz'
  have hS' : va_S A s.heap T'.heap (locs ++ Lc) := ⟨Nat.le_trans hS.1 (by rw [e1]; exact hz), fun q h1 h2 => by rw [e1, hk1 q (Nat.lt_of_lt_of_le h1 hS.1) (fun z => h2 (hAf q z))]; exact hS.2.1 q h1 h2, fun q hq => by
    rcases List.mem_append.mp hq with g | g
    · exact hS.2.2 q g
    · exact hAf _ (hLc q g)⟩
  have hle : μ.1 ≤ r2.2.1 := by rw [hr2.1]; exact hz2.1
  have hw2 := hh p l e Rm s m args below meth c A T'.heap (locs ++ Lc) D dA ad0 ad' ls C K
    ⟨by rw [e1]; exact hP', hD'.weaken fun k q _ g => hAf _ g, hS', b1, b2, by rw [hr2.1]; exact hpk', by rw [hr2.1]; omega, by rw [hr2.1]; exact hz2.2.1, h9, by rw [hr2.2]; exact hpx', by rw [hr2.2]; omega, by rw [hr2.2]; exact hz2.2.2.2, hx9, fun q => by
      rw [e1, hsz' (hb2 q), hsz q, hr2.1, hr2.2]
      show s.heap.size + (μ.1 - z0.1) + (μ.2.2.2.1 - z0.2) + (z2.1 - μ.1) + (z2.2 - μ.2.2.2.1) = _
      omega⟩
    (by rw [lz_agree a1 a2 L 0 hL]; exact hl) (fun v hv => okv_mono hle (hL v hv)) hn (fun v hv => by
      rcases List.mem_append.mp hv with g | g
      · rw [hr2.1]; exact hok v (by cases hq : r2.1 with | none => rw [hq] at g; cases g | some u => rw [hq] at g; rw [List.mem_singleton.mp g])
      · exact okv_mono hle (hs v (List.mem_append_right _ g)))
  have q1 : μ.1 - z0.1 + (μ.2.2.2.1 - z0.2) + (z2.1 - μ.1 + (z2.2 - μ.2.2.2.1)) = r2.2.1 - z0.1 + (r2.2.2.2.2.1 - z0.2) := by rw [hr2.1, hr2.2]; omega
  have q2 : szL μ.1 - szL z0.1 + (xz S μ.2.2.2.1 - xz S z0.2) + (szL z2.1 - szL μ.1 + (xz S z2.2 - xz S μ.2.2.2.1)) = szL r2.2.1 - szL z0.1 + (xz S r2.2.2.2.2.1 - xz S z0.2) := by rw [hr2.1, hr2.2]; omega
  rw [q1, q2] at X'
  obtain ⟨t2, g1, g2⟩ := hw2 T' rfl X'
  refine ⟨t2, stp t2 ?_, g2⟩
  have e3 : (r2.1.toList ++ st).map (rv ad') = v.toList ++ st.map (rv ad) := by
    rw [List.map_append, map_agree a1 a2 (fun w hw9 => hs w (List.mem_append_right _ hw9)), ev]
    cases r2.1 <;> rfl
  rw [e3] at g1
  exact g1
/-! THE LAW'S ARRAYS by number: 0 the two of g; 1 the papers; 2 .. each paper; 2 + m the candidates; 3 + m .. each candidate -/
def xsh (m n : Nat) : XS := fun x => if x = 0 then (0, 2) else if x = 1 then (3, m) else if x < 2 + m then (0, 3) else if x = 2 + m then (3, n) else (0, 4)
def nX (m n : Nat) : Nat := 3 + m + n
def eta (m n : Nat) : Mem := fun x j => if x = 1 ∧ 0 ≤ j ∧ j < m then 2 + j else if x = 2 + m ∧ 0 ≤ j ∧ j < n then 3 + m + j else -1
abbrev lm (m n : Nat) (μ : M2) : LM := (181, rho, μ.1, nX m n, eta m n, μ.2)
def isPp (m _n : Nat) (x : Int) : Prop := 2 ≤ x ∧ x < 2 + m
def isQ (m n : Nat) (x : Int) : Prop := 3 + (m : Int) ≤ x ∧ x < 3 + m + n
theorem isPp_at {m n : Nat} {i : Int} (h : 0 ≤ i ∧ i < ((m : Nat) : Int)) : isPp m n (2 + i) := ⟨by omega, by omega⟩
theorem isQ_at {m n : Nat} {i : Int} (h : 0 ≤ i ∧ i < ((n : Nat) : Int)) : isQ m n (3 + (m : Int) + i) := ⟨by omega, by omega⟩
theorem xs_g {m n : Nat} : xsh m n (0 : Int).toNat = (0, 2) := rfl
theorem xs_P {m n : Nat} : xsh m n (1 : Int).toNat = (3, m) := rfl
theorem xs_Q {m n : Nat} : xsh m n (2 + (m : Int)).toNat = (3, n) := by
  have e : (2 + (m : Int)).toNat = 2 + m := by omega
  rw [e]
  unfold xsh
  rw [if_neg (by omega), if_neg (by omega), if_neg (by omega), if_pos rfl]
theorem xs_p {m n : Nat} {x : Int} (h : isPp m n x) : xsh m n x.toNat = (0, 3) := by
  unfold isPp at h
  unfold xsh
  rw [if_neg (by omega), if_neg (by omega), if_pos (by omega)]
theorem xs_q {m n : Nat} {x : Int} (h : isQ m n x) : xsh m n x.toNat = (0, 4) := by
  unfold isQ at h
  unfold xsh
  rw [if_neg (by omega), if_neg (by omega), if_neg (by omega), if_neg (by omega)]
theorem x0_g : (0 : Int) ≤ 0 := Int.le_refl _
theorem x0_P : (0 : Int) ≤ 1 := by decide
theorem x0_Q {m : Nat} : (0 : Int) ≤ 2 + (m : Int) := by omega
theorem x0_p {m n : Nat} {x : Int} (h : isPp m n x) : 0 ≤ x := by unfold isPp at h; omega
theorem x0_q {m n : Nat} {x : Int} (h : isQ m n x) : 0 ≤ x := by unfold isQ at h; omega
theorem xn_g {m n : Nat} : (0 : Int) < ((nX m n : Nat) : Int) := by unfold nX; omega
theorem xn_P {m n : Nat} : (1 : Int) < ((nX m n : Nat) : Int) := by unfold nX; omega
theorem xn_Q {m n : Nat} : (2 + (m : Int)) < ((nX m n : Nat) : Int) := by unfold nX; omega
theorem xn_p {m n : Nat} {x : Int} (h : isPp m n x) : x < ((nX m n : Nat) : Int) := by unfold isPp at h; unfold nX; omega
theorem xn_q {m n : Nat} {x : Int} (h : isQ m n x) : x < ((nX m n : Nat) : Int) := by unfold isQ at h; unfold nX; omega
theorem eta_P {m n : Nat} {i : Int} (h : 0 ≤ i ∧ i < ((m : Nat) : Int)) : eta m n 1 i = 2 + i ∧ 0 ≤ 2 + i := ⟨by unfold eta; rw [if_pos ⟨rfl, h⟩], by omega⟩
theorem eta_Q {m n : Nat} {i : Int} (h : 0 ≤ i ∧ i < ((n : Nat) : Int)) : eta m n (2 + (m : Int)) i = 3 + (m : Int) + i ∧ 0 ≤ 3 + (m : Int) + i := ⟨by unfold eta; rw [if_neg (by omega), if_pos ⟨rfl, h⟩], by omega⟩
theorem el_xastG {S : XS} {M : MD} {f : Bool × Bool} {z0 z1 : Nat × Nat} {r : Option V × LM} {pc : Nat} {n nx : Nat} {ρ η : Mem} {μ : M2} {L st : List V} {β : Type} {X : M2 → Option β} {q : β} {k i x : Int} {N : Nat} (hd : decode M.2.1 pc = .ok (.iastore, 1)) (hsh : S k.toNat = (0, N)) (h0 : 0 ≤ k) (hkn : k < nx) (hf : chk (0 ≤ i ∧ i < N) ((some (μ.1, mup μ.2 k i x)).bind X) = some q) (hh : ∀ ν : M2, X ν = some q → El S M f z0 z1 r (pc + 1) (n, ρ, ν.1, nx, η, ν.2) L st) : El S M f z0 z1 r (pc) (n, ρ, μ.1, nx, η, μ.2) L ((0, x) :: (0, i) :: (3, k) :: st) := el_xast hd hsh h0 hkn hf (fun h => hh (μ.1, mup μ.2 k i x) h)
