theorem cel_obj {dA : Nat → ClassId} {ad : Nat → Nat} {ρ σ : Mem} {k ci nf : Nat} (hs : shp k = (ci + 5, nf)) : cel dA ad ρ σ k = .inr (ci, (fts ci).mapIdx fun j t => rv ad (t, if t = 2 then ρ k j else σ k j)) := by unfold cel; rw [hs]
theorem cel_0 {dA : Nat → ClassId} {ad : Nat → Nat} {ρ σ : Mem} {k n : Nat} (hs : shp k = (0, n)) : cel dA ad ρ σ k = .inl (dA 0, n, .inl fun j => Int32.ofInt (σ k j)) := by unfold cel; rw [hs]
theorem cel_1 {dA : Nat → ClassId} {ad : Nat → Nat} {ρ σ : Mem} {k n : Nat} (hs : shp k = (1, n)) : cel dA ad ρ σ k = .inl (dA 1, n, .inr (.inl fun j => Int64.ofInt (σ k j))) := by unfold cel; rw [hs]
theorem cel_2 {dA : Nat → ClassId} {ad : Nat → Nat} {ρ σ : Mem} {k n : Nat} (hs : shp k = (2, n)) : cel dA ad ρ σ k = .inl (dA 2, n, .inl fun j => Int32.ofInt (σ k j)) := by unfold cel; rw [hs]
theorem cel_3 {dA : Nat → ClassId} {ad : Nat → Nat} {ρ σ : Mem} {k n : Nat} (hs : shp k = (3, n)) : cel dA ad ρ σ k = .inl (dA 3, n, .inl fun j => Int32.ofInt (σ k j)) := by unfold cel; rw [hs]
theorem cel_4 {dA : Nat → ClassId} {ad : Nat → Nat} {ρ σ : Mem} {k n : Nat} (hs : shp k = (4, n)) : cel dA ad ρ σ k = .inl (dA 4, n, .inr (.inr (.inr (.inr fun j => if ρ k j < 0 then none else some (ad (ρ k j).toNat))))) := by unfold cel; rw [hs]
theorem lgt_obj {k : Int} {j ci nf : Nat} (hs : shp k.toNat = (ci + 5, nf)) : lgt k j = ((fts ci).getD j 0 == 1) := by unfold lgt; rw [hs]; rfl
theorem lgt_arr {k j : Int} {d nf : Nat} (hs : shp k.toNat = (d, nf)) (hd : d = 0 ∨ d = 2 ∨ d = 3) : lgt k j = false := by unfold lgt; rw [hs]; rcases hd with h | h | h <;> subst h <;> rfl
theorem lgt_arl {k j : Int} {nf : Nat} (hs : shp k.toNat = (1, nf)) : lgt k j = true := by unfold lgt; rw [hs]
theorem obj_fs {ad : Nat → Nat} {ρ σ : Mem} {ci j t : Nat} {k : Int} (ht : (fts ci)[j]? = some t) : ((fts ci).mapIdx fun j t => rv ad (t, if t = 2 then ρ k j else σ k j))[j]? = some (rv ad (t, if t = 2 then ρ k j else σ k j)) := by
  simp [List.getElem?_mapIdx, ht]
theorem CF_len {ci : Nat} {CN : String} {T : u_T} {N : Nat} {ty : Nat → FieldType} (cf : CF ci CN T N ty) {j t : Nat} (ht : (fts ci)[j]? = some t) : j < N := by
  have := (List.getElem?_eq_some_iff.mp ht).1
  rw [cf.2.2.2.2.1] at this
  exact this
/-- a field's value -/
def fv (ρ σ : Mem) (k : Int) (j t : Nat) : Int := if t = 2 then ρ k j else σ k j
theorem fv_ok {n : Nat} {ρ σ : Mem} {k : Int} {j ci nf t : Nat} (hp : pok n ρ σ) (hs : shp k.toNat = (ci + 5, nf)) (ht : (fts ci)[j]? = some t) (h3 : t < 3) : okv n (t, fv ρ σ k j t) := by
  have hg : (fts ci).getD j 0 = t := by simp [List.getD, ht]
  match t, h3 with
  | 0, _ =>
    have := hp.1 k j
    rw [lgt_obj hs, hg] at this
    exact this
  | 1, _ =>
    have := hp.1 k j
    rw [lgt_obj hs, hg] at this
    exact this
  | 2, _ => exact hp.2.1 k j
theorem ev_getf {M : MD} {n0 n1 : Nat} {r : Option V × Mem × Mem} {pc n : Nat} {ρ σ : Mem} {L st : List V} {k x : Int} {j ci idx t nf N : Nat} {CN : String} {T : u_T} {ty : Nat → FieldType} (hd : decode M.2.1 pc = .ok (.getfield idx, 3)) (cf : CF ci CN T N ty) (hw : Cond.fieldLink M.1 idx (T j).1 (T j).2.1 (T j).2.2.1 ∈ WS) (hsh : shp k.toNat = (ci + 5, nf)) (h0 : 0 ≤ k) (hkn : k < n) (ht : (fts ci)[j]? = some t) (h3 : t < 3) (hv : fv ρ σ k j t = x) (hh : Ev M n0 n1 r (pc + 3) (n) (ρ) (σ) (L) ((t, x) :: st)) : Ev M n0 n1 r (pc) (n) (ρ) (σ) (L) ((2, k) :: st) := by
  intro p l e Rm s m args below meth c A H locs D dA ad0 ad ls C K h hl hL hn hs
  have hx := C.1
  have hb := C.2.1
  subst hv
  obtain ⟨q, rfl⟩ := Int.eq_ofNat_of_zero_le h0
  have hq : q < n := by omega
  have hsq : shp q = (ci + 5, nf) := by simpa using hsh
  have h2 := hh p l e Rm s m args below meth c A H locs D dA ad0 ad ls C K h hl hL hn (ok_cons (fv_ok h.2.2.2.2.2.1 hsh ht h3) (cons_ok hs).2)
  rw [List.map_cons, rv_ref h0, Int.toNat_natCast]
  exact va_get (D := D) (ci := ci) (C := CN) (T := T) (N := N) (tys := TY dA) hx hb C.2.2.2.2.2.1 cf.2.1 C.2.2.2.2.1 K.1 h.1 q (by rw [wl_get hq, cel_obj hsq]) cf.1 j (CF_len cf ht) (C.2.2.2.2.2.1 _ hw) (fun _ h9 => h9) (obj_fs ht) hd h2
theorem obj_set {ad : Nat → Nat} {ρ σ : Mem} {ci j t : Nat} {k x : Int} (ht : (fts ci)[j]? = some t) (h2 : t ≠ 2) : ((fts ci).mapIdx fun j t => rv ad (t, if t = 2 then ρ k j else σ k j)).set j (rv ad (t, x)) = (fts ci).mapIdx fun i t => rv ad (t, if t = 2 then ρ k i else mup σ k j x k i) := by
  apply List.ext_getElem?
  intro i
  rw [List.getElem?_set]
  by_cases hi : j = i
  · subst hi
    have hl := (List.getElem?_eq_some_iff.mp ht).1
    rw [if_pos rfl, if_pos (by simpa using hl)]
    simp [List.getElem?_mapIdx, ht, h2, mup]
  · rw [if_neg hi]
    simp only [List.getElem?_mapIdx]
    cases hf : (fts ci)[i]? with
    | none => rfl
    | some t' =>
      have : ¬ ((i : Int) = (j : Int)) := by omega
      simp [mup, this]
theorem obj_setr {ad : Nat → Nat} {ρ σ : Mem} {ci j : Nat} {k x : Int} (ht : (fts ci)[j]? = some 2) : ((fts ci).mapIdx fun j t => rv ad (t, if t = 2 then ρ k j else σ k j)).set j (rv ad (2, x)) = (fts ci).mapIdx fun i t => rv ad (t, if t = 2 then mup ρ k j x k i else σ k i) := by
  apply List.ext_getElem?
  intro i
  rw [List.getElem?_set]
  by_cases hi : j = i
  · subst hi
    have hl := (List.getElem?_eq_some_iff.mp ht).1
    rw [if_pos rfl, if_pos (by simpa using hl)]
    simp [List.getElem?_mapIdx, ht, mup]
  · rw [if_neg hi]
    simp only [List.getElem?_mapIdx]
    cases hf : (fts ci)[i]? with
    | none => rfl
    | some t' =>
      have : ¬ ((i : Int) = (j : Int)) := by omega
      simp [mup, this]
theorem ne_cast {i q : Nat} (h : i ≠ q) : (i : Int) ≠ (q : Int) := by omega
theorem pok_mup {n : Nat} {ρ σ : Mem} {k j v : Int} (h : pok n ρ σ) (hk : k < n) (hv : if lgt k j = true then in64 v else in32 v) : pok n ρ (mup σ k j v) := by
  refine ⟨rok_mup h.1 hv, h.2.1, fun a b hab => ⟨(h.2.2 a b hab).1, ?_⟩⟩
  unfold mup
  rw [if_neg (by omega)]
  exact (h.2.2 a b hab).2
theorem pok_mupr {n : Nat} {ρ σ : Mem} {k j v : Int} (h : pok n ρ σ) (hk : k < n) (hv : -1 ≤ v ∧ v < n) : pok n (mup ρ k j v) σ := by
  refine ⟨h.1, fun a b => ?_, fun a b hab => ⟨?_, (h.2.2 a b hab).2⟩⟩
  · unfold mup
    split
    · exact hv
    · exact h.2.1 a b
  · unfold mup
    rw [if_neg (by omega)]
    exact (h.2.2 a b hab).1
/-- a value fits a field -/
def pfit (t : Nat) (x : Int) (f : FieldType) : Prop := f = .boolean → x = 0 ∨ x = 1
theorem nar_fit {ad : Nat → Nat} {t : Nat} {x : Int} {f : FieldType} (ht : t = tgF f) (hk : f = .int ∨ f = .boolean ∨ f = .long ∨ (∃ c, f = .object c) ∨ ∃ c, f = .array c) (hp : pfit t x f) : narrow f (rv ad (t, x)) = rv ad (t, x) ∧ fits f (rv ad (t, x)) = true := by
  rcases hk with h | h | h | ⟨c, h⟩ | ⟨c, h⟩ <;> subst h <;> subst ht
  · exact ⟨rfl, rfl⟩
  · rcases hp rfl with h | h <;> subst h <;> exact ⟨rfl, rfl⟩
  · exact ⟨rfl, rfl⟩
  · show narrow _ (if x < 0 then Value.null else _) = (if x < 0 then Value.null else _) ∧ fits _ (if x < 0 then Value.null else _) = true
    split <;> exact ⟨rfl, rfl⟩
  · show narrow _ (if x < 0 then Value.null else _) = (if x < 0 then Value.null else _) ∧ fits _ (if x < 0 then Value.null else _) = true
    split <;> exact ⟨rfl, rfl⟩
theorem ev_putf {M : MD} {n0 n1 : Nat} {r : Option V × Mem × Mem} {pc n : Nat} {ρ σ : Mem} {L st : List V} {t : Nat} {k x : Int} {j ci idx nf N : Nat} {CN : String} {T : u_T} {ty : Nat → FieldType} (hd : decode M.2.1 pc = .ok (.putfield idx, 3)) (cf : CF ci CN T N ty) (hw : Cond.fieldLink M.1 idx (T j).1 (T j).2.1 (T j).2.2.1 ∈ WS) (hsh : shp k.toNat = (ci + 5, nf)) (h0 : 0 ≤ k) (hkn : k < n) (ht : (fts ci)[j]? = some t) (h2 : t ≠ 2) (hb1 : t = 0 ∨ t = 1) (hfin : (T j).2.2.2 = false) (hp : pfit t x (ty j)) (hh : Ev M n0 n1 r (pc + 3) (n) (ρ) (mup σ k j x) (L) (st)) : Ev M n0 n1 r (pc) (n) (ρ) (σ) (L) ((t, x) :: (2, k) :: st) := by
  intro p l e Rm s m args below meth c A H locs D dA ad0 ad ls C K h hl hL hn hs
  have hx := C.1
  have hb := C.2.1
  obtain ⟨q, rfl⟩ := Int.eq_ofNat_of_zero_le h0
  have hq : q < n := by omega
  have hsq : shp q = (ci + 5, nf) := by simpa using hsh
  have hty := cf.2.2.2.2.2 j (CF_len cf ht)
  have hnf := nar_fit (ad := ad) (Option.some.inj (ht.symm.trans hty.1)) hty.2 hp
  rw [List.map_cons, List.map_cons, rv_ref h0, Int.toNat_natCast]
  have hset : (wl dA ad ρ σ n).set q (ad q, .inr (ci, ((fts ci).mapIdx fun j t => rv ad (t, if t = 2 then ρ q j else σ q j)).set j (rv ad (t, x)))) = wl dA ad (ρ) (mup σ q j x) n := by
    rw [obj_set ht h2, ← cel_obj (dA := dA) hsq]
    exact wl_set fun i _ hi => cel_mup (ne_cast hi)
  refine va_put (D := D) (ci := ci) (C := CN) (T := T) (N := N) (tys := TY dA) hx hb C.2.2.2.2.2.1 cf.2.1 ty cf.2.2.1 cf.2.2.2.1 C.2.2.2.2.1 K.1 h.1 h.2.1 h.2.2.1 q (by rw [wl_get hq, cel_obj hsq]) cf.1 j (CF_len cf ht) (C.2.2.2.2.2.1 _ hw) (fun _ h9 => h9) hfin (cf.2.2.1 j (CF_len cf ht)) hnf.1 hnf.2 (by simpa using (List.getElem?_eq_some_iff.mp ht).1) hd (fun H1 locs1 hP hD hS => ?_)
  rw [hset] at hP hD
  exact hh p l e Rm s m args below meth c A H1 locs1 D dA ad0 ad ls C K ⟨hP, hD, hS, h.2.2.2.1, h.2.2.2.2.1, pok_mup h.2.2.2.2.2.1 hkn (by rw [lgt_obj hsh, show (fts ci).getD j 0 = t by simp [List.getD, ht]]; rcases hb1 with h9 | h9 <;> subst h9 <;> exact (cons_ok hs).1), h.2.2.2.2.2.2⟩ hl hL hn (cons_ok (cons_ok hs).2).2
theorem ev_putfF {M : MD} {n0 n1 : Nat} {r : Option V × Mem × Mem} {pc n : Nat} {ρ σ : Mem} {L st : List V} {t : Nat} {k x : Int} {j ci idx nf N : Nat} {CN : String} {T : u_T} {ty : Nat → FieldType} (hd : decode M.2.1 pc = .ok (.putfield idx, 3)) (cf : CF ci CN T N ty) (hw : Cond.fieldLink M.1 idx (T j).1 (T j).2.1 (T j).2.2.1 ∈ WS) (hsh : shp k.toNat = (ci + 5, nf)) (h0 : 0 ≤ k) (hkn : k < n) (ht : (fts ci)[j]? = some t) (h2 : t ≠ 2) (hb1 : t = 0 ∨ t = 1) (hfin : (T j).2.2.2 = true) (hin : M.2.2.2.2.2.2.1 = true) (hdc : (T j).1 = M.1) (hp : pfit t x (ty j)) (hh : Ev M n0 n1 r (pc + 3) (n) (ρ) (mup σ k j x) (L) (st)) : Ev M n0 n1 r (pc) (n) (ρ) (σ) (L) ((t, x) :: (2, k) :: st) := by
  intro p l e Rm s m args below meth c A H locs D dA ad0 ad ls C K h hl hL hn hs
  have hx := C.1
  have hb := C.2.1
  obtain ⟨q, rfl⟩ := Int.eq_ofNat_of_zero_le h0
  have hq : q < n := by omega
  have hsq : shp q = (ci + 5, nf) := by simpa using hsh
  have hty := cf.2.2.2.2.2 j (CF_len cf ht)
  have hnf := nar_fit (ad := ad) (Option.some.inj (ht.symm.trans hty.1)) hty.2 hp
  rw [List.map_cons, List.map_cons, rv_ref h0, Int.toNat_natCast]
  have hset : (wl dA ad ρ σ n).set q (ad q, .inr (ci, ((fts ci).mapIdx fun j t => rv ad (t, if t = 2 then ρ q j else σ q j)).set j (rv ad (t, x)))) = wl dA ad (ρ) (mup σ q j x) n := by
    rw [obj_set ht h2, ← cel_obj (dA := dA) hsq]
    exact wl_set fun i _ hi => cel_mup (ne_cast hi)
  refine va_putF (D := D) (ci := ci) (C := CN) (T := T) (N := N) (tys := TY dA) hx hb C.2.2.2.2.2.1 cf.2.1 ty cf.2.2.1 cf.2.2.2.1 C.2.2.2.2.1 K.1 h.1 h.2.1 h.2.2.1 q (by rw [wl_get hq, cel_obj hsq]) cf.1 j (CF_len cf ht) (C.2.2.2.2.2.1 _ hw) (fun _ h9 => h9) hfin (C.2.2.2.2.2.2.2.2.2.2.2 hin) hdc (cf.2.2.1 j (CF_len cf ht)) hnf.1 hnf.2 (by simpa using (List.getElem?_eq_some_iff.mp ht).1) hd (fun H1 locs1 hP hD hS => ?_)
  rw [hset] at hP hD
  exact hh p l e Rm s m args below meth c A H1 locs1 D dA ad0 ad ls C K ⟨hP, hD, hS, h.2.2.2.1, h.2.2.2.2.1, pok_mup h.2.2.2.2.2.1 hkn (by rw [lgt_obj hsh, show (fts ci).getD j 0 = t by simp [List.getD, ht]]; rcases hb1 with h9 | h9 <;> subst h9 <;> exact (cons_ok hs).1), h.2.2.2.2.2.2⟩ hl hL hn (cons_ok (cons_ok hs).2).2
theorem ev_putr {M : MD} {n0 n1 : Nat} {r : Option V × Mem × Mem} {pc n : Nat} {ρ σ : Mem} {L st : List V} {k x : Int} {j ci idx nf N : Nat} {CN : String} {T : u_T} {ty : Nat → FieldType} (hd : decode M.2.1 pc = .ok (.putfield idx, 3)) (cf : CF ci CN T N ty) (hw : Cond.fieldLink M.1 idx (T j).1 (T j).2.1 (T j).2.2.1 ∈ WS) (hsh : shp k.toNat = (ci + 5, nf)) (h0 : 0 ≤ k) (hkn : k < n) (ht : (fts ci)[j]? = some 2)  (hfin : (T j).2.2.2 = false) (hp : pfit 2 x (ty j)) (hh : Ev M n0 n1 r (pc + 3) (n) (mup ρ k j x) (σ) (L) (st)) : Ev M n0 n1 r (pc) (n) (ρ) (σ) (L) ((2, x) :: (2, k) :: st) := by
  intro p l e Rm s m args below meth c A H locs D dA ad0 ad ls C K h hl hL hn hs
  have hx := C.1
  have hb := C.2.1
  obtain ⟨q, rfl⟩ := Int.eq_ofNat_of_zero_le h0
  have hq : q < n := by omega
  have hsq : shp q = (ci + 5, nf) := by simpa using hsh
  have hty := cf.2.2.2.2.2 j (CF_len cf ht)
  have hnf := nar_fit (ad := ad) (Option.some.inj (ht.symm.trans hty.1)) hty.2 hp
  rw [List.map_cons, List.map_cons, rv_ref h0, Int.toNat_natCast]
  have hset : (wl dA ad ρ σ n).set q (ad q, .inr (ci, ((fts ci).mapIdx fun j t => rv ad (t, if t = 2 then ρ q j else σ q j)).set j (rv ad (2, x)))) = wl dA ad (mup ρ q j x) (σ) n := by
    rw [obj_setr ht, ← cel_obj (dA := dA) hsq]
    exact wl_set fun i _ hi => cel_mupr (ne_cast hi)
  refine va_put (D := D) (ci := ci) (C := CN) (T := T) (N := N) (tys := TY dA) hx hb C.2.2.2.2.2.1 cf.2.1 ty cf.2.2.1 cf.2.2.2.1 C.2.2.2.2.1 K.1 h.1 h.2.1 h.2.2.1 q (by rw [wl_get hq, cel_obj hsq]) cf.1 j (CF_len cf ht) (C.2.2.2.2.2.1 _ hw) (fun _ h9 => h9) hfin (cf.2.2.1 j (CF_len cf ht)) hnf.1 hnf.2 (by simpa using (List.getElem?_eq_some_iff.mp ht).1) hd (fun H1 locs1 hP hD hS => ?_)
  rw [hset] at hP hD
  exact hh p l e Rm s m args below meth c A H1 locs1 D dA ad0 ad ls C K ⟨hP, hD, hS, h.2.2.2.1, h.2.2.2.2.1, pok_mupr h.2.2.2.2.2.1 hkn (cons_ok hs).1, h.2.2.2.2.2.2⟩ hl hL hn (cons_ok (cons_ok hs).2).2
theorem ev_putrF {M : MD} {n0 n1 : Nat} {r : Option V × Mem × Mem} {pc n : Nat} {ρ σ : Mem} {L st : List V} {k x : Int} {j ci idx nf N : Nat} {CN : String} {T : u_T} {ty : Nat → FieldType} (hd : decode M.2.1 pc = .ok (.putfield idx, 3)) (cf : CF ci CN T N ty) (hw : Cond.fieldLink M.1 idx (T j).1 (T j).2.1 (T j).2.2.1 ∈ WS) (hsh : shp k.toNat = (ci + 5, nf)) (h0 : 0 ≤ k) (hkn : k < n) (ht : (fts ci)[j]? = some 2)  (hfin : (T j).2.2.2 = true) (hin : M.2.2.2.2.2.2.1 = true) (hdc : (T j).1 = M.1) (hp : pfit 2 x (ty j)) (hh : Ev M n0 n1 r (pc + 3) (n) (mup ρ k j x) (σ) (L) (st)) : Ev M n0 n1 r (pc) (n) (ρ) (σ) (L) ((2, x) :: (2, k) :: st) := by
  intro p l e Rm s m args below meth c A H locs D dA ad0 ad ls C K h hl hL hn hs
  have hx := C.1
  have hb := C.2.1
  obtain ⟨q, rfl⟩ := Int.eq_ofNat_of_zero_le h0
  have hq : q < n := by omega
  have hsq : shp q = (ci + 5, nf) := by simpa using hsh
  have hty := cf.2.2.2.2.2 j (CF_len cf ht)
  have hnf := nar_fit (ad := ad) (Option.some.inj (ht.symm.trans hty.1)) hty.2 hp
  rw [List.map_cons, List.map_cons, rv_ref h0, Int.toNat_natCast]
  have hset : (wl dA ad ρ σ n).set q (ad q, .inr (ci, ((fts ci).mapIdx fun j t => rv ad (t, if t = 2 then ρ q j else σ q j)).set j (rv ad (2, x)))) = wl dA ad (mup ρ q j x) (σ) n := by
    rw [obj_setr ht, ← cel_obj (dA := dA) hsq]
    exact wl_set fun i _ hi => cel_mupr (ne_cast hi)
  refine va_putF (D := D) (ci := ci) (C := CN) (T := T) (N := N) (tys := TY dA) hx hb C.2.2.2.2.2.1 cf.2.1 ty cf.2.2.1 cf.2.2.2.1 C.2.2.2.2.1 K.1 h.1 h.2.1 h.2.2.1 q (by rw [wl_get hq, cel_obj hsq]) cf.1 j (CF_len cf ht) (C.2.2.2.2.2.1 _ hw) (fun _ h9 => h9) hfin (C.2.2.2.2.2.2.2.2.2.2.2 hin) hdc (cf.2.2.1 j (CF_len cf ht)) hnf.1 hnf.2 (by simpa using (List.getElem?_eq_some_iff.mp ht).1) hd (fun H1 locs1 hP hD hS => ?_)
  rw [hset] at hP hD
  exact hh p l e Rm s m args below meth c A H1 locs1 D dA ad0 ad ls C K ⟨hP, hD, hS, h.2.2.2.1, h.2.2.2.2.1, pok_mupr h.2.2.2.2.2.1 hkn (cons_ok hs).1, h.2.2.2.2.2.2⟩ hl hL hn (cons_ok (cons_ok hs).2).2
theorem ev_iald {M : MD} {n0 n1 : Nat} {r : Option V × Mem × Mem} {pc n : Nat} {ρ σ : Mem} {L st : List V} {α : Type} {X : Option α} {q : α} {k i : Int} {N : Nat} (hd : decode M.2.1 pc = .ok (.iaload, 1)) (hsh : shp k.toNat = (0, N)) (h0 : 0 ≤ k) (hkn : k < n) (hf : chk (0 ≤ i ∧ i < N) X = some q) (hh : X = some q → Ev M n0 n1 r (pc + 1) (n) (ρ) (σ) (L) ((0, σ k i) :: st)) : Ev M n0 n1 r (pc) (n) (ρ) (σ) (L) ((0, i) :: (2, k) :: st) := by
  intro p l e Rm s m args below meth c A H locs D dA ad0 ad ls C K h hl hL hn hs
  have hx := C.1
  have hb := C.2.1
  obtain ⟨hi, hf⟩ := chk_of hf
  obtain ⟨z, rfl⟩ := Int.eq_ofNat_of_zero_le h0
  have hq : z < n := by omega
  have hsq : shp z = (0, N) := by simpa using hsh
  have hvp := in32_vp (cons_ok hs).1 hi.1 hi.2
  have h2 := hh hf p l e Rm s m args below meth c A H locs D dA ad0 ad ls C K h hl hL hn (ok_cons (by have := h.2.2.2.2.2.1.1 (z : Int) i; rw [lgt_arr hsh (by decide)] at this; exact this) (cons_ok (cons_ok hs).2).2)
  rw [List.map_cons, List.map_cons, rv_ref h0, Int.toNat_natCast]
  refine va_iald (D := D) (tys := TY dA) hx hb K.1 h.1 z 0 (by rw [wl_get hq, cel_0 hsq]) rfl hvp.1 hd ?_

  rw [hvp.2, Int.toNat_of_nonneg hi.1]
  exact h2
theorem ev_zald {M : MD} {n0 n1 : Nat} {r : Option V × Mem × Mem} {pc n : Nat} {ρ σ : Mem} {L st : List V} {α : Type} {X : Option α} {q : α} {k i : Int} {N : Nat} (hd : decode M.2.1 pc = .ok (.baload, 1)) (hsh : shp k.toNat = (2, N)) (h0 : 0 ≤ k) (hkn : k < n) (hf : chk (0 ≤ i ∧ i < N) X = some q) (hh : X = some q → Ev M n0 n1 r (pc + 1) (n) (ρ) (σ) (L) ((0, σ k i) :: st)) : Ev M n0 n1 r (pc) (n) (ρ) (σ) (L) ((0, i) :: (2, k) :: st) := by
  intro p l e Rm s m args below meth c A H locs D dA ad0 ad ls C K h hl hL hn hs
  have hx := C.1
  have hb := C.2.1
  obtain ⟨hi, hf⟩ := chk_of hf
  obtain ⟨z, rfl⟩ := Int.eq_ofNat_of_zero_le h0
  have hq : z < n := by omega
  have hsq : shp z = (2, N) := by simpa using hsh
  have hvp := in32_vp (cons_ok hs).1 hi.1 hi.2
  have h2 := hh hf p l e Rm s m args below meth c A H locs D dA ad0 ad ls C K h hl hL hn (ok_cons (by have := h.2.2.2.2.2.1.1 (z : Int) i; rw [lgt_arr hsh (by decide)] at this; exact this) (cons_ok (cons_ok hs).2).2)
  rw [List.map_cons, List.map_cons, rv_ref h0, Int.toNat_natCast]
  refine va_zald (D := D) (tys := TY dA) hx hb K.1 h.1 z 2 (by rw [wl_get hq, cel_2 hsq]) rfl hvp.1 hd ?_

  rw [hvp.2, Int.toNat_of_nonneg hi.1]
  exact h2
theorem ev_lald {M : MD} {n0 n1 : Nat} {r : Option V × Mem × Mem} {pc n : Nat} {ρ σ : Mem} {L st : List V} {α : Type} {X : Option α} {q : α} {k i : Int} {N : Nat} (hd : decode M.2.1 pc = .ok (.laload, 1)) (hsh : shp k.toNat = (1, N)) (h0 : 0 ≤ k) (hkn : k < n) (hf : chk (0 ≤ i ∧ i < N) X = some q) (hh : X = some q → Ev M n0 n1 r (pc + 1) (n) (ρ) (σ) (L) ((1, σ k i) :: st)) : Ev M n0 n1 r (pc) (n) (ρ) (σ) (L) ((0, i) :: (2, k) :: st) := by
  intro p l e Rm s m args below meth c A H locs D dA ad0 ad ls C K h hl hL hn hs
  have hx := C.1
  have hb := C.2.1
  obtain ⟨hi, hf⟩ := chk_of hf
  obtain ⟨z, rfl⟩ := Int.eq_ofNat_of_zero_le h0
  have hq : z < n := by omega
  have hsq : shp z = (1, N) := by simpa using hsh
  have hvp := in32_vp (cons_ok hs).1 hi.1 hi.2
  have h2 := hh hf p l e Rm s m args below meth c A H locs D dA ad0 ad ls C K h hl hL hn (ok_cons (by have := h.2.2.2.2.2.1.1 (z : Int) i; rw [lgt_arl hsh] at this; exact this) (cons_ok (cons_ok hs).2).2)
  rw [List.map_cons, List.map_cons, rv_ref h0, Int.toNat_natCast]
  refine va_lald (D := D) (tys := TY dA) hx hb K.1 h.1 z 1 (by rw [wl_get hq, cel_1 hsq]) rfl hvp.1 hd ?_

  rw [hvp.2, Int.toNat_of_nonneg hi.1]
  exact h2
theorem ev_aald {M : MD} {n0 n1 : Nat} {r : Option V × Mem × Mem} {pc n : Nat} {ρ σ : Mem} {L st : List V} {α : Type} {X : Option α} {q : α} {k i x : Int} {N : Nat} (hd : decode M.2.1 pc = .ok (.aaload, 1)) (hsh : shp k.toNat = (4, N)) (h0 : 0 ≤ k) (hkn : k < n) (hf : chk (0 ≤ i ∧ i < N) X = some q) (hv : ρ k i = x) (hh : X = some q → Ev M n0 n1 r (pc + 1) (n) (ρ) (σ) (L) ((2, x) :: st)) : Ev M n0 n1 r (pc) (n) (ρ) (σ) (L) ((0, i) :: (2, k) :: st) := by
  intro p l e Rm s m args below meth c A H locs D dA ad0 ad ls C K h hl hL hn hs
  have hx := C.1
  have hb := C.2.1
  subst hv
  obtain ⟨hi, hf⟩ := chk_of hf
  obtain ⟨z, rfl⟩ := Int.eq_ofNat_of_zero_le h0
  have hq : z < n := by omega
  have hsq : shp z = (4, N) := by simpa using hsh
  have hvp := in32_vp (cons_ok hs).1 hi.1 hi.2
  have h2 := hh hf p l e Rm s m args below meth c A H locs D dA ad0 ad ls C K h hl hL hn (ok_cons (h.2.2.2.2.2.1.2.1 (z : Int) i) (cons_ok (cons_ok hs).2).2)
  rw [List.map_cons, List.map_cons, rv_ref h0, Int.toNat_natCast]
  refine va_aldq (D := D) (tys := TY dA) (C := "ClashDays$Week") hx hb K.1 h.1 z 4 (by rw [wl_get hq, cel_4 hsq]) rfl hvp.1 hd ?_

  rw [hvp.2, Int.toNat_of_nonneg hi.1]
  have e : va_rf (if ρ (z : Int) i < 0 then none else some (ad (ρ (z : Int) i).toNat)) = rv ad (2, ρ (z : Int) i) := by
    show _ = if ρ (z : Int) i < 0 then Value.null else _
    split <;> rfl
  rw [e]
  exact h2
theorem ev_iast {M : MD} {n0 n1 : Nat} {r : Option V × Mem × Mem} {pc n : Nat} {ρ σ : Mem} {L st : List V} {α : Type} {X : Option α} {q : α} {k i x : Int} {N : Nat} (hd : decode M.2.1 pc = .ok (.iastore, 1)) (hsh : shp k.toNat = (0, N)) (h0 : 0 ≤ k) (hkn : k < n) (hf : chk (0 ≤ i ∧ i < N ) X = some q) (hh : X = some q → Ev M n0 n1 r (pc + 1) (n) (ρ) (mup σ k i x) (L) (st)) : Ev M n0 n1 r (pc) (n) (ρ) (σ) (L) ((0, x) :: (0, i) :: (2, k) :: st) := by
  intro p l e Rm s m args below meth c A H locs D dA ad0 ad ls C K h hl hL hn hs
  have hx := C.1
  have hb := C.2.1
  obtain ⟨hi, hf⟩ := chk_of hf
  obtain ⟨z, rfl⟩ := Int.eq_ofNat_of_zero_le h0
  have hq : z < n := by omega
  have hsq : shp z = (0, N) := by simpa using hsh
  have hvp := in32_vp (cons_ok (cons_ok hs).2).1 hi.1 hi.2
  rw [List.map_cons, List.map_cons, List.map_cons, rv_ref h0, Int.toNat_natCast]
  have hset : (wl dA ad ρ σ n).set z (ad z, .inl (dA 0, N, .inl (upd (fun j : Nat => Int32.ofInt (σ z j)) (Int32.ofInt i).toNatClampNeg (Int32.ofInt x)))) = wl dA ad ρ (mup σ z i x) n := by
    have e : .inl (upd (fun j : Nat => Int32.ofInt (σ z j)) (Int32.ofInt i).toNatClampNeg (Int32.ofInt x)) = ((.inl fun j : Nat => Int32.ofInt (mup σ z i x z j)) : (Nat → Int32) ⊕ (Nat → Int64) ⊕ (Nat → UInt32) ⊕ (Nat → UInt64) ⊕ (Nat → Option Nat)) := by
      congr 1
      funext j
      rw [hvp.2]
      show (if j = i.toNat then _ else _) = Int32.ofInt (if _ ∧ _ then _ else _)
      by_cases hj : j = i.toNat
      · have hj2 : (j : Int) = i := by omega
        rw [if_pos hj, if_pos ⟨rfl, hj2⟩]
      · have hj2 : ¬ (j : Int) = i := by omega
        rw [if_neg hj, if_neg (fun h9 => hj2 h9.2)]
    rw [e, ← cel_0 (dA := dA) (ad := ad) (ρ := ρ) hsq]
    exact wl_set fun a _ ha => cel_mup (ne_cast ha)
  refine va_iast (D := D) (tys := TY dA) hx hb K.1 h.1 h.2.1 h.2.2.1 z 0 (by rw [wl_get hq, cel_0 hsq]) rfl hvp.1 hd (fun H1 locs1 hP hD hS => ?_)
  rw [hset] at hP hD
  exact hh hf p l e Rm s m args below meth c A H1 locs1 D dA ad0 ad ls C K ⟨hP, hD, hS, h.2.2.2.1, h.2.2.2.2.1, pok_mup h.2.2.2.2.2.1 hkn (by rw [lgt_arr hsh (by decide)]; exact (cons_ok hs).1), h.2.2.2.2.2.2⟩ hl hL hn (cons_ok (cons_ok (cons_ok hs).2).2).2
theorem ev_zast {M : MD} {n0 n1 : Nat} {r : Option V × Mem × Mem} {pc n : Nat} {ρ σ : Mem} {L st : List V} {α : Type} {X : Option α} {q : α} {k i x : Int} {N : Nat} (hd : decode M.2.1 pc = .ok (.bastore, 1)) (hsh : shp k.toNat = (2, N)) (h0 : 0 ≤ k) (hkn : k < n) (hf : chk (0 ≤ i ∧ i < N ∧ (x = 0 ∨ x = 1)) X = some q) (hh : X = some q → Ev M n0 n1 r (pc + 1) (n) (ρ) (mup σ k i x) (L) (st)) : Ev M n0 n1 r (pc) (n) (ρ) (σ) (L) ((0, x) :: (0, i) :: (2, k) :: st) := by
  intro p l e Rm s m args below meth c A H locs D dA ad0 ad ls C K h hl hL hn hs
  have hx := C.1
  have hb := C.2.1
  obtain ⟨hi, hf⟩ := chk_of hf
  obtain ⟨z, rfl⟩ := Int.eq_ofNat_of_zero_le h0
  have hq : z < n := by omega
  have hsq : shp z = (2, N) := by simpa using hsh
  have hnar : vp_nar .boolean (Int32.ofInt x) = Int32.ofInt x := by rcases hi.2.2 with h9 | h9 <;> subst h9 <;> decide
  have hvp := in32_vp (cons_ok (cons_ok hs).2).1 hi.1 hi.2.1
  rw [List.map_cons, List.map_cons, List.map_cons, rv_ref h0, Int.toNat_natCast]
  have hset : (wl dA ad ρ σ n).set z (ad z, .inl (dA 2, N, .inl (upd (fun j : Nat => Int32.ofInt (σ z j)) (Int32.ofInt i).toNatClampNeg (Int32.ofInt x)))) = wl dA ad ρ (mup σ z i x) n := by
    have e : .inl (upd (fun j : Nat => Int32.ofInt (σ z j)) (Int32.ofInt i).toNatClampNeg (Int32.ofInt x)) = ((.inl fun j : Nat => Int32.ofInt (mup σ z i x z j)) : (Nat → Int32) ⊕ (Nat → Int64) ⊕ (Nat → UInt32) ⊕ (Nat → UInt64) ⊕ (Nat → Option Nat)) := by
      congr 1
      funext j
      rw [hvp.2]
      show (if j = i.toNat then _ else _) = Int32.ofInt (if _ ∧ _ then _ else _)
      by_cases hj : j = i.toNat
      · have hj2 : (j : Int) = i := by omega
        rw [if_pos hj, if_pos ⟨rfl, hj2⟩]
      · have hj2 : ¬ (j : Int) = i := by omega
        rw [if_neg hj, if_neg (fun h9 => hj2 h9.2)]
    rw [e, ← cel_2 (dA := dA) (ad := ad) (ρ := ρ) hsq]
    exact wl_set fun a _ ha => cel_mup (ne_cast ha)
  refine va_zast (D := D) (tys := TY dA) hx hb K.1 h.1 h.2.1 h.2.2.1 z 2 (by rw [wl_get hq, cel_2 hsq]) rfl hvp.1 hd (fun H1 locs1 hP hD hS => ?_)
  rw [hnar] at hP hD
  rw [hset] at hP hD
  exact hh hf p l e Rm s m args below meth c A H1 locs1 D dA ad0 ad ls C K ⟨hP, hD, hS, h.2.2.2.1, h.2.2.2.2.1, pok_mup h.2.2.2.2.2.1 hkn (by rw [lgt_arr hsh (by decide)]; exact (cons_ok hs).1), h.2.2.2.2.2.2⟩ hl hL hn (cons_ok (cons_ok (cons_ok hs).2).2).2
theorem ev_last {M : MD} {n0 n1 : Nat} {r : Option V × Mem × Mem} {pc n : Nat} {ρ σ : Mem} {L st : List V} {α : Type} {X : Option α} {q : α} {k i x : Int} {N : Nat} (hd : decode M.2.1 pc = .ok (.lastore, 1)) (hsh : shp k.toNat = (1, N)) (h0 : 0 ≤ k) (hkn : k < n) (hf : chk (0 ≤ i ∧ i < N ) X = some q) (hh : X = some q → Ev M n0 n1 r (pc + 1) (n) (ρ) (mup σ k i x) (L) (st)) : Ev M n0 n1 r (pc) (n) (ρ) (σ) (L) ((1, x) :: (0, i) :: (2, k) :: st) := by
  intro p l e Rm s m args below meth c A H locs D dA ad0 ad ls C K h hl hL hn hs
  have hx := C.1
  have hb := C.2.1
  obtain ⟨hi, hf⟩ := chk_of hf
  obtain ⟨z, rfl⟩ := Int.eq_ofNat_of_zero_le h0
  have hq : z < n := by omega
  have hsq : shp z = (1, N) := by simpa using hsh
  have hvp := in32_vp (cons_ok (cons_ok hs).2).1 hi.1 hi.2
  rw [List.map_cons, List.map_cons, List.map_cons, rv_ref h0, Int.toNat_natCast]
  have hset : (wl dA ad ρ σ n).set z (ad z, .inl (dA 1, N, .inr (.inl (vp_updL (fun j : Nat => Int64.ofInt (σ z j)) (Int32.ofInt i).toNatClampNeg (Int64.ofInt x))))) = wl dA ad ρ (mup σ z i x) n := by
    have e : .inr (.inl (vp_updL (fun j : Nat => Int64.ofInt (σ z j)) (Int32.ofInt i).toNatClampNeg (Int64.ofInt x))) = ((.inr (.inl fun j : Nat => Int64.ofInt (mup σ z i x z j))) : (Nat → Int32) ⊕ (Nat → Int64) ⊕ (Nat → UInt32) ⊕ (Nat → UInt64) ⊕ (Nat → Option Nat)) := by
      congr 2
      funext j
      rw [hvp.2]
      show (if j = i.toNat then _ else _) = Int64.ofInt (if _ ∧ _ then _ else _)
      by_cases hj : j = i.toNat
      · have hj2 : (j : Int) = i := by omega
        rw [if_pos hj, if_pos ⟨rfl, hj2⟩]
      · have hj2 : ¬ (j : Int) = i := by omega
        rw [if_neg hj, if_neg (fun h9 => hj2 h9.2)]
    rw [e, ← cel_1 (dA := dA) (ad := ad) (ρ := ρ) hsq]
    exact wl_set fun a _ ha => cel_mup (ne_cast ha)
  refine va_last (D := D) (tys := TY dA) hx hb K.1 h.1 h.2.1 h.2.2.1 z 1 (by rw [wl_get hq, cel_1 hsq]) rfl hvp.1 hd (fun H1 locs1 hP hD hS => ?_)
  rw [hset] at hP hD
  exact hh hf p l e Rm s m args below meth c A H1 locs1 D dA ad0 ad ls C K ⟨hP, hD, hS, h.2.2.2.1, h.2.2.2.2.1, pok_mup h.2.2.2.2.2.1 hkn (by rw [lgt_arl hsh]; exact (cons_ok hs).1), h.2.2.2.2.2.2⟩ hl hL hn (cons_ok (cons_ok (cons_ok hs).2).2).2
theorem ev_alen {M : MD} {n0 n1 : Nat} {r : Option V × Mem × Mem} {pc n : Nat} {ρ σ : Mem} {L st : List V} {k : Int} {N d : Nat} (hd : decode M.2.1 pc = .ok (.arraylength, 1)) (hsh : shp k.toNat = (d, N)) (hd3 : d < 2) (hN : (N : Int) ≤ 2147483647) (h0 : 0 ≤ k) (hkn : k < n) (hh : Ev M n0 n1 r (pc + 1) (n) (ρ) (σ) (L) ((0, (N : Int)) :: st)) : Ev M n0 n1 r (pc) (n) (ρ) (σ) (L) ((2, k) :: st) := by
  intro p l e Rm s m args below meth c A H locs D dA ad0 ad ls C K h hl hL hn hs
  have hx := C.1
  have hb := C.2.1
  obtain ⟨z, rfl⟩ := Int.eq_ofNat_of_zero_le h0
  have hq : z < n := by omega
  have hsq : shp z = (d, N) := by simpa using hsh
  rw [List.map_cons, rv_ref h0, Int.toNat_natCast]
  have h2 := hh p l e Rm s m args below meth c A H locs D dA ad0 ad ls C K h hl hL hn (ok_cons (show in32 (N : Int) from ⟨by omega, hN⟩) (cons_ok hs).2)
  match d, hd3 with
  | 0, _ => exact va_alen (D := D) (tys := TY dA) (x := (N, .inl fun j => Int32.ofInt (σ z j))) (v := Int32.ofInt (N : Int)) hx hb K.1 h.1 z 0 (by rw [wl_get hq, cel_0 hsq]) rfl rfl hd h2
  | 1, _ => exact va_alen (D := D) (tys := TY dA) (x := (N, .inr (.inl fun j => Int64.ofInt (σ z j)))) (v := Int32.ofInt (N : Int)) hx hb K.1 h.1 z 1 (by rw [wl_get hq, cel_1 hsq]) rfl rfl hd h2
theorem ev_copyi {M : MD} {n0 n1 : Nat} {r : Option V × Mem × Mem} {pc n : Nat} {ρ σ : Mem} {L st : List V} {α : Type} {X : Option α} {q : α} {a i b j z : Int} {Na Nb idx : Nat} (hd : decode M.2.1 pc = .ok (.invokestatic idx, 3)) (hw : Cond.methodLink M.1 idx arraycopyName ∈ WS) (hw2 : Cond.native arraycopyName ∈ WS ∧ Cond.static arraycopyName ∈ WS ∧ Cond.initialized "java/lang/System" ∈ WS) (hsa : shp a.toNat = (0, Na)) (ha0 : 0 ≤ a) (han : a < n) (hsb : shp b.toNat = (0, Nb)) (hb0 : 0 ≤ b) (hbn : b < n) (hM : 1 ≤ M.2.2.2.2.1 ∧ 8 + (nativeFrameWords "java/lang/System" "arraycopy" 5 + 11) ≤ M.2.2.2.2.2.1) (hst : st.length ≤ 4) (hf : chk (0 ≤ i ∧ 0 ≤ j ∧ 0 ≤ z ∧ i + z ≤ Na ∧ j + z ≤ Nb) X = some q) (hh : X = some q → Ev M n0 n1 r (pc + 3) (n) (ρ) (mcp σ a i b j z) (L) (st)) : Ev M n0 n1 r (pc) (n) (ρ) (σ) (L) ((0, z) :: (0, j) :: (2, b) :: (0, i) :: (2, a) :: st) := by
  intro p l e Rm s m args below meth c A H locs D dA ad0 ad ls C K h hl hL hn hs
  have hx := C.1
  have hb := C.2.1
  obtain ⟨hi, hf⟩ := chk_of hf
  obtain ⟨a, rfl⟩ := Int.eq_ofNat_of_zero_le ha0
  obtain ⟨b, rfl⟩ := Int.eq_ofNat_of_zero_le hb0
  have hqa : a < n := by omega
  have hqb : b < n := by omega
  have hsa' : shp a = (0, Na) := by simpa using hsa
  have hsb' : shp b = (0, Nb) := by simpa using hsb
  have sz := (cons_ok hs).1
  have sj := (cons_ok (cons_ok hs).2).1
  have si := (cons_ok (cons_ok (cons_ok (cons_ok hs).2).2).2).1
  have e1 : (Int32.ofInt i).toNatClampNeg = i.toNat := by show (Int32.ofInt i).toInt.toNat = _; rw [oi32 si]
  have e2 : (Int32.ofInt j).toNatClampNeg = j.toNat := by show (Int32.ofInt j).toInt.toNat = _; rw [oi32 sj]
  have e3 : (Int32.ofInt z).toNatClampNeg = z.toNat := by show (Int32.ofInt z).toInt.toNat = _; rw [oi32 sz]
  have ng : ∀ x : Int, in32 x → 0 ≤ x → ¬ Int32.ofInt x < 0 := fun x h1 h2 h3 => by
    have := (lt32 h1 in32_0).mp h3
    omega
  simp only [List.map_cons, rv_ref ha0, rv_ref hb0, Int.toNat_natCast]
  have hset : (wl dA ad ρ σ n).set b (ad b, .inl (dA 0, Nb, .inl (va_cpy (fun y : Nat => Int32.ofInt (σ a y)) (fun y : Nat => Int32.ofInt (σ b y)) (Int32.ofInt i).toNatClampNeg (Int32.ofInt j).toNatClampNeg (Int32.ofInt z).toNatClampNeg))) = wl dA ad ρ (mcp σ a i b j z) n := by
    have e : .inl (va_cpy (fun y : Nat => Int32.ofInt (σ a y)) (fun y : Nat => Int32.ofInt (σ b y)) (Int32.ofInt i).toNatClampNeg (Int32.ofInt j).toNatClampNeg (Int32.ofInt z).toNatClampNeg) = ((.inl fun y : Nat => Int32.ofInt (mcp σ a i b j z b y)) : (Nat → Int32) ⊕ (Nat → Int64) ⊕ (Nat → UInt32) ⊕ (Nat → UInt64) ⊕ (Nat → Option Nat)) := by
      congr 1
      funext y
      rw [e1, e2, e3]
      unfold va_cpy mcp
      by_cases hy : j.toNat ≤ y ∧ y < j.toNat + z.toNat
      · rw [if_pos hy, if_pos ⟨rfl, by omega, by omega⟩]
        have : ((i.toNat + (y - j.toNat) : Nat) : Int) = i + ((y : Int) - j) := by omega
        rw [← this]
      · rw [if_neg hy, if_neg (by omega)]
    rw [e, ← cel_0 (dA := dA) (ad := ad) (ρ := ρ) hsb']
    exact wl_set fun x _ hx9 => cel_mcp (ne_cast hx9)
  have hsum : ((List.map (rv ad) st).map fun v => v.category).sum ≤ 8 := by
    have : ∀ l : List V, ((List.map (rv ad) l).map fun v => v.category).sum ≤ 2 * l.length := by
      intro l
      induction l with
      | nil => simp
      | cons v l ih =>
        simp only [List.map_cons, List.sum_cons, List.length_cons]
        have : (rv ad v).category ≤ 2 := by rw [rv_cat]; split <;> omega
        omega
    have := this st
    omega
  refine va_copyi (D := D) (tys := TY dA) (ty := .int) hx hb (by rw [C.2.2.2.1]; exact hl.1.symm) C.2.2.2.2.1 (C.2.2.2.2.2.1 _ hw) (C.2.2.2.2.2.1 _ hw2.1) (C.2.2.2.2.2.1 _ hw2.2.1) (C.2.2.2.2.2.1 _ hw2.2.2) K.1 h.1 h.2.1 h.2.2.1 a b 0 0 (by rw [wl_get hqa, cel_0 hsa']) (by rw [wl_get hqb, cel_0 hsb']) rfl rfl rfl (ng _ si hi.1) (ng _ sj hi.2.1) (ng _ sz hi.2.2.1) (by rw [e1, e3]; omega) (by rw [e2, e3]; omega) (fun _ _ => rfl) (by have := C.2.2.2.2.2.2.2.1; omega) (by have := C.2.2.2.2.2.2.2.2.1; omega) hd (fun H1 locs1 hP hD hS => ?_)
  rw [hset] at hP hD
  refine hh hf p l e Rm s m args below meth c A H1 locs1 D dA ad0 ad ls C K ⟨hP, hD, hS, h.2.2.2.1, h.2.2.2.2.1, ?_, h.2.2.2.2.2.2⟩ hl hL hn (cons_ok (cons_ok (cons_ok (cons_ok (cons_ok hs).2).2).2).2).2
  have hp := h.2.2.2.2.2.1
  refine ⟨fun x y => ?_, hp.2.1, fun x y hxy => ⟨(hp.2.2 x y hxy).1, ?_⟩⟩
  · unfold mcp
    by_cases h9 : x = b ∧ j ≤ y ∧ y < j + z
    · rw [if_pos h9]
      have := hp.1 a (i + (y - j))
      rw [lgt_arr hsa (by decide)] at this
      rw [h9.1, lgt_arr hsb (by decide)]
      exact this
    · rw [if_neg h9]
      exact hp.1 x y
  · unfold mcp
    rw [if_neg (by omega)]
    exact (hp.2.2 x y hxy).2
theorem ev_copyl {M : MD} {n0 n1 : Nat} {r : Option V × Mem × Mem} {pc n : Nat} {ρ σ : Mem} {L st : List V} {α : Type} {X : Option α} {q : α} {a i b j z : Int} {Na Nb idx : Nat} (hd : decode M.2.1 pc = .ok (.invokestatic idx, 3)) (hw : Cond.methodLink M.1 idx arraycopyName ∈ WS) (hw2 : Cond.native arraycopyName ∈ WS ∧ Cond.static arraycopyName ∈ WS ∧ Cond.initialized "java/lang/System" ∈ WS) (hsa : shp a.toNat = (1, Na)) (ha0 : 0 ≤ a) (han : a < n) (hsb : shp b.toNat = (1, Nb)) (hb0 : 0 ≤ b) (hbn : b < n) (hM : 1 ≤ M.2.2.2.2.1 ∧ 8 + (nativeFrameWords "java/lang/System" "arraycopy" 5 + 11) ≤ M.2.2.2.2.2.1) (hst : st.length ≤ 4) (hf : chk (0 ≤ i ∧ 0 ≤ j ∧ 0 ≤ z ∧ i + z ≤ Na ∧ j + z ≤ Nb) X = some q) (hh : X = some q → Ev M n0 n1 r (pc + 3) (n) (ρ) (mcp σ a i b j z) (L) (st)) : Ev M n0 n1 r (pc) (n) (ρ) (σ) (L) ((0, z) :: (0, j) :: (2, b) :: (0, i) :: (2, a) :: st) := by
  intro p l e Rm s m args below meth c A H locs D dA ad0 ad ls C K h hl hL hn hs
  have hx := C.1
  have hb := C.2.1
  obtain ⟨hi, hf⟩ := chk_of hf
  obtain ⟨a, rfl⟩ := Int.eq_ofNat_of_zero_le ha0
  obtain ⟨b, rfl⟩ := Int.eq_ofNat_of_zero_le hb0
  have hqa : a < n := by omega
  have hqb : b < n := by omega
  have hsa' : shp a = (1, Na) := by simpa using hsa
  have hsb' : shp b = (1, Nb) := by simpa using hsb
  have sz := (cons_ok hs).1
  have sj := (cons_ok (cons_ok hs).2).1
  have si := (cons_ok (cons_ok (cons_ok (cons_ok hs).2).2).2).1
  have e1 : (Int32.ofInt i).toNatClampNeg = i.toNat := by show (Int32.ofInt i).toInt.toNat = _; rw [oi32 si]
  have e2 : (Int32.ofInt j).toNatClampNeg = j.toNat := by show (Int32.ofInt j).toInt.toNat = _; rw [oi32 sj]
  have e3 : (Int32.ofInt z).toNatClampNeg = z.toNat := by show (Int32.ofInt z).toInt.toNat = _; rw [oi32 sz]
  have ng : ∀ x : Int, in32 x → 0 ≤ x → ¬ Int32.ofInt x < 0 := fun x h1 h2 h3 => by
    have := (lt32 h1 in32_0).mp h3
    omega
  simp only [List.map_cons, rv_ref ha0, rv_ref hb0, Int.toNat_natCast]
  have hset : (wl dA ad ρ σ n).set b (ad b, .inl (dA 1, Nb, .inr (.inl (va_cpy (fun y : Nat => Int64.ofInt (σ a y)) (fun y : Nat => Int64.ofInt (σ b y)) (Int32.ofInt i).toNatClampNeg (Int32.ofInt j).toNatClampNeg (Int32.ofInt z).toNatClampNeg)))) = wl dA ad ρ (mcp σ a i b j z) n := by
    have e : .inr (.inl (va_cpy (fun y : Nat => Int64.ofInt (σ a y)) (fun y : Nat => Int64.ofInt (σ b y)) (Int32.ofInt i).toNatClampNeg (Int32.ofInt j).toNatClampNeg (Int32.ofInt z).toNatClampNeg)) = ((.inr (.inl fun y : Nat => Int64.ofInt (mcp σ a i b j z b y))) : (Nat → Int32) ⊕ (Nat → Int64) ⊕ (Nat → UInt32) ⊕ (Nat → UInt64) ⊕ (Nat → Option Nat)) := by
      congr 2
      funext y
      rw [e1, e2, e3]
      unfold va_cpy mcp
      by_cases hy : j.toNat ≤ y ∧ y < j.toNat + z.toNat
      · rw [if_pos hy, if_pos ⟨rfl, by omega, by omega⟩]
        have : ((i.toNat + (y - j.toNat) : Nat) : Int) = i + ((y : Int) - j) := by omega
        rw [← this]
      · rw [if_neg hy, if_neg (by omega)]
    rw [e, ← cel_1 (dA := dA) (ad := ad) (ρ := ρ) hsb']
    exact wl_set fun x _ hx9 => cel_mcp (ne_cast hx9)
  have hsum : ((List.map (rv ad) st).map fun v => v.category).sum ≤ 8 := by
    have : ∀ l : List V, ((List.map (rv ad) l).map fun v => v.category).sum ≤ 2 * l.length := by
      intro l
      induction l with
      | nil => simp
      | cons v l ih =>
        simp only [List.map_cons, List.sum_cons, List.length_cons]
        have : (rv ad v).category ≤ 2 := by rw [rv_cat]; split <;> omega
        omega
    have := this st
    omega
  refine va_copyl (D := D) (tys := TY dA) (ty := .long) hx hb (by rw [C.2.2.2.1]; exact hl.1.symm) C.2.2.2.2.1 (C.2.2.2.2.2.1 _ hw) (C.2.2.2.2.2.1 _ hw2.1) (C.2.2.2.2.2.1 _ hw2.2.1) (C.2.2.2.2.2.1 _ hw2.2.2) K.1 h.1 h.2.1 h.2.2.1 a b 1 1 (by rw [wl_get hqa, cel_1 hsa']) (by rw [wl_get hqb, cel_1 hsb']) rfl rfl rfl (ng _ si hi.1) (ng _ sj hi.2.1) (ng _ sz hi.2.2.1) (by rw [e1, e3]; omega) (by rw [e2, e3]; omega) (fun _ _ => rfl) (by have := C.2.2.2.2.2.2.2.1; omega) (by have := C.2.2.2.2.2.2.2.2.1; omega) hd (fun H1 locs1 hP hD hS => ?_)
  rw [hset] at hP hD
  refine hh hf p l e Rm s m args below meth c A H1 locs1 D dA ad0 ad ls C K ⟨hP, hD, hS, h.2.2.2.1, h.2.2.2.2.1, ?_, h.2.2.2.2.2.2⟩ hl hL hn (cons_ok (cons_ok (cons_ok (cons_ok (cons_ok hs).2).2).2).2).2
  have hp := h.2.2.2.2.2.1
  refine ⟨fun x y => ?_, hp.2.1, fun x y hxy => ⟨(hp.2.2 x y hxy).1, ?_⟩⟩
  · unfold mcp
    by_cases h9 : x = b ∧ j ≤ y ∧ y < j + z
    · rw [if_pos h9]
      have := hp.1 a (i + (y - j))
      rw [lgt_arl hsa] at this
      rw [h9.1, lgt_arl hsb]
      exact this
    · rw [if_neg h9]
      exact hp.1 x y
  · unfold mcp
    rw [if_neg (by omega)]
    exact (hp.2.2 x y hxy).2
