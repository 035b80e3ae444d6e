/-! MEASURES, both sides -/
theorem X8_measured {σ : Mem} {k : Int} {B : Bk} (hB : isBk σ 1 B) (w : WF B) {c : Int} (hc : 0 ≤ c) (hc2 : c < B 8 1) {d : Nat} (hd : d < 5) {o by_ : Int} (ho : o < B 8 0) (hby : 0 ≤ by_ ∧ by_ ≤ 4) (h : isWd σ k B c d (fre B c o) (ahd B c o) (dpl B c d o)) {v o' : Int} {m : Nat} {l : List Nat} (hx : dpl B c d o = some (v, (o', m, l))) : f_X8_measured σ k 1 d by_ = some (msC B c (fre B c o) by_ (woB B o') (ahd B c o) (nof m) (lq m l)) := by
  have hn := w.1
  unfold WFn at hn
  obtain ⟨d1, d2, d3, d4, -⟩ := dpl_some w hc hc2 hx
  have h4 := d1.2.1
  obtain ⟨-, -, pin⟩ := PT_ok (nof m) h4
  have hqP : ∀ j, j < nof m → (lq m l j : Int) < B 8 0 := fun j hj => d1.2.2 _ (nth_in ((pin l d4).2 j hj)).2.1
  have hf := fre_b w hc hc2 ho
  have hkept := isWd_kept w hc hc2 h
  obtain ⟨-, -, z3, z4, z5⟩ := h.2.2.2 v o' m l hx
  obtain ⟨f, ef⟩ : ∃ f, f = fre B c o := ⟨_, rfl⟩
  rw [← ef] at hf z5 ⊢
  unfold f_X8_measured msC
  by_cases e0 : by_ = 0
  · rw [if_neg (by omega), if_pos e0, chk_pos (by omega), bind_some' hkept, hx, show kv (some (v, (o', m, l))) = v from rfl, dpl_v w hc hc2 hx, ← ef]
  rw [if_pos e0, if_neg e0]
  unfold f_X8_measured_20
  have key := loop_is (f := f_X8_measured_20B σ k 1 d by_) (P := fun s => ∃ j : Nat, s = (mj B c f by_ (lq m l) j, (j : Int)) ∧ j ≤ nof m) (μ := fun s => (4 - s.2).toNat) (r := mj B c f by_ (lq m l) (nof m)) ?_ (a := (0, 0)) ⟨0, rfl, Nat.zero_le _⟩ (by decide)
  · rw [key]; rfl
  · rintro s ⟨j, rfl, hj⟩
    show (∃ a', f_X8_measured_20C σ k 1 d by_ _ _ = _ ∧ _) ∨ f_X8_measured_20C σ k 1 d by_ _ _ = _
    unfold f_X8_measured_20C
    rw [chk_pos (by omega), z3]
    by_cases hkn : (nof m : Int) ≤ j
    · right
      rw [if_pos hkn]
      have : j = nof m := by omega
      subst this; rfl
    · left
      obtain ⟨y1, y2, y3⟩ := z5 j (by omega)
      have hq := hqP j (by omega)
      have hbg := bg_b w hc hc2 hf hqP (k := j) (by omega)
      have hst := (w.2.1 (lq m l j) (by omega) hq).2.1
      have hmj := mj_b w hc hc2 hf h4 hqP by_ j (by omega)
      have ej : jadd (jmul (d : Int) 4) (j : Int) = 4 * d + j := by rw [jmul_ok (by omega) (by omega), jadd_ok (by omega) (by omega)]; omega
      have e1 : jadd (j : Int) 1 = ((j + 1 : Nat) : Int) := by rw [jadd_ok (by omega) (by omega)]; omega
      refine ⟨(mj B c f by_ (lq m l) (j + 1), ((j + 1 : Nat) : Int)), ?_, ⟨j + 1, rfl, by omega⟩, by show (4 - ((j + 1 : Nat) : Int)).toNat < (4 - (j : Int)).toNat; omega⟩
      rw [if_neg hkn, ej]
      simp only [Option.bind_some]
      rw [chk_pos (by omega), chk_pos (by omega), y1, chk_pos (by omega), chk_pos (by omega), y2, y3, hB.start (by omega) (by omega), jsub_ok (by omega) (by omega), bind_some' (X3_join (by omega) (by omega) (by omega)), e1]
      rfl
/-- asking for a week -/
theorem ask {σ : Mem} {B : Bk} (h : ST σ B) {c : Int} (hc : 0 ≤ c) (hc2 : c < B 8 1) : ∃ ρ, f_X9_of σ c = some (54 + 10 * c, ρ) ∧ CFr σ ρ ∧ wks σ ρ ∧ ST ρ B ∧ isWk ρ (54 + 10 * c) B c := by
  obtain ⟨hB, hR, w, hW⟩ := h
  obtain ⟨ρ, h1, h2, h3, h4⟩ := X9_of hB w hW hc hc2
  exact ⟨ρ, h1, h2.cf, h2, ⟨wks_bk (Or.inl rfl) hB h2, hR.row (h2 182 (by decide) (by decide)), w, h3⟩, h4⟩
theorem wk_came {σ : Mem} {k : Int} {B : Bk} {c : Int} (h : isWk σ k B c) {d : Nat} (hd : d < 5) : f_X8_cameTo σ k d = some (ovr B c d) := X8_cameTo hd fun e he => by
  subst he
  exact isWd_ov (h e (by omega))
def cntd (x : Option (Int × Tr)) : Nat := match x with
  | none => 0
  | some y => nof y.2.2.1
theorem isWd_cnt {σ : Mem} {k : Int} {B : Bk} {c d f : Int} {a : Nat} {x : Option (Int × Tr)} (h : isWd σ k B c d f a x) : σ (k + 5) d = (cntd x : Int) := by
  cases x with
  | none => exact (h.2.2.1 rfl).2.2.1
  | some y => obtain ⟨v, o, m, l⟩ := y; exact (h.2.2.2 v o m l rfl).2.2.1
theorem isRd_cnt {σ : Mem} {B : Bk} {c f d : Int} {x : Option (Int × Tr)} (h : isRd σ B c f d x) : σ 200 d = (cntd x : Int) := by
  cases x with
  | none => exact (h.1 rfl).2.2.2
  | some y => obtain ⟨v, o, m, l⟩ := y; exact (h.2 v o m l rfl).2.2.2.1
theorem cntd_4 {B : Bk} (w : WF B) {c : Int} (hc : 0 ≤ c) (hc2 : c < B 8 1) (d o : Int) : cntd (dpl B c d o) ≤ 4 := by
  cases hx : dpl B c d o with
  | none => exact Nat.zero_le _
  | some y => obtain ⟨v, o', m, l⟩ := y; exact (dpl_some w hc hc2 hx).1.2.1
theorem X10_isMeasure {σ : Mem} (x : Int) : f_X10_isMeasure σ x = some (if 0 ≤ x ∧ x ≤ 4 then 1 else 0) := by
  unfold f_X10_isMeasure
  by_cases h1 : x < 0
  · rw [if_pos h1, if_neg (by omega)]
  · rw [if_neg h1]
    by_cases h2 : 5 ≤ x
    · rw [if_pos h2, if_neg (by omega)]
    · rw [if_neg h2, if_pos (by omega)]
