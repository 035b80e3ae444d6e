/-! A WEEK: what it is, and the reference's plans -/
/-- what comes over to a day -/
def ovr (B : Bk) (c : Int) : Nat → Int
  | 0 => -1
  | d + 1 => ov (dpl B c d (ovr B c d))
theorem ovf_in {B : Bk} {c f : Int} {a m : Nat} : ∀ {n : Nat} {v o : Int} {m' : Nat} {l : List Nat}, ovf B c f a m none n = some (v, (o, m', l)) → ∃ p : Nat, p < n ∧ o = p ∧ m.testBit p = true ∧ m' = clr m p ∧ l ∈ PT (nof m') ∧ lwS B c m' f a l = true ∧ v = msS B c m' f a 0 (woB B o) l
  | 0, v, o, m', l, h => by cases h
  | n + 1, v, o, m', l, h => by
    have h : (if m.testBit n && decide (tm B c n ≤ B 8 3) then bst (lwD B c f a) (msD B c f a) (its n (clr m n)) (ovf B c f a m none n) else ovf B c f a m none n) = some (v, (o, m', l)) := h
    split at h
    · rename_i hb
      rw [Bool.and_eq_true] at hb
      rcases bst_in h with q | ⟨q1, q2, q3⟩
      · obtain ⟨p, h1, h2⟩ := ovf_in q
        exact ⟨p, by omega, h2⟩
      · unfold its at q1
        rw [List.mem_map] at q1
        obtain ⟨l', h1, h2⟩ := q1
        cases h2
        exact ⟨n, by omega, rfl, hb.1, rfl, h1, q2, q3⟩
    · obtain ⟨p, h1, h2⟩ := ovf_in h
      exact ⟨p, by omega, h2⟩
theorem dpl_some {B : Bk} (w : WF B) {c : Int} (hc : 0 ≤ c) (hc2 : c < B 8 1) {d o v o' : Int} {m : Nat} {l : List Nat} (h : dpl B c d o = some (v, (o', m, l))) : okm B m ∧ -1 ≤ o' ∧ o' < B 8 0 ∧ l ∈ PT (nof m) ∧ lwS B c m (fre B c o) (ahd B c o) l = true ∧ v = msS B c m (fre B c o) (ahd B c o) 0 (woB B o') l ∧ ((o' = -1 ∧ m = od B c d) ∨ ∃ p : Nat, o' = p ∧ (od B c d).testBit p = true ∧ m = clr (od B c d) p) := by
  have hm := okm_od w hc hc2 d
  have hn := w.1
  unfold WFn at hn
  unfold dpl at h
  cases hb : bst (lwD B c (fre B c o) (ahd B c o)) (msD B c (fre B c o) (ahd B c o)) (its (-1) (od B c d)) none with
  | some x =>
    rw [hb] at h
    have h : some x = some (v, (o', m, l)) := h
    cases h
    rcases bst_in hb with q | ⟨q1, q2, q3⟩
    · cases q
    · unfold its at q1
      rw [List.mem_map] at q1
      obtain ⟨l', h1, h2⟩ := q1
      cases h2
      exact ⟨hm, by omega, by omega, h1, q2, q3, Or.inl ⟨rfl, rfl⟩⟩
  | none =>
    rw [hb] at h
    have h : (if B 5 c = 1 ∧ d < 4 then ovf B c (fre B c o) (ahd B c o) (od B c d) none 12 else none) = some (v, (o', m, l)) := h
    split at h
    · obtain ⟨p, h1, h2, h3, h4, h5, h6, h7⟩ := ovf_in h
      subst h2 h4
      have := hm.2.2 p h3
      exact ⟨hm.clr p, by omega, by omega, h5, h6, h7, Or.inr ⟨p, rfl, h3, rfl⟩⟩
    · cases h
theorem ovr_b {B : Bk} (w : WF B) {c : Int} (hc : 0 ≤ c) (hc2 : c < B 8 1) : ∀ d, -1 ≤ ovr B c d ∧ ovr B c d < B 8 0
  | 0 => by
    have hn := w.1
    unfold WFn at hn
    unfold ovr
    omega
  | d + 1 => by
    have hn := w.1
    unfold WFn at hn
    show -1 ≤ ov (dpl B c d (ovr B c d)) ∧ ov (dpl B c d (ovr B c d)) < B 8 0
    cases h : dpl B c d (ovr B c d) with
    | none => show (-1 : Int) ≤ -1 ∧ (-1 : Int) < _; omega
    | some y =>
      obtain ⟨v, o, m, l⟩ := y
      obtain ⟨-, h1, h2, -⟩ := dpl_some w hc hc2 h
      exact ⟨h1, h2⟩
/-- the reference's frame -/
def pfr (σ τ : Mem) (d : Int) : Prop := (∀ x, ¬ (192 ≤ x ∧ x ≤ 202) → τ x = σ x) ∧ (∀ x e, 195 ≤ x → x ≤ 200 → e ≠ d → τ x e = σ x e) ∧ ∀ x i, 201 ≤ x → x ≤ 202 → ¬ (4 * d ≤ i ∧ i < 4 * d + 4) → τ x i = σ x i
theorem pfr.rfl {σ : Mem} {d : Int} : pfr σ σ d := ⟨fun _ _ => Eq.refl _, fun _ _ _ _ _ => Eq.refl _, fun _ _ _ _ _ => Eq.refl _⟩
theorem pfr.trans {σ τ ρ : Mem} {d : Int} (h : pfr σ τ d) (g : pfr τ ρ d) : pfr σ ρ d :=
  ⟨fun x h1 => by rw [g.1 x h1, h.1 x h1], fun x e h1 h2 h3 => by rw [g.2.1 x e h1 h2 h3, h.2.1 x e h1 h2 h3], fun x i h1 h2 h3 => by rw [g.2.2 x i h1 h2 h3, h.2.2 x i h1 h2 h3]⟩
theorem pfr.mupd {σ : Mem} {d x v : Int} (h1 : 195 ≤ x) (h2 : x ≤ 200) : pfr σ (mup σ x d v) d :=
  ⟨fun y g => mup_row (by omega), fun y e _ _ g => mup_miss (fun q => g q.2), fun y i _ _ _ => mup_miss (by omega)⟩
theorem isRd_ov {σ : Mem} {B : Bk} {c f d : Int} {x : Option (Int × Tr)} (h : isRd σ B c f d x) : σ 197 d = ov x := by
  cases x with
  | none => exact (h.1 rfl).2.2.1
  | some y => obtain ⟨v, o, m, l⟩ := y; exact (h.2 v o m l rfl).2.2.1
/-- the reference's rows of a day, as the plan is -/
def isRw (σ : Mem) (B : Bk) (c : Int) (d : Nat) : Prop := isRd σ B c (fre B c (ovr B c d)) d (dpl B c d (ovr B c d)) ∧ σ 198 d = fre B c (ovr B c d) ∧ σ 199 d = (ahd B c (ovr B c d) : Int)
theorem isRw.keep {σ τ : Mem} {B : Bk} (w : WF B) {c : Int} (hc : 0 ≤ c) (hc2 : c < B 8 1) {d : Nat} (h : isRw σ B c d) (e1 : ∀ x, 195 ≤ x → x ≤ 200 → τ x d = σ x d) (e2 : ∀ x i, 201 ≤ x → x ≤ 202 → 4 * (d : Int) ≤ i → i < 4 * (d : Int) + 4 → τ x i = σ x i) : isRw τ B c d := by
  refine ⟨⟨fun h0 => ?_, fun v o m l h0 => ?_⟩, by rw [e1 198 (by decide) (by decide)]; exact h.2.1, by rw [e1 199 (by decide) (by decide)]; exact h.2.2⟩
  · rw [e1 195 (by decide) (by decide), e1 196 (by decide) (by decide), e1 197 (by decide) (by decide), e1 200 (by decide) (by decide)]
    exact h.1.1 h0
  · rw [e1 195 (by decide) (by decide), e1 196 (by decide) (by decide), e1 197 (by decide) (by decide), e1 200 (by decide) (by decide)]
    have h4 := (dpl_some w hc hc2 h0).1.2.1
    obtain ⟨z1, z2, z3, z4, z5⟩ := h.1.2 v o m l h0
    refine ⟨z1, z2, z3, z4, fun k hk => ?_⟩
    rw [e2 201 _ (by decide) (by decide) (by omega) (by omega), e2 202 _ (by decide) (by decide) (by omega) (by omega)]
    exact z5 k hk