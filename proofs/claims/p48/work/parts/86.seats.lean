/-! PIECES, ROOMS AND SEATS LEFT, both sides -/
def CALLS (n : Nat) (σ : Mem) (B : Bk) (a : Option (Int × Mem)) (r : Mem → Option (Int × Mem)) : Prop := ∃ v ρ τ, a = some (v, ρ) ∧ r ρ = some (v, τ) ∧ INV0 (n + 1) τ B ∧ SEC τ B ∧ (∀ x i, 164 ≤ x → x ≤ 170 → τ x i = σ x i) ∧ τ 43 3 = σ 43 3
theorem same.s {n : Nat} {σ : Mem} {B : Bk} (h : INV0 n σ B) (hS : SEC σ B) {a : Option (Int × Mem)} {r : Mem → Option (Int × Mem)} (g : same σ B a r) : CALLS n σ B a r := by
  obtain ⟨v, ρ, τ, a1, a2, s1, s2, s3⟩ := g
  have q : ∀ x i, ¬ SC x → x ≠ 181 → τ x i = σ x i := fun x i hx hx2 => s1 x i hx fun e => absurd e hx2
  have e43 : τ 43 3 = σ 43 3 := q 43 3 (by unfold SC; decide) (by decide)
  exact ⟨v, ρ, τ, a1, a2, h.stp (fun x i h1 _ h3 => s1 x i h1 h3) s2 s3, hS.keep (fun x i x1 x2 => q x i (by unfold SC; omega) (by omega)) e43, fun x i x1 x2 => q x i (by unfold SC; omega) (by omega), e43⟩
theorem fin_s {n : Nat} {σ ρ τ : Mem} {B : Bk} (h : INV0 n σ B) (f1 : ∀ x, ¬ (35 ≤ x ∧ x ≤ 42) → ¬ (45 ≤ x ∧ x ≤ 153) → ¬ (171 ≤ x ∧ x ≤ 178) → ρ x = σ x) (s : ST ρ B) (hS : SEC ρ B) (f2 : ∀ y i, y ≠ 34 → y ≠ 184 → ¬ (192 ≤ y ∧ y ≤ 202) → y ≠ 204 → ¬ (211 ≤ y ∧ y ≤ 217) → (y = 181 → i ≠ 37) → τ y i = ρ y i) (hr : REF σ τ) : INV0 (n + 1) τ B ∧ SEC τ B ∧ (∀ x i, 164 ≤ x → x ≤ 170 → τ x i = σ x i) ∧ τ 43 3 = σ 43 3 := by
  have hn := s.2.2.1.1
  unfold WFn at hn
  have e43 : τ 43 3 = ρ 43 3 := f2 _ _ (by decide) (by decide) (by decide) (by decide) (by decide) (fun z => absurd z (by decide))
  refine ⟨h.stp (fun y i y1 y2 y3 => ?_) (s.2.2.2.keep (by omega) fun y y1 y2 => funext fun i => f2 y i (by omega) (by omega) (by omega) (by omega) (by omega) (by omega)) hr, hS.keep (fun x i x1 x2 => f2 x i (by omega) (by omega) (by omega) (by omega) (by omega) (by omega)) e43, fun x i x1 x2 => ?_, ?_⟩
  · unfold SC at y1
    rw [f2 y i (by omega) (by omega) (by omega) (by omega) (by omega) (by omega), f1 y (by omega) (by omega) (by omega)]
  · rw [f2 x i (by omega) (by omega) (by omega) (by omega) (by omega) (by omega), f1 x (by omega) (by omega) (by omega)]
  · rw [e43, f1 43 (by decide) (by decide) (by decide)]
theorem fin_r {σ ρ τ : Mem} (f1 : ∀ x, ¬ (35 ≤ x ∧ x ≤ 42) → ¬ (45 ≤ x ∧ x ≤ 153) → ¬ (171 ≤ x ∧ x ≤ 178) → ρ x = σ x) (f2 : ∀ y i, ¬ (192 ≤ y ∧ y ≤ 202) → y ≠ 204 → ¬ (211 ≤ y ∧ y ≤ 217) → (y = 181 → i ≠ 37) → τ y i = ρ y i) : REF σ τ := Or.inl ⟨funext fun i => by rw [f2 34 i (by decide) (by decide) (by decide) (fun z => absurd z (by decide)), f1 34 (by decide) (by decide) (by decide)], funext fun i => by rw [f2 184 i (by decide) (by decide) (by decide) (fun z => absurd z (by decide)), f1 184 (by decide) (by decide) (by decide)]⟩