/-! WATCH AND DUTY, both sides -/
theorem INV0.stp {n : Nat} {σ τ : Mem} {B : Bk} (h : INV0 n σ B) (s1 : ∀ x i, ¬ SC x → ¬ (164 ≤ x ∧ x ≤ 178) → (x = 181 → i = 2 ∨ i = 9) → τ x i = σ x i) (s2 : WKS τ B) (s3 : REF σ τ) : INV0 (n + 1) τ B := by
  obtain ⟨⟨hB, hR, w, hW⟩, h2, h3, h4, h5, h6, h7, h8⟩ := h
  have q : ∀ x i, ¬ SC x → ¬ (164 ≤ x ∧ x ≤ 178) → x ≠ 181 → τ x i = σ x i := fun x i hx h1 hx2 => s1 x i hx h1 fun e => absurd e hx2
  have e43 : τ 43 3 = σ 43 3 := q 43 3 (by unfold SC; decide) (by decide) (by decide)
  exact ⟨⟨hB.pt fun x i g1 g2 => q x i (by unfold SC; omega) (by omega) (by omega), hR.pt fun i => q 182 i (by unfold SC; decide) (by decide) (by decide), w, s2⟩, h2.pt (s1 181 2 (by unfold SC; decide) (by decide) fun _ => Or.inl rfl) (q 0 3 (by unfold SC; decide) (by decide) (by decide)) (fun x i g1 g2 => q x i (by unfold SC; omega) (by omega) (by omega)) (fun i => q 183 i (by unfold SC; decide) (by decide) (by decide)), h3.pt (fun i => q _ i (by unfold SC; decide) (by decide) (by decide)) (fun i => q _ i (by unfold SC; decide) (by decide) (by decide)) (fun i => q _ i (by unfold SC; decide) (by decide) (by decide)) (fun i => q _ i (by unfold SC; decide) (by decide) (by decide)) (Int.le_refl _), h4.pt (fun i => q _ i (by unfold SC; decide) (by decide) (by decide)) (fun i => q _ i (by unfold SC; decide) (by decide) (by decide)), h5.pt (s1 181 9 (by unfold SC; decide) (by decide) fun _ => Or.inr rfl) (q 28 1 (by unfold SC; decide) (by decide) (by decide)) (fun i => q _ i (by unfold SC; decide) (by decide) (by decide)) (fun i => q _ i (by unfold SC; decide) (by decide) (by decide)), h6.ref s3, h7.pt (fun i => q _ i (by unfold SC; decide) (by decide) (by decide)), h8.s (Or.inl e43)⟩
theorem REF.no {σ ρ τ : Mem} {x : Int} (hx : -56 ≤ x ∧ x ≤ -52) (h34 : ρ 34 = σ 34) (h176 : ρ 184 = σ 184) (t34 : ∀ j, τ 34 j = mup ρ 34 (-52 - x) (jadd (ρ 34 (-52 - x)) 1) 34 j) (t176 : ∀ j, τ 184 j = mup ρ 184 (-52 - x) (jadd (ρ 184 (-52 - x)) 1) 184 j) : REF σ τ := by
  refine Or.inr ⟨-52 - x, by omega, by omega, fun j => ?_, fun j => ?_⟩
  · rw [t34, ← h34]
    by_cases e : j = -52 - x
    · rw [mup_hit rfl e, if_pos e]
    · rw [mup_miss (fun z => e z.2), if_neg e]
  · rw [t176, ← h176]
    by_cases e : j = -52 - x
    · rw [mup_hit rfl e, if_pos e]
    · rw [mup_miss (fun z => e z.2), if_neg e]
def CALLD (n : Nat) (σ : Mem) (B : Bk) (a : Option (Int × Mem)) (r : Mem → Option (Int × Mem)) : Prop := ∃ v ρ τ, a = some (v, ρ) ∧ r ρ = some (v, τ) ∧ INV0 (n + 1) τ B ∧ DUC τ B ∧ (∀ x i, 171 ≤ x → x ≤ 178 → τ x i = σ x i) ∧ τ 43 3 = σ 43 3
theorem DUC.keep {σ τ : Mem} {B : Bk} (h : DUC σ B) (e : ∀ x i, 164 ≤ x → x ≤ 170 → τ x i = σ x i) (e43 : τ 43 3 = σ 43 3) : DUC τ B := by
  refine ⟨by rw [e _ _ (by decide) (by decide), e43]; exact h.1, fun g => ?_⟩
  rw [e _ _ (by decide) (by decide), e43] at g
  exact (h.2 g).keep (fun i _ => e _ _ (by decide) (by decide)) (fun x i x1 x2 => e x i (by omega) x2)
theorem same.d {n : Nat} {σ : Mem} {B : Bk} (h : INV0 n σ B) (hD : DUC σ B) {a : Option (Int × Mem)} {r : Mem → Option (Int × Mem)} (g : same σ B a r) : CALLD n σ B a r := by
  obtain ⟨v, ρ, τ, a1, a2, s1, s2, s3⟩ := g
  have q : ∀ x i, ¬ SC x → x ≠ 181 → τ x i = σ x i := fun x i hx hx2 => s1 x i hx fun e => absurd e hx2
  have e43 : τ 43 3 = σ 43 3 := q 43 3 (by unfold SC; decide) (by decide)
  exact ⟨v, ρ, τ, a1, a2, h.stp (fun x i h1 _ h3 => s1 x i h1 h3) s2 s3, hD.keep (fun x i x1 x2 => q x i (by unfold SC; omega) (by omega)) e43, fun x i x1 x2 => q x i (by unfold SC; omega) (by omega), e43⟩
theorem dL_ok {B : Bk} (w : WF B) : (∀ x ∈ dL B, okD x) ∧ (dL B).length ≤ 200 := by
  have hn := w.1
  unfold WFn at hn
  obtain ⟨N, hN⟩ := n_of hn.2.1.1
  unfold dL
  rw [hN, Int.toNat_natCast]
  exact ⟨ok_dD (by omega) 5 (Nat.le_refl _), len_all (by omega) fun c d hc hd => st_4 w (by omega) (by omega) hd⟩