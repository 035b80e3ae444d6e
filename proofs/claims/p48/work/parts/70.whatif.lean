/-! WHAT IF: a book taken over; one paper changed, or two (by mk70.py) -/
theorem X0_become {σ : Mem} {b0 b1 : Int} {B : Bk} (hB : isBk σ b1 B) (hab : b0 + 8 < b1 ∨ b1 + 8 < b0) : ∃ τ, f_X0_become σ b0 b1 = some τ ∧ isBk τ b0 B ∧ ∀ x, ¬ (b0 ≤ x ∧ x ≤ b0 + 8) → τ x = σ x := by
  unfold f_X0_become
  rw [chk_pos (by decide)]
  simp only [Option.bind_some]
  rw [chk_pos (by decide), chk_pos (by decide), chk_pos (by decide), chk_pos (by decide), chk_pos (by decide), chk_pos (by decide), chk_pos (by decide)]
  have e0 : ∀ (τ : Mem) (t a i j n x : Int), 1 ≤ t → t ≤ 8 → (x = b0 ∨ (b1 ≤ x ∧ x ≤ b1 + 8)) → mcp τ a i (b0 + t) j n x = τ x := fun τ t a i j n x h1 h2 h3 => mcp_row (by omega)
  have e1 : ∀ (τ : Mem) (i v x : Int), b1 ≤ x → x ≤ b1 + 8 → mup τ b0 i v x = τ x := fun τ i v x h1 h2 => mup_row (by omega)
  refine ⟨_, rfl, ⟨?_, ?_, ?_, ?_, ?_, ?_, ?_, ?_, ?_, ?_, ?_, ?_, ?_, ?_⟩, fun x hx => ?_⟩
  · intro i h1 h2
    rw [mup_row (by omega), mup_row (by omega), mup_row (by omega), mup_row (by omega), mup_row (by omega), mup_row (by omega), mcp_row (by omega), mcp_row (by omega), mcp_row (by omega), mcp_row (by omega), mcp_row (by omega), mcp_row (by omega), mcp_row (by omega), mcp_hit rfl h1 (by omega), show (0 : Int) + (i - 0) = i by omega, hB.day h1 h2]
  · intro i h1 h2
    rw [mup_row (by omega), mup_row (by omega), mup_row (by omega), mup_row (by omega), mup_row (by omega), mup_row (by omega), mcp_row (by omega), mcp_row (by omega), mcp_row (by omega), mcp_row (by omega), mcp_row (by omega), mcp_row (by omega), mcp_hit rfl h1 (by omega), mcp_row (by omega), show (0 : Int) + (i - 0) = i by omega, hB.start h1 h2]
  · intro i h1 h2
    rw [mup_row (by omega), mup_row (by omega), mup_row (by omega), mup_row (by omega), mup_row (by omega), mup_row (by omega), mcp_row (by omega), mcp_row (by omega), mcp_row (by omega), mcp_row (by omega), mcp_row (by omega), mcp_hit rfl h1 (by omega), mcp_row (by omega), mcp_row (by omega), show (0 : Int) + (i - 0) = i by omega, hB.len h1 h2]
  · intro i h1 h2
    rw [mup_row (by omega), mup_row (by omega), mup_row (by omega), mup_row (by omega), mup_row (by omega), mup_row (by omega), mcp_row (by omega), mcp_row (by omega), mcp_row (by omega), mcp_row (by omega), mcp_hit rfl h1 (by omega), mcp_row (by omega), mcp_row (by omega), mcp_row (by omega), show (0 : Int) + (i - 0) = i by omega, hB.kind h1 h2]
  · intro i h1 h2
    rw [mup_row (by omega), mup_row (by omega), mup_row (by omega), mup_row (by omega), mup_row (by omega), mup_row (by omega), mcp_row (by omega), mcp_row (by omega), mcp_row (by omega), mcp_hit rfl h1 (by omega), mcp_row (by omega), mcp_row (by omega), mcp_row (by omega), mcp_row (by omega), show (0 : Int) + (i - 0) = i by omega, hB.a h1 h2]
  · intro i h1 h2
    rw [mup_row (by omega), mup_row (by omega), mup_row (by omega), mup_row (by omega), mup_row (by omega), mup_row (by omega), mcp_row (by omega), mcp_row (by omega), mcp_hit rfl h1 (by omega), mcp_row (by omega), mcp_row (by omega), mcp_row (by omega), mcp_row (by omega), mcp_row (by omega), show (0 : Int) + (i - 0) = i by omega, hB.night h1 h2]
  · intro i h1 h2
    rw [mup_row (by omega), mup_row (by omega), mup_row (by omega), mup_row (by omega), mup_row (by omega), mup_row (by omega), mcp_row (by omega), mcp_hit rfl h1 (by omega), mcp_row (by omega), mcp_row (by omega), mcp_row (by omega), mcp_row (by omega), mcp_row (by omega), mcp_row (by omega), show (0 : Int) + (i - 0) = i by omega, hB.takes h1 h2]
  · intro i h1 h2
    rw [mup_row (by omega), mup_row (by omega), mup_row (by omega), mup_row (by omega), mup_row (by omega), mup_row (by omega), mcp_hit rfl h1 (by omega), mcp_row (by omega), mcp_row (by omega), mcp_row (by omega), mcp_row (by omega), mcp_row (by omega), mcp_row (by omega), mcp_row (by omega), show (0 : Int) + (i - 0) = i by omega, hB.seats h1 h2]
  · rw [mup_miss (by omega), mup_miss (by omega), mup_miss (by omega), mup_miss (by omega), mup_miss (by omega), mup_hit rfl rfl, mcp_row (by omega), mcp_row (by omega), mcp_row (by omega), mcp_row (by omega), mcp_row (by omega), mcp_row (by omega), mcp_row (by omega), mcp_row (by omega), hB.nP]
  · rw [mup_miss (by omega), mup_miss (by omega), mup_miss (by omega), mup_miss (by omega), mup_hit rfl rfl, mup_row (by omega), mcp_row (by omega), mcp_row (by omega), mcp_row (by omega), mcp_row (by omega), mcp_row (by omega), mcp_row (by omega), mcp_row (by omega), mcp_row (by omega), hB.nC]
  · rw [mup_miss (by omega), mup_miss (by omega), mup_miss (by omega), mup_hit rfl rfl, mup_row (by omega), mup_row (by omega), mcp_row (by omega), mcp_row (by omega), mcp_row (by omega), mcp_row (by omega), mcp_row (by omega), mcp_row (by omega), mcp_row (by omega), mcp_row (by omega), hB.nR]
  · rw [mup_miss (by omega), mup_miss (by omega), mup_hit rfl rfl, mup_row (by omega), mup_row (by omega), mup_row (by omega), mcp_row (by omega), mcp_row (by omega), mcp_row (by omega), mcp_row (by omega), mcp_row (by omega), mcp_row (by omega), mcp_row (by omega), mcp_row (by omega), hB.hours]
  · rw [mup_miss (by omega), mup_hit rfl rfl, mup_row (by omega), mup_row (by omega), mup_row (by omega), mup_row (by omega), mcp_row (by omega), mcp_row (by omega), mcp_row (by omega), mcp_row (by omega), mcp_row (by omega), mcp_row (by omega), mcp_row (by omega), mcp_row (by omega), hB.turn]
  · rw [mup_hit rfl rfl, mup_row (by omega), mup_row (by omega), mup_row (by omega), mup_row (by omega), mup_row (by omega), mcp_row (by omega), mcp_row (by omega), mcp_row (by omega), mcp_row (by omega), mcp_row (by omega), mcp_row (by omega), mcp_row (by omega), mcp_row (by omega), hB.seed]
  · rw [mup_row (by omega), mup_row (by omega), mup_row (by omega), mup_row (by omega), mup_row (by omega), mup_row (by omega), mcp_row (by omega), mcp_row (by omega), mcp_row (by omega), mcp_row (by omega), mcp_row (by omega), mcp_row (by omega), mcp_row (by omega), mcp_row (by omega)]
theorem flp_flp {B : Bk} {c : Int} {p : Nat} (h : 0 ≤ B 6 c) : flp (flp B c p) c p = B := by
  funext x i
  by_cases e : x = 6 ∧ i = c
  · obtain ⟨rfl, rfl⟩ := e
    rw [flp_6, flp_6, Int.toNat_natCast, Nat.xor_assoc, Nat.xor_self, Nat.xor_zero]
    omega
  · rw [flp_o e, flp_o e]
theorem ST.of {σ τ : Mem} {B : Bk} (h : ST σ B) (e1 : ∀ x, 1 ≤ x → x ≤ 9 → τ x = σ x) (e2 : τ 182 = σ 182) (e3 : ∀ x, 53 ≤ x → x ≤ 153 → τ x = σ x) : ST τ B := by
  have hn := h.2.2.1.1
  unfold WFn at hn
  exact ⟨h.1.rows fun x h1 h2 => e1 x h1 (by omega), h.2.1.row e2, h.2.2.1, h.2.2.2.keep (by omega) e3⟩
/-- the class: the days one can't, with one paper of the draft changed -/
theorem X10_cantsFlipped {σ : Mem} {B : Bk} (h : ST σ B) (hD : isBk σ 10 B) {c : Int} (hc : 0 ≤ c) (hc2 : c < B 8 1) {p : Nat} (hp : (p : Int) < B 8 0) (hf : fifth B c p = false) : ∃ τ, f_X10_cantsFlipped σ c p = some (((cts (flp B c p) c 5 : Nat) : Int), τ) ∧ CFr σ τ ∧ ST τ B ∧ isBk τ 10 B := by
  have w := h.2.2.1
  have hn := w.1
  unfold WFn at hn
  have w' := WF_flp w hc hc2 hp hf
  have hp0 := w.2.1 p (by omega) hp
  obtain ⟨d0, hd0⟩ := n_of hp0.1.1
  have e8 : flp B c p 8 = B 8 := flp_r (by decide)
  unfold f_X10_cantsFlipped
  have f0 := X0_flip hD w hc hc2 (p := p) (by omega)
  rw [show (10 : Int) + 7 = 17 from rfl] at f0
  rw [bind_some' f0]
  obtain ⟨σ1, hσ1⟩ : ∃ σ1, σ1 = mup σ 17 c (((B 6 c).toNat ^^^ 2 ^ p : Nat) : Int) := ⟨_, rfl⟩
  rw [← hσ1]
  have f1 : ∀ x, x ≠ 17 → σ1 x = σ x := fun x hx => by rw [hσ1]; exact mup_row hx
  have hD1 : isBk σ1 10 (flp B c p) := by rw [hσ1]; exact hD.put (t := 6) (by decide) (by decide)
  have h1 : ST σ1 B := h.of (fun x x1 x2 => f1 x (by omega)) (f1 182 (by decide)) (fun x x1 x2 => f1 x (by omega))
  obtain ⟨ρ, a1, a2, a3, a4, a5⟩ := ask h1 hc hc2
  have pp1 : ((54 + 10 * c, ρ) : Int × Mem).1 = 54 + 10 * c := rfl
  have pp2 : ((54 + 10 * c, ρ) : Int × Mem).2 = ρ := rfl
  rw [bind_some' a1, pp1, pp2]
  obtain ⟨τ1, b1, b2, b3⟩ := X8_become w hc hc2 (k2 := 54 + 10 * c) (by omega) a5
  rw [bind_some' b1, chk_pos (by omega)]
  have hD2 : isBk τ1 10 (flp B c p) := hD1.rows fun x x1 x2 => by rw [b2 x (by omega), a3 x (by omega) (by omega)]
  rw [show τ1 11 (p : Int) = (d0 : Int) by rw [← hd0, show τ1 11 (p : Int) = flp B c p 0 p from hD2.day (by omega) (by omega), flp_r (by decide)]]
  obtain ⟨τ2, r1, r2, r3⟩ := X4_replan (Or.inr (Or.inl rfl)) hD2 w w' hc hc2 (by rw [e8]; exact hc2) (k := 154) (by unfold isK; decide) (d0 := d0) (by omega) (fun d hd => agr_flp (by omega)) (by rw [e8]) b3
  rw [bind_some' r1]
  have hD3 : isBk τ2 10 (flp B c p) := hD2.rows fun x x1 x2 => r2 x (by omega) (by omega)
  have f2 := X0_flip hD3 w' hc (by rw [e8]; exact hc2) (p := p) (by omega)
  rw [show (10 : Int) + 7 = 17 from rfl] at f2
  rw [bind_some' f2]
  obtain ⟨τ3, hτ3⟩ : ∃ τ3, τ3 = mup τ2 17 c (((flp B c p 6 c).toNat ^^^ 2 ^ p : Nat) : Int) := ⟨_, rfl⟩
  rw [← hτ3]
  have f3 : ∀ x, x ≠ 17 → τ3 x = τ2 x := fun x hx => by rw [hτ3]; exact mup_row hx
  have hD4 : isBk τ3 10 B := by
    have : isBk τ3 10 (flp (flp B c p) c p) := by rw [hτ3]; exact hD3.put (t := 6) (by decide) (by decide)
    rw [flp_flp (w.2.2.1 c hc hc2).2.2.2.1.1] at this
    exact this
  rw [bind_some' (X8_cants (r3.keep fun x x1 x2 => f3 x (by omega)))]
  refine ⟨τ3, rfl, fun x x1 x2 x3 x4 x5 => ?_, a4.of (fun x x1 x2 => ?_) ?_ (fun x x1 x2 => ?_), hD4⟩
  · rw [f3 x (by omega), r2 x (by omega) (by omega), b2 x (by omega), a2 x (by omega) x2 x3 x4 x5, f1 x (by omega)]
  · rw [f3 x (by omega), r2 x (by omega) (by omega), b2 x (by omega)]
  · rw [f3 182 (by decide), r2 182 (by decide) (by decide), b2 182 (by decide)]
  · rw [f3 x (by omega), r2 x (by omega) (by omega), b2 x (by omega)]