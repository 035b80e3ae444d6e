/-! WHAT IF: a book taken over; one paper changed, or two (by mk70.py) -/
theorem X0_become {σ : Mem} {b0 b1 : Int} {B : Bk} (hB : isBk σ b1 B) (hab : b0 + 8 < b1 ∨ b1 + 8 < b0) : ∃ τ, f_X0_become σ b0 b1 = some τ ∧ isBk τ b0 B ∧ ∀ x, ¬ (b0 ≤ x ∧ x ≤ b0 + 8) → τ x = σ x := by
  unfold f_X0_become
  rw [chk_pos (by decide)]
  simp only [Option.bind_some]
  rw [chk_pos (by decide), chk_pos (by decide), chk_pos (by decide), chk_pos (by decide), chk_pos (by decide), chk_pos (by decide), chk_pos (by decide)]
  have e0 : ∀ (τ : Mem) (t a i j n x : Int), 1 ≤ t → t ≤ 8 → (x = b0 ∨ (b1 ≤ x ∧ x ≤ b1 + 8)) → mcp τ a i (b0 + t) j n x = τ x := fun τ t a i j n x h1 h2 h3 => mcp_row (by omega)
  have e1 : ∀ (τ : Mem) (i v x : Int), b1 ≤ x → x ≤ b1 + 8 → mup τ b0 i v x = τ x := fun τ i v x h1 h2 => mup_row (by omega)
  refine ⟨_, rfl, ⟨?_, ?_, ?_, ?_, ?_, ?_, ?_, ?_, ?_, ?_, ?_, ?_, ?_, ?_⟩, fun x hx => ?_⟩
  · intro i h1 h2
    rw [mup_row (by omega), mup_row (by omega), mup_row (by omega), mup_row (by omega), mup_row (by omega), mup_row (by omega), mcp_row (by omega), mcp_row (by omega), mcp_row (by omega), mcp_row (by omega), mcp_row (by omega), mcp_row (by omega), mcp_row (by omega), mcp_hit rfl h1 (by omega), show (0 : Int) + (i - 0) = i by omega, hB.day h1 h2]
  · intro i h1 h2
    rw [mup_row (by omega), mup_row (by omega), mup_row (by omega), mup_row (by omega), mup_row (by omega), mup_row (by omega), mcp_row (by omega), mcp_row (by omega), mcp_row (by omega), mcp_row (by omega), mcp_row (by omega), mcp_row (by omega), mcp_hit rfl h1 (by omega), mcp_row (by omega), show (0 : Int) + (i - 0) = i by omega, hB.start h1 h2]
  · intro i h1 h2
    rw [mup_row (by omega), mup_row (by omega), mup_row (by omega), mup_row (by omega), mup_row (by omega), mup_row (by omega), mcp_row (by omega), mcp_row (by omega), mcp_row (by omega), mcp_row (by omega), mcp_row (by omega), mcp_hit rfl h1 (by omega), mcp_row (by omega), mcp_row (by omega), show (0 : Int) + (i - 0) = i by omega, hB.len h1 h2]
  · intro i h1 h2
    rw [mup_row (by omega), mup_row (by omega), mup_row (by omega), mup_row (by omega), mup_row (by omega), mup_row (by omega), mcp_row (by omega), mcp_row (by omega), mcp_row (by omega), mcp_row (by omega), mcp_hit rfl h1 (by omega), mcp_row (by omega), mcp_row (by omega), mcp_row (by omega), show (0 : Int) + (i - 0) = i by omega, hB.kind h1 h2]
  · intro i h1 h2
    rw [mup_row (by omega), mup_row (by omega), mup_row (by omega), mup_row (by omega), mup_row (by omega), mup_row (by omega), mcp_row (by omega), mcp_row (by omega), mcp_row (by omega), mcp_hit rfl h1 (by omega), mcp_row (by omega), mcp_row (by omega), mcp_row (by omega), mcp_row (by omega), show (0 : Int) + (i - 0) = i by omega, hB.a h1 h2]
  · intro i h1 h2
    rw [mup_row (by omega), mup_row (by omega), mup_row (by omega), mup_row (by omega), mup_row (by omega), mup_row (by omega), mcp_row (by omega), mcp_row (by omega), mcp_hit rfl h1 (by omega), mcp_row (by omega), mcp_row (by omega), mcp_row (by omega), mcp_row (by omega), mcp_row (by omega), show (0 : Int) + (i - 0) = i by omega, hB.night h1 h2]
  · intro i h1 h2
    rw [mup_row (by omega), mup_row (by omega), mup_row (by omega), mup_row (by omega), mup_row (by omega), mup_row (by omega), mcp_row (by omega), mcp_hit rfl h1 (by omega), mcp_row (by omega), mcp_row (by omega), mcp_row (by omega), mcp_row (by omega), mcp_row (by omega), mcp_row (by omega), show (0 : Int) + (i - 0) = i by omega, hB.takes h1 h2]
  · intro i h1 h2
    rw [mup_row (by omega), mup_row (by omega), mup_row (by omega), mup_row (by omega), mup_row (by omega), mup_row (by omega), mcp_hit rfl h1 (by omega), mcp_row (by omega), mcp_row (by omega), mcp_row (by omega), mcp_row (by omega), mcp_row (by omega), mcp_row (by omega), mcp_row (by omega), show (0 : Int) + (i - 0) = i by omega, hB.seats h1 h2]
  · rw [mup_miss (by omega), mup_miss (by omega), mup_miss (by omega), mup_miss (by omega), mup_miss (by omega), mup_hit rfl rfl, mcp_row (by omega), mcp_row (by omega), mcp_row (by omega), mcp_row (by omega), mcp_row (by omega), mcp_row (by omega), mcp_row (by omega), mcp_row (by omega), hB.nP]
  · rw [mup_miss (by omega), mup_miss (by omega), mup_miss (by omega), mup_miss (by omega), mup_hit rfl rfl, mup_row (by omega), mcp_row (by omega), mcp_row (by omega), mcp_row (by omega), mcp_row (by omega), mcp_row (by omega), mcp_row (by omega), mcp_row (by omega), mcp_row (by omega), hB.nC]
  · rw [mup_miss (by omega), mup_miss (by omega), mup_miss (by omega), mup_hit rfl rfl, mup_row (by omega), mup_row (by omega), mcp_row (by omega), mcp_row (by omega), mcp_row (by omega), mcp_row (by omega), mcp_row (by omega), mcp_row (by omega), mcp_row (by omega), mcp_row (by omega), hB.nR]
  · rw [mup_miss (by omega), mup_miss (by omega), mup_hit rfl rfl, mup_row (by omega), mup_row (by omega), mup_row (by omega), mcp_row (by omega), mcp_row (by omega), mcp_row (by omega), mcp_row (by omega), mcp_row (by omega), mcp_row (by omega), mcp_row (by omega), mcp_row (by omega), hB.hours]
  · rw [mup_miss (by omega), mup_hit rfl rfl, mup_row (by omega), mup_row (by omega), mup_row (by omega), mup_row (by omega), mcp_row (by omega), mcp_row (by omega), mcp_row (by omega), mcp_row (by omega), mcp_row (by omega), mcp_row (by omega), mcp_row (by omega), mcp_row (by omega), hB.turn]
  · rw [mup_hit rfl rfl, mup_row (by omega), mup_row (by omega), mup_row (by omega), mup_row (by omega), mup_row (by omega), mcp_row (by omega), mcp_row (by omega), mcp_row (by omega), mcp_row (by omega), mcp_row (by omega), mcp_row (by omega), mcp_row (by omega), mcp_row (by omega), hB.seed]
  · rw [mup_row (by omega), mup_row (by omega), mup_row (by omega), mup_row (by omega), mup_row (by omega), mup_row (by omega), mcp_row (by omega), mcp_row (by omega), mcp_row (by omega), mcp_row (by omega), mcp_row (by omega), mcp_row (by omega), mcp_row (by omega), mcp_row (by omega)]
theorem flp_flp {B : Bk} {c : Int} {p : Nat} (h : 0 ≤ B 6 c) : flp (flp B c p) c p = B := by
  funext x i
  by_cases e : x = 6 ∧ i = c
  · obtain ⟨rfl, rfl⟩ := e
    rw [flp_6, flp_6, Int.toNat_natCast, Nat.xor_assoc, Nat.xor_self, Nat.xor_zero]
    omega
  · rw [flp_o e, flp_o e]
theorem ST.of {σ τ : Mem} {B : Bk} (h : ST σ B) (e1 : ∀ x, 1 ≤ x → x ≤ 9 → τ x = σ x) (e2 : τ 182 = σ 182) (e3 : ∀ x, 53 ≤ x → x ≤ 153 → τ x = σ x) : ST τ B := by
  have hn := h.2.2.1.1
  unfold WFn at hn
  exact ⟨h.1.rows fun x h1 h2 => e1 x h1 (by omega), h.2.1.row e2, h.2.2.1, h.2.2.2.keep (by omega) e3⟩
/-- the class: the days one can't, with one paper of the draft changed -/
theorem X10_cantsFlipped {σ : Mem} {B : Bk} (h : ST σ B) (hD : isBk σ 10 B) {c : Int} (hc : 0 ≤ c) (hc2 : c < B 8 1) {p : Nat} (hp : (p : Int) < B 8 0) (hf : fifth B c p = false) : ∃ τ, f_X10_cantsFlipped σ c p = some (((cts (flp B c p) c 5 : Nat) : Int), τ) ∧ CFr σ τ ∧ ST τ B ∧ isBk τ 10 B := by
  have w := h.2.2.1
  have hn := w.1
  unfold WFn at hn
  have w' := WF_flp w hc hc2 hp hf
  have hp0 := w.2.1 p (by omega) hp
  obtain ⟨d0, hd0⟩ := n_of hp0.1.1
  have e8 : flp B c p 8 = B 8 := flp_r (by decide)
  unfold f_X10_cantsFlipped
  have f0 := X0_flip hD w hc hc2 (p := p) (by omega)
  rw [show (10 : Int) + 7 = 17 from rfl] at f0
  rw [bind_some' f0]
  obtain ⟨σ1, hσ1⟩ : ∃ σ1, σ1 = mup σ 17 c (((B 6 c).toNat ^^^ 2 ^ p : Nat) : Int) := ⟨_, rfl⟩
  rw [← hσ1]
  have f1 : ∀ x, x ≠ 17 → σ1 x = σ x := fun x hx => by rw [hσ1]; exact mup_row hx
  have hD1 : isBk σ1 10 (flp B c p) := by rw [hσ1]; exact hD.put (t := 6) (by decide) (by decide)
  have h1 : ST σ1 B := h.of (fun x x1 x2 => f1 x (by omega)) (f1 182 (by decide)) (fun x x1 x2 => f1 x (by omega))
  obtain ⟨ρ, a1, a2, a3, a4, a5⟩ := ask h1 hc hc2
  have pp1 : ((54 + 10 * c, ρ) : Int × Mem).1 = 54 + 10 * c := rfl
  have pp2 : ((54 + 10 * c, ρ) : Int × Mem).2 = ρ := rfl
  rw [bind_some' a1, pp1, pp2]
  obtain ⟨τ1, b1, b2, b3⟩ := X8_become w hc hc2 (k2 := 54 + 10 * c) (by omega) a5
  rw [bind_some' b1, chk_pos (by omega)]
  have hD2 : isBk τ1 10 (flp B c p) := hD1.rows fun x x1 x2 => by rw [b2 x (by omega), a3 x (by omega) (by omega)]
  rw [show τ1 11 (p : Int) = (d0 : Int) by rw [← hd0, show τ1 11 (p : Int) = flp B c p 0 p from hD2.day (by omega) (by omega), flp_r (by decide)]]
  obtain ⟨τ2, r1, r2, r3⟩ := X4_replan (Or.inr (Or.inl rfl)) hD2 w w' hc hc2 (by rw [e8]; exact hc2) (k := 154) (by unfold isK; decide) (d0 := d0) (by omega) (fun d hd => agr_flp (by omega)) (by rw [e8]) b3
  rw [bind_some' r1]
  have hD3 : isBk τ2 10 (flp B c p) := hD2.rows fun x x1 x2 => r2 x (by omega) (by omega)
  have f2 := X0_flip hD3 w' hc (by rw [e8]; exact hc2) (p := p) (by omega)
  rw [show (10 : Int) + 7 = 17 from rfl] at f2
  rw [bind_some' f2]
  obtain ⟨τ3, hτ3⟩ : ∃ τ3, τ3 = mup τ2 17 c (((flp B c p 6 c).toNat ^^^ 2 ^ p : Nat) : Int) := ⟨_, rfl⟩
  rw [← hτ3]
  have f3 : ∀ x, x ≠ 17 → τ3 x = τ2 x := fun x hx => by rw [hτ3]; exact mup_row hx
  have hD4 : isBk τ3 10 B := by
    have : isBk τ3 10 (flp (flp B c p) c p) := by rw [hτ3]; exact hD3.put (t := 6) (by decide) (by decide)
    rw [flp_flp (w.2.2.1 c hc hc2).2.2.2.1.1] at this
    exact this
  rw [bind_some' (X8_cants (r3.keep fun x x1 x2 => f3 x (by omega)))]
  refine ⟨τ3, rfl, fun x x1 x2 x3 x4 x5 => ?_, a4.of (fun x x1 x2 => ?_) ?_ (fun x x1 x2 => ?_), hD4⟩
  · rw [f3 x (by omega), r2 x (by omega) (by omega), b2 x (by omega), a2 x (by omega) x2 x3 x4 x5, f1 x (by omega)]
  · rw [f3 x (by omega), r2 x (by omega) (by omega), b2 x (by omega)]
  · rw [f3 182 (by decide), r2 182 (by decide) (by decide), b2 182 (by decide)]
  · rw [f3 x (by omega), r2 x (by omega) (by omega), b2 x (by omega)]
/-- the reference: one paper changed, the days counted, changed back -/
theorem X11_flip {ρ : Mem} {B : Bk} (hR : isRk ρ 182 B) (w : WF B) {c : Int} (hc : 0 ≤ c) (hc2 : c < B 8 1) {p : Nat} (hp : (p : Int) < B 8 0) : ∃ τ, f_X11_toggles ρ c p = some τ ∧ isRk τ 182 (flp B c p) ∧ (∀ x, x ≠ 182 → τ x = ρ x) ∧ ∀ i, i ≠ 36 + 4 * c + 3 → τ 182 i = ρ 182 i := by
  have hn := w.1
  unfold WFn at hn
  refine ⟨_, X11_toggles hR w hc hc2 (by omega), hR.put4 (t := 3) (by decide) (by omega), fun x hx => mup_row hx, fun i hi => mup_miss (fun z => hi z.2)⟩
theorem X11_back {ρ τ : Mem} {B : Bk} (hR : isRk ρ 182 B) (w : WF B) {c : Int} (hc : 0 ≤ c) (hc2 : c < B 8 1) {p : Nat} (hp : (p : Int) < B 8 0) (w' : WF (flp B c p)) (hR' : isRk τ 182 (flp B c p)) (e : ∀ i, i ≠ 36 + 4 * c + 3 → τ 182 i = ρ 182 i) : ∃ τ', f_X11_toggles τ c p = some τ' ∧ τ' 182 = ρ 182 ∧ ∀ x, x ≠ 182 → τ' x = τ x := by
  have hn := w.1
  unfold WFn at hn
  have e8 : flp B c p 8 = B 8 := flp_r (by decide)
  refine ⟨_, X11_toggles hR' w' hc (by rw [e8]; exact hc2) (by omega), funext fun i => ?_, fun x hx => mup_row hx⟩
  by_cases q : i = 36 + 4 * c + 3
  · have h0 := (w.2.2.1 c hc hc2).2.2.2.1
    rw [mup_hit rfl q, q, hR.takes hc (by omega), flp_6, Int.toNat_natCast, Nat.xor_assoc, Nat.xor_self, Nat.xor_zero]
    omega
  · rw [mup_miss (fun z => q z.2), e i q]
theorem X11_cf {ρ : Mem} {B : Bk} (hR : isRk ρ 182 B) (w : WF B) {c : Int} (hc : 0 ≤ c) (hc2 : c < B 8 1) {p : Nat} (hp : (p : Int) < B 8 0) (hf : fifth B c p = false) : ∃ τ1 τ2 τ3, f_X11_toggles ρ c p = some τ1 ∧ f_X11_cants τ1 c = some (((cts (flp B c p) c 5 : Nat) : Int), τ2) ∧ f_X11_toggles τ2 c p = some τ3 ∧ ∀ x, ¬ (192 ≤ x ∧ x ≤ 202) → τ3 x = ρ x := by
  have e8 : flp B c p 8 = B 8 := flp_r (by decide)
  have w' := WF_flp w hc hc2 hp hf
  obtain ⟨τ1, a1, a2, a3, a4⟩ := X11_flip hR w hc hc2 hp
  obtain ⟨τ2, b1, b2, -⟩ := X11_cants a2 w' hc (by rw [e8]; exact hc2)
  obtain ⟨τ3, c1, c2, c3⟩ := X11_back (τ := τ2) hR w hc hc2 hp w' (a2.row (b2 182 (by decide))) (fun i hi => by rw [b2 182 (by decide), a4 i hi])
  refine ⟨τ1, τ2, τ3, a1, b1, c1, fun x hx => ?_⟩
  by_cases e : x = 182
  · subst e; exact c2
  · rw [c3 x e, b2 x hx, a3 x e]
/-- whatIf -/
theorem k_whatIf {n : Nat} {σ : Mem} {B : Bk} (h : INV0 n σ B) (hl : n < 1000) (c p : Int) : CALL0 n σ B (f_X10_whatIf σ c p) (fun ρ => f_X11_whatIf ρ c p) := by
  have hst := h.1
  obtain ⟨hB, hR, w, hW⟩ := h.1
  have hn := w.1
  unfold WFn at hn
  have hR' : isRk (refd σ (-52)) 182 B := isRk_refd hR
  by_cases h1 : 0 ≤ c ∧ c < B 8 1
  rotate_left
  · refine same.call h (same.no (x := -52) (by omega) (by decide) ?_ CFr.rfl hW ?_ RFr.rfl)
    · unfold f_X10_whatIf
      rw [bind_some' (X0_hasCand hB c), if0, if_neg h1]
      exact c_no (by decide)
    · show f_X11_whatIf _ c p = _
      unfold f_X11_whatIf
      rw [bind_some' (X11_isCand hR' w c), if0, if_neg h1]
      exact r_no (by decide)
  by_cases h2 : 0 ≤ p ∧ p < B 8 0
  rotate_left
  · refine same.call h (same.no (x := -52) (by omega) (by decide) ?_ CFr.rfl hW ?_ RFr.rfl)
    · unfold f_X10_whatIf
      rw [bind_some' (X0_hasCand hB c), if0, if_pos h1, bind_some' (X0_hasPaper hB p), if1, if_neg h2]
      exact c_no (by decide)
    · show f_X11_whatIf _ c p = _
      unfold f_X11_whatIf
      rw [bind_some' (X11_isCand hR' w c), if0, if_pos h1, bind_some' (X11_isPaper hR' w p), if1, if_neg h2]
      exact r_no (by decide)
  obtain ⟨p, rfl⟩ := n_of h2.1
  cases hf : fifth B c p with
  | true =>
    refine same.call h (same.no (x := -55) (by omega) (by decide) ?_ CFr.rfl hW ?_ RFr.rfl)
    · unfold f_X10_whatIf
      rw [bind_some' (X0_hasCand hB _), if0, if_pos h1, bind_some' (X0_hasPaper hB _), if1, if_pos h2]
      rw [bind_some' (X0_mayFlip hB w h1.1 h1.2 h2.2), hf, bt, if_neg (by decide)]
      exact c_no (by decide)
    · have hR2 : isRk (refd σ (-55)) 182 B := isRk_refd hR
      show f_X11_whatIf _ _ _ = _
      unfold f_X11_whatIf
      rw [bind_some' (X11_isCand hR2 w _), if0, if_pos h1, bind_some' (X11_isPaper hR2 w _), if1, if_pos h2]
      rw [bind_some' (X11_isFifth hR2 w h1.1 h1.2 h2.2), hf, bt, if_neg (by decide)]
      exact r_no (by decide)
  | false =>
    obtain ⟨σ1, b1, b2, b3⟩ := X0_become (σ := σ) (b0 := 10) hB (by decide)
    have hst1 : ST σ1 B := hst.of (fun x x1 x2 => b3 x (by omega)) (b3 182 (by decide)) (fun x x1 x2 => b3 x (by omega))
    obtain ⟨ρ, a1, a2, a3, -⟩ := X10_cantsFlipped hst1 b2 h1.1 h1.2 h2.2 hf
    have hRr : isRk ρ 182 B := a3.2.1
    obtain ⟨τ1, τ2, τ3, t1, t2, t3, t4⟩ := X11_cf hRr w h1.1 h1.2 h2.2 hf
    have c1 : CFr σ σ1 := fun x x1 x2 x3 x4 x5 => b3 x (by omega)
    refine same.call h (same.ok (ρ := ρ) (τ := τ3) (v := ((cts (flp B c p) c 5 : Nat) : Int)) (by omega) ?_ (c1.trans a2) a3.2.2.2 ?_ (fun x x1 x2 => t4 x (by omega)))
    · unfold f_X10_whatIf
      rw [bind_some' (X0_hasCand hB _), if0, if_pos h1, bind_some' (X0_hasPaper hB _), if1, if_pos h2]
      rw [bind_some' (X0_mayFlip hB w h1.1 h1.2 h2.2), hf, bf, if_pos (by decide), bind_some' b1, bind_some' a1]
    · show f_X11_whatIf _ _ _ = _
      unfold f_X11_whatIf
      rw [bind_some' (X11_isCand hRr w _), if0, if_pos h1, bind_some' (X11_isPaper hRr w _), if1, if_pos h2]
      rw [bind_some' (X11_isFifth hRr w h1.1 h1.2 h2.2), hf, bf, if_pos rfl, bind_some' t1, bind_some' t2]
      simp only [Option.bind_some]
      rw [bind_some' t3]
/-- both -/
theorem k_both {n : Nat} {σ : Mem} {B : Bk} (h : INV0 n σ B) (hl : n < 1000) (c p q : Int) : CALL0 n σ B (f_X10_both σ c p q) (fun ρ => f_X11_both ρ c p q) := by
  have hst := h.1
  obtain ⟨hB, hR, w, hW⟩ := h.1
  have hn := w.1
  unfold WFn at hn
  have hR' : isRk (refd σ (-52)) 182 B := isRk_refd hR
  by_cases h1 : 0 ≤ c ∧ c < B 8 1
  rotate_left
  · refine same.call h (same.no (x := -52) (by omega) (by decide) ?_ CFr.rfl hW ?_ RFr.rfl)
    · unfold f_X10_both
      rw [bind_some' (X0_hasCand hB c), if0, if_neg h1]
      exact c_no (by decide)
    · show f_X11_both _ c p q = _
      unfold f_X11_both
      rw [bind_some' (X11_isCand hR' w c), if0, if_neg h1]
      exact r_no (by decide)
  by_cases h2 : 0 ≤ p ∧ p < B 8 0
  rotate_left
  · refine same.call h (same.no (x := -52) (by omega) (by decide) ?_ CFr.rfl hW ?_ RFr.rfl)
    · unfold f_X10_both
      rw [bind_some' (X0_hasCand hB c), if0, if_pos h1, bind_some' (X0_hasPaper hB p), if0, if_neg h2]
      exact c_no (by decide)
    · show f_X11_both _ c p q = _
      unfold f_X11_both
      rw [bind_some' (X11_isCand hR' w c), if0, if_pos h1, bind_some' (X11_isPaper hR' w p), if0, if_neg h2]
      exact r_no (by decide)
  by_cases h3 : 0 ≤ q ∧ q < B 8 0
  rotate_left
  · refine same.call h (same.no (x := -52) (by omega) (by decide) ?_ CFr.rfl hW ?_ RFr.rfl)
    · unfold f_X10_both
      rw [bind_some' (X0_hasCand hB c), if0, if_pos h1, bind_some' (X0_hasPaper hB p), if0, if_pos h2, bind_some' (X0_hasPaper hB q), if1, if_neg h3]
      exact c_no (by decide)
    · show f_X11_both _ c p q = _
      unfold f_X11_both
      rw [bind_some' (X11_isCand hR' w c), if0, if_pos h1, bind_some' (X11_isPaper hR' w p), if0, if_pos h2, bind_some' (X11_isPaper hR' w q), if1, if_neg h3]
      exact r_no (by decide)
  obtain ⟨p, rfl⟩ := n_of h2.1
  obtain ⟨q, rfl⟩ := n_of h3.1
  obtain ⟨σ1, b1, b2, b3⟩ := X0_become (σ := σ) (b0 := 10) hB (by decide)
  have c1 : CFr σ σ1 := fun x x1 x2 x3 x4 x5 => b3 x (by omega)
  have hst1 : ST σ1 B := hst.of (fun x x1 x2 => b3 x (by omega)) (b3 182 (by decide)) (fun x x1 x2 => b3 x (by omega))
  have e8 : flp B c p 8 = B 8 := flp_r (by decide)
  cases hf : fifth B c p with
  | true =>
    refine same.call h (same.no (ρ := σ1) (x := -55) (by omega) (by decide) ?_ c1 hst1.2.2.2 ?_ RFr.rfl)
    · unfold f_X10_both
      rw [bind_some' (X0_hasCand hB _), if0, if_pos h1, bind_some' (X0_hasPaper hB _), if0, if_pos h2, bind_some' (X0_hasPaper hB _), if1, if_pos h3]
      rw [bind_some' b1, bind_some' (X0_mayFlip b2 w h1.1 h1.2 h2.2), hf, bt, if_neg (by decide)]
      exact c_no (by decide)
    · have hR2 : isRk (refd σ1 (-55)) 182 B := isRk_refd hst1.2.1
      show f_X11_both _ _ _ _ = _
      unfold f_X11_both
      rw [bind_some' (X11_isCand hR2 w _), if0, if_pos h1, bind_some' (X11_isPaper hR2 w _), if0, if_pos h2, bind_some' (X11_isPaper hR2 w _), if1, if_pos h3]
      rw [bind_some' (X11_isFifth hR2 w h1.1 h1.2 h2.2), hf, bt, if_neg (by decide)]
      exact r_no (by decide)
  | false =>
    have w1 := WF_flp w h1.1 h1.2 h2.2 hf
    have hc1 : c < flp B c p 8 1 := by rw [e8]; exact h1.2
    have hq1 : (q : Int) < flp B c p 8 0 := by rw [e8]; exact h3.2
    have f0 := X0_flip b2 w h1.1 h1.2 (p := p) (by omega)
    rw [show (10 : Int) + 7 = 17 from rfl] at f0
    obtain ⟨σ2, hσ2⟩ : ∃ σ2, σ2 = mup σ1 17 c (((B 6 c).toNat ^^^ 2 ^ p : Nat) : Int) := ⟨_, rfl⟩
    rw [← hσ2] at f0
    have f1 : ∀ x, x ≠ 17 → σ2 x = σ1 x := fun x hx => by rw [hσ2]; exact mup_row hx
    have hD2 : isBk σ2 10 (flp B c p) := by rw [hσ2]; exact b2.put (t := 6) (by decide) (by decide)
    have hst2 : ST σ2 B := hst1.of (fun x x1 x2 => f1 x (by omega)) (f1 182 (by decide)) (fun x x1 x2 => f1 x (by omega))
    have c2 : CFr σ σ2 := c1.trans fun x x1 x2 x3 x4 x5 => f1 x (by omega)
    cases hg : fifth (flp B c p) c q with
    | true =>
      have hR2 : isRk (refd σ2 (-55)) 182 B := isRk_refd hst2.2.1
      obtain ⟨τ1, t1, t2, t3, t4⟩ := X11_flip hR2 w h1.1 h1.2 h2.2
      obtain ⟨τ2, s1, s2, s3⟩ := X11_back (τ := τ1) hR2 w h1.1 h1.2 h2.2 w1 t2 t4
      refine same.call h (same.no (ρ := σ2) (τ := τ2) (x := -55) (by omega) (by decide) ?_ c2 hst2.2.2.2 ?_ (fun x x1 x2 => ?_))
      · unfold f_X10_both
        rw [bind_some' (X0_hasCand hB _), if0, if_pos h1, bind_some' (X0_hasPaper hB _), if0, if_pos h2, bind_some' (X0_hasPaper hB _), if1, if_pos h3]
        rw [bind_some' b1, bind_some' (X0_mayFlip b2 w h1.1 h1.2 h2.2), hf, bf, if_pos (by decide), bind_some' f0, bind_some' (X0_mayFlip hD2 w1 h1.1 hc1 hq1), hg, bt, if_neg (by decide)]
        exact c_no (by decide)
      · show f_X11_both _ _ _ _ = _
        unfold f_X11_both
        rw [bind_some' (X11_isCand hR2 w _), if0, if_pos h1, bind_some' (X11_isPaper hR2 w _), if0, if_pos h2, bind_some' (X11_isPaper hR2 w _), if1, if_pos h3]
        rw [bind_some' (X11_isFifth hR2 w h1.1 h1.2 h2.2), hf, bf, if_pos rfl, bind_some' t1, bind_some' (X11_isFifth t2 w1 h1.1 hc1 hq1), hg, bt, if_pos (by decide)]
        unfold f_X11_both_85
        rw [bind_some' s1, if_neg (by decide)]
        exact r_no (by decide)
      · by_cases e : x = 182
        · subst e; exact s2
        · rw [s3 x e, t3 x e]
    | false =>
      have w2 := WF_flp w1 h1.1 hc1 hq1 hg
      have e82 : flp (flp B c p) c q 8 = B 8 := by rw [flp_r (by decide), e8]
      have f2 := X0_flip hD2 w1 h1.1 hc1 (p := q) (by omega)
      rw [show (10 : Int) + 7 = 17 from rfl] at f2
      obtain ⟨σ3, hσ3⟩ : ∃ σ3, σ3 = mup σ2 17 c (((flp B c p 6 c).toNat ^^^ 2 ^ q : Nat) : Int) := ⟨_, rfl⟩
      rw [← hσ3] at f2
      have f3 : ∀ x, x ≠ 17 → σ3 x = σ2 x := fun x hx => by rw [hσ3]; exact mup_row hx
      have hD3 : isBk σ3 10 (flp (flp B c p) c q) := by rw [hσ3]; exact hD2.put (t := 6) (by decide) (by decide)
      have hst3 : ST σ3 B := hst2.of (fun x x1 x2 => f3 x (by omega)) (f3 182 (by decide)) (fun x x1 x2 => f3 x (by omega))
      obtain ⟨σ4, g1, g2, g3⟩ := X4_planWeek (Or.inr (Or.inl rfl)) hD3 w2 h1.1 (by rw [e82]; exact h1.2) (k := 154) (by unfold isK; decide)
      have hst4 : ST σ4 B := hst3.of (fun x x1 x2 => g2 x (by omega) (by omega)) (g2 182 (by decide) (by decide)) (fun x x1 x2 => g2 x (by omega) (by omega))
      have c4 : CFr σ σ4 := c2.trans fun x x1 x2 x3 x4 x5 => by rw [g2 x (by omega) (by omega), f3 x (by omega)]
      have hR4 := hst4.2.1
      obtain ⟨τ1, t1, t2, t3, t4⟩ := X11_flip hR4 w h1.1 h1.2 h2.2
      obtain ⟨τ2, s1, s2, s3, s4⟩ := X11_flip t2 w1 h1.1 hc1 hq1
      obtain ⟨τ3, u1, u2, -⟩ := X11_keptInAll s2 w2 h1.1 (by rw [e82]; exact h1.2)
      obtain ⟨τ4, v1, v2, v3⟩ := X11_back (τ := τ3) t2 w1 h1.1 hc1 hq1 w2 (s2.row (u2 182 (by decide))) (fun i hi => by rw [u2 182 (by decide), s4 i hi])
      obtain ⟨τ5, y1, y2, y3⟩ := X11_back (τ := τ4) hR4 w h1.1 h1.2 h2.2 w1 (t2.row v2) (fun i hi => by rw [v2, t4 i hi])
      have hk := kpt_b w2 h1.1 (by rw [e82]; exact h1.2) 5
      refine same.call h (same.ok (ρ := σ4) (τ := τ5) (v := kpt (flp (flp B c p) c q) c 5) (by omega) ?_ c4 hst4.2.2.2 ?_ (fun x x1 x2 => ?_))
      · unfold f_X10_both
        rw [bind_some' (X0_hasCand hB _), if0, if_pos h1, bind_some' (X0_hasPaper hB _), if0, if_pos h2, bind_some' (X0_hasPaper hB _), if1, if_pos h3]
        rw [bind_some' b1, bind_some' (X0_mayFlip b2 w h1.1 h1.2 h2.2), hf, bf, if_pos (by decide), bind_some' f0, bind_some' (X0_mayFlip hD2 w1 h1.1 hc1 hq1), hg, bf, if_pos (by decide), bind_some' f2, bind_some' g1, bind_some' (X8_keptSlots w2 h1.1 (by rw [e82]; exact h1.2) g3)]
      · show f_X11_both _ _ _ _ = _
        unfold f_X11_both
        rw [bind_some' (X11_isCand hR4 w _), if0, if_pos h1, bind_some' (X11_isPaper hR4 w _), if0, if_pos h2, bind_some' (X11_isPaper hR4 w _), if1, if_pos h3]
        rw [bind_some' (X11_isFifth hR4 w h1.1 h1.2 h2.2), hf, bf, if_pos rfl, bind_some' t1, bind_some' (X11_isFifth t2 w1 h1.1 hc1 hq1), hg, bf, if_neg (by decide), bind_some' s1, bind_some' u1]
        simp only [Option.bind_some]
        rw [bind_some' v1]
        unfold f_X11_both_85
        rw [bind_some' y1, if_pos (by omega)]
      · by_cases e : x = 182
        · subst e; exact y2
        · rw [y3 x e, v3 x e, u2 x (by omega), s3 x e, t3 x e]
