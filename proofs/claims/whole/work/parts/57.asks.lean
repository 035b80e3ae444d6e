/-- together -/
theorem q_together {σ : Mem} {B : Bk} (h : ST σ B) (p d t : Int) : same σ B (f_X10_together σ p d t) (fun ρ => f_X11_together ρ p d t) := by
  have hst := h
  obtain ⟨hB, hR, w, hW⟩ := h
  have hn := w.1
  unfold WFn at hn
  have hR' : isRk (refd σ (-52)) 182 B := isRk_refd hR
  have rno : ∀ ρ : Mem, f_X11_together_22 ρ = some (-52, nod ρ (-52)) := fun ρ => r_no (by decide)
  have cno : ∀ ρ : Mem, f_X10_together_26 ρ = some (-52, refd ρ (-52)) := fun ρ => c_no (by decide)
  by_cases h1 : 0 ≤ p ∧ p < B 8 0
  rotate_left
  · refine same.no (x := -52) (by omega) (by decide) ?_ CFr.rfl hW ?_ RFr.rfl
    · unfold f_X10_together
      rw [bind_some' (X0_hasPaper hB p), if0, if_neg h1, cno]
    · show f_X11_together _ p d t = _
      unfold f_X11_together
      rw [bind_some' (X11_isPaper hR' w p), if0, if_neg h1, rno]
  by_cases h2 : 0 ≤ d ∧ d < 5
  rotate_left
  · refine same.no (x := -52) (by omega) (by decide) ?_ CFr.rfl hW ?_ RFr.rfl
    · unfold f_X10_together
      rw [bind_some' (X0_hasPaper hB p), if0, if_pos h1, bind_some' (X10_isDay d), if0, if_neg h2, cno]
    · show f_X11_together _ p d t = _
      unfold f_X11_together
      rw [bind_some' (X11_isPaper hR' w p), if0, if_pos h1, bind_some' (X11_isDay d), if0, if_neg h2, rno]
  by_cases h3 : 0 ≤ t ∧ t < 48
  rotate_left
  · refine same.no (x := -52) (by omega) (by decide) ?_ CFr.rfl hW ?_ RFr.rfl
    · unfold f_X10_together
      rw [bind_some' (X0_hasPaper hB p), if0, if_pos h1, bind_some' (X10_isDay d), if0, if_pos h2, bind_some' (X10_isSlot t), if1, if_neg h3, cno]
    · show f_X11_together _ p d t = _
      unfold f_X11_together
      rw [bind_some' (X11_isPaper hR' w p), if0, if_pos h1, bind_some' (X11_isDay d), if0, if_pos h2, bind_some' (X11_isSlot t), if1, if_neg h3, rno]
  obtain ⟨D, rfl⟩ := n_of h2.1
  obtain ⟨T, rfl⟩ := n_of h3.1
  obtain ⟨N, hN⟩ := n_of hn.2.1.1
  obtain ⟨ρ, a1, a2, a4⟩ := X10_together39 hst (p := p) (d := D) (t := T) (by omega) (by omega) hN
  obtain ⟨hBr, hRr, -, hWr⟩ := a4
  obtain ⟨τ, t1, t2⟩ := X11_together35 hRr w (p := p) (d := D) (t := T) (by omega) (by omega) hN
  refine same.ok (τ := τ) (v := ((tgm B p D T N : Nat) : Int)) (by omega) ?_ a2 hWr ?_ (rf_of t2)
  · unfold f_X10_together
    rw [bind_some' (X0_hasPaper hB _), if0, if_pos h1, bind_some' (X10_isDay _), if0, if_pos h2, bind_some' (X10_isSlot _), if1, if_pos h3]
    exact a1
  · show f_X11_together _ _ _ _ = _
    unfold f_X11_together
    rw [bind_some' (X11_isPaper hRr w _), if0, if_pos h1, bind_some' (X11_isDay _), if0, if_pos h2, bind_some' (X11_isSlot _), if1, if_pos h3]
    exact t1
