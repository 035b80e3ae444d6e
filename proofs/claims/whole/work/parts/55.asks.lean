/-- candOf -/
theorem q_candOf {σ : Mem} {B : Bk} (h : ST σ B) (c x : Int) : same σ B (f_X10_candOf σ c x) (fun ρ => f_X11_candOf ρ c x) := by
  have hst := h
  obtain ⟨hB, hR, w, hW⟩ := h
  have hn := w.1
  unfold WFn at hn
  have hR' : isRk (refd σ (-52)) 182 B := isRk_refd hR
  have rno : ∀ ρ : Mem, f_X11_candOf_20 ρ = some (-52, nod ρ (-52)) := fun ρ => r_no (by decide)
  have cno : ∀ ρ : Mem, ((f_X10_refuse ρ (-52)).bind fun v => some (v.1, v.2)) = some (-52, refd ρ (-52)) := fun ρ => c_no (by decide)
  by_cases h1 : 0 ≤ c ∧ c < B 8 1
  rotate_left
  · refine same.no (x := -52) (by omega) (by decide) ?_ CFr.rfl hW ?_ RFr.rfl
    · unfold f_X10_candOf
      rw [bind_some' (X0_hasCand hB c), if1, if_neg h1, cno]
    · show f_X11_candOf _ c x = _
      unfold f_X11_candOf
      rw [bind_some' (X11_isCand hR' w c), if0, if_neg h1, rno]
  by_cases hx : 0 ≤ x ∧ x ≤ 5
  rotate_left
  · refine same.no (x := -52) (by omega) (by decide) ?_ CFr.rfl hW ?_ RFr.rfl
    · unfold f_X10_candOf
      rw [bind_some' (X0_hasCand hB _), if1, if_pos h1]
      rw [if_neg (by omega), if_neg (by omega), if_neg (by omega), if_neg (by omega), if_neg (by omega), if_neg (by omega), cno]
    · show f_X11_candOf _ _ _ = _
      unfold f_X11_candOf
      rw [bind_some' (X11_isCand hR' w _), if0, if_pos h1]
      rw [bind_some' (X11_isIn x 0 5), if1, if_neg hx, rno]
  by_cases h5 : x = 5
  · subst h5
    obtain ⟨ρ, a1, a2, a3, a4, a5⟩ := ask hst h1.1 h1.2
    obtain ⟨hBr, hRr, -, hWr⟩ := a4
    obtain ⟨τ, t1, t2, -⟩ := X11_cants hRr w h1.1 h1.2
    refine same.ok (τ := τ) (v := ((cts B c 5 : Nat) : Int)) (by omega) ?_ a2 hWr ?_ (rf_of t2)
    · unfold f_X10_candOf
      rw [bind_some' (X0_hasCand hB _), if1, if_pos h1]
      rw [if_neg (by decide), if_neg (by decide), if_neg (by decide), if_neg (by decide), if_neg (by decide), if_pos rfl, bind_some' a1, bind_some' (X8_cants a5)]
    · show f_X11_candOf _ _ _ = _
      unfold f_X11_candOf
      rw [bind_some' (X11_isCand hRr w _), if0, if_pos h1]
      rw [bind_some' (X11_isIn 5 0 5), if1, if_pos (by decide), if_pos (by decide), if_pos (by decide), bind_some' t1]
  by_cases h4 : x = 4
  · subst h4
    refine same.ok (v := rs B c) (by omega) ?_ CFr.rfl hW ?_ RFr.rfl
    · unfold f_X10_candOf
      rw [bind_some' (X0_hasCand hB _), if1, if_pos h1]
      rw [if_neg (by decide), if_neg (by decide), if_neg (by decide), if_neg (by decide), if_pos rfl, bind_some' (X0_restFor hB w h1.1 h1.2)]
    · show f_X11_candOf _ _ _ = _
      unfold f_X11_candOf
      rw [bind_some' (X11_isCand hR w _), if0, if_pos h1]
      rw [bind_some' (X11_isIn 4 0 5), if1, if_pos (by decide), if_pos (by decide), if_neg (by decide), bind_some' (X11_rest hR w h1.1 h1.2)]
  have hb3 : σ 5 c = B 3 c := hB.kind h1.1 (by omega)
  have hb4 : σ 6 c = B 4 c := hB.a h1.1 (by omega)
  have hb5 : σ 7 c = B 5 c := hB.night h1.1 (by omega)
  have hb6 : σ 8 c = B 6 c := hB.takes h1.1 (by omega)
  refine same.ok (v := if x = 0 then B 3 c else if x = 1 then B 4 c else if x = 2 then B 5 c else B 6 c) (by omega) ?_ CFr.rfl hW ?_ RFr.rfl
  · unfold f_X10_candOf
    rw [bind_some' (X0_hasCand hB _), if1, if_pos h1]
    rw [chk_pos (by omega), chk_pos (by omega), chk_pos (by omega), chk_pos (by omega), hb3, hb4, hb5, hb6]
    by_cases x0 : x = 0
    · rw [if_pos x0, if_pos x0]
    rw [if_neg x0, if_neg x0]
    by_cases x1 : x = 1
    · rw [if_pos x1, if_pos x1]
    rw [if_neg x1, if_neg x1]
    by_cases x2 : x = 2
    · rw [if_pos x2, if_pos x2]
    rw [if_neg x2, if_neg x2, if_pos (by omega)]
  · show f_X11_candOf _ _ _ = _
    unfold f_X11_candOf
    rw [bind_some' (X11_isCand hR w _), if0, if_pos h1]
    rw [bind_some' (X11_isIn x 0 5), if1, if_pos hx, if_neg (by omega)]
    by_cases x0 : x = 0
    · subst x0
      rw [bind_some' (X11_who0 hR ⟨h1.1, by omega⟩)]; rfl
    by_cases x1 : x = 1
    · subst x1
      rw [bind_some' (X11_who1 hR ⟨h1.1, by omega⟩)]; rfl
    by_cases x2 : x = 2
    · subst x2
      rw [bind_some' (X11_who2 hR ⟨h1.1, by omega⟩)]; rfl
    have : x = 3 := by omega
    subst this
    rw [bind_some' (X11_who3 hR ⟨h1.1, by omega⟩)]; rfl
