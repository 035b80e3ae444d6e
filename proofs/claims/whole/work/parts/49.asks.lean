/-- does -/
theorem q_does {σ : Mem} {B : Bk} (h : ST σ B) (c d t : Int) : same σ B (f_X10_does σ c d t) (fun ρ => f_X11_does ρ c d t) := by
  have hst := h
  obtain ⟨hB, hR, w, hW⟩ := h
  have hn := w.1
  unfold WFn at hn
  have hR' : isRk (refd σ (-52)) 182 B := isRk_refd hR
  have rno : ∀ ρ : Mem, f_X11_does_22 ρ = some (-52, nod ρ (-52)) := fun ρ => r_no (by decide)
  have cno : ∀ ρ : Mem, f_X10_does_25 ρ = some (-52, refd ρ (-52)) := fun ρ => c_no (by decide)
  by_cases h1 : 0 ≤ c ∧ c < B 8 1
  rotate_left
  · refine same.no (x := -52) (by omega) (by decide) ?_ CFr.rfl hW ?_ RFr.rfl
    · unfold f_X10_does
      rw [bind_some' (X0_hasCand hB c), if0, if_neg h1, cno]
    · show f_X11_does _ c d t = _
      unfold f_X11_does
      rw [bind_some' (X11_isCand hR' w c), if0, if_neg h1, rno]
  by_cases h2 : 0 ≤ d ∧ d < 5
  rotate_left
  · refine same.no (x := -52) (by omega) (by decide) ?_ CFr.rfl hW ?_ RFr.rfl
    · unfold f_X10_does
      rw [bind_some' (X0_hasCand hB c), if0, if_pos h1, bind_some' (X10_isDay d), if0, if_neg h2, cno]
    · show f_X11_does _ c d t = _
      unfold f_X11_does
      rw [bind_some' (X11_isCand hR' w c), if0, if_pos h1, bind_some' (X11_isDay d), if0, if_neg h2, rno]
  by_cases h3 : 0 ≤ t ∧ t < 48
  rotate_left
  · refine same.no (x := -52) (by omega) (by decide) ?_ CFr.rfl hW ?_ RFr.rfl
    · unfold f_X10_does
      rw [bind_some' (X0_hasCand hB c), if0, if_pos h1, bind_some' (X10_isDay d), if0, if_pos h2, bind_some' (X10_isSlot t), if1, if_neg h3, cno]
    · show f_X11_does _ c d t = _
      unfold f_X11_does
      rw [bind_some' (X11_isCand hR' w c), if0, if_pos h1, bind_some' (X11_isDay d), if0, if_pos h2, bind_some' (X11_isSlot t), if1, if_neg h3, rno]
  obtain ⟨ρ, a1, a2, a3, a4, a5⟩ := ask hst h1.1 h1.2
  obtain ⟨hBr, hRr, -, hWr⟩ := a4
  have p1 : ((54 + 10 * c, ρ) : Int × Mem).1 = 54 + 10 * c := rfl
  have p2 : ((54 + 10 * c, ρ) : Int × Mem).2 = ρ := rfl
  obtain ⟨τ, t1, t2, t3⟩ := X11_plans hRr w h1.1 h1.2
  obtain ⟨D, rfl⟩ := n_of h2.1
  obtain ⟨T, rfl⟩ := n_of h3.1
  refine same.ok (v := dd B c (ovr B c D) (fre B c (ovr B c D)) (ahd B c (ovr B c D)) (dpl B c D (ovr B c D)) T) (by omega) ?_ a2 hWr ?_ (rf_of t2)
  · unfold f_X10_does
    rw [bind_some' (X0_hasCand hB _), if0, if_pos h1, bind_some' (X10_isDay _), if0, if_pos h2, bind_some' (X10_isSlot _), if1, if_pos h3]
    rw [bind_some' a1, bind_some' (X8_deed w h1.1 h1.2 (by omega) (a5 D (by omega)) (wk_came a5 (by omega)) (by omega))]
  · show f_X11_does _ _ _ _ = _
    unfold f_X11_does
    rw [bind_some' (X11_isCand hRr w _), if0, if_pos h1, bind_some' (X11_isDay _), if0, if_pos h2, bind_some' (X11_isSlot _), if1, if_pos h3]
    rw [bind_some' t1, bind_some' (X11_doing (hRr.row (t2 182 (by decide))) w h1.1 h1.2 (by omega) t3 (by omega))]
/-- sits -/
theorem q_sits {σ : Mem} {B : Bk} (h : ST σ B) (c d i x : Int) : same σ B (f_X10_sits σ c d i x) (fun ρ => f_X11_sits ρ c d i x) := by
  have hst := h
  obtain ⟨hB, hR, w, hW⟩ := h
  have hn := w.1
  unfold WFn at hn
  have hR' : isRk (refd σ (-52)) 182 B := isRk_refd hR
  have rno : ∀ ρ : Mem, f_X11_sits_28 ρ = some (-52, nod ρ (-52)) := fun ρ => r_no (by decide)
  have cno : ∀ ρ : Mem, f_X10_sits_18 ρ = some (-52, refd ρ (-52)) := fun ρ => c_no (by decide)
  by_cases h1 : 0 ≤ c ∧ c < B 8 1
  rotate_left
  · refine same.no (x := -52) (by omega) (by decide) ?_ CFr.rfl hW ?_ RFr.rfl
    · unfold f_X10_sits
      rw [bind_some' (X0_hasCand hB c), if0, if_neg h1, cno]
    · show f_X11_sits _ c d i x = _
      unfold f_X11_sits
      rw [bind_some' (X11_isCand hR' w c), if0, if_neg h1, rno]
  by_cases h2 : 0 ≤ d ∧ d < 5
  rotate_left
  · refine same.no (x := -52) (by omega) (by decide) ?_ CFr.rfl hW ?_ RFr.rfl
    · unfold f_X10_sits
      rw [bind_some' (X0_hasCand hB c), if0, if_pos h1, bind_some' (X10_isDay d), if1, if_neg h2, cno]
    · show f_X11_sits _ c d i x = _
      unfold f_X11_sits
      rw [bind_some' (X11_isCand hR' w c), if0, if_pos h1, bind_some' (X11_isDay d), if0, if_neg h2, rno]
  obtain ⟨ρ, a1, a2, a3, a4, a5⟩ := ask hst h1.1 h1.2
  obtain ⟨hBr, hRr, -, hWr⟩ := a4
  have p1 : ((54 + 10 * c, ρ) : Int × Mem).1 = 54 + 10 * c := rfl
  have p2 : ((54 + 10 * c, ρ) : Int × Mem).2 = ρ := rfl
  obtain ⟨D, rfl⟩ := n_of h2.1
  have hwd := a5 D (by omega)
  have c4 := cntd_4 w h1.1 h1.2 D (ovr B c D)
  have hcnt := isWd_cnt hwd
  have cno2 : ∀ ρ : Mem, f_X10_sits_54 ρ = some (-52, refd ρ (-52)) := fun ρ => c_no (by decide)
  have hRrr : isRk (refd ρ (-52)) 182 B := isRk_refd hRr
  by_cases hx : 0 ≤ x ∧ x ≤ 2
  rotate_left
  · refine same.no (x := -52) (by omega) (by decide) ?_ a2 hWr ?_ RFr.rfl
    · unfold f_X10_sits
      rw [bind_some' (X0_hasCand hB _), if0, if_pos h1, bind_some' (X10_isDay _), if1, if_pos h2]
      rw [bind_some' a1, p1, p2]
      by_cases i0 : i < 0
      · rw [if_pos i0, cno2]
      · rw [if_neg i0, chk_pos (by omega), hcnt]
        by_cases i1 : i < (cntd (dpl B c D (ovr B c D)) : Int)
        · rw [if_pos i1]
          simp only [Option.bind_some]
          rw [if_neg (by omega), if_neg (by omega), if_neg (by omega), c_no (by decide)]
        · rw [if_neg i1, cno2]
    · show f_X11_sits _ _ _ _ _ = _
      unfold f_X11_sits
      rw [bind_some' (X11_isCand hRrr w _), if0, if_pos h1, bind_some' (X11_isDay _), if0, if_pos h2]
      rw [bind_some' (X11_isIn x 0 2), if1, if_neg hx, rno]
  by_cases hi : 0 ≤ i ∧ i < (cntd (dpl B c D (ovr B c D)) : Int)
  rotate_left
  · obtain ⟨τ, t1, t2, t3⟩ := X11_plans hRrr w h1.1 h1.2
    refine same.no (x := -52) (by omega) (by decide) ?_ a2 hWr ?_ (rf_of t2)
    · unfold f_X10_sits
      rw [bind_some' (X0_hasCand hB _), if0, if_pos h1, bind_some' (X10_isDay _), if1, if_pos h2]
      rw [bind_some' a1, p1, p2]
      by_cases i0 : i < 0
      · rw [if_pos i0, cno2]
      · rw [if_neg i0, chk_pos (by omega), hcnt, if_neg (by omega), cno2]
    · show f_X11_sits _ _ _ _ _ = _
      unfold f_X11_sits
      rw [bind_some' (X11_isCand hRrr w _), if0, if_pos h1, bind_some' (X11_isDay _), if0, if_pos h2]
      rw [bind_some' (X11_isIn x 0 2), if1, if_pos hx, bind_some' t1, chk_pos (by omega), isRd_cnt (t3 D (by omega)).1, jsub_ok (by omega) (by omega), bind_some' (X11_isIn i 0 _), if1, if_neg (by omega), r_no (by decide)]
  obtain ⟨τ, t1, t2, t3⟩ := X11_plans hRr w h1.1 h1.2
  have hrd := (t3 D (by omega)).1
  have hrc := isRd_cnt hrd
  have hRt : isRk τ 182 B := hRr.row (t2 182 (by decide))
  cases hdp : dpl B c D (ovr B c D) with
  | none => rw [hdp] at hi; exact absurd hi.2 (by show ¬ i < 0; omega)
  | some y =>
    obtain ⟨v, o', m, l⟩ := y
    have hi2 : i < (nof m : Int) := by rw [hdp] at hi; exact hi.2
    obtain ⟨I, rfl⟩ := n_of hi.1
    obtain ⟨e1, e2, e3⟩ := (hwd.2.2.2 v o' m l hdp).2.2.2.2 I (by omega)
    obtain ⟨g1, g2⟩ := (hrd.2 v o' m l hdp).2.2.2.2 I (by omega)
    obtain ⟨d1, d2, d3, d4, -⟩ := dpl_some w h1.1 h1.2 hdp
    have h4 := d1.2.1
    obtain ⟨-, -, pin⟩ := PT_ok (nof m) h4
    have hqP : ∀ j, j < nof m → (lq m l j : Int) < B 8 0 := fun j hj => d1.2.2 _ (nth_in ((pin l d4).2 j hj)).2.1
    have hbg := bg_b w h1.1 h1.2 (fre_b w h1.1 h1.2 (ovr_b w h1.1 h1.2 D).2) hqP (k := I) (by omega)
    have een : en B c (fre B c (ovr B c D)) (lq m l) I = bg B c (fre B c (ovr B c D)) (lq m l) I + tm B c (lq m l I) := rfl
    have j1 : jadd (jmul (D : Int) 4) (I : Int) = 4 * D + I := by rw [jmul_ok (by omega) (by omega), jadd_ok (by omega) (by omega)]; omega
    have j2 : jadd (jmul 4 (D : Int)) (I : Int) = 4 * D + I := by rw [jmul_ok (by omega) (by omega), jadd_ok (by omega) (by omega)]
    refine same.ok (v := if x = 0 then (lq m l I : Int) else if x = 1 then bg B c (fre B c (ovr B c D)) (lq m l) I else en B c (fre B c (ovr B c D)) (lq m l) I) (by omega) ?_ a2 hWr ?_ (rf_of t2)
    · unfold f_X10_sits
      rw [bind_some' (X0_hasCand hB _), if0, if_pos h1, bind_some' (X10_isDay _), if1, if_pos h2]
      rw [bind_some' a1, p1, p2, if_neg (by omega), chk_pos (by omega), hcnt, hdp, show cntd (some (v, (o', m, l))) = nof m from rfl, if_pos hi2]
      simp only [Option.bind_some]
      rw [j1, e1, e2, e3, chk_pos (by omega), chk_pos (by omega), chk_pos (by omega)]
      by_cases x0 : x = 0
      · rw [if_pos x0, if_pos x0]
      rw [if_neg x0, if_neg x0]
      by_cases x1 : x = 1
      · rw [if_pos x1, if_pos x1]
      rw [if_neg x1, if_neg x1, if_pos (by omega)]
    · show f_X11_sits _ _ _ _ _ = _
      unfold f_X11_sits
      rw [bind_some' (X11_isCand hRr w _), if0, if_pos h1, bind_some' (X11_isDay _), if0, if_pos h2]
      rw [bind_some' (X11_isIn x 0 2), if1, if_pos hx, bind_some' t1, chk_pos (by omega), hrc, hdp, show cntd (some (v, (o', m, l))) = nof m from rfl, jsub_ok (by omega) (by omega), bind_some' (X11_isIn (I : Int) 0 _), if1, if_pos (by omega), j2, g1, g2, chk_pos (by omega)]
      simp only [Option.bind_some]
      rw [chk_pos (by omega), bind_some' (X11_timed hRt w h1.1 h1.2 (by omega) (hqP I (by omega))), jadd_ok (by omega) (by omega), ← een]
      by_cases x0 : x = 0
      · rw [if_neg (by omega), if_pos x0]
      rw [if_pos x0, if_neg x0]
      by_cases x1 : x = 1
      · rw [if_neg (by omega), if_pos x1]
      rw [if_pos x1, if_neg x1]
