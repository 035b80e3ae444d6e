/-- plan -/
theorem q_plan {σ : Mem} {B : Bk} (h : ST σ B) (c d x : Int) : same σ B (f_X10_plan σ c d x) (fun ρ => f_X11_plan ρ c d x) := by
  have hst := h
  obtain ⟨hB, hR, w, hW⟩ := h
  have hn := w.1
  unfold WFn at hn
  have hR' : isRk (refd σ (-52)) 182 B := isRk_refd hR
  have rno : ∀ ρ : Mem, f_X11_plan_27 ρ = some (-52, nod ρ (-52)) := fun ρ => r_no (by decide)
  have cno : ∀ ρ : Mem, f_X10_plan_18 ρ = some (-52, refd ρ (-52)) := fun ρ => c_no (by decide)
  by_cases h1 : 0 ≤ c ∧ c < B 8 1
  rotate_left
  · refine same.no (x := -52) (by omega) (by decide) ?_ CFr.rfl hW ?_ RFr.rfl
    · unfold f_X10_plan
      rw [bind_some' (X0_hasCand hB c), if0, if_neg h1, cno]
    · show f_X11_plan _ c d x = _
      unfold f_X11_plan
      rw [bind_some' (X11_isCand hR' w c), if0, if_neg h1, rno]
  by_cases h2 : 0 ≤ d ∧ d < 5
  rotate_left
  · refine same.no (x := -52) (by omega) (by decide) ?_ CFr.rfl hW ?_ RFr.rfl
    · unfold f_X10_plan
      rw [bind_some' (X0_hasCand hB c), if0, if_pos h1, bind_some' (X10_isDay d), if1, if_neg h2, cno]
    · show f_X11_plan _ c d x = _
      unfold f_X11_plan
      rw [bind_some' (X11_isCand hR' w c), if0, if_pos h1, bind_some' (X11_isDay d), if0, if_neg h2, rno]
  obtain ⟨ρ, a1, a2, a3, a4, a5⟩ := ask hst h1.1 h1.2
  obtain ⟨hBr, hRr, -, hWr⟩ := a4
  have p1 : ((54 + 10 * c, ρ) : Int × Mem).1 = 54 + 10 * c := rfl
  have p2 : ((54 + 10 * c, ρ) : Int × Mem).2 = ρ := rfl
  obtain ⟨D, rfl⟩ := n_of h2.1
  have hwd := a5 D (by omega)
  have ho := ovr_b w h1.1 h1.2 D
  have hf := fre_b w h1.1 h1.2 ho.2
  have ha := ahd_b w h1.1 h1.2 ho.2
  have hR52 : isRk (refd ρ (-52)) 182 B := isRk_refd hRr
  by_cases hx : 0 ≤ x ∧ x ≤ 6
  rotate_left
  · refine same.no (x := -52) (by omega) (by decide) ?_ a2 hWr ?_ RFr.rfl
    · unfold f_X10_plan
      rw [bind_some' (X0_hasCand hB _), if0, if_pos h1, bind_some' (X10_isDay _), if1, if_pos h2]
      rw [bind_some' a1, p1, p2, if_neg (by omega), if_neg (by omega), if_neg (by omega), if_neg (by omega), if_neg (by omega), if_neg (by omega), if_neg (by omega), c_no (by decide)]
    · show f_X11_plan _ _ _ _ = _
      unfold f_X11_plan
      rw [bind_some' (X11_isCand hR52 w _), if0, if_pos h1, bind_some' (X11_isDay _), if0, if_pos h2]
      rw [bind_some' (X11_isIn x 0 6), if1, if_neg hx, rno]
  have hcan := isWd_can hwd
  have hkep := isWd_kept w h1.1 h1.2 hwd
  have hov := isWd_ov hwd
  have hcnt := isWd_cnt hwd
  by_cases h6 : x = 6
  · subst h6
    cases hdp : dpl B c D (ovr B c D) with
    | some y =>
      obtain ⟨τ, t1, t2, t3⟩ := X11_plans hRr w h1.1 h1.2
      obtain ⟨v, o', m, l⟩ := y
      refine same.ok (τ := τ) (v := 0) (by omega) ?_ a2 hWr ?_ (rf_of t2)
      · unfold f_X10_plan
        rw [bind_some' (X0_hasCand hB _), if0, if_pos h1, bind_some' (X10_isDay _), if1, if_pos h2]
        rw [bind_some' a1, p1, p2, if_neg (by decide), if_neg (by decide), if_neg (by decide), if_neg (by decide), if_neg (by decide), if_neg (by decide), if_pos rfl, chk_pos (by omega), hcan, hdp, if_neg (by show ¬ ((1 : Int) = 0); decide)]
      · show f_X11_plan _ _ _ _ = _
        unfold f_X11_plan
        rw [bind_some' (X11_isCand hRr w _), if0, if_pos h1, bind_some' (X11_isDay _), if0, if_pos h2]
        rw [bind_some' (X11_isIn 6 0 6), if1, if_pos hx, bind_some' t1, if_neg (by decide), if_neg (by decide), if_neg (by decide), if_neg (by decide), if_neg (by decide), if_neg (by decide)]
        unfold f_X11_clash
        rw [chk_pos (by omega), (((t3 D (by omega)).1.2 v o' m l hdp).1), if_neg (by decide)]
        rfl
    | none =>
      obtain ⟨r, ρ2, b1, b2, b3⟩ := X4_clash hBr w h1.1 h1.2 (k := 54 + 10 * c) (by unfold isK; omega) (d := D) (by omega) hf ha hwd
      have c2 : CFr ρ ρ2 := fun x _ g2 _ _ _ => b2 x (by omega)
      have hR2 : isRk ρ2 182 B := hRr.row (c2 182 (by decide) (by decide) (by decide) (by decide) (by decide))
      have hW2 : WKS ρ2 B := hWr.keep (by omega) fun x g1 g2 => b2 x (by omega)
      obtain ⟨τ, t1, t2, t3⟩ := X11_plans hR2 w h1.1 h1.2
      obtain ⟨hrd, u190, u191⟩ := t3 D (by omega)
      have hnl : nlw (lwS B c (od B c D) (fre B c (ovr B c D)) (ahd B c (ovr B c D))) (PT (nof (od B c D))) = 0 := by
        have hd2 := hdp
        unfold dpl at hd2
        cases hb : bst (lwD B c (fre B c (ovr B c D)) (ahd B c (ovr B c D))) (msD B c (fre B c (ovr B c D)) (ahd B c (ovr B c D))) (its (-1) (od B c D)) none with
        | some z =>
          rw [hb] at hd2
          cases hd2
        | none =>
          rw [bst_its] at hb
          cases hb2 : bst (lwS B c (od B c D) (fre B c (ovr B c D)) (ahd B c (ovr B c D))) (msS B c (od B c D) (fre B c (ovr B c D)) (ahd B c (ovr B c D)) 0 (woB B (-1))) (PT (nof (od B c D))) none with
          | some z => rw [hb2] at hb; cases hb
          | none => exact (bst_nlw.mp hb2).2
      obtain ⟨r2, τ2, e1, e2, e3⟩ := X11_clash (hR2.row (t2 182 (by decide))) w h1.1 h1.2 (d := D) (by omega) hf ha u190 u191 (by rw [(hrd.1 hdp).1]; decide) hnl
      have er : r = r2 := by
        rcases b3 with ⟨q1, q2⟩ | q
        · rcases e3 with ⟨q3, q4⟩ | q3
          · omega
          · exact absurd q3.1 (q2 _)
        · rcases e3 with ⟨q3, q4⟩ | q3
          · exact absurd q.1 (q4 _)
          · exact bestB_one q q3
      refine same.ok (τ := τ2) (v := (r : Int)) (by omega) ?_ (a2.trans c2) hW2 ?_ (fun x g1 g2 => by rw [e2 x (by omega), t2 x (by omega)])
      · unfold f_X10_plan
        rw [bind_some' (X0_hasCand hB _), if0, if_pos h1, bind_some' (X10_isDay _), if1, if_pos h2]
        rw [bind_some' a1, p1, p2, if_neg (by decide), if_neg (by decide), if_neg (by decide), if_neg (by decide), if_neg (by decide), if_neg (by decide), if_pos rfl, chk_pos (by omega), hcan, hdp, if_pos (by decide), bind_some' b1]
      · show f_X11_plan _ _ _ _ = _
        unfold f_X11_plan
        rw [bind_some' (X11_isCand hR2 w _), if0, if_pos h1, bind_some' (X11_isDay _), if0, if_pos h2]
        rw [bind_some' (X11_isIn 6 0 6), if1, if_pos hx, bind_some' t1, if_neg (by decide), if_neg (by decide), if_neg (by decide), if_neg (by decide), if_neg (by decide), if_neg (by decide), bind_some' e1, er]
  obtain ⟨τ, t1, t2, t3⟩ := X11_plans hRr w h1.1 h1.2
  obtain ⟨hrd, u190, u191⟩ := t3 D (by omega)
  obtain ⟨rc, rk⟩ := isRd_can hrd
  have rov := isRd_ov hrd
  have rcn := isRd_cnt hrd
  refine same.ok (τ := τ) (v := if x = 0 then (if (dpl B c D (ovr B c D)).isNone then 0 else 1) else if x = 1 then kv (dpl B c D (ovr B c D)) else if x = 2 then ov (dpl B c D (ovr B c D)) else if x = 3 then fre B c (ovr B c D) else if x = 4 then (ahd B c (ovr B c D) : Int) else (cntd (dpl B c D (ovr B c D)) : Int)) (by omega) ?_ a2 hWr ?_ (rf_of t2)
  · unfold f_X10_plan
    rw [bind_some' (X0_hasCand hB _), if0, if_pos h1, bind_some' (X10_isDay _), if1, if_pos h2]
    rw [bind_some' a1, p1, p2, chk_pos (by omega), chk_pos (by omega), chk_pos (by omega), chk_pos (by omega), chk_pos (by omega), chk_pos (by omega), hcan, hov, hcnt, hwd.1, hwd.2.1, bind_some' hkep]
    by_cases x0 : x = 0
    · rw [if_pos x0, if_pos x0]
      cases (dpl B c D (ovr B c D)).isNone <;> rfl
    rw [if_neg x0, if_neg x0]
    by_cases x1 : x = 1
    · rw [if_pos x1, if_pos x1]
    rw [if_neg x1, if_neg x1]
    by_cases x2 : x = 2
    · rw [if_pos x2, if_pos x2]
    rw [if_neg x2, if_neg x2]
    by_cases x3 : x = 3
    · rw [if_pos x3, if_pos x3]
    rw [if_neg x3, if_neg x3]
    by_cases x4 : x = 4
    · rw [if_pos x4, if_pos x4]
    rw [if_neg x4, if_neg x4, if_pos (by omega)]
  · show f_X11_plan _ _ _ _ = _
    unfold f_X11_plan
    rw [bind_some' (X11_isCand hRr w _), if0, if_pos h1, bind_some' (X11_isDay _), if0, if_pos h2]
    rw [bind_some' (X11_isIn x 0 6), if1, if_pos hx, bind_some' t1, chk_pos (by omega), chk_pos (by omega), chk_pos (by omega), chk_pos (by omega), chk_pos (by omega), chk_pos (by omega), rc, rk, rov, rcn, u190, u191]
    by_cases x0 : x = 0
    · rw [if_pos x0, if_pos x0]
    rw [if_neg x0, if_neg x0]
    by_cases x1 : x = 1
    · rw [if_pos x1, if_pos x1]
    rw [if_neg x1, if_neg x1]
    by_cases x2 : x = 2
    · rw [if_pos x2, if_pos x2]
    rw [if_neg x2, if_neg x2]
    by_cases x3 : x = 3
    · rw [if_pos x3, if_pos x3]
    rw [if_neg x3, if_neg x3]
    by_cases x4 : x = 4
    · rw [if_pos x4, if_pos x4]
    rw [if_neg x4, if_neg x4, if_pos (by omega)]
