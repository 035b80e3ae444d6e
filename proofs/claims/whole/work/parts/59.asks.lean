/-- best -/
theorem q_best {σ : Mem} {B : Bk} (h : ST σ B) (c d b i : Int) : same σ B (f_X10_best σ c d b i) (fun ρ => f_X11_best ρ c d b i) := by
  have hst := h
  obtain ⟨hB, hR, w, hW⟩ := h
  have hn := w.1
  unfold WFn at hn
  have hR' : isRk (refd σ (-52)) 182 B := isRk_refd hR
  have rno : ∀ ρ : Mem, f_X11_best_27 ρ = some (-52, nod ρ (-52)) := fun ρ => r_no (by decide)
  have cno : ∀ ρ : Mem, f_X10_best_25 ρ = some (-52, refd ρ (-52)) := fun ρ => c_no (by decide)
  by_cases h1 : 0 ≤ c ∧ c < B 8 1
  rotate_left
  · refine same.no (x := -52) (by omega) (by decide) ?_ CFr.rfl hW ?_ RFr.rfl
    · unfold f_X10_best
      rw [bind_some' (X0_hasCand hB c), if0, if_neg h1, cno]
    · show f_X11_best _ c d b i = _
      unfold f_X11_best
      rw [bind_some' (X11_isCand hR' w c), if0, if_neg h1, rno]
  by_cases h2 : 0 ≤ d ∧ d < 5
  rotate_left
  · refine same.no (x := -52) (by omega) (by decide) ?_ CFr.rfl hW ?_ RFr.rfl
    · unfold f_X10_best
      rw [bind_some' (X0_hasCand hB c), if0, if_pos h1, bind_some' (X10_isDay d), if0, if_neg h2, cno]
    · show f_X11_best _ c d b i = _
      unfold f_X11_best
      rw [bind_some' (X11_isCand hR' w c), if0, if_pos h1, bind_some' (X11_isDay d), if0, if_neg h2, rno]
  by_cases h3 : 0 ≤ b ∧ b ≤ 4
  rotate_left
  · refine same.no (x := -52) (by omega) (by decide) ?_ CFr.rfl hW ?_ RFr.rfl
    · unfold f_X10_best
      rw [bind_some' (X0_hasCand hB c), if0, if_pos h1, bind_some' (X10_isDay d), if0, if_pos h2, bind_some' (X10_isMeasure b), if1, if_neg h3, cno]
    · show f_X11_best _ c d b i = _
      unfold f_X11_best
      rw [bind_some' (X11_isCand hR' w c), if0, if_pos h1, bind_some' (X11_isDay d), if0, if_pos h2, bind_some' (X11_isIn b 0 4), if1, if_neg h3, rno]
  obtain ⟨ρ, a1, a2, a3, a4, a5⟩ := ask hst h1.1 h1.2
  obtain ⟨hBr, hRr, -, hWr⟩ := a4
  have p1 : ((54 + 10 * c, ρ) : Int × Mem).1 = 54 + 10 * c := rfl
  have p2 : ((54 + 10 * c, ρ) : Int × Mem).2 = ρ := rfl
  obtain ⟨D, rfl⟩ := n_of h2.1
  have hwd := a5 D (by omega)
  have ho := ovr_b w h1.1 h1.2 D
  have hf := fre_b w h1.1 h1.2 ho.2
  have ha := ahd_b w h1.1 h1.2 ho.2
  have hm := okm_od w h1.1 h1.2 (D : Int)
  have hm4 := hm.2.1
  have cno2 : ∀ ρ : Mem, f_X10_best_106 ρ = some (-52, refd ρ (-52)) := fun ρ => c_no (by decide)
  obtain ⟨ρ2, b1, b2, b3⟩ := X4_ordersOf hBr w h1.1 h1.2 (by omega) ha hwd
  have c2 : CFr ρ ρ2 := fun x _ g2 _ _ _ => b3 x (by omega)
  have hR2 : isRk ρ2 182 B := hRr.row (c2 182 (by decide) (by decide) (by decide) (by decide) (by decide))
  have hW2 : WKS ρ2 B := hWr.keep (by omega) fun x g1 g2 => b3 x (by omega)
  by_cases hz : nof (od B c D) = 0
  · obtain ⟨τ, t1, t2, t3⟩ := X11_plans hR2 w h1.1 h1.2
    have hRt : isRk τ 182 B := hR2.row (t2 182 (by decide))
    obtain ⟨τ2, y1, y2, y3⟩ := X11_rows (σ := τ) hm.1 hm.2.1
    refine same.ok (τ := τ2) (v := -1) (by omega) ?_ (a2.trans c2) hW2 ?_ (fun x g1 g2 => by rw [y2 x (by omega), t2 x (by omega)])
    · unfold f_X10_best
      rw [bind_some' (X0_hasCand hB _), if0, if_pos h1, bind_some' (X10_isDay _), if0, if_pos h2, bind_some' (X10_isMeasure _), if1, if_pos h3]
      rw [bind_some' a1, p1, p2, bind_some' b1]
      unfold f_X3_count
      simp only [Option.bind_some]
      rw [b2.1, hz, if_pos (by decide)]
    · show f_X11_best _ _ _ _ _ = _
      unfold f_X11_best
      rw [bind_some' (X11_isCand hR2 w _), if0, if_pos h1, bind_some' (X11_isDay _), if0, if_pos h2, bind_some' (X11_isIn _ 0 4), if1, if_pos h3]
      rw [bind_some' t1, bind_some' (X11_ofDay hRt w h1.1 h1.2 _), bind_some' y1]
      simp only [Option.bind_some]
      rw [hz, if_pos (by decide)]
      unfold f_X11_best_64 f_X11_best_66
      have e : loop (f_X11_best_66B c D b i ((0 : Nat) : Int)) FU (-1, 0, τ2) = some (-1, τ2) := by
        rw [FU_9]
        refine loop_end ?_
        show f_X11_best_66C c D b i ((0 : Nat) : Int) (-1) 0 τ2 = _
        unfold f_X11_best_66C
        rw [if_pos rfl]
      rw [e]
      rfl
  obtain ⟨r, ρ3, s1, s2, s3, s4, s5, s6⟩ := X3_search b2 hm w h1.1 h1.2 hf ha (by_ := b) (by omega) (woB B (-1))
  rw [woB_no] at s1
  have c3 : CFr ρ ρ3 := fun x _ g2 _ _ _ => by rw [s2 x (by omega) (by omega) (by omega) (by omega), b3 x (by omega)]
  have hR3 : isRk ρ3 182 B := hRr.row (c3 182 (by decide) (by decide) (by decide) (by decide) (by decide))
  have hW3 : WKS ρ3 B := hWr.keep (by omega) fun x g1 g2 => by rw [s2 x (by omega) (by omega) (by omega) (by omega), b3 x (by omega)]
  have hO3 : isOr ρ3 B c (od B c D) (fre B c (ovr B c D)) (ahd B c (ovr B c D)) := b2.keep s3 (s2 37 (by decide) (by decide) (by decide) (by decide)) (s2 38 (by decide) (by decide) (by decide) (by decide)) (s2 39 (by decide) (by decide) (by decide) (by decide))
  have ecl : ∀ z, z = f_X3_search ρ2 b 0 → f_X10_best σ c D b i = z.bind (fun v14 => if v14.1 ≠ 0 then (if i ≠ (-1 : Int) then (if i < 0 then (f_X10_best_106 v14.2) else ((f_X3_count v14.2).bind fun v16 => (if i < v16 then ((f_X3_paperAt v14.2 i).bind fun v18 => (some (v18, v14.2))) else (f_X10_best_106 v14.2)))) else ((f_X3_least v14.2).bind fun v20 => (some (v20, v14.2)))) else (some ((-1 : Int), v14.2))) := fun z hz2 => by
    unfold f_X10_best
    rw [bind_some' (X0_hasCand hB _), if0, if_pos h1, bind_some' (X10_isDay _), if0, if_pos h2, bind_some' (X10_isMeasure _), if1, if_pos h3]
    rw [bind_some' a1, p1, p2, bind_some' b1]
    unfold f_X3_count
    simp only [Option.bind_some]
    rw [b2.1, if_neg (by omega), hz2]
  have ecl := ecl _ rfl
  rw [bind_some' s1] at ecl
  have refl : ∀ ρ4 : Mem, isRk ρ4 182 B → ∃ x6 τ, f_X11_best ρ4 c D b i = f_X11_best_174 τ i (nof (od B c D) : Int) x6 ∧ (∀ x, ¬ (192 ≤ x ∧ x ≤ 202) → x ≠ 203 → τ x = ρ4 x) ∧ (bst (lwS B c (od B c D) (fre B c (ovr B c D)) (ahd B c (ovr B c D))) (msS B c (od B c D) (fre B c (ovr B c D)) (ahd B c (ovr B c D)) b (woB B (-1))) (PT (nof (od B c D))) none = none → x6 = -1) ∧ ∀ v l, bst (lwS B c (od B c D) (fre B c (ovr B c D)) (ahd B c (ovr B c D))) (msS B c (od B c D) (fre B c (ovr B c D)) (ahd B c (ovr B c D)) b (woB B (-1))) (PT (nof (od B c D))) none = some (v, l) → x6 = v ∧ 0 ≤ v ∧ ∀ k : Nat, k < nof (od B c D) → τ 203 k = (lq (od B c D) l k : Int) := fun ρ4 hR4 => by
    obtain ⟨τ, t1, t2, t3⟩ := X11_plans hR4 w h1.1 h1.2
    obtain ⟨-, u190, u191⟩ := t3 D (by omega)
    have hRt : isRk τ 182 B := hR4.row (t2 182 (by decide))
    obtain ⟨τ2, y1, y2, y3⟩ := X11_rows (σ := τ) hm.1 hm.2.1
    obtain ⟨x6, τ3, z1, z2, z3, z4⟩ := X11_best66 (i0 := i) (hRt.row (y2 182 (by decide))) w hm (by omega) h1.1 h1.2 hf ha (by omega) (d := D) (by omega) (by rw [y2 198 (by decide)]; exact u190) (by rw [y2 199 (by decide)]; exact u191) y3 (by_ := b)
    refine ⟨x6, τ3, ?_, fun x g1 g2 => by rw [z2 x (by omega) g2, y2 x (by omega), t2 x g1], z3, z4⟩
    unfold f_X11_best
    rw [bind_some' (X11_isCand hR4 w _), if0, if_pos h1, bind_some' (X11_isDay _), if0, if_pos h2, bind_some' (X11_isIn _ 0 4), if1, if_pos h3, bind_some' t1, bind_some' (X11_ofDay hRt w h1.1 h1.2 _), bind_some' y1]
    simp only [Option.bind_some]
    rw [if_neg (by omega)]
    exact z1
  have pp1 : ∀ (x : Int) (y : Mem), (x, y).1 = x := fun _ _ => rfl
  have pp2 : ∀ (x : Int) (y : Mem), (x, y).2 = y := fun _ _ => rfl
  rw [pp1, pp2] at ecl
  cases hb : bst (lwS B c (od B c D) (fre B c (ovr B c D)) (ahd B c (ovr B c D))) (msS B c (od B c D) (fre B c (ovr B c D)) (ahd B c (ovr B c D)) b (woB B (-1))) (PT (nof (od B c D))) none with
  | none =>
    obtain ⟨x6, τ, z1, z2, z3, z4⟩ := refl ρ3 hR3
    refine same.ok (τ := τ) (v := -1) (by omega) ?_ (a2.trans c3) hW3 ?_ (fun x g1 g2 => z2 x (by omega) (by omega))
    · rw [ecl, s5 hb, if_neg (by decide)]
    · show f_X11_best ρ3 c D b i = _
      rw [z1, z3 hb]
      unfold f_X11_best_174
      rw [if_neg (by decide)]
  | some y =>
    obtain ⟨v, l⟩ := y
    obtain ⟨q1, q2, q3, q4⟩ := s6 v l hb
    rw [q1, if_pos (by decide)] at ecl
    by_cases i1 : i = -1
    · obtain ⟨x6, τ, z1, z2, z3, z4⟩ := refl ρ3 hR3
      obtain ⟨g1, g2, g3⟩ := z4 v l hb
      refine same.ok (τ := τ) (v := v) (by omega) ?_ (a2.trans c3) hW3 ?_ (fun x g1 g2 => z2 x (by omega) (by omega))
      · rw [ecl, if_neg (by omega)]
        unfold f_X3_least
        simp only [Option.bind_some]
        rw [q2]
      · show f_X11_best ρ3 c D b i = _
        rw [z1, g1]
        unfold f_X11_best_174
        rw [if_pos g2, if_neg (by omega)]
    by_cases hi : 0 ≤ i ∧ i < (nof (od B c D) : Int)
    · obtain ⟨x6, τ, z1, z2, z3, z4⟩ := refl ρ3 hR3
      obtain ⟨g1, g2, g3⟩ := z4 v l hb
      obtain ⟨I, rfl⟩ := n_of hi.1
      rcases bst_in hb with hh | ⟨hin, -, -⟩
      · cases hh
      obtain ⟨-, -, pin⟩ := PT_ok (nof (od B c D)) hm4
      refine same.ok (τ := τ) (v := (lq (od B c D) l I : Int)) (by omega) ?_ (a2.trans c3) hW3 ?_ (fun x g1 g2 => z2 x (by omega) (by omega))
      · rw [ecl, if_pos i1, if_neg (by omega)]
        unfold f_X3_count
        simp only [Option.bind_some]
        rw [hO3.1, if_pos hi.2, bind_some' (X3_paperAt hO3 hm4 (j := I) (l := l.getD I 0) (by omega) ((pin l hin).2 I (by omega)) (q4 I (by omega)).1)]
        rfl
      · show f_X11_best ρ3 c D b I = _
        rw [z1, g1]
        unfold f_X11_best_174
        rw [if_pos g2, if_pos i1, jsub_ok (by omega) (by omega), bind_some' (X11_isIn _ 0 _), if0, if_pos (by omega), chk_pos (by omega), g3 I (by omega)]
    · obtain ⟨x6, τ, z1, z2, z3, z4⟩ := refl (refd ρ3 (-52)) (isRk_refd hR3)
      obtain ⟨g1, g2, g3⟩ := z4 v l hb
      refine same.no (τ := τ) (x := -52) (by omega) (by decide) ?_ (a2.trans c3) hW3 ?_ (fun x g1 g2 => z2 x (by omega) (by omega))
      · rw [ecl, if_pos i1]
        by_cases i0 : i < 0
        · rw [if_pos i0, cno2]
        · rw [if_neg i0]
          unfold f_X3_count
          simp only [Option.bind_some]
          rw [hO3.1, if_neg (by omega), cno2]
      · show f_X11_best (refd ρ3 (-52)) c D b i = _
        rw [z1, g1]
        unfold f_X11_best_174
        rw [if_pos g2, if_pos i1, jsub_ok (by omega) (by omega), bind_some' (X11_isIn _ 0 _), if0, if_neg (by omega), r_no (by decide)]
