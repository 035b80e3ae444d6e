/-- lawful -/
theorem q_lawful {σ : Mem} {B : Bk} (h : ST σ B) (c d : Int) : same σ B (f_X10_lawful σ c d) (fun ρ => f_X11_lawful ρ c d) := by
  have hst := h
  obtain ⟨hB, hR, w, hW⟩ := h
  have hn := w.1
  unfold WFn at hn
  have hR' : isRk (refd σ (-52)) 182 B := isRk_refd hR
  have rno : ∀ ρ : Mem, f_X11_lawful_15 ρ = some (-52, nod ρ (-52)) := fun ρ => r_no (by decide)
  have cno : ∀ ρ : Mem, f_X10_lawful_18 ρ = some (-52, refd ρ (-52)) := fun ρ => c_no (by decide)
  by_cases h1 : 0 ≤ c ∧ c < B 8 1
  rotate_left
  · refine same.no (x := -52) (by omega) (by decide) ?_ CFr.rfl hW ?_ RFr.rfl
    · unfold f_X10_lawful
      rw [bind_some' (X0_hasCand hB c), if0, if_neg h1, cno]
    · show f_X11_lawful _ c d = _
      unfold f_X11_lawful
      rw [bind_some' (X11_isCand hR' w c), if0, if_neg h1, rno]
  by_cases h2 : 0 ≤ d ∧ d < 5
  rotate_left
  · refine same.no (x := -52) (by omega) (by decide) ?_ CFr.rfl hW ?_ RFr.rfl
    · unfold f_X10_lawful
      rw [bind_some' (X0_hasCand hB c), if0, if_pos h1, bind_some' (X10_isDay d), if1, if_neg h2, cno]
    · show f_X11_lawful _ c d = _
      unfold f_X11_lawful
      rw [bind_some' (X11_isCand hR' w c), if0, if_pos h1, bind_some' (X11_isDay d), if1, if_neg h2, rno]
  obtain ⟨ρ, a1, a2, a3, a4, a5⟩ := ask hst h1.1 h1.2
  obtain ⟨hBr, hRr, -, hWr⟩ := a4
  have p1 : ((54 + 10 * c, ρ) : Int × Mem).1 = 54 + 10 * c := rfl
  have p2 : ((54 + 10 * c, ρ) : Int × Mem).2 = ρ := rfl
  obtain ⟨D, rfl⟩ := n_of h2.1
  have hwd := a5 D (by omega)
  have ho := ovr_b w h1.1 h1.2 D
  have hf := fre_b w h1.1 h1.2 ho.2
  have ha := ahd_b w h1.1 h1.2 ho.2
  have hm := okm_od w h1.1 h1.2 (D : Int)
  obtain ⟨ρ2, b1, b2, b3⟩ := X4_ordersOf hBr w h1.1 h1.2 (by omega) ha hwd
  obtain ⟨r, ρ3, s1, s2, -, s4, -, -⟩ := X3_search b2 hm w h1.1 h1.2 hf ha (by_ := 0) (by omega) (woB B (-1))
  rw [woB_no] at s1
  have c3 : CFr ρ ρ3 := fun x _ g2 _ _ _ => by rw [s2 x (by omega) (by omega) (by omega) (by omega), b3 x (by omega)]
  have hR3 : isRk ρ3 182 B := hRr.row (c3 182 (by decide) (by decide) (by decide) (by decide) (by decide))
  have hW3 : WKS ρ3 B := hWr.keep (by omega) fun x g1 g2 => by rw [s2 x (by omega) (by omega) (by omega) (by omega), b3 x (by omega)]
  obtain ⟨τ, t1, t2, t3⟩ := X11_plans hR3 w h1.1 h1.2
  obtain ⟨-, u190, u191⟩ := t3 D (by omega)
  have hRt : isRk τ 182 B := hR3.row (t2 182 (by decide))
  obtain ⟨τ2, y1, y2, y3⟩ := X11_rows (σ := τ) hm.1 hm.2.1
  obtain ⟨τ3, z1, z2⟩ := X11_lawful44 (hRt.row (y2 182 (by decide))) w hm h1.1 h1.2 hf ha (d := D) (by omega) (by rw [y2 198 (by decide)]; exact u190) (by rw [y2 199 (by decide)]; exact u191) y3
  refine same.ok (τ := τ3) (v := ((nlw (lwS B c (od B c D) (fre B c (ovr B c D)) (ahd B c (ovr B c D))) (PT (nof (od B c D))) : Nat) : Int)) (by omega) ?_ (a2.trans c3) hW3 ?_ (fun x g1 g2 => by rw [z2 x (by omega), y2 x (by omega), t2 x (by omega)])
  · unfold f_X10_lawful
    rw [bind_some' (X0_hasCand hB _), if0, if_pos h1, bind_some' (X10_isDay _), if1, if_pos h2]
    rw [bind_some' a1, p1, p2, bind_some' b1, bind_some' s1]
    unfold f_X3_lawfulOnes
    simp only [Option.bind_some]
    rw [s4]
  · show f_X11_lawful _ _ _ = _
    unfold f_X11_lawful
    rw [bind_some' (X11_isCand hR3 w _), if0, if_pos h1, bind_some' (X11_isDay _), if1, if_pos h2]
    rw [bind_some' t1, bind_some' (X11_ofDay hRt w h1.1 h1.2 _), bind_some' y1]
    simp only [Option.bind_some]
    exact z1
/-- measure -/
theorem q_measure {σ : Mem} {B : Bk} (h : ST σ B) (c d b : Int) : same σ B (f_X10_measure σ c d b) (fun ρ => f_X11_measure ρ c d b) := by
  have hst := h
  obtain ⟨hB, hR, w, hW⟩ := h
  have hn := w.1
  unfold WFn at hn
  have hR' : isRk (refd σ (-52)) 182 B := isRk_refd hR
  have rno : ∀ ρ : Mem, f_X11_measure_27 ρ = some (-52, nod ρ (-52)) := fun ρ => r_no (by decide)
  have cno : ∀ ρ : Mem, f_X10_measure_25 ρ = some (-52, refd ρ (-52)) := fun ρ => c_no (by decide)
  by_cases h1 : 0 ≤ c ∧ c < B 8 1
  rotate_left
  · refine same.no (x := -52) (by omega) (by decide) ?_ CFr.rfl hW ?_ RFr.rfl
    · unfold f_X10_measure
      rw [bind_some' (X0_hasCand hB c), if0, if_neg h1, cno]
    · show f_X11_measure _ c d b = _
      unfold f_X11_measure
      rw [bind_some' (X11_isCand hR' w c), if0, if_neg h1, rno]
  by_cases h2 : 0 ≤ d ∧ d < 5
  rotate_left
  · refine same.no (x := -52) (by omega) (by decide) ?_ CFr.rfl hW ?_ RFr.rfl
    · unfold f_X10_measure
      rw [bind_some' (X0_hasCand hB c), if0, if_pos h1, bind_some' (X10_isDay d), if0, if_neg h2, cno]
    · show f_X11_measure _ c d b = _
      unfold f_X11_measure
      rw [bind_some' (X11_isCand hR' w c), if0, if_pos h1, bind_some' (X11_isDay d), if0, if_neg h2, rno]
  by_cases h3 : 0 ≤ b ∧ b ≤ 4
  rotate_left
  · refine same.no (x := -52) (by omega) (by decide) ?_ CFr.rfl hW ?_ RFr.rfl
    · unfold f_X10_measure
      rw [bind_some' (X0_hasCand hB c), if0, if_pos h1, bind_some' (X10_isDay d), if0, if_pos h2, bind_some' (X10_isMeasure b), if1, if_neg h3, cno]
    · show f_X11_measure _ c d b = _
      unfold f_X11_measure
      rw [bind_some' (X11_isCand hR' w c), if0, if_pos h1, bind_some' (X11_isDay d), if0, if_pos h2, bind_some' (X11_isIn b 0 4), if1, if_neg h3, rno]
  obtain ⟨ρ, a1, a2, a3, a4, a5⟩ := ask hst h1.1 h1.2
  obtain ⟨hBr, hRr, -, hWr⟩ := a4
  have p1 : ((54 + 10 * c, ρ) : Int × Mem).1 = 54 + 10 * c := rfl
  have p2 : ((54 + 10 * c, ρ) : Int × Mem).2 = ρ := rfl
  obtain ⟨D, rfl⟩ := n_of h2.1
  have hwd := a5 D (by omega)
  have ho := ovr_b w h1.1 h1.2 D
  have hf := fre_b w h1.1 h1.2 ho.2
  have ha := ahd_b w h1.1 h1.2 ho.2
  have cno2 : ∀ ρ : Mem, f_X10_measure_77 ρ = some (-55, refd ρ (-55)) := fun ρ => c_no (by decide)
  have rno2 : ∀ ρ : Mem, f_X11_measure_70 ρ = some (-55, nod ρ (-55)) := fun ρ => r_no (by decide)
  have hR55 : isRk (refd ρ (-55)) 182 B := isRk_refd hRr
  cases hdp : dpl B c D (ovr B c D) with
  | none =>
    obtain ⟨τ, t1, t2, t3⟩ := X11_plans hR55 w h1.1 h1.2
    refine same.no (x := -55) (by omega) (by decide) ?_ a2 hWr ?_ (rf_of t2)
    · unfold f_X10_measure
      rw [bind_some' (X0_hasCand hB _), if0, if_pos h1, bind_some' (X10_isDay _), if0, if_pos h2, bind_some' (X10_isMeasure _), if1, if_pos h3]
      rw [bind_some' a1, p1, p2, chk_pos (by omega), (hwd.2.2.1 hdp).1, if_pos rfl, cno2]
    · show f_X11_measure _ _ _ _ = _
      unfold f_X11_measure
      rw [bind_some' (X11_isCand hR55 w _), if0, if_pos h1, bind_some' (X11_isDay _), if0, if_pos h2, bind_some' (X11_isIn _ 0 4), if1, if_pos h3]
      rw [bind_some' t1, chk_pos (by omega)]
      simp only [Option.bind_some]
      rw [chk_pos (by omega), ((t3 D (by omega)).1.1 hdp).1, if_pos rfl, rno2]
  | some y =>
    obtain ⟨v, o', m, l⟩ := y
    obtain ⟨e1, e2, e3, -, -⟩ := hwd.2.2.2 v o' m l hdp
    obtain ⟨d1, d2, d3, d4, d5, d6, d7⟩ := dpl_some w h1.1 h1.2 hdp
    have h4 := d1.2.1
    by_cases hbad : 0 ≤ o' ∨ nof m = 0
    · obtain ⟨τ, t1, t2, t3⟩ := X11_plans hR55 w h1.1 h1.2
      obtain ⟨g1, -, g2, g3, -⟩ := (t3 D (by omega)).1.2 v o' m l hdp
      refine same.no (x := -55) (by omega) (by decide) ?_ a2 hWr ?_ (rf_of t2)
      · unfold f_X10_measure
        rw [bind_some' (X0_hasCand hB _), if0, if_pos h1, bind_some' (X10_isDay _), if0, if_pos h2, bind_some' (X10_isMeasure _), if1, if_pos h3]
        rw [bind_some' a1, p1, p2, chk_pos (by omega), e1, if_neg (by decide), chk_pos (by omega), e2]
        by_cases ho0 : 0 ≤ o'
        · rw [if_pos (by omega), cno2]
        · rw [if_neg (by omega), chk_pos (by omega), e3, if_neg (by omega), cno2]
      · show f_X11_measure _ _ _ _ = _
        unfold f_X11_measure
        rw [bind_some' (X11_isCand hR55 w _), if0, if_pos h1, bind_some' (X11_isDay _), if0, if_pos h2, bind_some' (X11_isIn _ 0 4), if1, if_pos h3]
        rw [bind_some' t1, chk_pos (by omega)]
        simp only [Option.bind_some]
        rw [chk_pos (by omega), g1, if_neg (by decide), chk_pos (by omega), g2, g3]
        by_cases ho0 : 0 ≤ o'
        · rw [if_pos ho0, rno2]
        · rw [if_neg ho0, if_neg (by omega), rno2]
    · obtain ⟨τ, t1, t2, t3⟩ := X11_plans hRr w h1.1 h1.2
      obtain ⟨hrd, u190, u191⟩ := t3 D (by omega)
      obtain ⟨g1, -, g2, g3, g4⟩ := hrd.2 v o' m l hdp
      have hRt : isRk τ 182 B := hRr.row (t2 182 (by decide))
      have eo : o' = -1 := by omega
      have key : ∃ ρ5, f_X11_measure_80 τ c D b (nof m : Int) 0 = some (msC B c (fre B c (ovr B c D)) b (woB B (-1)) (ahd B c (ovr B c D)) (nof m) (lq m l), ρ5) ∧ ∀ x, ¬ (192 ≤ x ∧ x ≤ 194) → ρ5 x = τ x := by
        unfold f_X11_measure_80
        obtain ⟨τ2, y1, y2, y3⟩ := loop_ex (f := f_X11_measure_80B c D b (nof m : Int)) (fun s => ∃ j : Nat, s.1 = (j : Int) ∧ j ≤ nof m ∧ (∀ x, x ≠ 192 → s.2 x = τ x) ∧ ∀ i : Nat, i < j → s.2 192 i = (lq m l i : Int)) (fun s => (4 - s.1).toNat) (fun τ2 => (∀ x, x ≠ 192 → τ2 x = τ x) ∧ ∀ i : Nat, i < nof m → τ2 192 i = (lq m l i : Int)) (a := (0, τ)) ⟨0, rfl, Nat.zero_le _, fun _ _ => rfl, fun i hi => absurd hi (Nat.not_lt_zero _)⟩ (Nat.le_of_ble_eq_true rfl) (by
          rintro ⟨_, τ2⟩ ⟨j, rfl, hj, k1, k2⟩
          have k1 : ∀ x, x ≠ 192 → τ2 x = τ x := k1
          have k2 : ∀ i : Nat, i < j → τ2 192 i = (lq m l i : Int) := k2
          show (∃ a', f_X11_measure_80C c D b (nof m : Int) (j : Int) τ2 = _ ∧ _) ∨ ∃ a', f_X11_measure_80C c D b (nof m : Int) (j : Int) τ2 = _ ∧ _
          unfold f_X11_measure_80C
          by_cases hkn : (nof m : Int) ≤ j
          · right
            rw [if_pos hkn]
            have : j = nof m := by omega
            subst this
            exact ⟨_, rfl, k1, k2⟩
          · left
            have ej : jadd (jmul 4 (D : Int)) (j : Int) = 4 * D + j := by rw [jmul_ok (by omega) (by omega), jadd_ok (by omega) (by omega)]
            rw [if_neg hkn, ej, chk_pos (by omega), chk_pos (by omega), k1 201 (by decide), (g4 j (by omega)).1]
            simp only [Option.bind_some]
            rw [jadd_ok (by omega) (by omega)]
            refine ⟨_, rfl, ⟨j + 1, by show (j : Int) + 1 = _; omega, by omega, fun x hx => by dsimp only; rw [mup_row hx, k1 x hx], fun i hi => ?_⟩, by show (4 - ((j : Int) + 1)).toNat < (4 - (j : Int)).toNat; omega⟩
            dsimp only
            by_cases e : i = j
            · subst e; rw [mup_hit rfl rfl]
            · rw [mup_miss (by omega)]; exact k2 i (by omega))
        rw [y1]
        show ∃ ρ5, f_X11_measure_111 τ2 c D b (nof m : Int) = _ ∧ _
        unfold f_X11_measure_111
        have hR2 : isRk τ2 182 B := hRt.row (y2 182 (by decide))
        obtain ⟨τ3, x1, x2, x3⟩ := X11_lay hR2 w d1 h1.1 h1.2 hf ha d4 y3
        rw [chk_pos (by omega), chk_pos (by omega), y2 198 (by decide), y2 199 (by decide), u190, u191, bind_some' x1, chk_pos (by omega)]
        have hq : ∀ k, k < nof m → (lq m l k : Int) < B 8 0 ∧ τ3 192 k = (lq m l k : Int) := fun k hk => ⟨d1.2.2 _ (nth_in (((PT_ok (nof m) h4).2.2 l d4).2 k hk)).2.1, by rw [x2 192 (by decide) (by decide)]; exact y3 k hk⟩
        have ex : ((if lwS B c m (fre B c (ovr B c D)) (ahd B c (ovr B c D)) l then (1 : Int) else 0), τ3).2 = τ3 := rfl
        rw [ex, x2 199 (by decide) (by decide), y2 199 (by decide), u191, bind_some' (X11_measured (hR2.row (x2 182 (by decide) (by decide))) w h1.1 h1.2 hf (by omega) (by omega) h4 ha hq x3)]
        exact ⟨τ3, rfl, fun x hx => by rw [x2 x (by omega) (by omega), y2 x (by omega)]⟩
      obtain ⟨ρ5, key1, key2⟩ := key
      refine same.ok (τ := ρ5) (v := msC B c (fre B c (ovr B c D)) b (woB B (-1)) (ahd B c (ovr B c D)) (nof m) (lq m l)) (by omega) ?_ a2 hWr ?_ (fun x g1 g2 => by rw [key2 x (by omega), t2 x (by omega)])
      · unfold f_X10_measure
        rw [bind_some' (X0_hasCand hB _), if0, if_pos h1, bind_some' (X10_isDay _), if0, if_pos h2, bind_some' (X10_isMeasure _), if1, if_pos h3]
        rw [bind_some' a1, p1, p2, chk_pos (by omega), e1, if_neg (by decide), chk_pos (by omega), e2, if_neg (by omega), chk_pos (by omega), e3, if_pos (by omega), bind_some' (X8_measured hBr w h1.1 h1.2 (by omega) ho.2 (by omega) hwd hdp), eo]
      · show f_X11_measure _ _ _ _ = _
        unfold f_X11_measure
        rw [bind_some' (X11_isCand hRr w _), if0, if_pos h1, bind_some' (X11_isDay _), if0, if_pos h2, bind_some' (X11_isIn _ 0 4), if1, if_pos h3]
        rw [bind_some' t1, chk_pos (by omega)]
        simp only [Option.bind_some]
        rw [chk_pos (by omega), g1, if_neg (by decide), chk_pos (by omega), g2, g3, if_neg (by omega), if_pos (by omega)]
        exact key1
