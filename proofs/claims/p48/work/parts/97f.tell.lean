/-! WHAT IS TOLD: from an empty book -/
def B0 : Bk := fun x i => if x = 8 then (if i = 3 then 24 else if i = 4 then 1 else if i = 5 then 1 else 0) else 0
theorem WF_B0 : WF B0 := ⟨by unfold WFn in32; decide, fun p h1 h2 => absurd h2 (by have : B0 8 0 = 0 := rfl; omega), fun p h1 h2 => absurd h2 (by have : B0 8 1 = 0 := rfl; omega), fun p h1 h2 => absurd h2 (by have : B0 8 2 = 0 := rfl; omega)⟩
theorem sg_sh : ∀ k : Nat, k < 8 → sg0 31 (k : Int) = -1 := by decide +kernel
theorem KS_0 : KS 0 sg0 B0 none := by
  have e43 : sg0 43 3 = 1 := rfl
  refine ⟨⟨⟨fun i _ _ => rfl, fun i _ _ => rfl, fun i _ _ => rfl, fun i _ _ => rfl, fun i _ _ => rfl, fun i _ _ => rfl, fun i _ _ => rfl, fun i _ _ => rfl, rfl, rfl, rfl, rfl, rfl, rfl⟩, trivial, WF_B0, fun c c1 c2 => absurd c2 (by have : B0 8 1 = 0 := rfl; omega)⟩, by rw [e43]; decide, ⟨?_, fun g => ?_⟩, ⟨?_, fun g => ?_⟩, fun s s1 s2 => ?_, rfl, rfl⟩
  · rw [e43, show sg0 164 9 = 0 from rfl]
    decide
  · rw [e43, show sg0 164 9 = 0 from rfl] at g
    exact absurd g (by decide)
  · rw [e43, show sg0 171 8 = 0 from rfl]
    decide
  · rw [e43, show sg0 171 8 = 0 from rfl] at g
    exact absurd g (by decide)
  · obtain ⟨k, rfl⟩ := n_of s1
    exact sg_sh k (by omega)
section
variable {m n N : Nat} {xs : Nat → Int32} {k : Nat} {σ ξ : Mem} {B : Bk} {c p : Nat}
theorem xq_g : xiQ N xs m n 0 0 = 8 + pkv N xs 0 33 ∧ xiQ N xs m n 0 1 = pkv N xs 1 9 := by
  have e : ∀ j, xiQ N xs m n 0 j = if j = 0 then 8 + pkv N xs 0 33 else if j = 1 then pkv N xs 1 9 else 0 := fun j => by
    unfold xiQ xiP
    rw [if_neg (show ¬ (3 + (m : Int) ≤ 0 ∧ 0 < 3 + (m : Int) + n) by omega), if_pos rfl]
  exact ⟨by rw [e]; rfl, by rw [e]; rfl⟩
theorem xq_p (hp : p < m) : xiQ N xs m n (2 + (p : Int)) 0 = pdy N xs p ∧ xiQ N xs m n (2 + (p : Int)) 1 = pst N xs p ∧ xiQ N xs m n (2 + (p : Int)) 2 = pln N xs p := by
  have e : ∀ j, xiQ N xs m n (2 + (p : Int)) j = if j = 0 then pdy N xs p else if j = 1 then pst N xs p else if j = 2 then pln N xs p else 0 := fun j => by
    unfold xiQ xiP
    rw [if_neg (show ¬ (3 + (m : Int) ≤ 2 + (p : Int) ∧ 2 + (p : Int) < 3 + m + n) by omega), if_neg (show ¬ 2 + (p : Int) = 0 by omega), if_pos (show 2 ≤ 2 + (p : Int) ∧ 2 + (p : Int) < 2 + m by omega), show 2 + (p : Int) - 2 = p by omega]
  exact ⟨by rw [e]; rfl, by rw [e]; rfl, by rw [e]; rfl⟩
theorem xq_q (hc : c < n) : xiQ N xs m n (3 + (m : Int) + c) 0 = pkv N xs (70 + 3 * c) 6 ∧ xiQ N xs m n (3 + (m : Int) + c) 1 = pkv N xs (70 + 3 * c + 1) 10 ∧ xiQ N xs m n (3 + (m : Int) + c) 2 = pkv N xs (70 + 3 * c + 2) 2 ∧ xiQ N xs m n (3 + (m : Int) + c) 3 = 0 := by
  have e : ∀ j, xiQ N xs m n (3 + (m : Int) + c) j = if j = 0 then pkv N xs (70 + 3 * c) 6 else if j = 1 then pkv N xs (70 + 3 * c + 1) 10 else if j = 2 then pkv N xs (70 + 3 * c + 2) 2 else 0 := fun j => by
    unfold xiQ
    rw [if_pos (show 3 + (m : Int) ≤ 3 + (m : Int) + c ∧ 3 + (m : Int) + c < 3 + m + n by omega), show 3 + (m : Int) + (c : Int) - 3 - m = c by omega]
  exact ⟨by rw [e]; rfl, by rw [e]; rfl, by rw [e]; rfl, by rw [e]; rfl⟩
theorem pdy_b : 0 ≤ pdy N xs p ∧ pdy N xs p < 5 := by
  unfold pdy
  split
  · exact pk_b (by omega) ⟨by decide, by decide⟩
  · have := pk_b (N := N) (xs := xs) (i := 10 + 4 * (p : Int) + 1) (k := 2) (by omega) ⟨by decide, by decide⟩
    omega
theorem pst_b : 0 ≤ pst N xs p ∧ pst N xs p < 48 := by
  unfold pst
  split
  · exact pk_b (by omega) ⟨by decide, by decide⟩
  · have := pk_b (N := N) (xs := xs) (i := 10 + 4 * (p : Int) + 3) (k := 30) (by omega) ⟨by decide, by decide⟩
    omega
theorem pln_b : 1 ≤ pln N xs p ∧ pln N xs p ≤ 12 := by
  unfold pln
  have := pk_b (N := N) (xs := xs) (i := 10 + 4 * (p : Int) + 2) (k := 12) (by omega) ⟨by decide, by decide⟩
  omega
/-- the candidates -/
theorem t_92 (K : KS k σ B none) (hk : k + 100 < 80000) (h : TR m n N xs ξ B 0) (hm10 : m ≤ 10) (hn4 : n ≤ 4) : RUN (f_L_tell_92 m n N xs (σ, ξ) 110 1 0) (fun r => r.1 = 1 ∧ ∃ B', KS (k + 100) r.2.1 B' none ∧ TR m n N xs r.2.2 B' n) := by
  unfold f_L_tell_92
  refine RUN.bind (P := fun e => ∃ ρ ξ' B', KS (k + 12 * n) ρ B' none ∧ TR m n N xs ξ' B' n ∧ e = (1, (ρ, ξ'))) ?_ ?_
  · refine RUN.loop (fun s => ∃ (c : Nat) (ρ ξ' : Mem) (B' : Bk), c ≤ n ∧ KS (k + 12 * c) ρ B' none ∧ TR m n N xs ξ' B' c ∧ s = (1, (c : Int), (ρ, ξ'))) (fun s => (20 - s.2.1).toNat) ⟨0, σ, ξ, B, Nat.zero_le _, K, h, rfl⟩ (Nat.le_of_ble_eq_true rfl) ?_
    rintro _ ⟨c, ρ, ξ', B', hc, K1, h1, rfl⟩
    show RUN (f_L_tell_92C m n N xs 110 1 (c : Int) (ρ, ξ')) _
    unfold f_L_tell_92C
    by_cases hend : ((n : Nat) : Int) ≤ c
    · have : c = n := by omega
      subst this
      exact RUN.pos hend (RUN.ok ⟨ρ, ξ', B', K1, h1, rfl⟩)
    · have hcn : c < n := by omega
      have less : (20 - ((c + 1 : Nat) : Int)).toNat < (20 - (c : Int)).toNat := by omega
      obtain ⟨t1, t2, t3, t4, t5, t6, t7, t8⟩ := h1
      obtain ⟨x0, x1, x2, x3⟩ := xq_q (m := m) (N := N) (xs := xs) hcn
      have y0 : ξ' (3 + (m : Int) + c) 0 = pkv N xs (70 + 3 * c) 6 := by rw [t7 _ _ (by omega), x0]
      have y1 : ξ' (3 + (m : Int) + c) 1 = pkv N xs (70 + 3 * c + 1) 10 := by rw [t7 _ _ (by omega), x1]
      have y2 : ξ' (3 + (m : Int) + c) 2 = pkv N xs (70 + 3 * c + 2) 2 := by rw [t7 _ _ (by omega), x2]
      have b0 := pk_b (N := N) (xs := xs) (i := 70 + 3 * (c : Int)) (k := 6) (by omega) ⟨by decide, by decide⟩
      have b1 := pk_b (N := N) (xs := xs) (i := 70 + 3 * (c : Int) + 1) (k := 10) (by omega) ⟨by decide, by decide⟩
      have b2 := pk_b (N := N) (xs := xs) (i := 70 + 3 * (c : Int) + 2) (k := 2) (by omega) ⟨by decide, by decide⟩
      have g := a_cand K1 (by omega) (by rw [t2]; omega) (x := pkv N xs (70 + 3 * c) 6) (a := pkv N xs (70 + 3 * c + 1) 10) (by omega) (by omega)
      rw [← y0, ← y1, t2] at g
      have e8 := addC_8 (B := B') (k := ξ' (3 + (m : Int) + c) 0) (a := ξ' (3 + (m : Int) + c) 1)
      have en := addC_n (B := B') (k := ξ' (3 + (m : Int) + c) 0) (a := ξ' (3 + (m : Int) + c) 1)
      rw [t2] at e8 en
      refine RUN.neg hend (RUN.neg (by decide) ?_)
      refine RUN.chk ⟨by omega, by omega⟩ (RUN.chk ⟨by decide, by decide⟩ (RUN.chk ⟨by omega, by omega⟩ (RUN.chk ⟨by decide, by decide⟩ ?_)))
      refine RUN.call g fun ρ2 K2 => ?_
      refine RUN.neg (show ¬ (c : Int) ≠ (c : Int) by simp) ?_
      refine RUN.chk ⟨by omega, by omega⟩ (RUN.chk ⟨by decide, by decide⟩ ?_)
      have g2 := a_night K2 (by omega) (c := (c : Int)) (by omega) (by rw [e8.1]; omega) (v := ξ' (3 + (m : Int) + c) 2) (by rw [y2]; omega)
      rw [en.2.2.1] at g2
      refine RUN.call g2 fun ρ3 K3 => ?_
      refine RUN.neg (show ¬ (0 : Int) ≠ 0 by decide) ?_
      unfold f_L_tell_149
      have h3 : TR m n N xs ξ' (mup (addC B' (ξ' (3 + (m : Int) + c) 0) (ξ' (3 + (m : Int) + c) 1)) 5 c (ξ' (3 + (m : Int) + c) 2)) (c + 1) := by
        refine ⟨?_, ?_, ?_, fun q hq => ?_, fun j hj => ?_, ?_, t7, fun j j1 j2 => t8 j (by omega) j2⟩
        · rw [mup_row (by decide), e8.2 0 (by decide)]; exact t1
        · rw [mup_row (by decide), e8.1]; omega
        · rw [mup_row (by decide), e8.2 2 (by decide)]; exact t3
        · rw [mup_row (by decide), mup_row (by decide), addC_r (by decide), addC_r (by decide)]; exact t4 q hq
        · rw [mup_row (by decide)]
          by_cases e : j = c
          · subst e
            rw [en.2.2.2]
            exact t8 j (by omega) hcn
          · rw [addC_o (by decide) (by rw [t2]; omega)]
            exact t5 j (by omega)
        · rw [mup_row (by decide), e8.2 4 (by decide)]; exact t6
      have h0 : ∀ q, tk (mup (addC B' (ξ' (3 + (m : Int) + c) 0) (ξ' (3 + (m : Int) + c) 1)) 5 c (ξ' (3 + (m : Int) + c) 2)) c q = false := fun q => by
        unfold tk
        rw [mup_row (by decide), en.2.2.2]
        exact Nat.zero_testBit q
      refine (t_154 K3 (by omega) h3 hm10 hn4 hcn h0).mono ?_
      rintro _ ⟨ρ4, ξ4, B4, K4, h4, rfl⟩
      exact ⟨⟨c + 1, ρ4, ξ4, B4, by omega, K4.mono (by omega), h4, rfl⟩, less⟩
  · rintro _ ⟨ρ, ξ', B', K1, h1, rfl⟩
    refine RUN.chk (Or.inr rfl) ?_
    exact RUN.ok ⟨rfl, B', K1.mono (by omega), h1⟩
/-- the papers -/
theorem t_33 (K : KS k σ B none) (hF : FRESH σ) (hk : k + 200 < 80000) (hm10 : m ≤ 10) (hn4 : n ≤ 4) (h80 : B 8 0 = 0) (h81 : B 8 1 = 0) (h82 : B 8 2 = 0) (h84 : B 8 4 = pkv N xs 1 9) : RUN (f_L_tell_33 m n N xs (σ, xiQ N xs m n) 110 1 0) (fun r => r.1 = 1 ∧ ∃ B', KS (k + 120) r.2.1 B' none ∧ TR m n N xs r.2.2 B' n) := by
  unfold f_L_tell_33
  refine RUN.bind (P := fun e => ∃ ρ B', KS (k + m) ρ B' none ∧ TR m n N xs (xiQ N xs m n) B' 0 ∧ e = (1, (ρ, xiQ N xs m n))) ?_ ?_
  · refine RUN.loop (fun s => ∃ (p : Nat) (ρ : Mem) (B' : Bk), p ≤ m ∧ KS (k + p) ρ B' none ∧ FRESH ρ ∧ B' 8 0 = p ∧ B' 8 1 = 0 ∧ B' 8 2 = 0 ∧ B' 8 4 = pkv N xs 1 9 ∧ (∀ q : Nat, q < p → B' 0 q = pdy N xs q ∧ B' 1 q = pst N xs q) ∧ s = (1, (p : Int), (ρ, xiQ N xs m n))) (fun s => (20 - s.2.1).toNat) ⟨0, σ, B, Nat.zero_le _, K, hF, h80, h81, h82, h84, fun q hq => absurd hq (Nat.not_lt_zero _), rfl⟩ (Nat.le_of_ble_eq_true rfl) ?_
    rintro _ ⟨p, ρ, B', hp, K1, F1, b0, b1, b2, b4, hq, rfl⟩
    show RUN (f_L_tell_33C m n N xs 110 1 (p : Int) (ρ, xiQ N xs m n)) _
    unfold f_L_tell_33C
    by_cases hend : ((m : Nat) : Int) ≤ p
    · have : p = m := by omega
      subst this
      refine RUN.pos hend (RUN.ok ⟨ρ, B', K1, ⟨b0, b1, b2, fun q hq2 => ?_, fun j hj => absurd hj (Nat.not_lt_zero _), ?_, fun _ _ _ => rfl, fun j _ j2 => (xq_q j2).2.2.2⟩, rfl⟩)
      · obtain ⟨g1, g2, -⟩ := xq_p (n := n) (N := N) (xs := xs) hq2
        rw [g1, g2, (hq q hq2).1, (hq q hq2).2]
        exact ⟨rfl, rfl⟩
      · rw [xq_g.2, b4]
    · have hpm : p < m := by omega
      have less : (20 - ((p + 1 : Nat) : Int)).toNat < (20 - (p : Int)).toNat := by omega
      obtain ⟨g1, g2, g3⟩ := xq_p (n := n) (N := N) (xs := xs) hpm
      obtain ⟨ρ2, f1, K2, F2⟩ := a_paper K1 F1 (by omega) (by omega) (pdy_b (N := N) (xs := xs) (p := p)) (pst_b (N := N) (xs := xs) (p := p)) (pln_b (N := N) (xs := xs) (p := p))
      rw [b0] at f1
      refine RUN.neg hend (RUN.neg (by decide) ?_)
      refine RUN.chk ⟨by omega, by omega⟩ (RUN.chk ⟨by decide, by decide⟩ (RUN.chk ⟨by omega, by omega⟩ (RUN.chk ⟨by decide, by decide⟩ (RUN.chk ⟨by omega, by omega⟩ (RUN.chk ⟨by decide, by decide⟩ ?_)))))
      show RUN ((f_X10_paper ρ (xiQ N xs m n (2 + (p : Int)) 0) (xiQ N xs m n (2 + (p : Int)) 1) (xiQ N xs m n (2 + (p : Int)) 2)).bind _) _
      rw [g1, g2, g3, f1]
      refine RUN.neg (show ¬ (p : Int) ≠ (p : Int) by simp) ?_
      unfold f_L_tell_81
      refine RUN.to ?_
      rw [j_s (by omega)]
      have e8 := addP_8 (B := B') (d := pdy N xs p) (s := pst N xs p) (l := pln N xs p)
      have en := addP_n (B := B') (d := pdy N xs p) (s := pst N xs p) (l := pln N xs p)
      rw [b0] at e8 en
      refine RUN.ok ⟨⟨p + 1, ρ2, _, by omega, K2, F2, by rw [e8.1]; omega, by rw [e8.2 1 (by decide)]; exact b1, by rw [e8.2 2 (by decide)]; exact b2, by rw [e8.2 4 (by decide)]; exact b4, fun q q1 => ?_, rfl⟩, less⟩
      by_cases e : q = p
      · subst e
        exact ⟨en.1, en.2.1⟩
      · rw [addP_o (by decide) (by rw [b0]; omega), addP_o (by decide) (by rw [b0]; omega)]
        exact hq q (by omega)
  · rintro _ ⟨ρ, B', K1, h1, rfl⟩
    unfold f_L_tell_89
    refine (t_92 K1 (by omega) h1 hm10 hn4).mono ?_
    rintro r ⟨h2, B2, K2, h3⟩
    exact ⟨h2, B2, K2.mono (by omega), h3⟩
theorem l_tell (hm10 : m ≤ 10) (hn4 : n ≤ 4) : RUN (f_L_tell m n N xs (sg0, xiQ N xs m n) 110) (fun r => r.1 = 1 ∧ ∃ B', KS 200 r.2.1 B' none ∧ TR m n N xs r.2.2 B' n) := by
  have b0 := pk_b (N := N) (xs := xs) (i := 0) (k := 33) (by decide) ⟨by decide, by decide⟩
  have b1 := pk_b (N := N) (xs := xs) (i := 1) (k := 9) (by decide) ⟨by decide, by decide⟩
  obtain ⟨g0, g1⟩ := xq_g (m := m) (n := n) (N := N) (xs := xs)
  unfold f_L_tell
  refine RUN.chk ⟨by decide, by decide⟩ ?_
  have k1 := a_hours KS_0 (by decide) (v := xiQ N xs m n 0 0) (by rw [g0]; omega)
  refine RUN.call k1 fun ρ K1 => ?_
  refine RUN.neg (show ¬ B0 8 3 ≠ 24 by decide) ?_
  refine RUN.chk ⟨by decide, by decide⟩ ?_
  obtain ⟨ρ2, f2, K2, F2⟩ := a_turn K1 (by decide) (v := xiQ N xs m n 0 1) (by rw [g1]; omega)
  refine RUN.bind (RUN.eq f2 (P := fun v => v = ((mup B0 8 3 (xiQ N xs m n 0 0)) 8 4, ρ2)) rfl) ?_
  rintro _ rfl
  refine RUN.neg (show ¬ (mup B0 8 3 (xiQ N xs m n 0 0)) 8 4 ≠ 1 by rw [mup_miss (by decide)]; decide) ?_
  unfold f_L_tell_28
  refine (t_33 K2 F2 (by decide) hm10 hn4 ?_ ?_ ?_ ?_).mono ?_
  · rw [mup_miss (by decide), mup_miss (by decide)]; rfl
  · rw [mup_miss (by decide), mup_miss (by decide)]; rfl
  · rw [mup_miss (by decide), mup_miss (by decide)]; rfl
  · rw [mup_hit rfl rfl]; exact g1
  · rintro r ⟨h2, B2, K3, h3⟩
    exact ⟨h2, B2, K3.mono (by decide), h3⟩
end
