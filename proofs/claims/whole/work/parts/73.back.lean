/-! IMAGE, BACK, CHANGES (by mk73.py) -/
theorem isRk.mv {σ τ : Mem} {a b : Int} {B : Bk} (h : isRk σ a B) (e : ∀ i, 0 ≤ i → i < 88 → τ b i = σ a i) : isRk τ b B :=
  ⟨fun i h1 h2 => by rw [e _ (by omega) (by omega)]; exact h.day h1 h2, fun i h1 h2 => by rw [e _ (by omega) (by omega)]; exact h.start h1 h2, fun i h1 h2 => by rw [e _ (by omega) (by omega)]; exact h.len h1 h2, fun i h1 h2 => by rw [e _ (by omega) (by omega)]; exact h.kind h1 h2, fun i h1 h2 => by rw [e _ (by omega) (by omega)]; exact h.a h1 h2, fun i h1 h2 => by rw [e _ (by omega) (by omega)]; exact h.night h1 h2, fun i h1 h2 => by rw [e _ (by omega) (by omega)]; exact h.takes h1 h2, fun i h1 h2 => by rw [e _ (by omega) (by omega)]; exact h.seats h1 h2, by rw [e _ (by decide) (by decide)]; exact h.nP, by rw [e _ (by decide) (by decide)]; exact h.nC, by rw [e _ (by decide) (by decide)]; exact h.nR, by rw [e _ (by decide) (by decide)]; exact h.hours, by rw [e _ (by decide) (by decide)]; exact h.turn, by rw [e _ (by decide) (by decide)]; exact h.seed⟩
theorem X11_move {σ : Mem} {a b : Int} (hab : a ≠ b) : ∃ τ, f_X11_move σ a b = some τ ∧ (∀ x, x ≠ b → τ x = σ x) ∧ ∀ i, 0 ≤ i → i < 88 → τ b i = σ a i := by
  unfold f_X11_move f_X11_move_2
  obtain ⟨e, e1, e2, e3⟩ := loop_ex (f := f_X11_move_2B a b) (fun s => ∃ i : Nat, s.1 = (i : Int) ∧ i ≤ 88 ∧ (∀ x, x ≠ b → s.2 x = σ x) ∧ ∀ j, 0 ≤ j → j < (i : Int) → s.2 b j = σ a j) (fun s => (100 - s.1).toNat) (fun e => (∀ x, x ≠ b → e x = σ x) ∧ ∀ j, 0 ≤ j → j < 88 → e b j = σ a j) (a := (0, σ)) ⟨0, rfl, Nat.zero_le _, fun _ _ => rfl, fun c h1 h2 => absurd h2 (by omega)⟩ (Nat.le_of_ble_eq_true rfl) (by
    rintro ⟨_, τ⟩ ⟨i, rfl, hi, k1, k2⟩
    have k1 : ∀ x, x ≠ b → τ x = σ x := k1
    have k2 : ∀ j, 0 ≤ j → j < (i : Int) → τ b j = σ a j := k2
    show (∃ a', f_X11_move_2C a b (i : Int) τ = _ ∧ _) ∨ ∃ a', f_X11_move_2C a b (i : Int) τ = _ ∧ _
    unfold f_X11_move_2C
    by_cases hend : (88 : Int) ≤ i
    · right
      rw [if_pos hend]
      exact ⟨_, rfl, k1, fun c h1 h2 => k2 c h1 (by omega)⟩
    · left
      rw [if_neg hend, chk_pos (by omega), chk_pos (by omega), k1 a hab]
      simp only [Option.bind_some]
      rw [jadd_ok (by omega) (by omega)]
      refine ⟨_, rfl, ⟨i + 1, by show (i : Int) + 1 = _; omega, by omega, fun x hx => ?_, fun j h1 h2 => ?_⟩, by show (100 - ((i : Int) + 1)).toNat < (100 - (i : Int)).toNat; omega⟩
      · show mup τ b i _ x = _
        rw [mup_row hx, k1 x hx]
      · show mup τ b i (σ a i) b j = _
        by_cases e : j = i
        · rw [mup_hit rfl e, e]
        · rw [mup_miss (fun q => e q.2), k2 j h1 (by omega)])
  rw [e1]
  exact ⟨e, rfl, e2, e3⟩
theorem k_image {n : Nat} {σ : Mem} {B : Bk} (h : INV0 n σ B) : CALL0 n σ B (f_X10_image σ) (fun ρ => f_X11_image ρ) := by
  obtain ⟨⟨hB, hR, w, hW⟩, h2, h3, h4, h5, h6, h7, h8⟩ := h
  have hn := w.1
  unfold WFn at hn
  obtain ⟨σ1, b1, b2, b3⟩ := X0_become (σ := σ) (b0 := 19) hB (by decide)
  obtain ⟨ρ, hρ⟩ : ∃ ρ, ρ = mup σ1 0 3 1 := ⟨_, rfl⟩
  have f1 : ∀ x, x ≠ 0 → ¬ (19 ≤ x ∧ x ≤ 27) → ρ x = σ x := fun x x1 x2 => by rw [hρ, mup_row x1, b3 x (by omega)]
  have hRr : isRk ρ 182 B := hR.row (f1 182 (by decide) (by decide))
  obtain ⟨τ1, t1, t2, t3⟩ := X11_move (σ := ρ) (a := 182) (b := 183) (by decide)
  obtain ⟨τ, hτ⟩ : ∃ τ, τ = mup τ1 181 2 1 := ⟨_, rfl⟩
  have f2 : ∀ x, x ≠ 0 → ¬ (19 ≤ x ∧ x ≤ 27) → x ≠ 181 → x ≠ 183 → τ x = σ x := fun x x1 x2 x3 x4 => by rw [hτ, mup_row x3, t2 x x4, f1 x x1 x2]
  have f3 : ∀ i, i ≠ 2 → τ 181 i = σ 181 i := fun i hi => by rw [hτ, mup_miss (fun z => hi z.2), t2 181 (by decide), f1 181 (by decide) (by decide)]
  have q : ∀ x i, x ≠ 0 → ¬ (19 ≤ x ∧ x ≤ 27) → x ≠ 181 → x ≠ 183 → τ x i = σ x i := fun x i x1 x2 x3 x4 => by rw [f2 x x1 x2 x3 x4]
  refine ⟨1, ρ, τ, B, ?_, ?_, ⟨⟨hB.pt fun x i g1 g2 => q x i (by omega) (by omega) (by omega) (by omega), hR.pt fun i => q 182 i (by decide) (by decide) (by decide) (by decide), w, hW.keep (by omega) fun x g1 g2 => f2 x (by omega) (by omega) (by omega) (by omega)⟩, ⟨?_, Or.inr ⟨?_, B, w, ?_, ?_⟩⟩, h3.pt (fun i => q _ _ (by decide) (by decide) (by decide) (by decide)) (fun i => q _ _ (by decide) (by decide) (by decide) (by decide)) (fun i => q _ _ (by decide) (by decide) (by decide) (by decide)) (fun i => q _ _ (by decide) (by decide) (by decide) (by decide)) (Int.le_refl _), h4.pt (fun i => q _ _ (by decide) (by decide) (by decide) (by decide)) (fun i => q _ _ (by decide) (by decide) (by decide) (by decide)), h5.pt (f3 _ (by decide)) (q _ _ (by decide) (by decide) (by decide) (by decide)) (fun i => q _ _ (by decide) (by decide) (by decide) (by decide)) (fun i => q _ _ (by decide) (by decide) (by decide) (by decide)), h6.pt (fun i => q _ _ (by decide) (by decide) (by decide) (by decide)) (fun i => q _ _ (by decide) (by decide) (by decide) (by decide)), h7.pt (fun i => q _ _ (by decide) (by decide) (by decide) (by decide)), h8.s (Or.inl (q _ _ (by decide) (by decide) (by decide) (by decide)))⟩, fun x i g1 g2 => q x i (by omega) (by omega) (by omega) (by omega), Or.inr ⟨q _ _ (by decide) (by decide) (by decide) (by decide), SAMEB.rfl⟩⟩
  · unfold f_X10_image
    rw [bind_some' b1, hρ]
    rfl
  · show f_X11_image ρ = _
    unfold f_X11_image
    rw [bind_some' t1, hτ]
    rfl
  · rw [hτ, mup_hit rfl rfl, mup_miss (by omega), t2 0 (by decide), hρ, mup_hit rfl rfl]
  · rw [hτ, mup_miss (by omega), t2 0 (by decide), hρ, mup_hit rfl rfl]
  · exact b2.rows fun x x1 x2 => by rw [hτ, mup_row (by omega), t2 x (by omega), hρ, mup_row (by omega)]
  · exact hRr.mv fun i i1 i2 => by rw [hτ, mup_miss (by omega), t3 i i1 i2]
theorem X6_drop {σ : Mem} {N : Int} (hN : 0 ≤ N) (hs : ∀ s, 0 ≤ s → s < 8 → -1 ≤ σ 31 s ∧ σ 31 s ≤ 100) : ∃ τ, f_X6_dropCandsFrom σ N = some τ ∧ (∀ x, x ≠ 31 → τ x = σ x) ∧ ∀ s, 0 ≤ s → s < 8 → τ 31 s = if 10 + N ≤ σ 31 s then -1 else σ 31 s := by
  unfold f_X6_dropCandsFrom f_X6_dropCandsFrom_2
  obtain ⟨e, e1, e2, e3⟩ := loop_ex (f := f_X6_dropCandsFrom_2B N) (fun s => ∃ i : Nat, s.1 = (i : Int) ∧ i ≤ 8 ∧ (∀ x, x ≠ 31 → s.2 x = σ x) ∧ ∀ j, 0 ≤ j → j < 8 → s.2 31 j = if j < (i : Int) ∧ 10 + N ≤ σ 31 j then -1 else σ 31 j) (fun s => (20 - s.1).toNat) (fun e => (∀ x, x ≠ 31 → e x = σ x) ∧ ∀ j, 0 ≤ j → j < 8 → e 31 j = if 10 + N ≤ σ 31 j then -1 else σ 31 j) (a := (0, σ)) ⟨0, rfl, Nat.zero_le _, fun _ _ => rfl, fun j h1 h2 => by rw [if_neg (by omega)]⟩ (Nat.le_of_ble_eq_true rfl) (by
    rintro ⟨_, τ⟩ ⟨i, rfl, hi, k1, k2⟩
    have k1 : ∀ x, x ≠ 31 → τ x = σ x := k1
    have k2 : ∀ j, 0 ≤ j → j < 8 → τ 31 j = if j < (i : Int) ∧ 10 + N ≤ σ 31 j then -1 else σ 31 j := k2
    show (∃ a', f_X6_dropCandsFrom_2C N (i : Int) τ = _ ∧ _) ∨ ∃ a', f_X6_dropCandsFrom_2C N (i : Int) τ = _ ∧ _
    unfold f_X6_dropCandsFrom_2C
    by_cases hend : (8 : Int) ≤ i
    · right
      rw [if_pos hend]
      refine ⟨_, rfl, k1, fun j h1 h2 => ?_⟩
      rw [k2 j h1 h2]
      by_cases q : 10 + N ≤ σ 31 j
      · rw [if_pos ⟨by omega, q⟩, if_pos q]
      · rw [if_neg (fun z => q z.2), if_neg q]
    · left
      have e0 : τ 31 (i : Int) = σ 31 i := by rw [k2 i (by omega) (by omega), if_neg (by omega)]
      have hsi := hs i (by omega) (by omega)
      have fin : ∀ ρ : Mem, (∀ x, x ≠ 31 → ρ x = σ x) → (∀ j, 0 ≤ j → j < 8 → ρ 31 j = if j < ((i + 1 : Nat) : Int) ∧ 10 + N ≤ σ 31 j then -1 else σ 31 j) → ∃ a', f_X6_dropCandsFrom_24 ρ N (i : Int) = some (.inl a') ∧ (∃ i : Nat, a'.1 = (i : Int) ∧ i ≤ 8 ∧ (∀ x, x ≠ 31 → a'.2 x = σ x) ∧ ∀ j, 0 ≤ j → j < 8 → a'.2 31 j = if j < (i : Int) ∧ 10 + N ≤ σ 31 j then -1 else σ 31 j) ∧ (20 - a'.1).toNat < (20 - (i : Int)).toNat := fun ρ z1 z2 => by
        unfold f_X6_dropCandsFrom_24
        simp only [Option.bind_some]
        rw [jadd_ok (by omega) (by omega)]
        exact ⟨_, rfl, ⟨i + 1, by show (i : Int) + 1 = _; omega, by omega, z1, z2⟩, by show (20 - ((i : Int) + 1)).toNat < (20 - (i : Int)).toNat; omega⟩
      rw [if_neg hend, bind_some' (X6_candOn (by omega) (by omega)), e0]
      by_cases q : 10 + N ≤ σ 31 i
      · rw [if_neg (show ¬ σ 31 (i : Int) < 10 by omega), if_neg (by omega), chk_pos (by omega)]
        simp only [Option.bind_some]
        refine fin _ (fun x hx => by rw [mup_row hx, k1 x hx]) fun j h1 h2 => ?_
        by_cases e : j = i
        · rw [mup_hit rfl e, if_pos ⟨by omega, by rw [e]; exact q⟩]
        · rw [mup_miss (fun z => e z.2), k2 j h1 h2]
          by_cases g : j < (i : Int) ∧ 10 + N ≤ σ 31 j
          · rw [if_pos g, if_pos ⟨by omega, g.2⟩]
          · rw [if_neg g, if_neg (by omega)]
      · rw [if_pos (show (if σ 31 (i : Int) < 10 then (-1 : Int) else σ 31 i - 10) < N by split <;> omega)]
        refine fin τ k1 fun j h1 h2 => ?_
        rw [k2 j h1 h2]
        by_cases e : j = i
        · rw [if_neg (by omega), if_neg (by rw [e]; omega)]
        · by_cases g : j < (i : Int) ∧ 10 + N ≤ σ 31 j
          · rw [if_pos g, if_pos ⟨by omega, g.2⟩]
          · rw [if_neg g, if_neg (by omega)])
  rw [e1]
  exact ⟨e, rfl, e2, e3⟩
theorem X11_back27 {σ : Mem} {N : Int} (hN : 0 ≤ N ∧ N ≤ 10) (h83 : σ 182 83 = N) : ∃ τ, f_X11_back_27 σ 0 = some (1, τ) ∧ (∀ x, x ≠ 185 → τ x = σ x) ∧ ∀ s, 0 ≤ s → s < 8 → τ 185 s = if 10 + N ≤ σ 185 s then -1 else σ 185 s := by
  unfold f_X11_back_27
  obtain ⟨e, e1, e2, e3⟩ := loop_ex (f := f_X11_back_27B) (fun s => ∃ i : Nat, s.1 = (i : Int) ∧ i ≤ 8 ∧ (∀ x, x ≠ 185 → s.2 x = σ x) ∧ ∀ j, 0 ≤ j → j < 8 → s.2 185 j = if j < (i : Int) ∧ 10 + N ≤ σ 185 j then -1 else σ 185 j) (fun s => (20 - s.1).toNat) (fun e => (∀ x, x ≠ 185 → e x = σ x) ∧ ∀ j, 0 ≤ j → j < 8 → e 185 j = if 10 + N ≤ σ 185 j then -1 else σ 185 j) (a := (0, σ)) ⟨0, rfl, Nat.zero_le _, fun _ _ => rfl, fun j h1 h2 => by rw [if_neg (by omega)]⟩ (Nat.le_of_ble_eq_true rfl) (by
    rintro ⟨_, τ⟩ ⟨i, rfl, hi, k1, k2⟩
    have k1 : ∀ x, x ≠ 185 → τ x = σ x := k1
    have k2 : ∀ j, 0 ≤ j → j < 8 → τ 185 j = if j < (i : Int) ∧ 10 + N ≤ σ 185 j then -1 else σ 185 j := k2
    show (∃ a', f_X11_back_27C (i : Int) τ = _ ∧ _) ∨ ∃ a', f_X11_back_27C (i : Int) τ = _ ∧ _
    unfold f_X11_back_27C
    by_cases hend : (8 : Int) ≤ i
    · right
      rw [if_pos hend]
      refine ⟨_, rfl, k1, fun j h1 h2 => ?_⟩
      rw [k2 j h1 h2]
      by_cases q : 10 + N ≤ σ 185 j
      · rw [if_pos ⟨by omega, q⟩, if_pos q]
      · rw [if_neg (fun z => q z.2), if_neg q]
    · left
      have e0 : τ 185 (i : Int) = σ 185 i := by rw [k2 i (by omega) (by omega), if_neg (by omega)]
      have fin : ∀ z : Int, z = (if 10 + N ≤ σ 185 i then -1 else σ 185 i) → ∃ a', f_X11_back_67 τ (i : Int) z (i : Int) = some (.inl a') ∧ (∃ i : Nat, a'.1 = (i : Int) ∧ i ≤ 8 ∧ (∀ x, x ≠ 185 → a'.2 x = σ x) ∧ ∀ j, 0 ≤ j → j < 8 → a'.2 185 j = if j < (i : Int) ∧ 10 + N ≤ σ 185 j then -1 else σ 185 j) ∧ (20 - a'.1).toNat < (20 - (i : Int)).toNat := fun z hz => by
        unfold f_X11_back_67
        rw [chk_pos (by omega)]
        simp only [Option.bind_some]
        rw [jadd_ok (by omega) (by omega)]
        refine ⟨_, rfl, ⟨i + 1, by show (i : Int) + 1 = _; omega, by omega, fun x hx => by show mup τ 185 i z x = _; rw [mup_row hx, k1 x hx], fun j h1 h2 => ?_⟩, by show (20 - ((i : Int) + 1)).toNat < (20 - (i : Int)).toNat; omega⟩
        show mup τ 185 i z 185 j = _
        by_cases e : j = i
        · rw [mup_hit rfl e, hz, e]
          by_cases q : 10 + N ≤ σ 185 i
          · rw [if_pos q, if_pos ⟨by omega, q⟩]
          · rw [if_neg q, if_neg (fun z => q z.2)]
        · rw [mup_miss (fun z => e z.2), k2 j h1 h2]
          by_cases g : j < (i : Int) ∧ 10 + N ≤ σ 185 j
          · rw [if_pos g, if_pos ⟨by omega, g.2⟩]
          · rw [if_neg g, if_neg (by omega)]
      rw [if_neg hend, chk_pos (by omega), chk_pos (by decide), k1 182 (by decide), h83, jadd_ok (by omega) (by omega), e0, chk_pos (by omega)]
      by_cases q : 10 + N ≤ σ 185 i
      · rw [if_neg (by omega)]
        exact fin _ (by rw [if_pos q])
      · rw [if_pos (by omega)]
        exact fin _ (by rw [if_neg q]))
  rw [e1]
  exact ⟨e, rfl, e2, e3⟩
theorem k_back {n : Nat} {σ : Mem} {B : Bk} (h : INV0 n σ B) (hl : n < 1000) : CALL0 n σ B (f_X10_back σ) (fun ρ => f_X11_back ρ) := by
  have hB := h.1.1
  have hR := h.1.2.1
  have w := h.1.2.2.1
  have hn := w.1
  unfold WFn at hn
  obtain ⟨hd1, hd2⟩ := h.2.2.2.2.2.2.2
  obtain ⟨m1, m2⟩ := h.2.1
  rcases m2 with m2 | ⟨m2, I, wI, hI, rI⟩
  · refine same.call h (same.no (x := -55) (by omega) (by decide) ?_ CFr.rfl h.1.2.2.2 ?_ RFr.rfl)
    · unfold f_X10_back
      rw [if_neg (by omega)]
      exact c_no (by decide)
    · show f_X11_back _ = _
      unfold f_X11_back
      rw [refd_row (by decide), if_neg (by omega)]
      exact r_no (by decide)
  · have hnI := wI.1
    unfold WFn at hnI
    obtain ⟨σ1, b1, b2, b3⟩ := X0_become (σ := σ) (b0 := 1) hI (by decide)
    have hs0 : ∀ s, 0 ≤ s → s < 8 → -1 ≤ σ 31 s ∧ σ 31 s ≤ 100 := fun s s1 s2 => by
      have := h.2.2.1 s s1 s2
      omega
    obtain ⟨σ2, c1, c2, c3⟩ := X6_drop (σ := σ1) hnI.2.1.1 (fun s s1 s2 => by rw [b3 31 (by decide)]; exact hs0 s s1 s2)
    have e43 : σ2 43 3 = σ 43 3 := by rw [c2 43 (by decide), b3 43 (by decide)]
    obtain ⟨ρ, f1, f2, f3, f4⟩ := X9_forgetAll (σ := σ2) (by rw [e43]; omega)
    have g1 : ∀ x i, ¬ (1 ≤ x ∧ x ≤ 9) → x ≠ 31 → (x = 43 → i ≠ 3) → x ≠ 53 → ρ x i = σ x i := fun x i x1 x2 x3 x4 => by rw [f2 x i x3 x4, c2 x x2, b3 x (by omega)]
    obtain ⟨τ1, t1, t2, t3⟩ := X11_move (σ := ρ) (a := 183) (b := 182) (by decide)
    have rI1 : isRk τ1 182 I := (rI.pt (τ := ρ) fun i => g1 183 i (by omega) (by omega) (by omega) (by omega)).mv t3
    obtain ⟨τ, u1, u2, u3⟩ := X11_back27 (σ := τ1) hnI.2.1 rI1.nC
    refine call_gen (ρ := ρ) (τ := τ) (v := 1) h wI ?_ ?_ (fun x i x1 x2 x3 x4 x5 x6 x7 x8 x9 x10 x11 => by rw [u2 x x10, t2 x x8, g1 x i (by omega) x3 x5 x6]) ?_ (rI1.row (u2 182 (by decide))) (fun c c1 c2 q3 => absurd (by rw [u2 53 (by decide), t2 53 (by decide)]; exact f4 c c1 (by omega)) q3) (Or.inl (by rw [u2 43 (by decide), t2 43 (by decide), f3, e43])) (fun s s1 s2 => ?_) (h.2.2.2.2.1.pt (by rw [u2 181 (by decide), t2 181 (by decide), g1 _ _ (by omega) (by omega) (by omega) (by omega)]) (by rw [u2 28 (by decide), t2 28 (by decide), g1 _ _ (by omega) (by omega) (by omega) (by omega)]) (fun i => by rw [u2 29 (by decide), t2 29 (by decide), g1 _ _ (by omega) (by omega) (by omega) (by omega)]) (fun i => by rw [u2 189 (by decide), t2 189 (by decide), g1 _ _ (by omega) (by omega) (by omega) (by omega)])) (h.2.2.2.2.2.1.pt (fun i => by rw [u2 34 (by decide), t2 34 (by decide), g1 _ _ (by omega) (by omega) (by omega) (by omega)]) (fun i => by rw [u2 184 (by decide), t2 184 (by decide), g1 _ _ (by omega) (by omega) (by omega) (by omega)]))
    · unfold f_X10_back
      rw [if_pos (by omega), bind_some' b1, b2.nC, bind_some' c1, bind_some' f1]
    · show f_X11_back ρ = _
      unfold f_X11_back
      rw [g1 181 2 (by omega) (by omega) (by omega) (by omega), if_pos (by omega), bind_some' t1, u1]
    · exact b2.pt fun x i x1 x2 => by rw [u2 x (by omega), t2 x (by omega), f2 x i (by omega) (by omega), c2 x (by omega)]
    · have hs := h.2.2.1 s s1 s2
      rw [u3 s s1 s2, t2 185 (by decide), g1 185 s (by omega) (by omega) (by omega) (by omega), u2 31 (by decide), t2 31 (by decide), f2 31 s (by omega) (by omega), c3 s s1 s2, b3 31 (by decide), u2 32 (by decide), t2 32 (by decide), g1 32 s (by omega) (by omega) (by omega) (by omega), u2 186 (by decide), t2 186 (by decide), g1 186 s (by omega) (by omega) (by omega) (by omega), hs.1]
      by_cases q : 10 + I 8 1 ≤ σ 31 s
      · rw [if_pos q]; omega
      · rw [if_neg q]; omega
theorem jushr16 (a : Int) : 0 ≤ jushr a 16 ∧ jushr a 16 ≤ 65535 := by
  unfold jushr
  obtain ⟨u, hu⟩ : ∃ u : UInt32, u = (Int32.ofInt a).toUInt32 := ⟨_, rfl⟩
  rw [← hu, show (Int32.ofInt 16).toUInt32 &&& Int32.toUInt32 31 = UInt32.ofNat 16 from by decide +kernel]
  have e : (u >>> UInt32.ofNat 16).toBitVec.toNat = u.toNat / 65536 := by
    show (u >>> UInt32.ofNat 16).toNat = _
    rw [UInt32.toNat_shiftRight, show (UInt32.ofNat 16).toNat % 32 = 16 from by decide +kernel, Nat.shiftRight_eq_div_pow]
  have hu2 : u.toNat < 4294967296 := u.toBitVec.isLt
  have e2 : (u >>> UInt32.ofNat 16).toInt32.toInt = ((u.toNat / 65536 : Nat) : Int) := by
    show (u >>> UInt32.ofNat 16).toBitVec.toInt = _
    rw [BitVec.toInt_eq_toNat_of_lt (by rw [e]; omega), e]
  rw [e2]
  omega
/-- draws -/
def sdB (B : Bk) : Bk := mup B 8 5 (jadd (jmul (B 8 5) 1103515245) 12345)
def dv (B : Bk) (n : Int) : Int := jrem (jushr (sdB B 8 5) 16) n
theorem sd_r {B : Bk} {x : Int} (h : x ≠ 8) : sdB B x = B x := mup_row h
theorem sd_8 {B : Bk} {i : Int} (h : i ≠ 5) : sdB B 8 i = B 8 i := mup_miss (fun z => h z.2)
theorem sd_5 {B : Bk} : sdB B 8 5 = jadd (jmul (B 8 5) 1103515245) 12345 := mup_hit rfl rfl
theorem WF_sd {B : Bk} (w : WF B) : WF (sdB B) := by
  have hn := w.1
  unfold WFn at hn
  obtain ⟨w1, w2, w3, w4⟩ := w
  refine ⟨?_, w2.of (sd_r (by decide)) (sd_r (by decide)) (sd_r (by decide)) (sd_8 (by decide)), w3.of (sd_r (by decide)) (sd_r (by decide)) (sd_r (by decide)) (sd_r (by decide)) (sd_r (by decide)) (sd_8 (by decide)) (sd_8 (by decide)), w4.of (sd_r (by decide)) (sd_8 (by decide))⟩
  unfold WFn
  rw [sd_8 (by decide), sd_8 (by decide), sd_8 (by decide), sd_8 (by decide), sd_8 (by decide), sd_5]
  exact ⟨hn.1, hn.2.1, hn.2.2.1, hn.2.2.2.1, hn.2.2.2.2.1, ti32 _⟩
theorem dv_b {B : Bk} {n : Int} (h : 0 < n ∧ n ≤ 12) : 0 ≤ dv B n ∧ dv B n < n := by
  unfold dv
  have := jushr16 (sdB B 8 5)
  rw [jrem_ok this.1 (by omega) h.1 (by omega)]
  exact ⟨Int.emod_nonneg _ (by omega), Int.emod_lt_of_pos _ h.1⟩
theorem X0_draw {σ : Mem} {B : Bk} (hB : isBk σ 1 B) {n : Int} (hn : 0 < n) : ∃ τ, f_X0_draw σ 1 n = some (dv B n, τ) ∧ isBk τ 1 (sdB B) ∧ ∀ x, x ≠ 1 → τ x = σ x := by
  have k := hB.putn (i := 5) (v := jadd (jmul (B 8 5) 1103515245) 12345)
  refine ⟨_, ?_, k, fun x hx => mup_row hx⟩
  unfold f_X0_draw
  simp only [Option.bind_some]
  rw [if_neg (by omega), chk_pos (by omega), hB.seed, show (8 : Int) + 5 = 13 from rfl, mup_hit rfl rfl]
  unfold dv
  rw [sd_5]
theorem X11_draw {σ : Mem} {B : Bk} (hR : isRk σ 182 B) {n : Int} (hn : 0 < n) : ∃ τ, f_X11_draw σ n = some (dv B n, τ) ∧ isRk τ 182 (sdB B) ∧ ∀ x, x ≠ 182 → τ x = σ x := by
  have k := hR.putn (i := 5) (v := jadd (jmul (B 8 5) 1103515245) 12345) (by decide)
  refine ⟨_, ?_, k, fun x hx => mup_row hx⟩
  unfold f_X11_draw
  rw [chk_pos (by decide), chk_pos (by decide), hR.seed]
  simp only [Option.bind_some]
  rw [chk_pos (by decide), chk_pos (by omega), show (82 : Int) + 5 = 87 from rfl, mup_hit rfl rfl]
  unfold dv
  rw [sd_5]
def chgS (s : Bk × Int) : Bk × Int := if fifth (sdB (sdB s.1)) (dv s.1 (s.1 8 1)) (dv (sdB s.1) (s.1 8 0)).toNat then (sdB (sdB s.1), s.2) else (flp (sdB (sdB s.1)) (dv s.1 (s.1 8 1)) (dv (sdB s.1) (s.1 8 0)).toNat, s.2 + 1)
def chN (B : Bk) : Nat → Bk × Int
  | 0 => (B, 0)
  | n + 1 => chgS (chN B n)
def hid (p : Prop) : Prop := p
theorem ch_draw {D : Bk} (h1 : 0 < D 8 1 ∧ D 8 1 ≤ 10) (h0 : 0 < D 8 0 ∧ D 8 0 ≤ 12) : ∃ (c : Int) (p : Nat), hid (dv D (D 8 1) = c) ∧ hid (dv (sdB D) (D 8 0) = (p : Int)) ∧ 0 ≤ c ∧ c < D 8 1 ∧ (p : Int) < D 8 0 := by
  have c1 := dv_b (B := D) (n := D 8 1) ⟨h1.1, Int.le_trans h1.2 (by decide)⟩
  have c2 := dv_b (B := sdB D) (n := D 8 0) h0
  obtain ⟨p, hp⟩ := n_of c2.1
  refine ⟨_, p, rfl, hp, c1.1, c1.2, ?_⟩
  rw [← hp]
  exact c2.2
theorem chg_eq {s : Bk × Int} {D : Bk} (hD : D = s.1) {c : Int} {p : Nat} (hc : hid (dv D (D 8 1) = c)) (hp : hid (dv (sdB D) (D 8 0) = (p : Int))) : chgS s = if fifth (sdB (sdB D)) c p then (sdB (sdB D), s.2) else (flp (sdB (sdB D)) c p, s.2 + 1) := by
  unfold hid at hc hp
  unfold chgS
  rw [← hD, hc, hp, Int.toNat_natCast]
theorem ch_ok {B : Bk} (w : WF B) (hc : 0 < B 8 1) (hp : 0 < B 8 0) : ∀ n : Nat, WF (chN B n).1 ∧ (chN B n).1 8 1 = B 8 1 ∧ (chN B n).1 8 0 = B 8 0 ∧ 0 ≤ (chN B n).2 ∧ (chN B n).2 ≤ n := by
  intro n
  induction n with
  | zero => exact ⟨w, rfl, rfl, Int.le_refl _, Int.le_refl _⟩
  | succ n ih =>
    obtain ⟨h1, h2, h3, h4, h5⟩ := ih
    have es : chN B (n + 1) = chgS (chN B n) := rfl
    obtain ⟨D, hD⟩ : ∃ D, D = (chN B n).1 := ⟨_, rfl⟩
    obtain ⟨dn, hdn⟩ : ∃ dn, dn = (chN B n).2 := ⟨_, rfl⟩
    have hn := w.1
    unfold WFn at hn
    rw [← hD] at h1 h2 h3
    rw [← hdn] at h4 h5
    obtain ⟨c, p, ec, ep, c1, c2, c3⟩ := ch_draw (D := D) (by omega) (by omega)
    have w2 := WF_sd (WF_sd h1)
    have e81 : sdB (sdB D) 8 1 = B 8 1 := by rw [sd_8 (by decide), sd_8 (by decide), h2]
    have e80 : sdB (sdB D) 8 0 = B 8 0 := by rw [sd_8 (by decide), sd_8 (by decide), h3]
    rw [chg_eq hD ec ep, ← hdn] at es
    rw [es]
    rw [h2] at c2
    rw [h3] at c3
    cases hf : fifth (sdB (sdB D)) c p with
    | true =>
      rw [bt]
      exact ⟨w2, e81, e80, h4, by show dn ≤ _; clear e81 e80 es; omega⟩
    | false =>
      rw [bf]
      refine ⟨WF_flp w2 c1 (by rw [e81]; exact c2) (by rw [e80]; exact c3) hf, ?_, ?_, ?_, ?_⟩
      · show flp (sdB (sdB D)) c p 8 1 = _
        rw [flp_r (by decide), e81]
      · show flp (sdB (sdB D)) c p 8 0 = _
        rw [flp_r (by decide), e80]
      · show 0 ≤ dn + 1
        clear e81 e80 es
        omega
      · show dn + 1 ≤ _
        clear e81 e80 es
        omega
theorem X10_changes49 {σ : Mem} {B : Bk} (hB : isBk σ 1 B) (w : WF B) (hc : 0 < B 8 1) (hp : 0 < B 8 0) {m : Nat} (hm : m ≤ 60) : ∃ τ, f_X10_changes_49 σ m 0 0 = f_X10_changes_145 τ (chN B m).2 ∧ isBk τ 1 (chN B m).1 ∧ ∀ x, ¬ (1 ≤ x ∧ x ≤ 9) → τ x = σ x := by
  unfold f_X10_changes_49
  obtain ⟨e, e1, e2, e3, e4⟩ := loop_ex (f := f_X10_changes_49B m) (fun s => ∃ i : Nat, s.2.1 = (i : Int) ∧ i ≤ m ∧ s.1 = (chN B i).2 ∧ isBk s.2.2 1 (chN B i).1 ∧ ∀ x, ¬ (1 ≤ x ∧ x ≤ 9) → s.2.2 x = σ x) (fun s => (100 - s.2.1).toNat) (fun e => e.1 = (chN B m).2 ∧ isBk e.2 1 (chN B m).1 ∧ ∀ x, ¬ (1 ≤ x ∧ x ≤ 9) → e.2 x = σ x) (a := (0, 0, σ)) ⟨0, rfl, Nat.zero_le _, rfl, hB, fun _ _ => rfl⟩ (Nat.le_of_ble_eq_true rfl) (by
    rintro ⟨x2, _, τ⟩ ⟨i, rfl, hi, k1, k2, k3⟩
    have k1 : x2 = (chN B i).2 := k1
    have k2 : isBk τ 1 (chN B i).1 := k2
    have k3 : ∀ x, ¬ (1 ≤ x ∧ x ≤ 9) → τ x = σ x := k3
    obtain ⟨q1, q2, q3, q4, q5⟩ := ch_ok w hc hp i
    have es : chN B (i + 1) = chgS (chN B i) := rfl
    obtain ⟨D, hD⟩ : ∃ D, D = (chN B i).1 := ⟨_, rfl⟩
    obtain ⟨dn, hdn⟩ : ∃ dn, dn = (chN B i).2 := ⟨_, rfl⟩
    rw [← hD] at k2 q1 q2 q3
    rw [← hdn] at k1 q4 q5
    have hdn' : hid (dn = (chN B i).2) := hdn
    clear hdn
    have hn := q1.1
    unfold WFn at hn
    show (∃ a', f_X10_changes_49C m x2 (i : Int) τ = _ ∧ _) ∨ ∃ a', f_X10_changes_49C m x2 (i : Int) τ = _ ∧ _
    unfold f_X10_changes_49C
    by_cases hend : (m : Int) ≤ i
    · right
      rw [if_pos hend]
      have : i = m := by omega
      subst this
      exact ⟨_, rfl, k1.trans hdn', by rw [← hD]; exact k2, k3⟩
    · left
      have w1 := WF_sd q1
      have w2 := WF_sd w1
      have e81 : sdB (sdB D) 8 1 = D 8 1 := by rw [sd_8 (by decide), sd_8 (by decide)]
      have e80 : sdB (sdB D) 8 0 = D 8 0 := by rw [sd_8 (by decide), sd_8 (by decide)]
      obtain ⟨c, p, ec, ep, c1, c2, c3⟩ := ch_draw (D := D) (by omega) (by omega)
      rw [chg_eq hD ec ep, ← (show dn = (chN B i).2 from hdn')] at es
      obtain ⟨τ1, a1, a2, a3⟩ := X0_draw k2 (n := D 8 1) (by omega)
      obtain ⟨τ2, b1, b2, b3⟩ := X0_draw a2 (n := D 8 0) (by omega)
      have k4 : ∀ x, ¬ (1 ≤ x ∧ x ≤ 9) → τ2 x = σ x := fun x hx => by rw [b3 x (by omega), a3 x (by omega), k3 x hx]
      rw [if_neg hend, k2.nC, bind_some' a1]
      simp only [Option.bind_some]
      rw [a2.nP, sd_8 (show (0 : Int) ≠ 5 by decide), bind_some' b1]
      simp only [Option.bind_some]
      rw [show dv D (D 8 1) = c from ec, show dv (sdB D) (D 8 0) = (p : Int) from ep, bind_some' (X0_hasCand b2 _), if0, if_pos ⟨c1, by rw [e81]; exact c2⟩, bind_some' (X0_hasPaper b2 _), if0, if_pos ⟨by omega, by rw [e80]; exact c3⟩, bind_some' (X0_mayFlip b2 w2 c1 (by rw [e81]; exact c2) (by rw [e80]; exact c3))]
      have fin : ∀ (ρ : Mem) (z : Int), z = (chN B (i + 1)).2 → isBk ρ 1 (chN B (i + 1)).1 → (∀ x, ¬ (1 ≤ x ∧ x ≤ 9) → ρ x = σ x) → ∃ a', f_X10_changes_139 ρ m z (i : Int) = some (.inl a') ∧ (∃ i : Nat, a'.2.1 = (i : Int) ∧ i ≤ m ∧ a'.1 = (chN B i).2 ∧ isBk a'.2.2 1 (chN B i).1 ∧ ∀ x, ¬ (1 ≤ x ∧ x ≤ 9) → a'.2.2 x = σ x) ∧ (100 - a'.2.1).toNat < (100 - (i : Int)).toNat := fun ρ z z1 z2 z3 => by
        unfold f_X10_changes_139
        simp only [Option.bind_some]
        rw [jadd_ok (by omega) (by omega)]
        exact ⟨_, rfl, ⟨i + 1, by show (i : Int) + 1 = _; omega, by omega, z1, z2, z3⟩, by show (100 - ((i : Int) + 1)).toNat < (100 - (i : Int)).toNat; omega⟩
      cases hf : fifth (sdB (sdB D)) c p with
      | true =>
        rw [hf, bt] at es
        rw [if_pos rfl, if_pos rfl]
        exact fin τ2 x2 (by rw [es]; exact k1) (by rw [es]; exact b2) k4
      | false =>
        rw [hf, bf] at es
        have f0 := X0_flip b2 w2 c1 (by rw [e81]; exact c2) (p := p) (by omega)
        rw [show (1 : Int) + 7 = 8 from rfl] at f0
        rw [if_neg (by decide), bind_some' f0, jadd_ok (by omega) (by omega)]
        refine fin _ _ (by rw [es, k1]) (by rw [es]; exact b2.put (t := 6) (by decide) (by decide)) (fun x hx => by rw [mup_row (by omega), k4 x hx]))
  rw [e1]
  exact ⟨e.2, by rw [bsm, e2], e3, e4⟩
theorem X11_changes50 {σ : Mem} {B : Bk} (hR : isRk σ 182 B) (w : WF B) (hc : 0 < B 8 1) (hp : 0 < B 8 0) {m : Nat} (hm : m ≤ 60) : ∃ τ, f_X11_changes_50 σ m 0 0 = some ((chN B m).2, τ) ∧ isRk τ 182 (chN B m).1 ∧ ∀ x, x ≠ 182 → τ x = σ x := by
  unfold f_X11_changes_50
  obtain ⟨e, e1, e2, e3, e4⟩ := loop_ex (f := f_X11_changes_50B m) (fun s => ∃ i : Nat, s.2.1 = (i : Int) ∧ i ≤ m ∧ s.1 = (chN B i).2 ∧ isRk s.2.2 182 (chN B i).1 ∧ ∀ x, x ≠ 182 → s.2.2 x = σ x) (fun s => (100 - s.2.1).toNat) (fun e => e.1 = (chN B m).2 ∧ isRk e.2 182 (chN B m).1 ∧ ∀ x, x ≠ 182 → e.2 x = σ x) (a := (0, 0, σ)) ⟨0, rfl, Nat.zero_le _, rfl, hR, fun _ _ => rfl⟩ (Nat.le_of_ble_eq_true rfl) (by
    rintro ⟨x2, _, τ⟩ ⟨i, rfl, hi, k1, k2, k3⟩
    have k1 : x2 = (chN B i).2 := k1
    have k2 : isRk τ 182 (chN B i).1 := k2
    have k3 : ∀ x, x ≠ 182 → τ x = σ x := k3
    obtain ⟨q1, q2, q3, q4, q5⟩ := ch_ok w hc hp i
    have es : chN B (i + 1) = chgS (chN B i) := rfl
    obtain ⟨D, hD⟩ : ∃ D, D = (chN B i).1 := ⟨_, rfl⟩
    obtain ⟨dn, hdn⟩ : ∃ dn, dn = (chN B i).2 := ⟨_, rfl⟩
    rw [← hD] at k2 q1 q2 q3
    rw [← hdn] at k1 q4 q5
    have hdn' : hid (dn = (chN B i).2) := hdn
    clear hdn
    have hn := q1.1
    unfold WFn at hn
    show (∃ a', f_X11_changes_50C m x2 (i : Int) τ = _ ∧ _) ∨ ∃ a', f_X11_changes_50C m x2 (i : Int) τ = _ ∧ _
    unfold f_X11_changes_50C
    by_cases hend : (m : Int) ≤ i
    · right
      rw [if_pos hend]
      have : i = m := by omega
      subst this
      exact ⟨_, rfl, k1.trans hdn', by rw [← hD]; exact k2, k3⟩
    · left
      have w1 := WF_sd q1
      have w2 := WF_sd w1
      have e81 : sdB (sdB D) 8 1 = D 8 1 := by rw [sd_8 (by decide), sd_8 (by decide)]
      have e80 : sdB (sdB D) 8 0 = D 8 0 := by rw [sd_8 (by decide), sd_8 (by decide)]
      obtain ⟨c, p, ec, ep, c1, c2, c3⟩ := ch_draw (D := D) (by omega) (by omega)
      rw [chg_eq hD ec ep, ← (show dn = (chN B i).2 from hdn')] at es
      obtain ⟨τ1, a1, a2, a3⟩ := X11_draw k2 (n := D 8 1) (by omega)
      obtain ⟨τ2, b1, b2, b3⟩ := X11_draw a2 (n := D 8 0) (by omega)
      have k4 : ∀ x, x ≠ 182 → τ2 x = σ x := fun x hx => by rw [b3 x hx, a3 x hx, k3 x hx]
      rw [if_neg hend, chk_pos (by decide), k2.nC, bind_some' a1]
      simp only [Option.bind_some]
      rw [chk_pos (by decide), a2.nP, sd_8 (show (0 : Int) ≠ 5 by decide), bind_some' b1]
      simp only [Option.bind_some]
      rw [show dv D (D 8 1) = c from ec, show dv (sdB D) (D 8 0) = (p : Int) from ep, bind_some' (X11_isFifth b2 w2 c1 (by rw [e81]; exact c2) (by rw [e80]; exact c3))]
      have fin : ∀ (ρ : Mem) (z : Int), z = (chN B (i + 1)).2 → isRk ρ 182 (chN B (i + 1)).1 → (∀ x, x ≠ 182 → ρ x = σ x) → ∃ a', f_X11_changes_103 ρ m z (i : Int) = some (.inl a') ∧ (∃ i : Nat, a'.2.1 = (i : Int) ∧ i ≤ m ∧ a'.1 = (chN B i).2 ∧ isRk a'.2.2 182 (chN B i).1 ∧ ∀ x, x ≠ 182 → a'.2.2 x = σ x) ∧ (100 - a'.2.1).toNat < (100 - (i : Int)).toNat := fun ρ z z1 z2 z3 => by
        unfold f_X11_changes_103
        simp only [Option.bind_some]
        rw [jadd_ok (by omega) (by omega)]
        exact ⟨_, rfl, ⟨i + 1, by show (i : Int) + 1 = _; omega, by omega, z1, z2, z3⟩, by show (100 - ((i : Int) + 1)).toNat < (100 - (i : Int)).toNat; omega⟩
      cases hf : fifth (sdB (sdB D)) c p with
      | true =>
        rw [hf, bt] at es
        rw [if_pos rfl, if_pos (by decide)]
        exact fin τ2 x2 (by rw [es]; exact k1) (by rw [es]; exact b2) k4
      | false =>
        rw [hf, bf] at es
        rw [if_neg (by decide), bind_some' (X11_toggles b2 w2 c1 (by rw [e81]; exact c2) (by omega)), jadd_ok (by omega) (by omega)]
        exact fin _ _ (by rw [es, k1]) (by rw [es]; exact b2.put4 (t := 3) (by decide) (by omega)) (fun x hx => by rw [mup_row hx, k4 x hx]))
  rw [e1]
  exact ⟨e.2, by show some (e.1, e.2) = _; rw [e2], e3, e4⟩
/-- changes -/
theorem k_changes {n : Nat} {σ : Mem} {B : Bk} (h : INV0 n σ B) (hl : n < 1000) (m : Int) : CALL0 n σ B (f_X10_changes σ m) (fun ρ => f_X11_changes ρ m) := by
  have hst := h.1
  obtain ⟨hB, hR, w, hW⟩ := h.1
  have hn := w.1
  unfold WFn at hn
  have hR' : isRk (refd σ (-52)) 182 B := isRk_refd hR
  by_cases h1 : 1 ≤ m ∧ m ≤ 60
  rotate_left
  · refine same.call h (same.no (x := -52) (by omega) (by decide) ?_ CFr.rfl hW ?_ RFr.rfl)
    · unfold f_X10_changes
      by_cases hz : m < 1
      · rw [if_pos hz]
        exact c_no (by decide)
      · rw [if_neg hz, if_neg (show ¬ m ≤ 60 by omega)]
        exact c_no (by decide)
    · show f_X11_changes _ m = _
      unfold f_X11_changes
      rw [bind_some' (X11_isIn m 1 60), if1, if_neg h1]
      exact r_no (by decide)
  obtain ⟨hd1, hd2⟩ := h.2.2.2.2.2.2.2
  by_cases hz : B 8 1 = 0 ∨ B 8 0 = 0
  · refine same.call h (same.no (x := -55) (by omega) (by decide) ?_ CFr.rfl hW ?_ RFr.rfl)
    · unfold f_X10_changes
      rw [if_neg (by omega), if_pos (by omega)]
      rw [hB.nC, hB.nP]
      by_cases q : B 8 1 = 0
      · rw [if_pos q]
        exact c_no (by decide)
      · rw [if_neg q, if_neg (by omega)]
        exact c_no (by decide)
    · have hR2 : isRk (refd σ (-55)) 182 B := isRk_refd hR
      show f_X11_changes _ _ = _
      unfold f_X11_changes
      rw [bind_some' (X11_isIn _ 1 60), if1, if_pos h1]
      rw [chk_pos (by decide), hR2.nC, chk_pos (by decide), hR2.nP]
      by_cases q : B 8 1 = 0
      · rw [if_pos q]
        exact r_no (by decide)
      · rw [if_neg q, if_neg (by omega)]
        exact r_no (by decide)
  obtain ⟨M, rfl⟩ := n_of (show 0 ≤ m by omega)
  obtain ⟨ρ1, a1, a2, a3⟩ := X10_changes49 hB w (by omega) (by omega) (m := M) (by omega)
  obtain ⟨q1, q2, q3, q4, q5⟩ := ch_ok w (by omega) (by omega) M
  obtain ⟨ρ, f1, f2, f3, f4⟩ := X9_forgetAll (σ := ρ1) (by rw [a3 43 (by decide)]; omega)
  have hRr : isRk ρ 182 B := hR.pt fun i => by rw [f2 182 i (by omega) (by omega), a3 182 (by decide)]
  obtain ⟨τ, t1, t2, t3⟩ := X11_changes50 hRr w (by omega) (by omega) (m := M) (by omega)
  refine call_edit (ρ := ρ) (τ := τ) (v := (chN B M).2) h q1 ?_ ?_ (fun x i x1 x2 x3 x4 x5 => by rw [t3 x x4, f2 x i x2 x3, a3 x (by omega)]) ?_ t2 (by rw [q2]; exact Int.le_refl _) (fun c c1 c2 c3 => absurd (by rw [t3 53 (by decide)]; exact f4 c c1 (by rw [q2] at c2; omega)) c3) (Or.inl (by rw [t3 43 (by decide), f3, a3 43 (by decide)]))
  · unfold f_X10_changes
    rw [if_neg (by omega), if_pos (by omega)]
    rw [hB.nC, hB.nP, if_neg (by omega), if_pos (by omega), a1]
    unfold f_X10_changes_145
    rw [bind_some' f1]
  · show f_X11_changes _ _ = _
    unfold f_X11_changes
    rw [bind_some' (X11_isIn _ 1 60), if1, if_pos h1]
    rw [chk_pos (by decide), hRr.nC, if_neg (by omega), chk_pos (by decide), hRr.nP, if_pos (by omega), t1]
  · exact a2.pt fun x i x1 x2 => by rw [t3 x (by omega), f2 x i (by omega) (by omega)]
