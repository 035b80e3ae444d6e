/-! TEXTS: the reference reads a book; both sides -/
theorem X11_end {σ : Mem} {x1 x2 : Int} {M : Nat} (h : x2 = 0 ∨ 0 ≤ σ 181 13) : loop f_X11_book_25B (M + 1) (x1, x2, σ) = some (x1, σ) := by
  refine loop_end ?_
  show f_X11_book_25C x1 x2 σ = _
  unfold f_X11_book_25C
  by_cases c : x2 = 0
  · rw [if_pos c]
  · rw [if_neg c, if_pos (h.resolve_left c)]
theorem X11_b104 (ζ : Mem) (x1 x2 : Int) : f_X11_book_104 ζ x1 x2 = some (.inl (x1, x2, mup ζ 181 10 (jadd (ζ 181 10) 1))) := rfl
theorem X11_bk {f : Int → Int} {S : Nat} : ∀ (n : Nat) (B : Bk) (a k : Nat) (σ : Mem), WF B → txR σ f S B a → S < a + n → k ≤ a → ∀ N, n + 1 ≤ N → ∃ (r : Int) (τ : Mem), loop f_X11_book_25B N ((k : Int), 1, σ) = some (r, τ) ∧ (∀ x, x ≠ 181 → x ≠ 182 → τ x = σ x) ∧ (∀ i, i ≠ 10 → i ≠ 11 → i ≠ 12 → i ≠ 13 → τ 181 i = σ 181 i) ∧ match rdS f S n B a k with
    | .inl q => τ 181 13 = (q : Int)
    | .inr z => τ 181 13 = -1 ∧ r = (z.2 : Int) ∧ isRk τ 182 z.1
  | 0, B, a, k, σ, w, h, hn, hk, N, hN => by
    have := h.2.2.2.1
    omega
  | n + 1, B, a, k, σ, w, h, hn, hk, N, hN => by
    obtain ⟨M, rfl⟩ : ∃ M, N = M + 2 := ⟨N - 2, by omega⟩
    obtain ⟨τ, s1, s2, s3, s4⟩ := X11_statement w h
    have haS := h.2.2.2.1
    have hok := okO_S (f := f) w haS
    have hT := h.1
    have hS := hT.1
    have h13 := h.2.2.2.2
    have hTt : TR τ f S := hT.keep (s3 9 (by decide) (by decide) (by decide) (by decide)) (s2 189 (by decide) (by decide)) (s2 190 (by decide) (by decide))
    have h0 : f_X11_book_25B ((k : Int), 1, σ) = if 0 ≤ (τ 181 13) then (some (.inl ((k : Int) + 1, 1, τ))) else ((f_X11_blanks τ).bind fun σ8 => (if (σ8 181 9) ≤ (σ8 181 10) then (f_X11_book_83 σ8 ((k : Int) + 1)) else (chk (0 ≤ (σ8 181 10) ∧ (σ8 181 10) < ((250 : Nat) : Int)) (if (σ8 189 (σ8 181 10)) ≠ 59 then (f_X11_book_83 σ8 ((k : Int) + 1)) else (f_X11_book_84 σ8 ((k : Int) + 1) 1))))) := by
      show f_X11_book_25C k 1 σ = _
      unfold f_X11_book_25C
      rw [if_neg (show ¬ (1 : Int) = 0 by decide), if_neg (by omega), bind_some' s1, bsm, jadd_ok (a := (k : Int)) (b := 1) (by omega) (by omega)]
    unfold rdS
    cases hs : stS f S B a with
    | inl q =>
      rw [hs] at s4
      have s4 : τ 181 13 = (q : Int) := s4
      rw [if_pos (by omega)] at h0
      refine ⟨(k : Int) + 1, τ, ?_, s2, s3, s4⟩
      rw [loop_step h0]
      exact X11_end (Or.inr (by omega))
    | inr y =>
      rw [hs] at s4 hok
      obtain ⟨o1, o2, o3, o4⟩ := hok
      obtain ⟨t1, t2, t3⟩ := s4
      obtain ⟨ρ, b1, b2, b3, b4, b5⟩ := X11_blanks hTt o3 t2
      have hb := go_ok (txB f S) S _ y.2 rfl o3
      have hb2 : nb f S y.2 ≤ S := hb.2.1
      have hb1 : y.2 ≤ nb f S y.2 := hb.1
      have hTr : TR ρ f S := hTt.keep (b3 9 (by decide) (by decide)) (b2 189 (by decide)) (b2 190 (by decide))
      have r9 : ρ 181 9 = (S : Int) := hTr.2.2.1
      have r13 : ρ 181 13 = -1 := by rw [b3 13 (by decide) (by decide)]; exact t1
      have hRr : isRk ρ 182 y.1 := t3.row (b2 182 (by decide))
      have f1 : ∀ x, x ≠ 181 → x ≠ 182 → ρ x = σ x := fun x x1 x2 => by rw [b2 x x1, s2 x x1 x2]
      have f2 : ∀ i, i ≠ 10 → i ≠ 11 → i ≠ 12 → i ≠ 13 → ρ 181 i = σ 181 i := fun i i1 i2 i3 i4 => by rw [b3 i i1 i2, s3 i i1 i2 i3 i4]
      rw [if_neg (show ¬ 0 ≤ τ 181 13 by omega), bind_some' b1, r9, b4] at h0
      obtain ⟨ρ', hρ'⟩ : ∃ ρ', ρ' = mup ρ 181 10 ((nb f S y.2 : Int) + 1) := ⟨_, rfl⟩
      have g1 : ∀ x, x ≠ 181 → ρ' x = ρ x := fun x hx => by rw [hρ', mup_row hx]
      have g2 : ∀ i, i ≠ 10 → ρ' 181 i = ρ 181 i := fun i hi => by rw [hρ', mup_miss (fun z => hi z.2)]
      have h1 : ∀ x1 x2 : Int, f_X11_book_104 ρ x1 x2 = some (.inl (x1, x2, ρ')) := fun x1 x2 => by
        rw [X11_b104, b4, jadd_ok (by omega) (by omega), hρ']
      show ∃ (r : Int) (τ : Mem), _ ∧ _ ∧ _ ∧ match (if S ≤ nb f S y.2 then (.inr (y.1, k + 1) : St) else if byt f S (nb f S y.2) = 59 then rdS f S n y.1 (nb f S y.2 + 1) (k + 1) else .inl (nb f S y.2)) with | .inl q => τ 181 13 = (q : Int) | .inr z => τ 181 13 = -1 ∧ r = (z.2 : Int) ∧ isRk τ 182 z.1
      by_cases c1 : S ≤ nb f S y.2
      · rw [if_pos c1]
        rw [if_pos (by omega)] at h0
        have e : f_X11_book_83 ρ ((k : Int) + 1) = some (.inl ((k : Int) + 1, 0, ρ')) := by
          unfold f_X11_book_83 f_X11_book_84
          rw [if_neg (show ¬ (0 : Int) ≠ 0 by decide), r9, b4, if_pos (by omega), h1]
        refine ⟨(k : Int) + 1, ρ', ?_, fun x x1 x2 => by rw [g1 x x1, f1 x x1 x2], fun i i1 i2 i3 i4 => by rw [g2 i i1, f2 i i1 i2 i3 i4], by rw [g2 13 (by decide), r13], by show (k : Int) + 1 = ((k + 1 : Nat) : Int); omega, hRr.row (g1 182 (by decide))⟩
        rw [loop_step (h0.trans e)]
        exact X11_end (Or.inl rfl)
      · rw [if_neg c1]
        rw [if_neg (by omega), chk_pos (by omega), hTr.2.2.2.1 _ (by omega) (by omega)] at h0
        have hbf : byt f S (nb f S y.2) = f (nb f S y.2) := byt_in (by omega)
        by_cases c2 : byt f S (nb f S y.2) = 59
        · rw [if_pos c2]
          rw [if_neg (fun z => z (by rw [← hbf]; exact c2))] at h0
          have e : f_X11_book_84 ρ ((k : Int) + 1) 1 = some (.inl ((k : Int) + 1, 1, ρ')) := by
            unfold f_X11_book_84
            rw [if_pos (show (1 : Int) ≠ 0 by decide), h1]
          obtain ⟨r, τ', z1, z2, z3, z4⟩ := X11_bk n y.1 (nb f S y.2 + 1) (k + 1) ρ' o1 ⟨hTr.keep (g2 9 (by decide)) (g1 189 (by decide)) (g1 190 (by decide)), hRr.row (g1 182 (by decide)), by rw [hρ', mup_hit rfl rfl]; omega, by omega, by rw [g2 13 (by decide), r13]⟩ (by omega) (by omega) (M + 1) (by omega)
          refine ⟨r, τ', ?_, fun x x1 x2 => by rw [z2 x x1 x2, g1 x x1, f1 x x1 x2], fun i i1 i2 i3 i4 => by rw [z3 i i1 i2 i3 i4, g2 i i1, f2 i i1 i2 i3 i4], z4⟩
          rw [loop_step (h0.trans e)]
          exact z1
        · rw [if_neg c2]
          rw [if_pos (fun z => c2 (by rw [hbf]; exact z))] at h0
          obtain ⟨ζ, hζ⟩ : ∃ ζ, ζ = mup (mup ρ 181 13 (nb f S y.2 : Int)) 181 10 ((nb f S y.2 : Int) + 1) := ⟨_, rfl⟩
          have e : f_X11_book_83 ρ ((k : Int) + 1) = some (.inl ((k : Int) + 1, 0, ζ)) := by
            unfold f_X11_book_83 f_X11_book_84
            rw [if_neg (show ¬ (0 : Int) ≠ 0 by decide), r9, b4, if_neg (by omega), bind_some' (X11_wrong r13), b5, X11_b104, mup_miss (by decide), b4, jadd_ok (by omega) (by omega), hζ]
          refine ⟨(k : Int) + 1, ζ, ?_, fun x x1 x2 => by rw [hζ, mup_row x1, mup_row x1, f1 x x1 x2], fun i i1 i2 i3 i4 => by rw [hζ, mup_miss (fun z => i1 z.2), mup_miss (fun z => i4 z.2), f2 i i1 i2 i3 i4], by rw [hζ, mup_miss (by decide), mup_hit rfl rfl]⟩
          rw [loop_step (h0.trans e)]
          exact X11_end (Or.inl rfl)
def bkR (σ : Mem) (B : Bk) (r : Option (Int × Mem)) (o : St) : Prop := match o with
  | .inl q => ∃ τ, r = some (-600 - (q : Int), nod τ (-52)) ∧ (∀ x, x ≠ 181 → x ≠ 182 → x ≠ 191 → τ x = σ x) ∧ (∀ i, i ≠ 9 → i ≠ 10 → i ≠ 11 → i ≠ 12 → i ≠ 13 → τ 181 i = σ 181 i) ∧ τ 181 9 = 0 ∧ isRk τ 182 B
  | .inr z => ∃ τ, r = some ((z.2 : Int), τ) ∧ (∀ x, x ≠ 181 → x ≠ 182 → x ≠ 191 → τ x = σ x) ∧ (∀ i, i ≠ 9 → i ≠ 10 → i ≠ 11 → i ≠ 12 → i ≠ 13 → τ 181 i = σ 181 i) ∧ τ 181 9 = 0 ∧ isRk τ 182 z.1
theorem X11_book_ok {σ : Mem} {f : Int → Int} {S : Nat} {B : Bk} (hT : TR σ f S) (w : WF B) (hR : isRk σ 182 B) : bkR σ B (f_X11_book σ) (rdS f S (S + 1) B 0 0) := by
  have hS := hT.1
  obtain ⟨σ1, a1, a2, a3⟩ := X11_move (σ := σ) (a := 182) (b := 191) (by decide)
  obtain ⟨σ4, h4⟩ : ∃ σ4, σ4 = mup (mup σ1 181 10 0) 181 13 (-1) := ⟨_, rfl⟩
  have e1 : ∀ x, x ≠ 181 → σ4 x = σ1 x := fun x hx => by rw [h4, mup_row hx, mup_row hx]
  have e2 : ∀ i, i ≠ 10 → i ≠ 13 → σ4 181 i = σ 181 i := fun i i1 i2 => by rw [h4, mup_miss (fun z => i2 z.2), mup_miss (fun z => i1 z.2), a2 181 (by decide)]
  have k1 : ∀ x, x ≠ 181 → x ≠ 191 → σ4 x = σ x := fun x x1 x2 => by rw [e1 x x1, a2 x x2]
  have hx : txR σ4 f S B 0 := ⟨hT.keep (e2 9 (by decide) (by decide)) (k1 189 (by decide) (by decide)) (k1 190 (by decide) (by decide)), hR.row (k1 182 (by decide) (by decide)), by rw [h4, mup_miss (by decide), mup_hit rfl rfl]; rfl, Nat.zero_le _, by rw [h4, mup_hit rfl rfl]⟩
  have hR183 : isRk σ4 191 B := (hR.mv (τ := σ1) (b := 191) a3).row (e1 191 (by decide))
  obtain ⟨r, τ, z1, z2, z3, z4⟩ := X11_bk (S + 1) B 0 0 σ4 w hx (by omega) (Nat.le_refl _) FU (by show S + 1 + 1 ≤ 1000000; omega)
  have z1 : loop f_X11_book_25B FU (0, 1, σ4) = some (r, τ) := z1
  have hr : f_X11_book σ = f_X11_book_117 τ r := by
    unfold f_X11_book f_X11_book_25
    rw [bind_some' a1, bsm, bsm, ← h4, bind_some' z1]
  obtain ⟨ρ, hρ⟩ : ∃ ρ, ρ = mup τ 181 9 0 := ⟨_, rfl⟩
  have g1 : ∀ x, x ≠ 181 → ρ x = τ x := fun x hx => by rw [hρ, mup_row hx]
  have g2 : ∀ i, i ≠ 9 → ρ 181 i = τ 181 i := fun i hi => by rw [hρ, mup_miss (fun z => hi z.2)]
  have g9 : ρ 181 9 = 0 := by rw [hρ, mup_hit rfl rfl]
  have f1 : ∀ x, x ≠ 181 → x ≠ 182 → x ≠ 191 → ρ x = σ x := fun x x1 x2 x3 => by rw [g1 x x1, z2 x x1 x2, k1 x x1 x3]
  have f2 : ∀ i, i ≠ 9 → i ≠ 10 → i ≠ 11 → i ≠ 12 → i ≠ 13 → ρ 181 i = σ 181 i := fun i i0 i1 i2 i3 i4 => by rw [g2 i i0, z3 i i1 i2 i3 i4, e2 i i1 i4]
  have hok := rdS_ok (f := f) (S := S) (S + 1) B 0 0 w (Nat.zero_le _)
  rw [hr]
  unfold f_X11_book_117
  rw [bsm, ← hρ, g2 13 (by decide)]
  cases hs : rdS f S (S + 1) B 0 0 with
  | inl q =>
    rw [hs] at z4 hok
    have z4 : τ 181 13 = (q : Int) := z4
    have hok : q ≤ S := hok
    obtain ⟨ζ, m1, m2, m3⟩ := X11_move (σ := ρ) (a := 191) (b := 182) (by decide)
    have hno : f_X11_no ζ (-52) = some (-52, nod ζ (-52)) := X11_no (by decide)
    rw [if_neg (by omega), bind_some' m1, bind_some' hno]
    have e13 : nod ζ (-52) 181 13 = (q : Int) := by rw [nod_row (by decide), m2 181 (by decide), g2 13 (by decide), z4]
    refine ⟨ζ, ?_, fun x x1 x2 x3 => by rw [m2 x x2, f1 x x1 x2 x3], fun i i0 i1 i2 i3 i4 => by rw [m2 181 (by decide), f2 i i0 i1 i2 i3 i4], by rw [m2 181 (by decide), g9], ?_⟩
    · show some (jsub (-600) (nod ζ (-52) 181 13), nod ζ (-52)) = _
      rw [e13, jsub_ok (by omega) (by omega)]
    · have : isRk ρ 191 B := hR183.row (by rw [g1 191 (by decide), z2 191 (by decide) (by decide)])
      exact this.mv m3
  | inr z =>
    rw [hs] at z4
    obtain ⟨y1, y2, y3⟩ := z4
    rw [if_pos (by omega)]
    exact ⟨ρ, by rw [y2], f1, f2, g9, y3.row (g1 182 (by decide))⟩
def bkC (σ : Mem) (r : Option (Int × Mem)) (o : St) : Prop := match o with
  | .inl q => ∃ τ, r = some (-600 - (q : Int), refd τ (-52)) ∧ (∀ x, ¬ (10 ≤ x ∧ x ≤ 18) → x ≠ 28 → τ x = σ x) ∧ τ 28 1 = 0
  | .inr z => ∃ τ, r = some ((z.2 : Int), τ) ∧ (∀ x i, ¬ (1 ≤ x ∧ x ≤ 18) → x ≠ 28 → (x = 43 → i ≠ 3) → x ≠ 53 → τ x i = σ x i) ∧ τ 28 1 = 0 ∧ isBk τ 1 z.1 ∧ τ 43 3 = σ 43 3 + 1 ∧ ∀ c, 0 ≤ c → c < 10 → τ 53 c = 0
theorem X10_book_ok {σ : Mem} {f : Int → Int} {S : Nat} {B : Bk} (hT : TX σ f S) (w : WF B) (hB : isBk σ 1 B) (he : 0 ≤ σ 43 3 ∧ σ 43 3 ≤ 100000) : bkC σ (f_X10_book σ) (rdS f S (S + 1) B 0 0) := by
  have hS := hT.1
  obtain ⟨σ1, a1, a2, a3⟩ := X0_become (σ := σ) (b0 := 10) hB (by decide)
  obtain ⟨r, τ, z1, z2, z3, z4⟩ := X7_readInto w (hT.keep (by rw [a3 28 (by decide)]) (a3 29 (by decide))) a2
  obtain ⟨ρ, hρ⟩ : ∃ ρ, ρ = mup τ 28 1 0 := ⟨_, rfl⟩
  have g1 : ∀ x, x ≠ 28 → ρ x = τ x := fun x hx => by rw [hρ, mup_row hx]
  have f1 : ∀ x, ¬ (10 ≤ x ∧ x ≤ 18) → x ≠ 28 → ρ x = σ x := fun x x1 x2 => by rw [g1 x x2, z2 x x1 x2, a3 x (by omega)]
  have g0 : ρ 28 1 = 0 := by rw [hρ, mup_hit rfl rfl]
  have hc : f_X7_clear τ = some (τ 28 1, ρ) := by rw [hρ]; rfl
  have hok := rdS_ok (f := f) (S := S) (S + 1) B 0 0 w (Nat.zero_le _)
  unfold f_X10_book
  rw [bind_some' a1, bind_some' z1, bsm, bind_some' hc]
  cases hs : rdS f S (S + 1) B 0 0 with
  | inl q =>
    rw [hs] at z4 hok
    obtain ⟨y1, y2⟩ := z4
    have hok : q ≤ S := hok
    have hno : f_X10_refuse ρ (-52) = some (-52, refd ρ (-52)) := X10_refuse (by decide)
    rw [y1, if_neg (show ¬ (-1 : Int) ≠ -1 by decide), bind_some' hno]
    have e4 : refd ρ (-52) 28 4 = (q : Int) := by rw [refd_row (by decide), hρ, mup_miss (by decide), y2]
    refine ⟨ρ, ?_, f1, g0⟩
    show some (jsub (-600) (refd ρ (-52) 28 4), refd ρ (-52)) = _
    rw [e4, jsub_ok (by omega) (by omega)]
  | inr z =>
    rw [hs] at z4
    obtain ⟨y1, y2⟩ := z4
    have y2 : isBk ρ 10 z.1 := y2.rows fun x x1 x2 => g1 x (by omega)
    obtain ⟨σ8, b1, b2, b3⟩ := X0_become (σ := ρ) (b0 := 1) y2 (by decide)
    have e43 : σ8 43 3 = σ 43 3 := by rw [b3 43 (by decide), f1 43 (by decide) (by decide)]
    obtain ⟨ζ, c1, c2, c3, c4⟩ := X9_forgetAll (σ := σ8) (by rw [e43]; exact he)
    rw [y1, if_pos (by omega), bind_some' b1, bind_some' c1]
    exact ⟨ζ, rfl, fun x i x1 x2 x3 x4 => by rw [c2 x i x3 x4, b3 x (by omega), f1 x (by omega) x2], by rw [c2 28 1 (by decide) (by decide), b3 28 (by decide), g0], b2.pt fun x i x1 x2 => c2 x i (by omega) (by omega), by rw [c3, e43], c4⟩
theorem k_book {n : Nat} {σ : Mem} {B : Bk} (h : INV0 n σ B) (hl : n < 1000) : CALL0 n σ B (f_X10_book σ) (fun ρ => f_X11_book ρ) := by
  obtain ⟨hB, hR, w, hW⟩ := h.1
  obtain ⟨p1, p2, p3, p4⟩ := h.2.2.2.2.1
  obtain ⟨hd1, hd2⟩ := h.2.2.2.2.2.2.2
  have hwr : WRD σ := h.2.2.2.2.2.2.1
  obtain ⟨S, hS⟩ := n_of p2
  have hfB : fB (fun i => σ 29 i) := fun i i1 i2 => (p4 i i1 i2).2
  have hT : TX σ (fun i => σ 29 i) S := ⟨by omega, hfB, hS, fun _ _ _ => rfl⟩
  have hc := X10_book_ok hT w hB (by omega)
  have hok := rdS_ok (f := fun i => σ 29 i) (S := S) (S + 1) B 0 0 w (Nat.zero_le _)
  have hTR : ∀ ρ : Mem, ρ 181 9 = σ 181 9 → ρ 189 = σ 189 → ρ 190 = σ 190 → TR ρ (fun i => σ 29 i) S := fun ρ e1 e2 e3 => ⟨by omega, hfB, by rw [e1, p1, hS], fun i i1 i2 => by rw [e2]; exact (p4 i i1 i2).1, hwr.pt fun i => by rw [e3]⟩
  cases hs : rdS (fun i => σ 29 i) S (S + 1) B 0 0 with
  | inl q =>
    rw [hs] at hc
    obtain ⟨ρ, a1, a2, a3⟩ := hc
    have a4 : ∀ x, ¬ (10 ≤ x ∧ x ≤ 18) → x ≠ 28 → x ≠ 34 → refd ρ (-52) x = σ x := fun x x1 x2 x3 => by rw [refd_row x3, a2 x x1 x2]
    have hr := X11_book_ok (σ := refd ρ (-52)) (hTR _ (by rw [a4 181 (by decide) (by decide) (by decide)]) (a4 189 (by decide) (by decide) (by decide)) (a4 190 (by decide) (by decide) (by decide))) w (hR.row (a4 182 (by decide) (by decide) (by decide)))
    rw [hs] at hr
    obtain ⟨τ, t1, t2, t3, t4, t5⟩ := hr
    have q1 : ∀ x, ¬ (10 ≤ x ∧ x ≤ 18) → x ≠ 28 → x ≠ 34 → x ≠ 181 → x ≠ 182 → x ≠ 191 → x ≠ 184 → nod τ (-52) x = σ x := fun x x1 x2 x3 x4 x5 x6 x7 => by rw [nod_row x7, t2 x x4 x5 x6, a4 x x1 x2 x3]
    have e173 : ∀ i, i = 2 ∨ i = 9 → nod τ (-52) 181 i = if i = 9 then 0 else σ 181 2 := fun i hi => by
      rw [nod_row (by decide)]
      rcases hi with e | e
      · rw [e, t3 2 (by decide) (by decide) (by decide) (by decide) (by decide), a4 181 (by decide) (by decide) (by decide)]
        rfl
      · rw [e, t4]
        rfl
    have e28 : nod τ (-52) 28 1 = 0 := by rw [nod_row (by decide), t2 28 (by decide) (by decide) (by decide), refd_row (by decide), a3]
    refine call_gen (ρ := refd ρ (-52)) (τ := nod τ (-52)) (v := -600 - (q : Int)) h w a1 t1 (fun x i x1 x2 _ x4 _ _ x7 x8 x9 _ x11 => ?_) (hB.rows fun x x1 x2 => q1 x (by omega) (by omega) (by omega) (by omega) (by omega) (by omega) (by omega)) (t5.row (nod_row (by decide))) (fun c c1 c2 c3 => ⟨by rw [q1 53 (by decide) (by decide) (by decide) (by decide) (by decide) (by decide) (by decide)] at c3; exact c3, c2, fun d => SAMEB.rfl.2.2.2.2 c d c1 c2⟩) (Or.inr ⟨by rw [q1 43 (by decide) (by decide) (by decide) (by decide) (by decide) (by decide) (by decide)], SAMEB.rfl⟩) ?_ ⟨?_, ?_, ?_, fun i i1 i2 => ?_⟩ ?_
    · by_cases e : x = 181
      · rw [e, x7 e, e173 2 (Or.inl rfl)]
        rfl
      · rw [q1 x (by omega) x2 x4 e x8 x11 x9]
    · exact h.2.2.1.pt (fun i => by rw [q1 31 (by decide) (by decide) (by decide) (by decide) (by decide) (by decide) (by decide)]) (fun i => by rw [q1 32 (by decide) (by decide) (by decide) (by decide) (by decide) (by decide) (by decide)]) (fun i => by rw [q1 185 (by decide) (by decide) (by decide) (by decide) (by decide) (by decide) (by decide)]) (fun i => by rw [q1 186 (by decide) (by decide) (by decide) (by decide) (by decide) (by decide) (by decide)]) (Int.le_refl _)
    · rw [e173 9 (Or.inr rfl), e28]
      rfl
    · rw [e28]; decide
    · rw [e28]; decide
    · rw [q1 189 (by decide) (by decide) (by decide) (by decide) (by decide) (by decide) (by decide), q1 29 (by decide) (by decide) (by decide) (by decide) (by decide) (by decide) (by decide)]
      exact p4 i i1 i2
    · refine h.2.2.2.2.2.1.ref (REF.no (x := -52) (ρ := σ) (by decide) rfl rfl (fun j => ?_) fun j => ?_)
      · rw [nod_row (by decide), t2 34 (by decide) (by decide) (by decide)]
        show refd ρ (-52) 34 j = refd σ (-52) 34 j
        unfold refd
        rw [a2 34 (by decide) (by decide)]
        unfold mup
        rw [a2 34 (by decide) (by decide)]
      · show nod τ (-52) 184 j = nod σ (-52) 184 j
        have e176 : τ 184 = σ 184 := by rw [t2 184 (by decide) (by decide) (by decide), a4 184 (by decide) (by decide) (by decide)]
        unfold nod
        rw [e176]
        unfold mup
        rw [e176]
  | inr z =>
    rw [hs] at hc hok
    obtain ⟨w1, w2, w3⟩ := hok
    obtain ⟨ρ, a1, a2, a3, a4, a5, a6⟩ := hc
    have a7 : ∀ x, ¬ (1 ≤ x ∧ x ≤ 18) → x ≠ 28 → x ≠ 43 → x ≠ 53 → ρ x = σ x := fun x x1 x2 x3 x4 => funext fun i => a2 x i x1 x2 (fun e => absurd e x3) x4
    have hr := X11_book_ok (σ := ρ) (hTR _ (by rw [a7 181 (by decide) (by decide) (by decide) (by decide)]) (a7 189 (by decide) (by decide) (by decide) (by decide)) (a7 190 (by decide) (by decide) (by decide) (by decide))) w (hR.row (a7 182 (by decide) (by decide) (by decide) (by decide)))
    rw [hs] at hr
    obtain ⟨τ, t1, t2, t3, t4, t5⟩ := hr
    have q1 : ∀ x, ¬ (1 ≤ x ∧ x ≤ 18) → x ≠ 28 → x ≠ 43 → x ≠ 53 → x ≠ 181 → x ≠ 182 → x ≠ 191 → τ x = σ x := fun x x1 x2 x3 x4 x5 x6 x7 => by rw [t2 x x5 x6 x7, a7 x x1 x2 x3 x4]
    have e28 : τ 28 1 = 0 := by rw [t2 28 (by decide) (by decide) (by decide), a3]
    refine call_gen (ρ := ρ) (τ := τ) (v := (z.2 : Int)) h w1 a1 t1 (fun x i x1 x2 _ _ x5 x6 x7 x8 _ _ x11 => ?_) (a4.rows fun x x1 x2 => t2 x (by omega) (by omega) (by omega)) t5 (fun c c1 c2 c3 => absurd ?_ c3) (Or.inl (by rw [t2 43 (by decide) (by decide) (by decide), a5])) ?_ ⟨?_, ?_, ?_, fun i i1 i2 => ?_⟩ ?_
    · by_cases e : x = 181
      · rw [e, x7 e, t3 2 (by decide) (by decide) (by decide) (by decide) (by decide), a2 181 2 (by decide) (by decide) (by decide) (by decide)]
      · rw [t2 x e x8 x11, a2 x i x1 x2 x5 x6]
    · have hn := w1.1
      unfold WFn at hn
      rw [t2 53 (by decide) (by decide) (by decide), a6 c c1 (by omega)]
    · exact h.2.2.1.pt (fun i => by rw [q1 31 (by decide) (by decide) (by decide) (by decide) (by decide) (by decide) (by decide)]) (fun i => by rw [q1 32 (by decide) (by decide) (by decide) (by decide) (by decide) (by decide) (by decide)]) (fun i => by rw [q1 185 (by decide) (by decide) (by decide) (by decide) (by decide) (by decide) (by decide)]) (fun i => by rw [q1 186 (by decide) (by decide) (by decide) (by decide) (by decide) (by decide) (by decide)]) w2
    · rw [t4, e28]
    · rw [e28]; decide
    · rw [e28]; decide
    · rw [q1 189 (by decide) (by decide) (by decide) (by decide) (by decide) (by decide) (by decide), q1 29 (by decide) (by decide) (by decide) (by decide) (by decide) (by decide) (by decide)]
      exact p4 i i1 i2
    · exact h.2.2.2.2.2.1.pt (fun i => by rw [q1 34 (by decide) (by decide) (by decide) (by decide) (by decide) (by decide) (by decide)]) (fun i => by rw [q1 184 (by decide) (by decide) (by decide) (by decide) (by decide) (by decide) (by decide)])
