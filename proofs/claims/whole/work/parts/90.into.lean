/-! TEXTS: the class, a whole text -/
theorem X7_st51 {σ : Mem} {f : Int → Int} {S : Nat} {B : Bk} (w : WF B) {t n : Nat} (hc : txS σ f S B (t + n)) (h3 : σ 28 3 = (t : Int)) : txO σ (stW f S B (t + n) t (wdx (txW f S t n))) (f_X7_statement_51 σ) := by
  have hW : ∀ v : Nat, v < 8 → f_X7_isWord σ v = some (if txW f S t n v then 1 else 0) := fun v hv => X7_isWord hc.1 hc.2.2.2 hc.2.2.1 h3 hv
  unfold f_X7_statement_51
  rw [bind_some' (show f_X7_isWord σ 0 = _ from hW 0 (by decide))]
  cases h00 : txW f S t n 0 with
  | true =>
    rw [show wdx (txW f S t n) = some 0 by unfold wdx; rw [h00]; rfl, bt, if_neg (show ¬ (1 : Int) = 0 by decide)]
    exact (c_paper w hc h3).ck
  | false =>
    rw [bf, if_pos (show (0 : Int) = 0 from rfl)]
    rw [bind_some' (show f_X7_isWord σ 1 = _ from hW 1 (by decide))]
    cases h11 : txW f S t n 1 with
    | true =>
      rw [show wdx (txW f S t n) = some 1 by unfold wdx; rw [h00, h11]; rfl, bt, if_neg (show ¬ (1 : Int) = 0 by decide)]
      exact (c_cand w hc h3).ck
    | false =>
      rw [bf, if_pos (show (0 : Int) = 0 from rfl)]
      rw [bind_some' (show f_X7_isWord σ 2 = _ from hW 2 (by decide))]
      cases h22 : txW f S t n 2 with
      | true =>
        rw [show wdx (txW f S t n) = some 2 by unfold wdx; rw [h00, h11, h22]; rfl, bt, if_neg (show ¬ (1 : Int) = 0 by decide)]
        exact (c_takes w hc).ck
      | false =>
        rw [bf, if_pos (show (0 : Int) = 0 from rfl)]
        rw [bind_some' (show f_X7_isWord σ 3 = _ from hW 3 (by decide))]
        cases h33 : txW f S t n 3 with
        | true =>
          rw [show wdx (txW f S t n) = some 3 by unfold wdx; rw [h00, h11, h22, h33]; rfl, bt, if_neg (show ¬ (1 : Int) = 0 by decide)]
          exact (c_drops w hc).ck
        | false =>
          rw [bf, if_pos (show (0 : Int) = 0 from rfl)]
          rw [bind_some' (show f_X7_isWord σ 4 = _ from hW 4 (by decide))]
          cases h44 : txW f S t n 4 with
          | true =>
            rw [show wdx (txW f S t n) = some 4 by unfold wdx; rw [h00, h11, h22, h33, h44]; rfl, bt, if_neg (show ¬ (1 : Int) = 0 by decide)]
            exact (c_night w hc).ck
          | false =>
            rw [bf, if_pos (show (0 : Int) = 0 from rfl)]
            rw [bind_some' (show f_X7_isWord σ 5 = _ from hW 5 (by decide))]
            cases h55 : txW f S t n 5 with
            | true =>
              rw [show wdx (txW f S t n) = some 5 by unfold wdx; rw [h00, h11, h22, h33, h44, h55]; rfl, bt, if_neg (show ¬ (1 : Int) = 0 by decide)]
              exact (c_room w hc h3).ck
            | false =>
              rw [bf, if_pos (show (0 : Int) = 0 from rfl)]
              rw [bind_some' (show f_X7_isWord σ 6 = _ from hW 6 (by decide))]
              cases h66 : txW f S t n 6 with
              | true =>
                rw [show wdx (txW f S t n) = some 6 by unfold wdx; rw [h00, h11, h22, h33, h44, h55, h66]; rfl, bt, if_neg (show ¬ (1 : Int) = 0 by decide)]
                exact (c_hours hc).ck
              | false =>
                rw [bf, if_pos (show (0 : Int) = 0 from rfl)]
                rw [bind_some' (show f_X7_isWord σ 7 = _ from hW 7 (by decide))]
                cases h77 : txW f S t n 7 with
                | true =>
                  rw [show wdx (txW f S t n) = some 7 by unfold wdx; rw [h00, h11, h22, h33, h44, h55, h66, h77]; rfl, bt, if_neg (show ¬ (1 : Int) = 0 by decide)]
                  exact (c_turn hc).ck
                | false =>
                  rw [bf, if_pos (show (0 : Int) = 0 from rfl)]
                  rw [show wdx (txW f S t n) = none by unfold wdx; rw [h00, h11, h22, h33, h44, h55, h66, h77]; rfl]
                  exact txO.bad h3
theorem X7_statement {σ : Mem} {f : Int → Int} {S : Nat} {B : Bk} (w : WF B) {a : Nat} (h : txS σ f S B a) : txO σ (stS f S B a) (f_X7_statement σ) := by
  obtain ⟨hT, hB, h2, ha⟩ := h
  have hS := hT.1
  obtain ⟨σ1, a1, a2, a3, a4⟩ := X7_skip hT ha h2
  have g1 := go_ok (txB f S) S _ a rfl ha
  have g1b : nb f S a ≤ S := g1.2.1
  obtain ⟨t, ht⟩ : ∃ t, t = nb f S a := ⟨_, rfl⟩
  have g2 := go_ok (pL f S) S _ t rfl (by omega)
  obtain ⟨m, hm⟩ : ∃ m, go (pL f S) S t = t + m := ⟨go (pL f S) S t - t, by have := g2.1; omega⟩
  obtain ⟨σ3, hσ3⟩ : ∃ σ3, σ3 = mup σ1 28 3 (t : Int) := ⟨_, rfl⟩
  have q1 : ∀ x, x ≠ 28 → σ3 x = σ x := fun x hx => by rw [hσ3, mup_row hx, a2 x hx]
  have q2 : ∀ i, i ≠ 2 → i ≠ 3 → σ3 28 i = σ 28 i := fun i i1 i2 => by rw [hσ3, mup_miss (fun z => i2 z.2), a3 i i1]
  have q3 : σ3 28 3 = (t : Int) := by rw [hσ3, mup_hit rfl rfl]
  have q4 : σ3 28 2 = (t : Int) := by rw [hσ3, mup_miss (by decide), a4, ht]
  obtain ⟨τ, e1, e2, e3, e4, e5⟩ := loop_ex (f := f_X7_statement_14B) (fun s => ∃ k : Nat, s.1 = (k : Int) ∧ t + k ≤ S ∧ (∀ x, x ≠ 28 → s.2 x = σ x) ∧ (∀ i, i ≠ 2 → i ≠ 3 → s.2 28 i = σ 28 i) ∧ s.2 28 3 = (t : Int) ∧ s.2 28 2 = ((t + k : Nat) : Int) ∧ go (pL f S) S (t + k) = t + m) (fun s => (300 - s.1).toNat) (fun e => (∀ x, x ≠ 28 → e x = σ x) ∧ (∀ i, i ≠ 2 → i ≠ 3 → e 28 i = σ 28 i) ∧ e 28 3 = (t : Int) ∧ e 28 2 = ((t + m : Nat) : Int)) (a := (0, σ3)) ⟨0, rfl, by omega, q1, q2, q3, q4, hm⟩ (Nat.le_of_ble_eq_true rfl) (by
    rintro ⟨_, τ⟩ ⟨k, rfl, hk, k1, k2, k3, k4, k5⟩
    have k1 : ∀ x, x ≠ 28 → τ x = σ x := k1
    have k2 : ∀ i, i ≠ 2 → i ≠ 3 → τ 28 i = σ 28 i := k2
    have k3 : τ 28 3 = (t : Int) := k3
    have k4 : τ 28 2 = ((t + k : Nat) : Int) := k4
    have hTt : TX τ f S := hT.keep (k2 1 (by decide) (by decide)) (k1 29 (by decide))
    show (∃ a', f_X7_statement_14C (k : Int) τ = _ ∧ _) ∨ ∃ a', f_X7_statement_14C (k : Int) τ = _ ∧ _
    have stop : go (pL f S) S (t + k) = t + k → τ 28 2 = ((t + m : Nat) : Int) := fun z => by rw [k4, ← z, k5]
    unfold f_X7_statement_14C
    by_cases hend : (250 : Int) ≤ k
    · right
      rw [if_pos hend]
      exact ⟨_, rfl, k1, k2, k3, stop (go_ge (by omega))⟩
    · rw [if_neg hend, k4, bind_some' (X7_byteAt hTt (t + k)), bind_some' (X7_isLetter _), if0]
      by_cases hp : 97 ≤ byt f S (t + k) ∧ byt f S (t + k) ≤ 122
      · left
        have hlt : t + k < S := by
          by_cases q : t + k < S
          · exact q
          · rw [byt_out (by omega)] at hp
            exact absurd hp (by decide)
        rw [if_pos hp, bsm, bsm, jadd_ok (by omega) (by omega), jadd_ok (by omega) (by omega)]
        refine ⟨_, rfl, ⟨k + 1, by show (k : Int) + 1 = _; omega, by omega, fun x hx => ?_, fun i i1 i2 => ?_, ?_, ?_, ?_⟩, by show (300 - ((k : Int) + 1)).toNat < (300 - (k : Int)).toNat; omega⟩
        · show mup τ 28 2 (((t + k : Nat) : Int) + 1) x = _
          rw [mup_row hx, k1 x hx]
        · show mup τ 28 2 (((t + k : Nat) : Int) + 1) 28 i = _
          rw [mup_miss (fun z => i1 z.2), k2 i i1 i2]
        · show mup τ 28 2 (((t + k : Nat) : Int) + 1) 28 3 = _
          rw [mup_miss (by decide), k3]
        · show mup τ 28 2 (((t + k : Nat) : Int) + 1) 28 2 = ((t + (k + 1) : Nat) : Int)
          rw [mup_hit rfl rfl]
          omega
        · rw [← k5]
          exact go_t hlt (decide_eq_true hp)
      · right
        rw [if_neg hp]
        exact ⟨_, rfl, k1, k2, k3, stop (go_f (decide_eq_false hp))⟩)
  have e2 : ∀ x, x ≠ 28 → τ x = σ x := e2
  have e3 : ∀ i, i ≠ 2 → i ≠ 3 → τ 28 i = σ 28 i := e3
  have hc : txS τ f S B (t + m) := ⟨hT.keep (e3 1 (by decide) (by decide)) (e2 29 (by decide)), hB.rows fun x x1 x2 => e2 x (by omega), e5, by rw [← hm]; exact g2.2.1⟩
  have h0 : f_X7_statement σ = f_X7_statement_51 τ := by
    unfold f_X7_statement f_X7_statement_14
    rw [bind_some' a1, bsm, a4, ← ht, ← hσ3, e1, bsm]
  have hs : stS f S B a = stW f S B (t + m) t (wdx (txW f S t m)) := by
    unfold stS
    rw [← ht, hm, show t + m - t = m by omega]
  rw [h0, hs]
  exact (X7_st51 w hc e4).tr e2 fun i i1 i2 _ => e3 i i1 i2
/-- all statements of a text -/
def rdS (f : Int → Int) (S : Nat) : Nat → Bk → Nat → Nat → St
  | 0, _, _, _ => .inl 0
  | n + 1, B, a, k => match stS f S B a with
    | .inl q => .inl q
    | .inr y => if S ≤ nb f S y.2 then .inr (y.1, k + 1) else if byt f S (nb f S y.2) = 59 then rdS f S n y.1 (nb f S y.2 + 1) (k + 1) else .inl (nb f S y.2)
theorem rdS_ok {f : Int → Int} {S : Nat} : ∀ (n : Nat) (B : Bk) (a k : Nat), WF B → a ≤ S → match rdS f S n B a k with
    | .inl q => q ≤ S
    | .inr z => WF z.1 ∧ B 8 1 ≤ z.1 8 1 ∧ z.2 ≤ k + n
  | 0, B, a, k, w, ha => Nat.zero_le _
  | n + 1, B, a, k, w, ha => by
    have h := okO_S (f := f) w ha
    unfold rdS
    cases hs : stS f S B a with
    | inl q =>
      rw [hs] at h
      exact h
    | inr y =>
      rw [hs] at h
      obtain ⟨h1, h2, h3, h4⟩ := h
      have hb := go_ok (txB f S) S _ y.2 rfl h3
      have hb2 : nb f S y.2 ≤ S := hb.2.1
      show match (if S ≤ nb f S y.2 then (.inr (y.1, k + 1) : St) else if byt f S (nb f S y.2) = 59 then rdS f S n y.1 (nb f S y.2 + 1) (k + 1) else .inl (nb f S y.2)) with | .inl q => q ≤ S | .inr z => WF z.1 ∧ B 8 1 ≤ z.1 8 1 ∧ z.2 ≤ k + (n + 1)
      by_cases c1 : S ≤ nb f S y.2
      · rw [if_pos c1]
        exact ⟨h1, h4, by show k + 1 ≤ k + (n + 1); omega⟩
      · rw [if_neg c1]
        by_cases c2 : byt f S (nb f S y.2) = 59
        · rw [if_pos c2]
          have := rdS_ok (f := f) (S := S) n y.1 (nb f S y.2 + 1) (k + 1) h1 (by omega)
          cases hr : rdS f S n y.1 (nb f S y.2 + 1) (k + 1) with
          | inl q =>
            rw [hr] at this
            exact this
          | inr z =>
            rw [hr] at this
            obtain ⟨t1, t2, t3⟩ := this
            exact ⟨t1, by omega, by omega⟩
        · rw [if_neg c2]
          exact hb2
def kR (e : Mem ⊕ (Int × Mem) ⊕ Mem ⊕ Mem) : Option (Int × Mem) := Sum.elim (fun e => some ((-1 : Int), e)) (Sum.elim (fun e => some (e.1, e.2)) (Sum.elim (fun e => f_X7_readInto_59 e) (fun e => some ((-1 : Int), e)))) e
theorem X7_loop {f : Int → Int} {S : Nat} : ∀ (n : Nat) (B : Bk) (a k i : Nat) (σ : Mem), WF B → txS σ f S B a → S < a + n → i ≤ a → k ≤ i → ∀ N, n ≤ N → ∃ r τ, (loop f_X7_readInto_9B N ((k : Int), (i : Int), σ)).bind kR = some (r, τ) ∧ (∀ x, ¬ (10 ≤ x ∧ x ≤ 18) → x ≠ 28 → τ x = σ x) ∧ (∀ i, i ≠ 2 → i ≠ 3 → i ≠ 4 → τ 28 i = σ 28 i) ∧ match rdS f S n B a k with
    | .inl q => r = -1 ∧ τ 28 4 = (q : Int)
    | .inr z => r = (z.2 : Int) ∧ isBk τ 10 z.1
  | 0, B, a, k, i, σ, w, h, hn, hi, hk, N, hN => by
    have := h.2.2.2
    omega
  | n + 1, B, a, k, i, σ, w, h, hn, hi, hk, N, hN => by
    obtain ⟨M, rfl⟩ : ∃ M, N = M + 1 := ⟨N - 1, by omega⟩
    obtain ⟨b, τ, s1, s2, s3, s4⟩ := X7_statement w h
    have hok := okO_S (f := f) w h.2.2.2
    have hT := h.1
    have hS := hT.1
    have haS := h.2.2.2
    have stop : ∀ (x : Mem ⊕ (Int × Mem) ⊕ Mem ⊕ Mem), f_X7_readInto_9B ((k : Int), (i : Int), σ) = some (.inr x) → (loop f_X7_readInto_9B (M + 1) ((k : Int), (i : Int), σ)).bind kR = kR x := fun x hx => by
      unfold loop
      rw [hx, bsm, bsm]
    have hTt : TX τ f S := hT.keep (s3 1 (by decide) (by decide) (by decide)) (s2 29 (by decide) (by decide))
    unfold rdS
    cases hs : stS f S B a with
    | inl q =>
      rw [hs] at s4
      refine ⟨-1, τ, ?_, s2, s3, rfl, s4.2⟩
      rw [stop (.inl τ) ?_]
      · rfl
      · show f_X7_readInto_9C k i σ = _
        unfold f_X7_readInto_9C
        rw [if_neg (by omega), bind_some' s1, s4.1, if_neg (show ¬ (0 : Int) ≠ 0 by decide)]
    | inr y =>
      rw [hs] at s4 hok
      obtain ⟨o1, o2, o3, o4⟩ := hok
      obtain ⟨t1, t2, t3⟩ := s4
      obtain ⟨ρ, b1, b2, b3, b4⟩ := X7_skip hTt o3 t2
      have hb := go_ok (txB f S) S _ y.2 rfl o3
      have hb2 : nb f S y.2 ≤ S := hb.2.1
      have hb1 : y.2 ≤ nb f S y.2 := hb.1
      have f1 : ∀ x, ¬ (10 ≤ x ∧ x ≤ 18) → x ≠ 28 → ρ x = σ x := fun x x1 x2 => by rw [b2 x x2, s2 x x1 x2]
      have f2 : ∀ i, i ≠ 2 → i ≠ 3 → i ≠ 4 → ρ 28 i = σ 28 i := fun i i1 i2 i3 => by rw [b3 i i1, s3 i i1 i2 i3]
      have hTr : TX ρ f S := hTt.keep (b3 1 (by decide)) (b2 29 (by decide))
      have h9 : f_X7_readInto_9B ((k : Int), (i : Int), σ) = if (ρ 28 2) < (ρ 28 1) then ((f_X7_byteAt ρ (ρ 28 2)).bind fun v7 => (if v7 = (59 : Int) then ((some (mup ρ 28 2 (jadd (ρ 28 2) 1))).bind fun σ9 => ((some (jadd (i : Int) 1)).bind fun v10 => (some (.inl ((k : Int) + 1, v10, σ9))))) else (some (.inr (.inr (.inr (.inl ρ))))))) else (some (.inr (.inr (.inl ((k : Int) + 1, ρ))))) := by
        show f_X7_readInto_9C k i σ = _
        unfold f_X7_readInto_9C
        rw [if_neg (by omega), bind_some' s1, t1, if_pos (show (1 : Int) ≠ 0 by decide), bsm, jadd_ok (a := (k : Int)) (b := 1) (by omega) (by omega), bind_some' b1]
      rw [b4, hTr.2.2.1] at h9
      show ∃ r τ, _ ∧ _ ∧ _ ∧ match (if S ≤ nb f S y.2 then (.inr (y.1, k + 1) : St) else if byt f S (nb f S y.2) = 59 then rdS f S n y.1 (nb f S y.2 + 1) (k + 1) else .inl (nb f S y.2)) with | .inl q => r = -1 ∧ τ 28 4 = (q : Int) | .inr z => r = (z.2 : Int) ∧ isBk τ 10 z.1
      have hBr : isBk ρ 10 y.1 := t3.rows fun x x1 x2 => b2 x (by omega)
      by_cases c1 : S ≤ nb f S y.2
      · rw [if_pos c1]
        rw [if_neg (by omega)] at h9
        exact ⟨(k : Int) + 1, ρ, stop _ h9, f1, f2, by show (k : Int) + 1 = ((k + 1 : Nat) : Int); omega, hBr⟩
      · rw [if_neg c1]
        rw [if_pos (by omega), bind_some' (X7_byteAt hTr (nb f S y.2))] at h9
        by_cases c2 : byt f S (nb f S y.2) = 59
        · rw [if_pos c2] at h9
          rw [if_pos c2]
          rw [bsm, bsm, jadd_ok (by omega) (by omega), jadd_ok (by omega) (by omega)] at h9
          obtain ⟨ρ', hρ'⟩ : ∃ ρ', ρ' = mup ρ 28 2 ((nb f S y.2 : Int) + 1) := ⟨_, rfl⟩
          rw [← hρ'] at h9
          have r1 : ∀ x, x ≠ 28 → ρ' x = ρ x := fun x hx => by rw [hρ', mup_row hx]
          have r2 : ∀ i, i ≠ 2 → ρ' 28 i = ρ 28 i := fun i hi => by rw [hρ', mup_miss (fun z => hi z.2)]
          obtain ⟨r, τ', z1, z2, z3, z4⟩ := X7_loop n y.1 (nb f S y.2 + 1) (k + 1) (i + 1) ρ' o1 ⟨hTr.keep (r2 1 (by decide)) (r1 29 (by decide)), hBr.rows fun x x1 x2 => r1 x (by omega), by rw [hρ', mup_hit rfl rfl]; omega, by omega⟩ (by omega) (by omega) (by omega) M (by omega)
          refine ⟨r, τ', ?_, fun x x1 x2 => by rw [z2 x x1 x2, r1 x x2, f1 x x1 x2], fun i i1 i2 i3 => by rw [z3 i i1 i2 i3, r2 i i1, f2 i i1 i2 i3], z4⟩
          rw [loop_step h9]
          exact z1
        · rw [if_neg c2] at h9
          rw [if_neg c2]
          refine ⟨-1, mup ρ 28 4 (nb f S y.2), ?_, fun x x1 x2 => by rw [mup_row x2, f1 x x1 x2], fun i i1 i2 i3 => by rw [mup_miss (fun z => i3 z.2), f2 i i1 i2 i3], rfl, mup_hit rfl rfl⟩
          rw [stop _ h9]
          show f_X7_readInto_59 ρ = _
          unfold f_X7_readInto_59
          rw [b4]
          rfl
theorem X7_readInto {σ : Mem} {f : Int → Int} {S : Nat} {B : Bk} (w : WF B) (hT : TX σ f S) (hB : isBk σ 10 B) : ∃ r τ, f_X7_readInto σ = some (r, τ) ∧ (∀ x, ¬ (10 ≤ x ∧ x ≤ 18) → x ≠ 28 → τ x = σ x) ∧ (∀ i, i ≠ 2 → i ≠ 3 → i ≠ 4 → τ 28 i = σ 28 i) ∧ match rdS f S (S + 1) B 0 0 with
    | .inl q => r = -1 ∧ τ 28 4 = (q : Int)
    | .inr z => r = (z.2 : Int) ∧ isBk τ 10 z.1 := by
  have hS := hT.1
  obtain ⟨σ1, hσ1⟩ : ∃ σ1, σ1 = mup σ 28 2 0 := ⟨_, rfl⟩
  have r1 : ∀ x, x ≠ 28 → σ1 x = σ x := fun x hx => by rw [hσ1, mup_row hx]
  have r2 : ∀ i, i ≠ 2 → σ1 28 i = σ 28 i := fun i hi => by rw [hσ1, mup_miss (fun z => hi z.2)]
  obtain ⟨r, τ, z1, z2, z3, z4⟩ := X7_loop (S + 1) B 0 0 0 σ1 w ⟨hT.keep (r2 1 (by decide)) (r1 29 (by decide)), hB.rows fun x x1 x2 => r1 x (by omega), by rw [hσ1, mup_hit rfl rfl]; rfl, Nat.zero_le _⟩ (by omega) (Nat.le_refl _) (Nat.le_refl _) FU (by show S + 1 ≤ 1000000; omega)
  refine ⟨r, τ, ?_, fun x x1 x2 => by rw [z2 x x1 x2, r1 x x2], fun i i1 i2 i3 => by rw [z3 i i1 i2 i3, r2 i i1], z4⟩
  unfold f_X7_readInto
  rw [bsm, ← hσ1]
  exact z1
