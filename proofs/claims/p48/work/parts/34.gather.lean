/-! PAPERS OF A MASK, in their order; what the two sides lay down of them -/
def pls (m : Nat) : Nat → List Nat
  | 0 => []
  | p + 1 => if m.testBit p then pls m p ++ [p] else pls m p
def nof (m : Nat) : Nat := cnt (fun i => m.testBit i) 12
def nth (m k : Nat) : Nat := (pls m 12).getD k 0
theorem pls_len (m : Nat) : ∀ p, (pls m p).length = cnt (fun i => m.testBit i) p
  | 0 => rfl
  | p + 1 => by
    have ih := pls_len m p
    unfold pls cnt
    cases m.testBit p <;> simp [ih]
theorem pls_pre (m : Nat) {p : Nat} : ∀ q, p ≤ q → ∃ r, pls m q = pls m p ++ r
  | 0, h => ⟨[], by have : p = 0 := by omega
                    subst this; rfl⟩
  | q + 1, h => by
    by_cases e : p = q + 1
    · subst e; exact ⟨[], by simp⟩
    · obtain ⟨r, hr⟩ := pls_pre m (p := p) q (by omega)
      show ∃ r, (if m.testBit q then pls m q ++ [q] else pls m q) = pls m p ++ r
      split
      · exact ⟨r ++ [q], by rw [hr]; simp⟩
      · exact ⟨r, hr⟩
theorem cnt_mono (f : Nat → Bool) {a : Nat} : ∀ b, a ≤ b → cnt f a ≤ cnt f b
  | 0, h => by have : a = 0 := by omega
               subst this; exact Nat.le_refl _
  | b + 1, h => by
    by_cases e : a = b + 1
    · subst e; exact Nat.le_refl _
    · have := cnt_mono f (a := a) b (by omega)
      show cnt f a ≤ if f b then cnt f b + 1 else cnt f b
      split <;> omega
theorem cnt_s (f : Nat → Bool) (n : Nat) : cnt f (n + 1) = if f n then cnt f n + 1 else cnt f n := rfl
theorem nth_at {m p : Nat} (hp : p < 12) (h : m.testBit p = true) : nth m (cnt (fun i => m.testBit i) p) = p := by
  obtain ⟨r, hr⟩ := pls_pre m (p := p + 1) 12 (by omega)
  have e : pls m (p + 1) = pls m p ++ [p] := by
    show (if m.testBit p then _ else _) = _
    rw [if_pos h]
  unfold nth
  rw [hr, e, ← pls_len]
  simp
theorem cnt_lt {f : Nat → Bool} {p n : Nat} (hp : p < n) (h : f p = true) : cnt f p < cnt f n := by
  have h1 : cnt f (p + 1) = cnt f p + 1 := by rw [cnt_s, if_pos h]
  have h2 := cnt_mono f (a := p + 1) n (by omega)
  omega
/-- each place below n holds a paper of the mask -/
theorem nth_ex (m : Nat) : ∀ (n k : Nat), k < cnt (fun i => m.testBit i) n → ∃ p, p < n ∧ m.testBit p = true ∧ cnt (fun i => m.testBit i) p = k
  | 0, k, h => absurd h (Nat.not_lt_zero _)
  | n + 1, k, h => by
    rw [cnt_s] at h
    cases hb : m.testBit n with
    | false =>
      rw [hb, if_neg (by decide)] at h
      obtain ⟨p, h1, h2⟩ := nth_ex m n k h
      exact ⟨p, by omega, h2⟩
    | true =>
      rw [hb, if_pos rfl] at h
      by_cases e : k = cnt (fun i => m.testBit i) n
      · exact ⟨n, by omega, hb, e.symm⟩
      · obtain ⟨p, h1, h2⟩ := nth_ex m n k (by omega)
        exact ⟨p, by omega, h2⟩
theorem nth_in {m k : Nat} (h : k < nof m) : nth m k < 12 ∧ m.testBit (nth m k) = true ∧ cnt (fun i => m.testBit i) (nth m k) = k := by
  obtain ⟨p, h1, h2, h3⟩ := nth_ex m 12 k h
  have := nth_at h1 h2
  rw [h3] at this
  rw [this]
  exact ⟨h1, h2, h3⟩
theorem nth_lt {m j k : Nat} (hjk : j < k) (h : k < nof m) : nth m j < nth m k := by
  have h1 := nth_in h
  have h2 := nth_in (m := m) (k := j) (by omega)
  rcases Nat.lt_or_ge (nth m j) (nth m k) with q | q
  · exact q
  · have := cnt_mono (fun i => m.testBit i) _ q
    omega
/-- TIMES together -/
def smt (B : Bk) (c : Int) (m : Nat) : Nat → Int
  | 0 => 0
  | k + 1 => smt B c m k + tm B c (nth m k)
/-- a mask of papers of one that are there, four at most -/
def okm (B : Bk) (m : Nat) : Prop := m < 4096 ∧ nof m ≤ 4 ∧ ∀ p, m.testBit p = true → (p : Int) < B 8 0
theorem smt_b {B : Bk} (w : WF B) {c : Int} (hc : 0 ≤ c) (hc2 : c < B 8 1) {m : Nat} (hm : okm B m) : ∀ k, k ≤ nof m → (k : Int) ≤ smt B c m k ∧ smt B c m k ≤ 24 * k
  | 0, _ => ⟨by simp [smt], by simp [smt]⟩
  | k + 1, h => by
    have ih := smt_b w hc hc2 hm k (by omega)
    have h1 := nth_in (m := m) (k := k) (by omega)
    have h2 := tm_b w hc hc2 (p := (nth m k : Int)) (by omega) (hm.2.2 _ h1.2.1)
    unfold smt
    omega
/-- the class' Orders hold the papers of a mask -/
def isOr (σ : Mem) (B : Bk) (c : Int) (m : Nat) (f : Int) (a : Nat) : Prop := σ 36 6 = (nof m : Int) ∧ σ 36 7 = rs B c ∧ σ 36 8 = f ∧ σ 36 9 = B 8 3 - a - smt B c m (nof m) ∧ σ 36 10 = ((spn 0 a : Nat) : Int) ∧ ∀ k : Nat, k < nof m → σ 37 k = (nth m k : Int) ∧ σ 38 k = B 1 (nth m k) ∧ σ 39 k = tm B c (nth m k)
theorem X3_gather {σ : Mem} {B : Bk} {b : Int} (hb : isB b) (hB : isBk σ b B) (w : WF B) {c : Int} (hc : 0 ≤ c) (hc2 : c < B 8 1) {m : Nat} (hm : okm B m) (f : Int) {a : Nat} (ha : a ≤ 48) : ∃ τ, f_X3_gather σ b c m f a = some τ ∧ isOr τ B c m f a ∧ ∀ x, ¬ (36 ≤ x ∧ x ≤ 39) → τ x = σ x := by
  have hn := w.1
  unfold WFn at hn
  unfold isB at hb
  obtain ⟨n, en⟩ := n_of hn.1.1
  have hm1 := hm.1
  unfold f_X3_gather
  simp only [Option.bind_some]
  have e0 : jsub (mup (mup (mup σ 36 6 0) 36 7 (rs B c)) 36 8 f b 11) a = B 8 3 - a := by
    rw [mup_miss (by omega), mup_miss (by omega), mup_miss (by omega), hB.hours, jsub_ok (by omega) (by omega)]
  rw [bind_some' (X0_restFor (hB.rows (fun x h1 h2 => mup_row (by omega))) w hc hc2)]
  have es : ∀ ρ : Mem, f_X10_span ρ 0 (a : Int) = some ((spn 0 a : Nat) : Int) := fun ρ => span_n (a := 0) (by omega) ha
  rw [e0, bind_some' (es _)]
  unfold f_X3_gather_44
  obtain ⟨σ0, hσ0⟩ : ∃ z, z = mup (mup (mup (mup (mup σ 36 6 0) 36 7 (rs B c)) 36 8 f) 36 9 (B 8 3 - a)) 36 10 ((spn 0 a : Nat) : Int) := ⟨_, rfl⟩
  rw [← hσ0]
  have r0 : ∀ x, ¬ (36 ≤ x ∧ x ≤ 39) → σ0 x = σ x := fun x hx => by
    rw [hσ0, mup_row (by omega), mup_row (by omega), mup_row (by omega), mup_row (by omega), mup_row (by omega)]
  have key := loop_ex (f := f_X3_gather_44B b c m) (fun s => ∃ k : Nat, s.1 = (k : Int) ∧ k ≤ n ∧ (∀ x, ¬ (36 ≤ x ∧ x ≤ 39) → s.2 x = σ x) ∧ s.2 36 6 = (cnt (fun i => m.testBit i) k : Int) ∧ s.2 36 7 = rs B c ∧ s.2 36 8 = f ∧ s.2 36 9 = B 8 3 - a - smt B c m (cnt (fun i => m.testBit i) k) ∧ s.2 36 10 = ((spn 0 a : Nat) : Int) ∧ ∀ j : Nat, j < cnt (fun i => m.testBit i) k → s.2 37 j = (nth m j : Int) ∧ s.2 38 j = B 1 (nth m j) ∧ s.2 39 j = tm B c (nth m j)) (fun s => (12 - s.1).toNat) (fun τ => isOr τ B c m f a ∧ ∀ x, ¬ (36 ≤ x ∧ x ≤ 39) → τ x = σ x) (a := (0, σ0)) ?_ (Nat.le_of_ble_eq_true rfl) ?_
  · obtain ⟨τ, h1, h2⟩ := key
    exact ⟨τ, by rw [h1]; rfl, h2⟩
  · refine ⟨0, rfl, Nat.zero_le _, r0, ?_, ?_, ?_, ?_, ?_, fun j hj => absurd hj (Nat.not_lt_zero _)⟩
    · show σ0 36 6 = 0
      rw [hσ0, mup_miss (by omega), mup_miss (by omega), mup_miss (by omega), mup_miss (by omega), mup_hit rfl rfl]
    · show σ0 36 7 = _
      rw [hσ0, mup_miss (by omega), mup_miss (by omega), mup_miss (by omega), mup_hit rfl rfl]
    · show σ0 36 8 = _
      rw [hσ0, mup_miss (by omega), mup_miss (by omega), mup_hit rfl rfl]
    · show σ0 36 9 = _
      rw [hσ0, mup_miss (by omega), mup_hit rfl rfl]
      simp [cnt, smt]
    · show σ0 36 10 = _
      rw [hσ0, mup_hit rfl rfl]
  · rintro ⟨_, τ⟩ ⟨k, rfl, hk, hrow, g6, g7, g8, g9, g10, gj⟩
    dsimp only at hrow g6 g7 g8 g9 g10 gj
    have hBt : isBk τ b B := hB.rows (fun x h1 h2 => hrow x (by omega))
    show (∃ a', f_X3_gather_44C b c m (k : Int) τ = _ ∧ _) ∨ ∃ a', f_X3_gather_44C b c m (k : Int) τ = _ ∧ _
    unfold f_X3_gather_44C
    rw [hBt.nP]
    by_cases hkn : B 8 0 ≤ k
    · right
      rw [if_pos hkn]
      have : k = n := by omega
      subst this
      have hnof : cnt (fun i => m.testBit i) k = nof m := by
        unfold nof
        have : ∀ q, k ≤ q → cnt (fun i => m.testBit i) q = cnt (fun i => m.testBit i) k := by
          intro q
          induction q with
          | zero => intro h; have : k = 0 := by omega
                    subst this; rfl
          | succ q ih =>
            intro h
            by_cases e : k = q + 1
            · subst e; rfl
            · rw [cnt_s, if_neg, ih (by omega)]
              intro hq
              have := hm.2.2 q hq
              omega
        exact (this 12 (by omega)).symm
      refine ⟨_, rfl, ⟨?_, g7, g8, ?_, g10, ?_⟩, hrow⟩
      · show τ 36 6 = _; rw [g6, hnof]
      · show τ 36 9 = _; rw [g9, hnof]
      · rw [← hnof]; exact gj
    · left
      rw [if_neg hkn, bind_some' (hasBit_n (by omega) (by omega))]
      have e1 : jadd (k : Int) 1 = ((k + 1 : Nat) : Int) := by rw [jadd_ok (by omega) (by omega)]; omega
      cases hbit : m.testBit k with
      | false =>
        have ec : cnt (fun i => m.testBit i) (k + 1) = cnt (fun i => m.testBit i) k := by rw [cnt_s, hbit]; rfl
        rw [if_pos (by decide)]
        refine ⟨(((k + 1 : Nat) : Int), τ), ?_, ⟨k + 1, rfl, by omega, hrow, ?_⟩, by show (12 - ((k + 1 : Nat) : Int)).toNat < (12 - (k : Int)).toNat; omega⟩
        · unfold f_X3_gather_141
          rw [e1]; rfl
        · rw [ec]; exact ⟨g6, g7, g8, g9, g10, gj⟩
      | true =>
        obtain ⟨kk, ekk⟩ : ∃ z, z = cnt (fun i => m.testBit i) k := ⟨_, rfl⟩
        have hkk : kk < nof m := by rw [ekk]; exact cnt_lt (f := fun i => m.testBit i) (by omega) hbit
        have hnk : nth m kk = k := by rw [ekk]; exact nth_at (by omega) hbit
        have ec : cnt (fun i => m.testBit i) (k + 1) = kk + 1 := by rw [cnt_s, hbit, ekk]; rfl
        have h4 := hm.2.1
        rw [← ekk] at g6 g9 gj
        have hs := smt_b w hc hc2 hm kk (by omega)
        have ht := tm_b w hc hc2 (p := (k : Int)) (by omega) (by omega)
        rw [if_neg (by decide)]
        show ∃ a', (if 4 ≤ τ 36 6 then _ else _) = _ ∧ _
        rw [g6, if_neg (by omega), chk_pos (by omega)]
        simp only [Option.bind_some]
        rw [chk_pos (by omega)]
        rw [show mup τ 37 (kk : Int) (k : Int) 36 6 = (kk : Int) by rw [mup_miss (by omega), g6], chk_pos (by omega)]
        rw [show mup τ 37 (kk : Int) (k : Int) (b + 2) (k : Int) = B 1 k by rw [mup_miss (by omega), hBt.start (by omega) (by omega)]]
        obtain ⟨τ2, hτ2⟩ : ∃ z, z = mup (mup τ 37 (kk : Int) (k : Int)) 38 (kk : Int) (B 1 k) := ⟨_, rfl⟩
        have r2 : ∀ x, ¬ (36 ≤ x ∧ x ≤ 39) → τ2 x = σ x := fun x hx => by rw [hτ2, mup_row (by omega), mup_row (by omega), hrow x hx]
        have r36 : ∀ j, τ2 36 j = τ 36 j := fun j => by rw [hτ2, mup_miss (by omega), mup_miss (by omega)]
        rw [← hτ2, bind_some' (X0_timeFor (hB.rows (fun x h1 h2 => r2 x (by omega))) w hc hc2 (by omega) (by omega)), r36, g6, chk_pos (by omega)]
        rw [show mup τ2 39 (kk : Int) (tm B c k) 36 6 = (kk : Int) by rw [mup_miss (by omega), r36, g6], chk_pos (by omega)]
        rw [show mup τ2 39 (kk : Int) (tm B c k) 36 9 = B 8 3 - a - smt B c m kk by rw [mup_miss (by omega), r36, g9], mup_hit rfl rfl, jsub_ok (by omega) (by omega)]
        rw [show mup (mup τ2 39 (kk : Int) (tm B c k)) 36 9 (B 8 3 - a - smt B c m kk - tm B c k) 36 6 = (kk : Int) by rw [mup_miss (by omega), mup_miss (by omega), r36, g6], jadd_ok (a := (kk : Int)) (by omega) (by omega)]
        unfold f_X3_gather_141
        rw [e1]
        refine ⟨_, rfl, ⟨k + 1, rfl, by omega, ?_, ?_, ?_, ?_, ?_, ?_, ?_⟩, by show (12 - ((k + 1 : Nat) : Int)).toNat < (12 - (k : Int)).toNat; omega⟩
        · intro x hx
          dsimp only
          rw [mup_row (by omega), mup_row (by omega), mup_row (by omega), r2 x hx]
        · dsimp only
          rw [mup_hit rfl rfl, ec]; omega
        · dsimp only
          rw [mup_miss (by omega), mup_miss (by omega), mup_miss (by omega), r36, g7]
        · dsimp only
          rw [mup_miss (by omega), mup_miss (by omega), mup_miss (by omega), r36, g8]
        · dsimp only
          rw [mup_miss (by omega), mup_hit rfl rfl, ec]
          show _ = B 8 3 - a - (smt B c m kk + tm B c (nth m kk))
          rw [hnk]; omega
        · dsimp only
          rw [mup_miss (by omega), mup_miss (by omega), mup_miss (by omega), r36, g10]
        · intro j hj
          rw [ec] at hj
          dsimp only
          by_cases ej : j = kk
          · subst ej
            rw [hnk]
            refine ⟨?_, ?_, ?_⟩
            · rw [mup_miss (by omega), mup_miss (by omega), mup_miss (by omega), hτ2, mup_miss (by omega), mup_hit rfl rfl]
            · rw [mup_miss (by omega), mup_miss (by omega), mup_miss (by omega), hτ2, mup_hit rfl rfl]
            · rw [mup_miss (by omega), mup_miss (by omega), mup_hit rfl rfl]
          · obtain ⟨q1, q2, q3⟩ := gj j (by omega)
            refine ⟨?_, ?_, ?_⟩
            · rw [mup_miss (by omega), mup_miss (by omega), mup_miss (by omega), hτ2, mup_miss (by omega), mup_miss (by omega)]; exact q1
            · rw [mup_miss (by omega), mup_miss (by omega), mup_miss (by omega), hτ2, mup_miss (by omega), mup_miss (by omega)]; exact q2
            · rw [mup_miss (by omega), mup_miss (by omega), mup_miss (by omega), hτ2, mup_miss (by omega), mup_miss (by omega)]; exact q3
