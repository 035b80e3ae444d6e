/-! TOGETHER, both sides -/
def DD (B : Bk) (c : Int) (d t : Nat) : Int := dd B c (ovr B c d) (fre B c (ovr B c d)) (ahd B c (ovr B c d)) (dpl B c d (ovr B c d)) t
def tgm (B : Bk) (p : Int) (d t : Nat) : Nat → Nat := mset fun i => decide (DD B i d t = p)
theorem tgm_s {B : Bk} {p : Int} {d t n : Nat} (hn : n < 10) : jor ((tgm B p d t n : Nat) : Int) (if DD B n d t = p then jshl 1 (n : Int) else 0) = ((tgm B p d t (n + 1) : Nat) : Int) := by
  have h1 := mset_lt (fun i => decide (DD B i d t = p)) n
  have h2 : 2 ^ n ≤ 2 ^ 10 := Nat.pow_le_pow_right (by decide) (by omega)
  have h3 : (2 : Nat) ^ 10 = 1024 := by decide
  have h4 : tgm B p d t n < 1024 := by unfold tgm; omega
  have hl : tgm B p d t n < 2 ^ (n + 1) := by unfold tgm; rw [Nat.pow_succ]; omega
  by_cases h : DD B n d t = p
  · rw [if_pos h, jshl_n (by omega), jor_n (by omega) (by omega)]
    congr 1
    refine tb_ext (n := n + 1) (Nat.or_lt_two_pow hl (by rw [Nat.pow_succ]; omega)) (mset_lt _ _) fun i hi => ?_
    unfold tgm
    rw [Nat.testBit_or, mset_tb, mset_tb, Nat.testBit_two_pow]
    by_cases e : n = i
    · subst e; simp [h]
    · simp [e, show i < n by omega, hi]
  · rw [if_neg h, show (0 : Int) = ((0 : Nat) : Int) from rfl, jor_n (by omega) (by omega), Nat.or_zero]
    congr 1
    refine tb_ext (n := n + 1) hl (mset_lt _ _) fun i hi => ?_
    unfold tgm
    rw [mset_tb, mset_tb]
    by_cases e : n = i
    · subst e; simp [h]
    · simp [show i < n by omega, hi]
theorem tgm_0 {B : Bk} {p : Int} {d t n : Nat} (hn : n < 10) (h : DD B n d t ≠ p) : tgm B p d t (n + 1) = tgm B p d t n := by
  have := tgm_s (B := B) (p := p) (d := d) (t := t) hn
  have h1 := mset_lt (fun i => decide (DD B i d t = p)) n
  have h2 : 2 ^ n ≤ 2 ^ 10 := Nat.pow_le_pow_right (by decide) (by omega)
  have h3 : (2 : Nat) ^ 10 = 1024 := by decide
  have h4 : tgm B p d t n < 1024 := by unfold tgm; omega
  rw [if_neg h, show (0 : Int) = ((0 : Nat) : Int) from rfl, jor_n (by omega) (by omega), Nat.or_zero] at this
  omega
theorem X10_together39 {σ : Mem} {B : Bk} (h : ST σ B) {p : Int} {d t : Nat} (hd : d < 5) (ht : t < 48) {N : Nat} (hN : B 8 1 = N) : ∃ τ, f_X10_together_39 σ p d t 0 0 = some (((tgm B p d t N : Nat) : Int), τ) ∧ CFr σ τ ∧ ST τ B := by
  have hn := h.2.2.1.1
  unfold WFn at hn
  unfold f_X10_together_39
  obtain ⟨e, e1, e2, e3, e4⟩ := loop_ex (f := f_X10_together_39B p d t) (fun s => ∃ i : Nat, s.2.1 = (i : Int) ∧ i ≤ N ∧ s.1 = ((tgm B p d t i : Nat) : Int) ∧ CFr σ s.2.2 ∧ ST s.2.2 B) (fun s => (10 - s.2.1).toNat) (fun e => e.1 = ((tgm B p d t N : Nat) : Int) ∧ CFr σ e.2 ∧ ST e.2 B) (a := (0, 0, σ)) ⟨0, rfl, Nat.zero_le _, rfl, CFr.rfl, h⟩ (Nat.le_of_ble_eq_true rfl) (by
    rintro ⟨x4, _, τ⟩ ⟨i, rfl, hi, g4, k1, k2⟩
    have g4 : x4 = _ := g4
    have k1 : CFr σ τ := k1
    have k2 : ST τ B := k2
    show (∃ a', f_X10_together_39C p d t x4 (i : Int) τ = _ ∧ _) ∨ ∃ a', f_X10_together_39C p d t x4 (i : Int) τ = _ ∧ _
    unfold f_X10_together_39C
    rw [k2.1.nC]
    by_cases hend : B 8 1 ≤ i
    · right
      rw [if_pos hend]
      have : i = N := by omega
      subst this
      exact ⟨_, rfl, g4, k1, k2⟩
    · left
      obtain ⟨ρ, a1, a2, a3, a4, a5⟩ := ask k2 (c := (i : Int)) (by omega) (by omega)
      have w := k2.2.2.1
      rw [if_neg hend, bind_some' a1, bind_some' (X8_deed w (by omega) (by omega) hd (a5 d hd) (wk_came a5 hd) ht)]
      have fin : ∀ z : Int, z = ((tgm B p d t (i + 1) : Nat) : Int) → ∃ a', f_X10_together_82 ρ p d t z (i : Int) = some (.inl a') ∧ (∃ i : Nat, a'.2.1 = (i : Int) ∧ i ≤ N ∧ a'.1 = ((tgm B p d t i : Nat) : Int) ∧ CFr σ a'.2.2 ∧ ST a'.2.2 B) ∧ (10 - a'.2.1).toNat < (10 - (i : Int)).toNat := fun z hz => by
        unfold f_X10_together_82
        simp only [Option.bind_some]
        rw [jadd_ok (by omega) (by omega)]
        exact ⟨_, rfl, ⟨i + 1, by show (i : Int) + 1 = _; omega, by omega, hz, k1.trans a2, a4⟩, by show (10 - ((i : Int) + 1)).toNat < (10 - (i : Int)).toNat; omega⟩
      have es := tgm_s (B := B) (p := p) (d := d) (t := t) (n := i) (by omega)
      show ∃ a', (if DD B i d t ≠ p then _ else _) = _ ∧ _
      by_cases hp : DD B i d t ≠ p
      · rw [if_pos hp]
        exact fin x4 (by rw [g4, tgm_0 (by omega) hp])
      · rw [if_neg hp]
        rw [if_pos (Decidable.not_not.mp hp)] at es
        exact fin _ (by rw [g4, es]))
  rw [e1]
  exact ⟨e.2, by show some (e.1, e.2) = _; rw [e2], e3, e4⟩
theorem X11_together35 {σ : Mem} {B : Bk} (hR : isRk σ 182 B) (w : WF B) {p : Int} {d t : Nat} (hd : d < 5) (ht : t < 48) {N : Nat} (hN : B 8 1 = N) : ∃ τ, f_X11_together_35 σ p d t 0 0 = some (((tgm B p d t N : Nat) : Int), τ) ∧ ∀ x, ¬ (192 ≤ x ∧ x ≤ 202) → τ x = σ x := by
  have hn := w.1
  unfold WFn at hn
  unfold f_X11_together_35
  obtain ⟨e, e1, e2, e3⟩ := loop_ex (f := f_X11_together_35B p d t) (fun s => ∃ i : Nat, s.2.1 = (i : Int) ∧ i ≤ N ∧ s.1 = ((tgm B p d t i : Nat) : Int) ∧ ∀ x, ¬ (192 ≤ x ∧ x ≤ 202) → s.2.2 x = σ x) (fun s => (10 - s.2.1).toNat) (fun e => e.1 = ((tgm B p d t N : Nat) : Int) ∧ ∀ x, ¬ (192 ≤ x ∧ x ≤ 202) → e.2 x = σ x) (a := (0, 0, σ)) ⟨0, rfl, Nat.zero_le _, rfl, fun _ _ => rfl⟩ (Nat.le_of_ble_eq_true rfl) (by
    rintro ⟨x4, _, τ⟩ ⟨i, rfl, hi, g4, k1⟩
    have g4 : x4 = _ := g4
    have k1 : ∀ x, ¬ (192 ≤ x ∧ x ≤ 202) → τ x = σ x := k1
    show (∃ a', f_X11_together_35C p d t x4 (i : Int) τ = _ ∧ _) ∨ ∃ a', f_X11_together_35C p d t x4 (i : Int) τ = _ ∧ _
    unfold f_X11_together_35C
    have hRt : isRk τ 182 B := hR.row (k1 182 (by decide))
    rw [chk_pos (by decide), hRt.nC]
    by_cases hend : B 8 1 ≤ i
    · right
      rw [if_pos hend]
      have : i = N := by omega
      subst this
      exact ⟨_, rfl, g4, k1⟩
    · left
      obtain ⟨ρ, t1, t2, t3⟩ := X11_plans hRt w (c := (i : Int)) (by omega) (by omega)
      rw [if_neg hend, bind_some' t1, bind_some' (X11_doing (hRt.row (t2 182 (by decide))) w (by omega) (by omega) hd t3 ht)]
      have fin : ∀ z : Int, jor x4 z = ((tgm B p d t (i + 1) : Nat) : Int) → ∃ a', f_X11_together_75 ρ p d t (i : Int) z x4 = some (.inl a') ∧ (∃ i : Nat, a'.2.1 = (i : Int) ∧ i ≤ N ∧ a'.1 = ((tgm B p d t i : Nat) : Int) ∧ ∀ x, ¬ (192 ≤ x ∧ x ≤ 202) → a'.2.2 x = σ x) ∧ (10 - a'.2.1).toNat < (10 - (i : Int)).toNat := fun z hz => by
        unfold f_X11_together_75
        simp only [Option.bind_some]
        rw [jadd_ok (by omega) (by omega)]
        exact ⟨_, rfl, ⟨i + 1, by show (i : Int) + 1 = _; omega, by omega, hz, fun x hx => by show ρ x = _; rw [t2 x hx, k1 x hx]⟩, by show (10 - ((i : Int) + 1)).toNat < (10 - (i : Int)).toNat; omega⟩
      have es := tgm_s (B := B) (p := p) (d := d) (t := t) (n := i) (by omega)
      show ∃ a', (if DD B i d t ≠ p then _ else _) = _ ∧ _
      by_cases hp : DD B i d t ≠ p
      · rw [if_pos hp]
        rw [if_neg hp] at es
        exact fin 0 (by rw [g4, es])
      · rw [if_neg hp]
        rw [if_pos (Decidable.not_not.mp hp)] at es
        exact fin _ (by rw [g4, es]))
  rw [e1]
  exact ⟨e.2, by show some (e.1, e.2) = _; rw [e2], e3⟩
