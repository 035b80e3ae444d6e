/-! QUESTIONS: status, kinds (by mk68.py) -/
theorem cnt_cut {f : Nat → Bool} {n : Nat} (h : ∀ i, n ≤ i → f i = false) : ∀ m, n ≤ m → cnt f m = cnt f n
  | 0, hm => by rw [show n = 0 by omega]
  | m + 1, hm => by
    by_cases e : n = m + 1
    · rw [e]
    · rw [cnt_s, h m (by omega), if_neg (by decide), cnt_cut h m (by omega)]
theorem anyN_mono {p : Nat → Bool} {k : Nat} (h : anyN p k = true) : ∀ n, k ≤ n → anyN p n = true
  | 0, hn => by rw [show k = 0 by omega] at h; exact h
  | n + 1, hn => by
    by_cases e : k = n + 1
    · rw [← e]; exact h
    · rw [anyN_s, anyN_mono h n (by omega)]; rfl
theorem tb_or {g h : Nat → Bool} {n i : Nat} {b : Bool} (hi : i < n) (hg : ∀ d, d < n → h d = (g d || (decide (d = i) && b))) : mset g n ||| (if b then 2 ^ i else 0) = mset h n := by
  have hp : 2 ^ i < 2 ^ n := Nat.pow_lt_pow_right (by decide) hi
  have hp2 : 0 < 2 ^ i := Nat.pow_pos (by decide)
  refine tb_ext (n := n) (Nat.or_lt_two_pow (mset_lt _ _) (by split <;> omega)) (mset_lt _ _) fun d hd => ?_
  rw [Nat.testBit_or, mset_tb, mset_tb, hg d hd]
  cases b
  · simp [hd]
  · rw [if_pos rfl, Nat.testBit_two_pow]
    by_cases e : i = d
    · subst e; simp [hd]
    · have e2 : ¬ d = i := fun z => e z.symm
      simp [e, e2, hd]
/-- all that are taken -/
def takS (B : Bk) : Nat → Nat
  | 0 => 0
  | c + 1 => takS B c + cnt (fun i => (B 6 c).toNat.testBit i) 12
theorem takS_b (B : Bk) : ∀ n, takS B n ≤ 12 * n
  | 0 => Nat.le_refl _
  | n + 1 => by
    have h1 := takS_b B n
    have h2 := cnt_le (fun i => (B 6 n).toNat.testBit i) 12
    show takS B n + cnt _ 12 ≤ 12 * (n + 1)
    omega
theorem X0_takenInAll {σ : Mem} {B : Bk} (hB : isBk σ 1 B) (w : WF B) {N : Nat} (hN : B 8 1 = N) : f_X0_takenInAll σ 1 = some ((takS B N : Nat) : Int) := by
  have hn := w.1
  unfold WFn at hn
  unfold f_X0_takenInAll f_X0_takenInAll_4
  rw [show loop (f_X0_takenInAll_4B σ 1) FU (0, 0) = some ((takS B N : Nat) : Int) from loop_is (P := fun s => ∃ i : Nat, s.2 = (i : Int) ∧ i ≤ N ∧ s.1 = ((takS B i : Nat) : Int)) (μ := fun s => (10 - s.2).toNat) (by
    rintro ⟨x4, _⟩ ⟨i, rfl, hi, g4⟩
    have g4 : x4 = _ := g4
    show (∃ a', f_X0_takenInAll_4C σ 1 x4 (i : Int) = _ ∧ _) ∨ f_X0_takenInAll_4C σ 1 x4 (i : Int) = _
    unfold f_X0_takenInAll_4C
    rw [hB.nC]
    have hb := takS_b B i
    by_cases hend : B 8 1 ≤ i
    · right
      rw [if_pos hend, g4]
      have : i = N := by omega
      rw [this]
    · left
      have hc := (w.2.2.1 i (by omega) (by omega)).2.2.2.1
      obtain ⟨m, hm⟩ := n_of hc.1
      have h2 := cnt_le (fun i => m.testBit i) 12
      rw [if_neg hend, chk_pos (by omega), show σ (1 + 7) (i : Int) = B 6 i from hB.takes (by omega) (by omega), hm, bind_some' (bitCount32_n (by omega))]
      simp only [Option.bind_some]
      rw [jadd_ok (by omega) (by omega), jadd_ok (by omega) (by omega)]
      refine ⟨_, rfl, ⟨i + 1, by show (i : Int) + 1 = _; omega, by omega, ?_⟩, by show (10 - ((i : Int) + 1)).toNat < (10 - (i : Int)).toNat; omega⟩
      show x4 + _ = ((takS B i + cnt (fun j => (B 6 i).toNat.testBit j) 12 : Nat) : Int)
      rw [hm, Int.toNat_natCast, g4]
      omega) ⟨0, rfl, Nat.zero_le _, rfl⟩ (Nat.le_of_ble_eq_true rfl)]
  rfl
/-- the days on which somebody can't -/
def noD (B : Bk) (d c : Nat) : Bool := (dpl B c d (ovr B c d)).isNone
def badF (B : Bk) (n d : Nat) : Bool := anyN (noD B d) n
theorem X10_days14 {σ : Mem} {B : Bk} (h : ST σ B) {d : Nat} (hd : d < 5) {N : Nat} (hN : B 8 1 = N) {x1 : Int} (hx : 0 ≤ x1 ∧ x1 ≤ 100) : ∃ τ, f_X10_daysSomebodyCant_14 σ x1 d 0 0 = some (.inl (x1 + (if badF B N d then 1 else 0), (d : Int) + 1, τ)) ∧ CFr σ τ ∧ ST τ B := by
  have hn := h.2.2.1.1
  unfold WFn at hn
  have w := h.2.2.1
  unfold f_X10_daysSomebodyCant_14
  obtain ⟨e, e1, e2, e3, e4⟩ := loop_ex (f := f_X10_daysSomebodyCant_14B x1 d) (fun s => ∃ i : Nat, s.2.1 = (i : Int) ∧ i ≤ N ∧ s.1 = (if badF B i d then 1 else 0) ∧ CFr σ s.2.2 ∧ ST s.2.2 B) (fun s => (10 - s.2.1).toNat) (fun e => e.1 = (if badF B N d then 1 else 0) ∧ CFr σ e.2 ∧ ST e.2 B) (a := (0, 0, σ)) ⟨0, rfl, Nat.zero_le _, rfl, CFr.rfl, h⟩ (Nat.le_of_ble_eq_true rfl) (by
    rintro ⟨x4, _, τ⟩ ⟨i, rfl, hi, g4, k1, k2⟩
    have g4 : x4 = (if badF B i d then 1 else 0) := g4
    have k1 : CFr σ τ := k1
    have k2 : ST τ B := k2
    show (∃ a', f_X10_daysSomebodyCant_14C x1 d x4 (i : Int) τ = _ ∧ _) ∨ ∃ a', f_X10_daysSomebodyCant_14C x1 d x4 (i : Int) τ = _ ∧ _
    unfold f_X10_daysSomebodyCant_14C
    rw [k2.1.nC]
    by_cases hend : B 8 1 ≤ i
    · right
      rw [if_pos hend]
      have : i = N := by omega
      subst this
      exact ⟨_, rfl, g4, k1, k2⟩
    · rw [if_neg hend]
      cases hb : badF B i d with
      | true =>
        right
        rw [g4, hb, bt, if_pos (by decide)]
        have : badF B N d = true := anyN_mono hb N hi
        exact ⟨_, rfl, by rw [this]; rfl, k1, k2⟩
      | false =>
        left
        obtain ⟨ρ, a1, a2, a3, a4, a5⟩ := ask k2 (c := (i : Int)) (by omega) (by omega)
        have pp1 : ((54 + 10 * (i : Int), ρ) : Int × Mem).1 = 54 + 10 * (i : Int) := rfl
        have pp2 : ((54 + 10 * (i : Int), ρ) : Int × Mem).2 = ρ := rfl
        rw [g4, hb, bf, if_neg (by decide), bind_some' a1, pp1, pp2, chk_pos (by omega), isWd_can (a5 d hd)]
        have fin : ∀ z : Int, z = (if badF B (i + 1) d then 1 else 0) → ∃ a', f_X10_daysSomebodyCant_56 ρ x1 d (i : Int) z = some (.inl a') ∧ (∃ i : Nat, a'.2.1 = (i : Int) ∧ i ≤ N ∧ a'.1 = (if badF B i d then 1 else 0) ∧ CFr σ a'.2.2 ∧ ST a'.2.2 B) ∧ (10 - a'.2.1).toNat < (10 - (i : Int)).toNat := fun z hz => by
          unfold f_X10_daysSomebodyCant_56
          simp only [Option.bind_some]
          rw [jadd_ok (by omega) (by omega)]
          exact ⟨_, rfl, ⟨i + 1, by show (i : Int) + 1 = _; omega, by omega, hz, k1.trans a2, a4⟩, by show (10 - ((i : Int) + 1)).toNat < (10 - (i : Int)).toNat; omega⟩
        have es : badF B (i + 1) d = (badF B i d || noD B d i) := anyN_s _ _
        rw [hb, Bool.false_or] at es
        unfold noD at es
        cases hx2 : (dpl B i d (ovr B i d)).isNone with
        | true =>
          rw [bt, if_neg (by decide)]
          exact fin 1 (by rw [es, hx2]; rfl)
        | false =>
          rw [bf, if_pos (by decide)]
          exact fin 0 (by rw [es, hx2]; rfl))
  rw [e1]
  refine ⟨e.2, ?_, e3, e4⟩
  show f_X10_daysSomebodyCant_63 e.2 x1 d e.1 = _
  unfold f_X10_daysSomebodyCant_63 f_X10_daysSomebodyCant_70
  rw [e2]
  cases badF B N d with
  | true =>
    rw [bt, if_neg (by decide), jadd_ok (by omega) (by omega)]
    simp only [Option.bind_some]
    rw [jadd_ok (by omega) (by omega)]
  | false =>
    rw [bf, if_pos rfl]
    simp only [Option.bind_some]
    rw [jadd_ok (by omega) (by omega), Int.add_zero]
theorem X10_days {σ : Mem} {B : Bk} (h : ST σ B) {N : Nat} (hN : B 8 1 = N) : ∃ τ, f_X10_daysSomebodyCant σ = some (((cnt (badF B N) 5 : Nat) : Int), τ) ∧ CFr σ τ ∧ ST τ B := by
  unfold f_X10_daysSomebodyCant f_X10_daysSomebodyCant_4
  obtain ⟨e, e1, e2, e3, e4⟩ := loop_ex (f := f_X10_daysSomebodyCant_4B) (fun s => ∃ i : Nat, s.2.1 = (i : Int) ∧ i ≤ 5 ∧ s.1 = ((cnt (badF B N) i : Nat) : Int) ∧ CFr σ s.2.2 ∧ ST s.2.2 B) (fun s => (10 - s.2.1).toNat) (fun e => e.1 = ((cnt (badF B N) 5 : Nat) : Int) ∧ CFr σ e.2 ∧ ST e.2 B) (a := (0, 0, σ)) ⟨0, rfl, Nat.zero_le _, rfl, CFr.rfl, h⟩ (Nat.le_of_ble_eq_true rfl) (by
    rintro ⟨x4, _, τ⟩ ⟨i, rfl, hi, g4, k1, k2⟩
    have g4 : x4 = ((cnt (badF B N) i : Nat) : Int) := g4
    have k1 : CFr σ τ := k1
    have k2 : ST τ B := k2
    show (∃ a', f_X10_daysSomebodyCant_4C x4 (i : Int) τ = _ ∧ _) ∨ ∃ a', f_X10_daysSomebodyCant_4C x4 (i : Int) τ = _ ∧ _
    unfold f_X10_daysSomebodyCant_4C
    by_cases hend : (5 : Int) ≤ i
    · right
      rw [if_pos hend]
      have : i = 5 := by omega
      subst this
      exact ⟨_, rfl, g4, k1, k2⟩
    · left
      have hb := cnt_le (badF B N) i
      obtain ⟨ρ, a1, a2, a3⟩ := X10_days14 k2 (d := i) (by omega) hN (x1 := x4) (by omega)
      rw [if_neg hend, a1]
      refine ⟨_, rfl, ⟨i + 1, by show (i : Int) + 1 = _; omega, by omega, ?_, k1.trans a2, a3⟩, by show (10 - ((i : Int) + 1)).toNat < (10 - (i : Int)).toNat; omega⟩
      show x4 + _ = _
      rw [g4, cnt_s]
      split <;> omega)
  rw [e1]
  exact ⟨e.2, by show some (e.1, e.2) = _; rw [e2], e3, e4⟩
theorem X6_filled {σ : Mem} : f_X6_filled σ = some ((cnt (fun s => decide (σ 31 s ≠ -1)) 8 : Nat) : Int) := by
  unfold f_X6_filled f_X6_filled_4
  rw [show loop (f_X6_filled_4B σ) FU (0, 0) = some ((cnt (fun s => decide (σ 31 s ≠ -1)) 8 : Nat) : Int) from loop_is (P := fun s => ∃ i : Nat, s.2 = (i : Int) ∧ i ≤ 8 ∧ s.1 = ((cnt (fun s => decide (σ 31 s ≠ -1)) i : Nat) : Int)) (μ := fun s => (10 - s.2).toNat) (by
    rintro ⟨x4, _⟩ ⟨i, rfl, hi, g4⟩
    have g4 : x4 = _ := g4
    show (∃ a', f_X6_filled_4C σ x4 (i : Int) = _ ∧ _) ∨ f_X6_filled_4C σ x4 (i : Int) = _
    unfold f_X6_filled_4C
    have hb := cnt_le (fun s => decide (σ 31 s ≠ -1)) i
    by_cases hend : (8 : Int) ≤ i
    · right
      rw [if_pos hend, g4]
      have : i = 8 := by omega
      rw [this]
    · left
      rw [if_neg hend, chk_pos (by omega)]
      have fin : ∀ z : Int, z = ((cnt (fun s => decide (σ 31 s ≠ -1)) (i + 1) : Nat) : Int) → ∃ a', f_X6_filled_23 σ z (i : Int) = some (.inl a') ∧ (∃ i : Nat, a'.2 = (i : Int) ∧ i ≤ 8 ∧ a'.1 = ((cnt (fun s => decide (σ 31 s ≠ -1)) i : Nat) : Int)) ∧ (10 - a'.2).toNat < (10 - (i : Int)).toNat := fun z hz => by
        unfold f_X6_filled_23
        simp only [Option.bind_some]
        rw [jadd_ok (by omega) (by omega)]
        exact ⟨_, rfl, ⟨i + 1, by show (i : Int) + 1 = _; omega, by omega, hz⟩, by show (10 - ((i : Int) + 1)).toNat < (10 - (i : Int)).toNat; omega⟩
      by_cases ht : σ 31 (i : Int) = -1
      · rw [if_pos ht]
        exact fin _ (by rw [g4, cnt_s, if_neg (by simp [ht])])
      · rw [if_neg ht, jadd_ok (by omega) (by omega)]
        exact fin _ (by rw [g4, cnt_s, if_pos (by simp [ht])]; omega)) ⟨0, rfl, Nat.zero_le _, rfl⟩ (Nat.le_of_ble_eq_true rfl)]
  rfl