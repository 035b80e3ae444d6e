/-! QUESTIONS: status, kinds (by mk68.py) -/
theorem cnt_cut {f : Nat → Bool} {n : Nat} (h : ∀ i, n ≤ i → f i = false) : ∀ m, n ≤ m → cnt f m = cnt f n
  | 0, hm => by rw [show n = 0 by omega]
  | m + 1, hm => by
    by_cases e : n = m + 1
    · rw [e]
    · rw [cnt_s, h m (by omega), if_neg (by decide), cnt_cut h m (by omega)]
theorem anyN_mono {p : Nat → Bool} {k : Nat} (h : anyN p k = true) : ∀ n, k ≤ n → anyN p n = true
  | 0, hn => by rw [show k = 0 by omega] at h; exact h
  | n + 1, hn => by
    by_cases e : k = n + 1
    · rw [← e]; exact h
    · rw [anyN_s, anyN_mono h n (by omega)]; rfl
theorem tb_or {g h : Nat → Bool} {n i : Nat} {b : Bool} (hi : i < n) (hg : ∀ d, d < n → h d = (g d || (decide (d = i) && b))) : mset g n ||| (if b then 2 ^ i else 0) = mset h n := by
  have hp : 2 ^ i < 2 ^ n := Nat.pow_lt_pow_right (by decide) hi
  have hp2 : 0 < 2 ^ i := Nat.pow_pos (by decide)
  refine tb_ext (n := n) (Nat.or_lt_two_pow (mset_lt _ _) (by split <;> omega)) (mset_lt _ _) fun d hd => ?_
  rw [Nat.testBit_or, mset_tb, mset_tb, hg d hd]
  cases b
  · simp [hd]
  · rw [if_pos rfl, Nat.testBit_two_pow]
    by_cases e : i = d
    · subst e; simp [hd]
    · have e2 : ¬ d = i := fun z => e z.symm
      simp [e, e2, hd]
/-- all that are taken -/
def takS (B : Bk) : Nat → Nat
  | 0 => 0
  | c + 1 => takS B c + cnt (fun i => (B 6 c).toNat.testBit i) 12
theorem takS_b (B : Bk) : ∀ n, takS B n ≤ 12 * n
  | 0 => Nat.le_refl _
  | n + 1 => by
    have h1 := takS_b B n
    have h2 := cnt_le (fun i => (B 6 n).toNat.testBit i) 12
    show takS B n + cnt _ 12 ≤ 12 * (n + 1)
    omega
theorem X0_takenInAll {σ : Mem} {B : Bk} (hB : isBk σ 1 B) (w : WF B) {N : Nat} (hN : B 8 1 = N) : f_X0_takenInAll σ 1 = some ((takS B N : Nat) : Int) := by
  have hn := w.1
  unfold WFn at hn
  unfold f_X0_takenInAll f_X0_takenInAll_4
  rw [show loop (f_X0_takenInAll_4B σ 1) FU (0, 0) = some ((takS B N : Nat) : Int) from loop_is (P := fun s => ∃ i : Nat, s.2 = (i : Int) ∧ i ≤ N ∧ s.1 = ((takS B i : Nat) : Int)) (μ := fun s => (10 - s.2).toNat) (by
    rintro ⟨x4, _⟩ ⟨i, rfl, hi, g4⟩
    have g4 : x4 = _ := g4
    show (∃ a', f_X0_takenInAll_4C σ 1 x4 (i : Int) = _ ∧ _) ∨ f_X0_takenInAll_4C σ 1 x4 (i : Int) = _
    unfold f_X0_takenInAll_4C
    rw [hB.nC]
    have hb := takS_b B i
    by_cases hend : B 8 1 ≤ i
    · right
      rw [if_pos hend, g4]
      have : i = N := by omega
      rw [this]
    · left
      have hc := (w.2.2.1 i (by omega) (by omega)).2.2.2.1
      obtain ⟨m, hm⟩ := n_of hc.1
      have h2 := cnt_le (fun i => m.testBit i) 12
      rw [if_neg hend, chk_pos (by omega), show σ (1 + 7) (i : Int) = B 6 i from hB.takes (by omega) (by omega), hm, bind_some' (bitCount32_n (by omega))]
      simp only [Option.bind_some]
      rw [jadd_ok (by omega) (by omega), jadd_ok (by omega) (by omega)]
      refine ⟨_, rfl, ⟨i + 1, by show (i : Int) + 1 = _; omega, by omega, ?_⟩, by show (10 - ((i : Int) + 1)).toNat < (10 - (i : Int)).toNat; omega⟩
      show x4 + _ = ((takS B i + cnt (fun j => (B 6 i).toNat.testBit j) 12 : Nat) : Int)
      rw [hm, Int.toNat_natCast, g4]
      omega) ⟨0, rfl, Nat.zero_le _, rfl⟩ (Nat.le_of_ble_eq_true rfl)]
  rfl
theorem X11_taken {σ : Mem} {B : Bk} (hR : isRk σ 182 B) (w : WF B) {N : Nat} (hN : B 8 1 = N) : f_X11_taken σ = some ((takS B N : Nat) : Int) := by
  have hn := w.1
  unfold WFn at hn
  unfold f_X11_taken f_X11_taken_4
  rw [show loop (f_X11_taken_4B σ) FU (0, 0) = some ((takS B N : Nat) : Int) from loop_is (P := fun s => ∃ i : Nat, s.2 = (i : Int) ∧ i ≤ N ∧ s.1 = ((takS B i : Nat) : Int)) (μ := fun s => (10 - s.2).toNat) (by
    rintro ⟨x4, _⟩ ⟨i, rfl, hi, g4⟩
    have g4 : x4 = _ := g4
    show (∃ a', f_X11_taken_4C σ x4 (i : Int) = _ ∧ _) ∨ f_X11_taken_4C σ x4 (i : Int) = _
    unfold f_X11_taken_4C
    rw [chk_pos (by decide), hR.nC]
    have hb := takS_b B i
    by_cases hend : B 8 1 ≤ i
    · right
      rw [if_pos hend, g4]
      have : i = N := by omega
      rw [this]
    · left
      have hc := (w.2.2.1 i (by omega) (by omega)).2.2.2.1
      obtain ⟨m, hm⟩ := n_of hc.1
      have h2 := cnt_le (fun i => m.testBit i) 12
      rw [if_neg hend, bind_some' (X11_who3 hR (by omega)), hm, bind_some' (X11_many (by omega))]
      simp only [Option.bind_some]
      rw [jadd_ok (by omega) (by omega), jadd_ok (by omega) (by omega)]
      refine ⟨_, rfl, ⟨i + 1, by show (i : Int) + 1 = _; omega, by omega, ?_⟩, by show (10 - ((i : Int) + 1)).toNat < (10 - (i : Int)).toNat; omega⟩
      show x4 + _ = ((takS B i + cnt (fun j => (B 6 i).toNat.testBit j) 12 : Nat) : Int)
      rw [hm, Int.toNat_natCast, g4]
      omega) ⟨0, rfl, Nat.zero_le _, rfl⟩ (Nat.le_of_ble_eq_true rfl)]
  rfl
/-- the days on which somebody can't -/
def noD (B : Bk) (d c : Nat) : Bool := (dpl B c d (ovr B c d)).isNone
def badF (B : Bk) (n d : Nat) : Bool := anyN (noD B d) n
theorem X10_days14 {σ : Mem} {B : Bk} (h : ST σ B) {d : Nat} (hd : d < 5) {N : Nat} (hN : B 8 1 = N) {x1 : Int} (hx : 0 ≤ x1 ∧ x1 ≤ 100) : ∃ τ, f_X10_daysSomebodyCant_14 σ x1 d 0 0 = some (.inl (x1 + (if badF B N d then 1 else 0), (d : Int) + 1, τ)) ∧ CFr σ τ ∧ ST τ B := by
  have hn := h.2.2.1.1
  unfold WFn at hn
  have w := h.2.2.1
  unfold f_X10_daysSomebodyCant_14
  obtain ⟨e, e1, e2, e3, e4⟩ := loop_ex (f := f_X10_daysSomebodyCant_14B x1 d) (fun s => ∃ i : Nat, s.2.1 = (i : Int) ∧ i ≤ N ∧ s.1 = (if badF B i d then 1 else 0) ∧ CFr σ s.2.2 ∧ ST s.2.2 B) (fun s => (10 - s.2.1).toNat) (fun e => e.1 = (if badF B N d then 1 else 0) ∧ CFr σ e.2 ∧ ST e.2 B) (a := (0, 0, σ)) ⟨0, rfl, Nat.zero_le _, rfl, CFr.rfl, h⟩ (Nat.le_of_ble_eq_true rfl) (by
    rintro ⟨x4, _, τ⟩ ⟨i, rfl, hi, g4, k1, k2⟩
    have g4 : x4 = (if badF B i d then 1 else 0) := g4
    have k1 : CFr σ τ := k1
    have k2 : ST τ B := k2
    show (∃ a', f_X10_daysSomebodyCant_14C x1 d x4 (i : Int) τ = _ ∧ _) ∨ ∃ a', f_X10_daysSomebodyCant_14C x1 d x4 (i : Int) τ = _ ∧ _
    unfold f_X10_daysSomebodyCant_14C
    rw [k2.1.nC]
    by_cases hend : B 8 1 ≤ i
    · right
      rw [if_pos hend]
      have : i = N := by omega
      subst this
      exact ⟨_, rfl, g4, k1, k2⟩
    · rw [if_neg hend]
      cases hb : badF B i d with
      | true =>
        right
        rw [g4, hb, bt, if_pos (by decide)]
        have : badF B N d = true := anyN_mono hb N hi
        exact ⟨_, rfl, by rw [this]; rfl, k1, k2⟩
      | false =>
        left
        obtain ⟨ρ, a1, a2, a3, a4, a5⟩ := ask k2 (c := (i : Int)) (by omega) (by omega)
        have pp1 : ((54 + 10 * (i : Int), ρ) : Int × Mem).1 = 54 + 10 * (i : Int) := rfl
        have pp2 : ((54 + 10 * (i : Int), ρ) : Int × Mem).2 = ρ := rfl
        rw [g4, hb, bf, if_neg (by decide), bind_some' a1, pp1, pp2, chk_pos (by omega), isWd_can (a5 d hd)]
        have fin : ∀ z : Int, z = (if badF B (i + 1) d then 1 else 0) → ∃ a', f_X10_daysSomebodyCant_56 ρ x1 d (i : Int) z = some (.inl a') ∧ (∃ i : Nat, a'.2.1 = (i : Int) ∧ i ≤ N ∧ a'.1 = (if badF B i d then 1 else 0) ∧ CFr σ a'.2.2 ∧ ST a'.2.2 B) ∧ (10 - a'.2.1).toNat < (10 - (i : Int)).toNat := fun z hz => by
          unfold f_X10_daysSomebodyCant_56
          simp only [Option.bind_some]
          rw [jadd_ok (by omega) (by omega)]
          exact ⟨_, rfl, ⟨i + 1, by show (i : Int) + 1 = _; omega, by omega, hz, k1.trans a2, a4⟩, by show (10 - ((i : Int) + 1)).toNat < (10 - (i : Int)).toNat; omega⟩
        have es : badF B (i + 1) d = (badF B i d || noD B d i) := anyN_s _ _
        rw [hb, Bool.false_or] at es
        unfold noD at es
        cases hx2 : (dpl B i d (ovr B i d)).isNone with
        | true =>
          rw [bt, if_neg (by decide)]
          exact fin 1 (by rw [es, hx2]; rfl)
        | false =>
          rw [bf, if_pos (by decide)]
          exact fin 0 (by rw [es, hx2]; rfl))
  rw [e1]
  refine ⟨e.2, ?_, e3, e4⟩
  show f_X10_daysSomebodyCant_63 e.2 x1 d e.1 = _
  unfold f_X10_daysSomebodyCant_63 f_X10_daysSomebodyCant_70
  rw [e2]
  cases badF B N d with
  | true =>
    rw [bt, if_neg (by decide), jadd_ok (by omega) (by omega)]
    simp only [Option.bind_some]
    rw [jadd_ok (by omega) (by omega)]
  | false =>
    rw [bf, if_pos rfl]
    simp only [Option.bind_some]
    rw [jadd_ok (by omega) (by omega), Int.add_zero]
theorem X10_days {σ : Mem} {B : Bk} (h : ST σ B) {N : Nat} (hN : B 8 1 = N) : ∃ τ, f_X10_daysSomebodyCant σ = some (((cnt (badF B N) 5 : Nat) : Int), τ) ∧ CFr σ τ ∧ ST τ B := by
  unfold f_X10_daysSomebodyCant f_X10_daysSomebodyCant_4
  obtain ⟨e, e1, e2, e3, e4⟩ := loop_ex (f := f_X10_daysSomebodyCant_4B) (fun s => ∃ i : Nat, s.2.1 = (i : Int) ∧ i ≤ 5 ∧ s.1 = ((cnt (badF B N) i : Nat) : Int) ∧ CFr σ s.2.2 ∧ ST s.2.2 B) (fun s => (10 - s.2.1).toNat) (fun e => e.1 = ((cnt (badF B N) 5 : Nat) : Int) ∧ CFr σ e.2 ∧ ST e.2 B) (a := (0, 0, σ)) ⟨0, rfl, Nat.zero_le _, rfl, CFr.rfl, h⟩ (Nat.le_of_ble_eq_true rfl) (by
    rintro ⟨x4, _, τ⟩ ⟨i, rfl, hi, g4, k1, k2⟩
    have g4 : x4 = ((cnt (badF B N) i : Nat) : Int) := g4
    have k1 : CFr σ τ := k1
    have k2 : ST τ B := k2
    show (∃ a', f_X10_daysSomebodyCant_4C x4 (i : Int) τ = _ ∧ _) ∨ ∃ a', f_X10_daysSomebodyCant_4C x4 (i : Int) τ = _ ∧ _
    unfold f_X10_daysSomebodyCant_4C
    by_cases hend : (5 : Int) ≤ i
    · right
      rw [if_pos hend]
      have : i = 5 := by omega
      subst this
      exact ⟨_, rfl, g4, k1, k2⟩
    · left
      have hb := cnt_le (badF B N) i
      obtain ⟨ρ, a1, a2, a3⟩ := X10_days14 k2 (d := i) (by omega) hN (x1 := x4) (by omega)
      rw [if_neg hend, a1]
      refine ⟨_, rfl, ⟨i + 1, by show (i : Int) + 1 = _; omega, by omega, ?_, k1.trans a2, a3⟩, by show (10 - ((i : Int) + 1)).toNat < (10 - (i : Int)).toNat; omega⟩
      show x4 + _ = _
      rw [g4, cnt_s]
      split <;> omega)
  rw [e1]
  exact ⟨e.2, by show some (e.1, e.2) = _; rw [e2], e3, e4⟩
theorem X11_bad22 {τ : Mem} {B : Bk} {c : Nat} (h : ∀ d : Nat, d < 5 → isRw τ B c d) (hc : c < 100) : f_X11_badDays_22 τ ((mset (badF B c) 5 : Nat) : Int) c 0 = some (.inl (((mset (badF B (c + 1)) 5 : Nat) : Int), (c : Int) + 1, τ)) := by
  unfold f_X11_badDays_22
  obtain ⟨G, hG⟩ : ∃ G : Nat → Nat → Bool, G = fun i d => badF B c d || (decide (d < i) && noD B d c) := ⟨_, rfl⟩
  have hG0 : mset (badF B c) 5 = mset (G 0) 5 := mset_congr fun d hd => by rw [hG]; simp
  have hG5 : mset (badF B (c + 1)) 5 = mset (G 5) 5 := mset_congr fun d hd => by
    rw [hG]
    show anyN (noD B d) (c + 1) = (anyN (noD B d) c || (decide (d < 5) && noD B d c))
    rw [anyN_s, decide_eq_true hd, Bool.true_and]
  rw [show loop (f_X11_badDays_22B τ c) FU (((mset (badF B c) 5 : Nat) : Int), 0) = some ((mset (badF B (c + 1)) 5 : Nat) : Int) from loop_is (P := fun s => ∃ i : Nat, s.2 = (i : Int) ∧ i ≤ 5 ∧ s.1 = ((mset (G i) 5 : Nat) : Int)) (μ := fun s => (10 - s.2).toNat) (by
    rintro ⟨x4, _⟩ ⟨i, rfl, hi, g4⟩
    have g4 : x4 = ((mset (G i) 5 : Nat) : Int) := g4
    show (∃ a', f_X11_badDays_22C τ c x4 (i : Int) = _ ∧ _) ∨ f_X11_badDays_22C τ c x4 (i : Int) = _
    unfold f_X11_badDays_22C
    by_cases hend : (5 : Int) ≤ i
    · right
      rw [if_pos hend, g4]
      have : i = 5 := by omega
      rw [this, hG5]
    · left
      rw [if_neg hend, chk_pos (by omega), (isRd_can (h i (by omega)).1).1]
      have hl := mset_lt (G i) 5
      have hp : 2 ^ i < 2 ^ 5 := Nat.pow_lt_pow_right (by decide) (by omega)
      have st := tb_or (g := G i) (h := G (i + 1)) (n := 5) (i := i) (b := noD B i c) (by omega) (fun d hd => by
        rw [hG]
        show (badF B c d || (decide (d < i + 1) && noD B d c)) = (badF B c d || (decide (d < i) && noD B d c) || (decide (d = i) && noD B i c))
        by_cases e : d = i
        · subst e; simp
        · have e2 : (d < i + 1) = (d < i) := propext ⟨fun _ => by omega, fun _ => by omega⟩
          simp [e, e2])
      have fin : ∀ s : Int, s = ((if noD B i c then 2 ^ i else 0 : Nat) : Int) → ∃ a', f_X11_badDays_44 τ c (i : Int) s x4 = some (.inl a') ∧ (∃ i : Nat, a'.2 = (i : Int) ∧ i ≤ 5 ∧ a'.1 = ((mset (G i) 5 : Nat) : Int)) ∧ (10 - a'.2).toNat < (10 - (i : Int)).toNat := fun s hs => by
        unfold f_X11_badDays_44
        simp only [Option.bind_some]
        rw [jadd_ok (by omega) (by omega), hs, g4, jor_n (by omega) (by split <;> omega), st]
        exact ⟨_, rfl, ⟨i + 1, by show (i : Int) + 1 = _; omega, by omega, rfl⟩, by show (10 - ((i : Int) + 1)).toNat < (10 - (i : Int)).toNat; omega⟩
      cases hx : noD B i c with
      | true =>
        have hx' : (dpl B c i (ovr B c i)).isNone = true := hx
        rw [hx', bt, if_neg (by decide), jshl_n (by omega)]
        exact fin _ (by rw [hx]; rfl)
      | false =>
        have hx' : (dpl B c i (ovr B c i)).isNone = false := hx
        rw [hx', bf, if_pos (by decide)]
        exact fin _ (by rw [hx]; rfl)) ⟨0, rfl, Nat.zero_le _, by show ((mset (badF B c) 5 : Nat) : Int) = _; rw [hG0]⟩ (Nat.le_of_ble_eq_true rfl)]
  show f_X11_badDays_52 τ _ c = _
  unfold f_X11_badDays_52
  simp only [Option.bind_some]
  rw [jadd_ok (by omega) (by omega)]
theorem X11_badDays {σ : Mem} {B : Bk} (hR : isRk σ 182 B) (w : WF B) {N : Nat} (hN : B 8 1 = N) : ∃ τ, f_X11_badDays σ = some (((cnt (badF B N) 5 : Nat) : Int), τ) ∧ ∀ x, ¬ (192 ≤ x ∧ x ≤ 202) → τ x = σ x := by
  have hn := w.1
  unfold WFn at hn
  have hz : mset (badF B 0) 5 = 0 := by simp [mset, badF, anyN]
  unfold f_X11_badDays f_X11_badDays_4
  obtain ⟨e, e1, e2, e3⟩ := loop_ex (f := f_X11_badDays_4B) (fun s => ∃ i : Nat, s.2.1 = (i : Int) ∧ i ≤ N ∧ s.1 = ((mset (badF B i) 5 : Nat) : Int) ∧ ∀ x, ¬ (192 ≤ x ∧ x ≤ 202) → s.2.2 x = σ x) (fun s => (10 - s.2.1).toNat) (fun e => e.1 = ((mset (badF B N) 5 : Nat) : Int) ∧ ∀ x, ¬ (192 ≤ x ∧ x ≤ 202) → e.2 x = σ x) (a := (0, 0, σ)) ⟨0, rfl, Nat.zero_le _, by rw [hz]; rfl, fun _ _ => rfl⟩ (Nat.le_of_ble_eq_true rfl) (by
    rintro ⟨x4, _, τ⟩ ⟨i, rfl, hi, g4, k1⟩
    have g4 : x4 = ((mset (badF B i) 5 : Nat) : Int) := g4
    have k1 : ∀ x, ¬ (192 ≤ x ∧ x ≤ 202) → τ x = σ x := k1
    show (∃ a', f_X11_badDays_4C x4 (i : Int) τ = _ ∧ _) ∨ ∃ a', f_X11_badDays_4C x4 (i : Int) τ = _ ∧ _
    unfold f_X11_badDays_4C
    have hRt : isRk τ 182 B := hR.row (k1 182 (by decide))
    rw [chk_pos (by decide), hRt.nC]
    by_cases hend : B 8 1 ≤ i
    · right
      rw [if_pos hend]
      have : i = N := by omega
      subst this
      exact ⟨_, rfl, g4, k1⟩
    · left
      obtain ⟨ρ, t1, t2, t3⟩ := X11_plans hRt w (c := (i : Int)) (by omega) (by omega)
      rw [if_neg hend, bind_some' t1, g4, X11_bad22 t3 (by omega)]
      exact ⟨_, rfl, ⟨i + 1, by show (i : Int) + 1 = _; omega, by omega, rfl, fun x hx => by show ρ x = _; rw [t2 x hx, k1 x hx]⟩, by show (10 - ((i : Int) + 1)).toNat < (10 - (i : Int)).toNat; omega⟩)
  rw [e1]
  refine ⟨e.2, ?_, e3⟩
  rw [bsm]
  unfold f_X11_badDays_58
  have hl := mset_lt (badF B N) 5
  have this : cnt (fun i => (mset (badF B N) 5).testBit i) 12 = cnt (badF B N) 5 := by
    rw [cnt_cut (n := 5) (fun i hi => by rw [mset_tb]; simp; omega) 12 (by decide)]
    exact cnt_congr fun i hi => by rw [mset_tb, decide_eq_true hi, Bool.true_and]
  rw [e2, bind_some' (X11_many (by omega)), this]
theorem X6_filled {σ : Mem} : f_X6_filled σ = some ((cnt (fun s => decide (σ 31 s ≠ -1)) 8 : Nat) : Int) := by
  unfold f_X6_filled f_X6_filled_4
  rw [show loop (f_X6_filled_4B σ) FU (0, 0) = some ((cnt (fun s => decide (σ 31 s ≠ -1)) 8 : Nat) : Int) from loop_is (P := fun s => ∃ i : Nat, s.2 = (i : Int) ∧ i ≤ 8 ∧ s.1 = ((cnt (fun s => decide (σ 31 s ≠ -1)) i : Nat) : Int)) (μ := fun s => (10 - s.2).toNat) (by
    rintro ⟨x4, _⟩ ⟨i, rfl, hi, g4⟩
    have g4 : x4 = _ := g4
    show (∃ a', f_X6_filled_4C σ x4 (i : Int) = _ ∧ _) ∨ f_X6_filled_4C σ x4 (i : Int) = _
    unfold f_X6_filled_4C
    have hb := cnt_le (fun s => decide (σ 31 s ≠ -1)) i
    by_cases hend : (8 : Int) ≤ i
    · right
      rw [if_pos hend, g4]
      have : i = 8 := by omega
      rw [this]
    · left
      rw [if_neg hend, chk_pos (by omega)]
      have fin : ∀ z : Int, z = ((cnt (fun s => decide (σ 31 s ≠ -1)) (i + 1) : Nat) : Int) → ∃ a', f_X6_filled_23 σ z (i : Int) = some (.inl a') ∧ (∃ i : Nat, a'.2 = (i : Int) ∧ i ≤ 8 ∧ a'.1 = ((cnt (fun s => decide (σ 31 s ≠ -1)) i : Nat) : Int)) ∧ (10 - a'.2).toNat < (10 - (i : Int)).toNat := fun z hz => by
        unfold f_X6_filled_23
        simp only [Option.bind_some]
        rw [jadd_ok (by omega) (by omega)]
        exact ⟨_, rfl, ⟨i + 1, by show (i : Int) + 1 = _; omega, by omega, hz⟩, by show (10 - ((i : Int) + 1)).toNat < (10 - (i : Int)).toNat; omega⟩
      by_cases ht : σ 31 (i : Int) = -1
      · rw [if_pos ht]
        exact fin _ (by rw [g4, cnt_s, if_neg (by simp [ht])])
      · rw [if_neg ht, jadd_ok (by omega) (by omega)]
        exact fin _ (by rw [g4, cnt_s, if_pos (by simp [ht])]; omega)) ⟨0, rfl, Nat.zero_le _, rfl⟩ (Nat.le_of_ble_eq_true rfl)]
  rfl
theorem X11_filled {σ : Mem} {F : Nat → Bool} (h : ∀ s : Nat, s < 8 → (F s = false ↔ σ 185 s < 0)) : f_X11_status_123 σ 0 0 = some (((cnt F 8 : Nat) : Int), σ) := by
  unfold f_X11_status_123
  rw [show loop (f_X11_status_123B σ) FU (0, 0) = some ((cnt F 8 : Nat) : Int) from loop_is (P := fun s => ∃ i : Nat, s.2 = (i : Int) ∧ i ≤ 8 ∧ s.1 = ((cnt F i : Nat) : Int)) (μ := fun s => (10 - s.2).toNat) (by
    rintro ⟨x4, _⟩ ⟨i, rfl, hi, g4⟩
    have g4 : x4 = _ := g4
    show (∃ a', f_X11_status_123C σ x4 (i : Int) = _ ∧ _) ∨ f_X11_status_123C σ x4 (i : Int) = _
    unfold f_X11_status_123C
    have hb := cnt_le F i
    by_cases hend : (8 : Int) ≤ i
    · right
      rw [if_pos hend, g4]
      have : i = 8 := by omega
      rw [this]
    · left
      rw [if_neg hend, chk_pos (by omega)]
      have fin : ∀ z : Int, (z = 0 ∨ z = 1) → x4 + z = ((cnt F (i + 1) : Nat) : Int) → ∃ a', f_X11_status_144 σ (i : Int) z x4 = some (.inl a') ∧ (∃ i : Nat, a'.2 = (i : Int) ∧ i ≤ 8 ∧ a'.1 = ((cnt F i : Nat) : Int)) ∧ (10 - a'.2).toNat < (10 - (i : Int)).toNat := fun z hz0 hz => by
        unfold f_X11_status_144
        simp only [Option.bind_some]
        rw [jadd_ok (by omega) (by omega), jadd_ok (by omega) (by omega)]
        exact ⟨_, rfl, ⟨i + 1, by show (i : Int) + 1 = _; omega, by omega, hz⟩, by show (10 - ((i : Int) + 1)).toNat < (10 - (i : Int)).toNat; omega⟩
      have hh := h i (by omega)
      by_cases ht : σ 185 (i : Int) < 0
      · rw [if_pos ht]
        exact fin 0 (Or.inl rfl) (by rw [g4, cnt_s, hh.2 ht]; simp)
      · rw [if_neg ht]
        have hF : F i = true := by
          cases hf : F i with
          | true => rfl
          | false => exact absurd (hh.1 hf) ht
        exact fin 1 (Or.inr rfl) (by rw [g4, cnt_s, hF]; simp)) ⟨0, rfl, Nat.zero_le _, rfl⟩ (Nat.le_of_ble_eq_true rfl)]
  rfl
/-- status -/
theorem k_status {n : Nat} {σ : Mem} {B : Bk} (h : INV0 n σ B) (x : Int) : CALL0 n σ B (f_X10_status σ x) (fun ρ => f_X11_status ρ x) := by
  obtain ⟨hB, hR, w, hW⟩ := h.1
  have hn := w.1
  unfold WFn at hn
  obtain ⟨N, hN⟩ := n_of hn.2.1.1
  have plain : ∀ v : Int, f_X10_status σ x = some (v, σ) → f_X11_status σ x = some (v, σ) → CALL0 n σ B (f_X10_status σ x) (fun ρ => f_X11_status ρ x) := fun v a b => same.call h (same.ok (v := v) (by omega) a CFr.rfl hW b RFr.rfl)
  by_cases hx : 0 ≤ x ∧ x ≤ 9
  · have e1 : f_X10_status σ x = f_X10_status_22 σ x := by unfold f_X10_status; rw [if_pos (by omega)]
    rcases (show x = 0 ∨ x = 1 ∨ x = 2 ∨ x = 3 ∨ x = 4 ∨ x = 5 ∨ x = 6 ∨ x = 7 ∨ x = 8 ∨ x = 9 by omega) with e | e | e | e | e | e | e | e | e | e <;> subst e
    · refine plain (B 8 0) ?_ ?_
      · rw [e1, ← hB.nP]; rfl
      · rw [← hR.nP]; rfl
    · refine plain (B 8 1) ?_ ?_
      · rw [e1, ← hB.nC]; rfl
      · rw [← hR.nC]; rfl
    · refine plain (B 8 2) ?_ ?_
      · rw [e1, ← hB.nR]; rfl
      · rw [← hR.nR]; rfl
    · refine plain (B 8 3) ?_ ?_
      · rw [e1, ← hB.hours]; rfl
      · rw [← hR.hours]; rfl
    · refine plain (B 8 4) ?_ ?_
      · rw [e1, ← hB.turn]; rfl
      · rw [← hR.turn]; rfl
    · refine plain ((takS B N : Nat) : Int) ?_ ?_
      · rw [e1]
        show (f_X0_takenInAll σ 1).bind _ = _
        rw [X0_takenInAll hB w hN]; rfl
      · show (f_X11_taken σ).bind _ = _
        rw [X11_taken hR w hN]; rfl
    · obtain ⟨ρ, a1, a2, a4⟩ := X10_days h.1 hN
      obtain ⟨hBr, hRr, -, hWr⟩ := a4
      obtain ⟨τ, t1, t2⟩ := X11_badDays hRr w hN
      refine same.call h (same.ok (τ := τ) (v := ((cnt (badF B N) 5 : Nat) : Int)) (by omega) ?_ a2 hWr ?_ (rf_of t2))
      · rw [e1]
        show (f_X10_daysSomebodyCant σ).bind _ = _
        rw [a1]; rfl
      · show (f_X11_badDays ρ).bind _ = _
        rw [t1]; rfl
    · refine plain (σ 28 1) ?_ ?_
      · rw [e1]; rfl
      · rw [← h.2.2.2.2.1.1]; rfl
    · refine plain (B 8 5) ?_ ?_
      · rw [e1, ← hB.seed]; rfl
      · rw [← hR.seed]; rfl
    · refine plain ((cnt (fun s => decide (σ 31 s ≠ -1)) 8 : Nat) : Int) ?_ ?_
      · rw [e1]
        show (f_X6_filled σ).bind _ = _
        rw [X6_filled]; rfl
      · show f_X11_status_123 σ 0 0 = _
        refine X11_filled fun s hs => ?_
        obtain ⟨e177, hc⟩ := h.2.2.1 s (by omega) (by omega)
        rw [e177]
        simp
        omega
  · have e2 : f_X11_status σ x = (f_X11_isIn σ x (12 : Int) (16 : Int)).bind fun v5 => (if v5 = 0 then (some ((-1 : Int), σ)) else (chk (0 ≤ (jsub x (12 : Int)) ∧ (jsub x (12 : Int)) < ((5 : Nat) : Int)) (some ((σ (184 : Int) (jsub x (12 : Int))), σ)))) := by
      unfold f_X11_status
      rw [if_neg (by omega), if_neg (by omega), if_neg (by omega), if_neg (by omega), if_neg (by omega), if_neg (by omega), if_neg (by omega), if_neg (by omega), if_neg (by omega), if_neg (by omega)]
    rw [bind_some' (X11_isIn x 12 16), if0] at e2
    by_cases h2 : 12 ≤ x ∧ x ≤ 16
    · have ej : jsub x 12 = x - 12 := jsub_ok (by omega) (by omega)
      rw [if_pos h2, ej, chk_pos (by omega)] at e2
      refine plain (σ 34 (x - 12)) ?_ ?_
      · unfold f_X10_status
        rw [if_neg (by omega), if_neg (by omega), ej, chk_pos (by omega)]
      · rw [e2, h.2.2.2.2.2.1 (x - 12) (by omega) (by omega)]
    · rw [if_neg h2] at e2
      have e1 : f_X10_status_22 σ x = some (-1, σ) := by
        unfold f_X10_status_22
        rw [if_neg (by omega), if_neg (by omega), if_neg (by omega), if_neg (by omega), if_neg (by omega), if_neg (by omega), if_neg (by omega), if_neg (by omega), if_neg (by omega), if_neg (by omega)]
      refine plain (-1) ?_ e2
      unfold f_X10_status
      by_cases q : x < 12
      · rw [if_pos q, e1]
      · rw [if_neg q, if_pos (by omega), e1]
