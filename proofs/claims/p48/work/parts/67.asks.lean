/-! QUESTIONS: paperOf (by mk67.py) -/
theorem cnt_none {f : Nat → Bool} : ∀ {n : Nat}, (∀ i, i < n → f i = false) → cnt f n = 0
  | 0, _ => rfl
  | n + 1, h => by rw [cnt_s, h n (by omega), cnt_none fun i hi => h i (by omega)]; rfl
theorem cnt_one {f : Nat → Bool} {k : Nat} : ∀ {n : Nat}, k < n → (∀ i, i < n → i ≠ k → f i = false) → cnt f n = if f k then 1 else 0
  | 0, h, _ => absurd h (Nat.not_lt_zero _)
  | n + 1, h, g => by
    rw [cnt_s]
    by_cases e : n = k
    · subst e
      rw [cnt_none fun i hi => g i (by omega) (by omega)]
    · rw [g n (by omega) e, cnt_one (n := n) (by omega) fun i hi => g i (by omega)]
      rfl
set_option maxRecDepth 100000 in
theorem PT_inj : ∀ n, n ≤ 4 → ∀ l ∈ PT n, ∀ j, j < n → ∀ k, k < n → l.getD j 0 = l.getD k 0 → j = k := by decide +kernel
theorem nth_inj {m j k : Nat} (hj : j < nof m) (hk : k < nof m) (h : nth m j = nth m k) : j = k := by
  rcases Nat.lt_trichotomy j k with q | q | q
  · have := nth_lt q hk; omega
  · exact q
  · have := nth_lt q hj; omega
theorem lq_in {m : Nat} (h4 : nof m ≤ 4) {l : List Nat} (hl : l ∈ PT (nof m)) {k : Nat} (hk : k < nof m) : lq m l k < 12 ∧ m.testBit (lq m l k) = true := by
  have := nth_in (m := m) (((PT_ok _ h4).2.2 l hl).2 k hk)
  exact ⟨this.1, this.2.1⟩
theorem lq_inj {m : Nat} (h4 : nof m ≤ 4) {l : List Nat} (hl : l ∈ PT (nof m)) {j k : Nat} (hj : j < nof m) (hk : k < nof m) (h : lq m l j = lq m l k) : j = k := by
  have q := ((PT_ok _ h4).2.2 l hl).2
  exact PT_inj _ h4 l hl j hj k hk (nth_inj (q j hj) (q k hk) h)
/-- whether one begins a paper at another time than its start -/
def lateX (B : Bk) (c f : Int) (p : Nat) (x : Option (Int × Tr)) : Nat := match x with
  | none => 0
  | some (_, (o, m, l)) => (if o = (p : Int) then 1 else 0) + cnt (fun k => decide (lq m l k = p) && decide (bg B c f (lq m l) k ≠ B 1 p)) (nof m)
def lateN (B : Bk) (c : Int) (p : Nat) : Nat := lateX B c (fre B c (ovr B c (B 0 p).toNat)) p (dpl B c (B 0 p) (ovr B c (B 0 p).toNat))
def lateS (B : Bk) (p : Nat) : Nat → Nat
  | 0 => 0
  | c + 1 => lateS B p c + lateN B c p
theorem late_1 {B : Bk} (w : WF B) {c : Int} (hc : 0 ≤ c) (hc2 : c < B 8 1) {d o f : Int} (p : Nat) : lateX B c f p (dpl B c d o) ≤ 1 := by
  cases hx : dpl B c d o with
  | none => exact Nat.zero_le _
  | some y =>
    obtain ⟨v, o', m, l⟩ := y
    obtain ⟨hm, -, -, hl, -, -, hor⟩ := dpl_some w hc hc2 hx
    show (if o' = (p : Int) then 1 else 0) + cnt _ _ ≤ 1
    by_cases ho : o' = (p : Int)
    · rw [if_pos ho, cnt_none fun k hk => ?_]
      · omega
      · rcases hor with ⟨e, -⟩ | ⟨q, e, -, e2⟩
        · omega
        · have : q = p := by omega
          subst this
          obtain ⟨-, h2⟩ := lq_in hm.2.1 hl hk
          have hne : lq m l k ≠ q := fun z => by
            rw [z, e2, clr_tb] at h2
            simp at h2
          simp [hne]
    · rw [if_neg ho]
      by_cases hk : ∃ k, k < nof m ∧ lq m l k = p
      · obtain ⟨k, k1, k2⟩ := hk
        rw [cnt_one k1 fun i hi hik => ?_]
        · split <;> omega
        · have : lq m l i ≠ p := fun z => hik (lq_inj hm.2.1 hl hi k1 (by rw [z, k2]))
          simp [this]
      · rw [cnt_none fun k h1 => ?_]
        · omega
        · have : lq m l k ≠ p := fun z => hk ⟨k, h1, z⟩
          simp [this]
theorem X8_beginsLate {ρ : Mem} {k : Int} {B : Bk} (hB : isBk ρ 1 B) (w : WF B) {c : Int} (hc : 0 ≤ c) (hc2 : c < B 8 1) {p : Nat} (hp : (p : Int) < B 8 0) {d : Nat} (hd : B 0 p = d) {o f : Int} {a : Nat} (h : isWd ρ k B c d f a (dpl B c d o)) : f_X8_beginsLate ρ k 1 p = some ((lateX B c f p (dpl B c d o) : Nat) : Int) := by
  have hn := w.1
  unfold WFn at hn
  have hp0 := w.2.1 p (by omega) hp
  unfold f_X8_beginsLate
  rw [chk_pos (by omega), show ρ (1 + 1) (p : Int) = B 0 p from hB.day (by omega) (by omega), hd]
  simp only [Option.bind_some]
  rw [chk_pos (by omega)]
  cases hx : dpl B c d o with
  | none =>
    rw [hx] at h
    obtain ⟨h1, h2, h3, h4⟩ := h.2.2.1 rfl
    rw [h2, if_pos (by omega)]
    unfold f_X8_beginsLate_22
    rw [FU_9]
    rw [show loop (f_X8_beginsLate_22B ρ k 1 (p : Int) (d : Int)) (999991 + 9) 0 = some (.inr ()) from loop_end (by
      show f_X8_beginsLate_22C ρ k 1 p d 0 = _
      unfold f_X8_beginsLate_22C
      rw [chk_pos (by omega), h3, if_pos (by decide)])]
    rfl
  | some y =>
    obtain ⟨v, o', m, l⟩ := y
    obtain ⟨hm, -, -, hl, -, -, hor⟩ := dpl_some w hc hc2 hx
    rw [hx] at h
    obtain ⟨h1, h2, h3, h4, h5⟩ := h.2.2.2 v o' m l rfl
    have hl1 : lateX B c f p (some (v, (o', m, l))) ≤ 1 := by rw [← hx]; exact late_1 w hc hc2 p
    have hl2 : lateX B c f p (some (v, (o', m, l))) = (if o' = (p : Int) then 1 else 0) + cnt (fun k => decide (lq m l k = p) && decide (bg B c f (lq m l) k ≠ B 1 p)) (nof m) := rfl
    have hm4 := hm.2.1
    rw [h2]
    by_cases ho : o' = (p : Int)
    · rw [if_neg (by omega)]
      rw [if_pos ho] at hl2
      rw [show lateX B c f p (some (v, (o', m, l))) = 1 by omega]
      rfl
    · rw [if_pos ho]
      rw [if_neg ho, Nat.zero_add] at hl2
      rw [hl2]
      unfold f_X8_beginsLate_22
      obtain ⟨e, e1, e2⟩ := loop_ex (f := f_X8_beginsLate_22B ρ k 1 p d) (fun s => ∃ i : Nat, s = (i : Int) ∧ i ≤ nof m ∧ ∀ j, j < i → lq m l j ≠ p) (fun s => (10 - s).toNat) (fun e => (∃ i : Nat, i < nof m ∧ e = .inl (4 * (d : Int) + i) ∧ lq m l i = p) ∨ (e = .inr () ∧ ∀ j, j < nof m → lq m l j ≠ p)) (a := 0) ⟨0, rfl, Nat.zero_le _, fun j hj => absurd hj (Nat.not_lt_zero _)⟩ (Nat.le_of_ble_eq_true rfl) (by
        rintro _ ⟨i, rfl, hi, k1⟩
        show (∃ a', f_X8_beginsLate_22C ρ k 1 p d (i : Int) = _ ∧ _) ∨ ∃ a', f_X8_beginsLate_22C ρ k 1 p d (i : Int) = _ ∧ _
        unfold f_X8_beginsLate_22C
        rw [chk_pos (by omega), h3]
        by_cases hend : (nof m : Int) ≤ i
        · right
          rw [if_pos hend]
          have : i = nof m := by omega
          subst this
          exact ⟨_, rfl, Or.inr ⟨rfl, k1⟩⟩
        · rw [if_neg hend]
          simp only [Option.bind_some]
          have e4 : jadd (jmul (d : Int) 4) (i : Int) = 4 * (d : Int) + i := by rw [jmul_ok (by omega) (by omega), jadd_ok (by omega) (by omega)]; omega
          rw [e4, chk_pos (by omega), (h5 i (by omega)).1]
          by_cases hq : lq m l i = p
          · right
            rw [if_neg (by omega)]
            exact ⟨_, rfl, Or.inl ⟨i, by omega, rfl, hq⟩⟩
          · left
            rw [if_pos (by omega), jadd_ok (by omega) (by omega)]
            refine ⟨_, rfl, ⟨i + 1, by omega, by omega, fun j hj => ?_⟩, by omega⟩
            by_cases hji : j = i
            · subst hji; exact hq
            · exact k1 j (by omega))
      rw [e1]
      rcases e2 with ⟨i, i1, i2, i3⟩ | ⟨i2, i3⟩
      · rw [i2]
        show f_X8_beginsLate_52 ρ k 1 p (4 * (d : Int) + i) = _
        unfold f_X8_beginsLate_52
        rw [chk_pos (by omega), chk_pos (by omega), (h5 i i1).2.1, show ρ (1 + 2) (p : Int) = B 1 p from hB.start (by omega) (by omega)]
        rw [cnt_one i1 fun j hj hji => by
          have : lq m l j ≠ p := fun z => hji (lq_inj hm4 hl hj i1 (by rw [z, i3]))
          simp [this]]
        by_cases hb : bg B c f (lq m l) i = B 1 p
        · rw [if_pos hb]; simp [hb]
        · rw [if_neg hb]; simp [hb, i3]
      · rw [i2, cnt_none fun j hj => by simp [i3 j hj]]
        rfl
theorem late_b {B : Bk} (w : WF B) (p : Nat) : ∀ n : Nat, (n : Int) ≤ B 8 1 → lateS B p n ≤ n
  | 0, _ => Nat.le_refl _
  | n + 1, h => by
    have h1 := late_b w p n (by omega)
    have h2 : lateN B n p ≤ 1 := late_1 w (by omega) (by omega) p
    show lateS B p n + lateN B n p ≤ n + 1
    omega
theorem X10_lateOnes {σ : Mem} {B : Bk} (h : ST σ B) {p : Nat} (hp : (p : Int) < B 8 0) {N : Nat} (hN : B 8 1 = N) : ∃ τ, f_X10_lateOnesOf σ p = some (((lateS B p N : Nat) : Int), τ) ∧ CFr σ τ ∧ ST τ B := by
  have hn := h.2.2.1.1
  unfold WFn at hn
  have w := h.2.2.1
  have hp0 := w.2.1 p (by omega) hp
  obtain ⟨d, hd⟩ := n_of hp0.1.1
  unfold f_X10_lateOnesOf f_X10_lateOnesOf_4
  obtain ⟨e, e1, e2, e3, e4⟩ := loop_ex (f := f_X10_lateOnesOf_4B p) (fun s => ∃ i : Nat, s.2.1 = (i : Int) ∧ i ≤ N ∧ s.1 = ((lateS B p i : Nat) : Int) ∧ CFr σ s.2.2 ∧ ST s.2.2 B) (fun s => (10 - s.2.1).toNat) (fun e => e.1 = ((lateS B p N : Nat) : Int) ∧ CFr σ e.2 ∧ ST e.2 B) (a := (0, 0, σ)) ⟨0, rfl, Nat.zero_le _, rfl, CFr.rfl, h⟩ (Nat.le_of_ble_eq_true rfl) (by
    rintro ⟨x4, _, τ⟩ ⟨i, rfl, hi, g4, k1, k2⟩
    have g4 : x4 = _ := g4
    have k1 : CFr σ τ := k1
    have k2 : ST τ B := k2
    show (∃ a', f_X10_lateOnesOf_4C p x4 (i : Int) τ = _ ∧ _) ∨ ∃ a', f_X10_lateOnesOf_4C p x4 (i : Int) τ = _ ∧ _
    unfold f_X10_lateOnesOf_4C
    rw [k2.1.nC]
    by_cases hend : B 8 1 ≤ i
    · right
      rw [if_pos hend]
      have : i = N := by omega
      subst this
      exact ⟨_, rfl, g4, k1, k2⟩
    · left
      obtain ⟨ρ, a1, a2, a3, a4, a5⟩ := ask k2 (c := (i : Int)) (by omega) (by omega)
      have hb := late_b w p i (by omega)
      have h1 : lateN B i p ≤ 1 := late_1 w (by omega) (by omega) p
      have eb := X8_beginsLate a4.1 w (c := (i : Int)) (by omega) (by omega) hp hd (a5 d (by omega))
      have en : lateX B i (fre B i (ovr B i d)) p (dpl B i d (ovr B i d)) = lateN B i p := by
        unfold lateN
        rw [hd, Int.toNat_natCast]
      rw [en] at eb
      rw [if_neg hend, bind_some' a1, bind_some' eb]
      have fin : ∀ z : Int, z = ((lateS B p (i + 1) : Nat) : Int) → ∃ a', f_X10_lateOnesOf_41 ρ p z (i : Int) = some (.inl a') ∧ (∃ i : Nat, a'.2.1 = (i : Int) ∧ i ≤ N ∧ a'.1 = ((lateS B p i : Nat) : Int) ∧ CFr σ a'.2.2 ∧ ST a'.2.2 B) ∧ (10 - a'.2.1).toNat < (10 - (i : Int)).toNat := fun z hz => by
        unfold f_X10_lateOnesOf_41
        simp only [Option.bind_some]
        rw [jadd_ok (by omega) (by omega)]
        exact ⟨_, rfl, ⟨i + 1, by show (i : Int) + 1 = _; omega, by omega, hz, k1.trans a2, a4⟩, by show (10 - ((i : Int) + 1)).toNat < (10 - (i : Int)).toNat; omega⟩
      have es : lateS B p (i + 1) = lateS B p i + lateN B i p := rfl
      by_cases hz : ((lateN B i p : Nat) : Int) = 0
      · rw [if_pos hz]
        exact fin x4 (by rw [g4, es]; omega)
      · rw [if_neg hz, jadd_ok (by omega) (by omega)]
        exact fin _ (by rw [g4, es]; omega))
  rw [e1]
  exact ⟨e.2, by show some (e.1, e.2) = _; rw [e2], e3, e4⟩
theorem X10_takers {σ : Mem} {B : Bk} (hB : isBk σ 1 B) (w : WF B) {p : Nat} (hp : p < 12) {N : Nat} (hN : B 8 1 = N) : f_X10_takersOf σ p = some ((cnt (fun c => tk B c p) N : Nat) : Int) := by
  have hn := w.1
  unfold WFn at hn
  unfold f_X10_takersOf f_X10_takersOf_4
  rw [show loop (f_X10_takersOf_4B σ p) FU (0, 0) = some ((cnt (fun c => tk B c p) N : Nat) : Int) from loop_is (P := fun s => ∃ i : Nat, s.2 = (i : Int) ∧ i ≤ N ∧ s.1 = ((cnt (fun c => tk B c p) i : Nat) : Int)) (μ := fun s => (10 - s.2).toNat) (by
    rintro ⟨x4, _⟩ ⟨i, rfl, hi, g4⟩
    have g4 : x4 = _ := g4
    show (∃ a', f_X10_takersOf_4C σ p x4 (i : Int) = _ ∧ _) ∨ f_X10_takersOf_4C σ p x4 (i : Int) = _
    unfold f_X10_takersOf_4C
    rw [hB.nC]
    have hb := cnt_le (fun c => tk B c p) i
    by_cases hend : B 8 1 ≤ i
    · right
      rw [if_pos hend, g4]
      have : i = N := by omega
      rw [this]
    · left
      rw [if_neg hend, bind_some' (X0_doesTake hB w (by omega) (by omega) (by omega))]
      have fin : ∀ z : Int, z = ((cnt (fun c => tk B c p) (i + 1) : Nat) : Int) → ∃ a', f_X10_takersOf_30 σ p z (i : Int) = some (.inl a') ∧ (∃ i : Nat, a'.2 = (i : Int) ∧ i ≤ N ∧ a'.1 = ((cnt (fun c => tk B c p) i : Nat) : Int)) ∧ (10 - a'.2).toNat < (10 - (i : Int)).toNat := fun z hz => by
        unfold f_X10_takersOf_30
        simp only [Option.bind_some]
        rw [jadd_ok (by omega) (by omega)]
        exact ⟨_, rfl, ⟨i + 1, by show (i : Int) + 1 = _; omega, by omega, hz⟩, by show (10 - ((i : Int) + 1)).toNat < (10 - (i : Int)).toNat; omega⟩
      cases ht : tk B i p with
      | true =>
        rw [if_neg (by simp), jadd_ok (by omega) (by omega)]
        exact fin _ (by rw [g4, cnt_s, if_pos ht]; omega)
      | false =>
        rw [if_pos (by simp)]
        exact fin _ (by rw [g4, cnt_s, if_neg (by rw [ht]; decide)])) ⟨0, rfl, Nat.zero_le _, rfl⟩ (Nat.le_of_ble_eq_true rfl)]
  rfl