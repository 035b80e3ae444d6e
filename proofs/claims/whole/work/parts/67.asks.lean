/-! QUESTIONS: paperOf (by mk67.py) -/
theorem cnt_none {f : Nat → Bool} : ∀ {n : Nat}, (∀ i, i < n → f i = false) → cnt f n = 0
  | 0, _ => rfl
  | n + 1, h => by rw [cnt_s, h n (by omega), cnt_none fun i hi => h i (by omega)]; rfl
theorem cnt_one {f : Nat → Bool} {k : Nat} : ∀ {n : Nat}, k < n → (∀ i, i < n → i ≠ k → f i = false) → cnt f n = if f k then 1 else 0
  | 0, h, _ => absurd h (Nat.not_lt_zero _)
  | n + 1, h, g => by
    rw [cnt_s]
    by_cases e : n = k
    · subst e
      rw [cnt_none fun i hi => g i (by omega) (by omega)]
    · rw [g n (by omega) e, cnt_one (n := n) (by omega) fun i hi => g i (by omega)]
      rfl
set_option maxRecDepth 100000 in
theorem PT_inj : ∀ n, n ≤ 4 → ∀ l ∈ PT n, ∀ j, j < n → ∀ k, k < n → l.getD j 0 = l.getD k 0 → j = k := by decide +kernel
theorem nth_inj {m j k : Nat} (hj : j < nof m) (hk : k < nof m) (h : nth m j = nth m k) : j = k := by
  rcases Nat.lt_trichotomy j k with q | q | q
  · have := nth_lt q hk; omega
  · exact q
  · have := nth_lt q hj; omega
theorem lq_in {m : Nat} (h4 : nof m ≤ 4) {l : List Nat} (hl : l ∈ PT (nof m)) {k : Nat} (hk : k < nof m) : lq m l k < 12 ∧ m.testBit (lq m l k) = true := by
  have := nth_in (m := m) (((PT_ok _ h4).2.2 l hl).2 k hk)
  exact ⟨this.1, this.2.1⟩
theorem lq_inj {m : Nat} (h4 : nof m ≤ 4) {l : List Nat} (hl : l ∈ PT (nof m)) {j k : Nat} (hj : j < nof m) (hk : k < nof m) (h : lq m l j = lq m l k) : j = k := by
  have q := ((PT_ok _ h4).2.2 l hl).2
  exact PT_inj _ h4 l hl j hj k hk (nth_inj (q j hj) (q k hk) h)
/-- whether one begins a paper at another time than its start -/
def lateX (B : Bk) (c f : Int) (p : Nat) (x : Option (Int × Tr)) : Nat := match x with
  | none => 0
  | some (_, (o, m, l)) => (if o = (p : Int) then 1 else 0) + cnt (fun k => decide (lq m l k = p) && decide (bg B c f (lq m l) k ≠ B 1 p)) (nof m)
def lateN (B : Bk) (c : Int) (p : Nat) : Nat := lateX B c (fre B c (ovr B c (B 0 p).toNat)) p (dpl B c (B 0 p) (ovr B c (B 0 p).toNat))
def lateS (B : Bk) (p : Nat) : Nat → Nat
  | 0 => 0
  | c + 1 => lateS B p c + lateN B c p
theorem late_1 {B : Bk} (w : WF B) {c : Int} (hc : 0 ≤ c) (hc2 : c < B 8 1) {d o f : Int} (p : Nat) : lateX B c f p (dpl B c d o) ≤ 1 := by
  cases hx : dpl B c d o with
  | none => exact Nat.zero_le _
  | some y =>
    obtain ⟨v, o', m, l⟩ := y
    obtain ⟨hm, -, -, hl, -, -, hor⟩ := dpl_some w hc hc2 hx
    show (if o' = (p : Int) then 1 else 0) + cnt _ _ ≤ 1
    by_cases ho : o' = (p : Int)
    · rw [if_pos ho, cnt_none fun k hk => ?_]
      · omega
      · rcases hor with ⟨e, -⟩ | ⟨q, e, -, e2⟩
        · omega
        · have : q = p := by omega
          subst this
          obtain ⟨-, h2⟩ := lq_in hm.2.1 hl hk
          have hne : lq m l k ≠ q := fun z => by
            rw [z, e2, clr_tb] at h2
            simp at h2
          simp [hne]
    · rw [if_neg ho]
      by_cases hk : ∃ k, k < nof m ∧ lq m l k = p
      · obtain ⟨k, k1, k2⟩ := hk
        rw [cnt_one k1 fun i hi hik => ?_]
        · split <;> omega
        · have : lq m l i ≠ p := fun z => hik (lq_inj hm.2.1 hl hi k1 (by rw [z, k2]))
          simp [this]
      · rw [cnt_none fun k h1 => ?_]
        · omega
        · have : lq m l k ≠ p := fun z => hk ⟨k, h1, z⟩
          simp [this]
theorem X8_beginsLate {ρ : Mem} {k : Int} {B : Bk} (hB : isBk ρ 1 B) (w : WF B) {c : Int} (hc : 0 ≤ c) (hc2 : c < B 8 1) {p : Nat} (hp : (p : Int) < B 8 0) {d : Nat} (hd : B 0 p = d) {o f : Int} {a : Nat} (h : isWd ρ k B c d f a (dpl B c d o)) : f_X8_beginsLate ρ k 1 p = some ((lateX B c f p (dpl B c d o) : Nat) : Int) := by
  have hn := w.1
  unfold WFn at hn
  have hp0 := w.2.1 p (by omega) hp
  unfold f_X8_beginsLate
  rw [chk_pos (by omega), show ρ (1 + 1) (p : Int) = B 0 p from hB.day (by omega) (by omega), hd]
  simp only [Option.bind_some]
  rw [chk_pos (by omega)]
  cases hx : dpl B c d o with
  | none =>
    rw [hx] at h
    obtain ⟨h1, h2, h3, h4⟩ := h.2.2.1 rfl
    rw [h2, if_pos (by omega)]
    unfold f_X8_beginsLate_22
    rw [FU_9]
    rw [show loop (f_X8_beginsLate_22B ρ k 1 (p : Int) (d : Int)) (999991 + 9) 0 = some (.inr ()) from loop_end (by
      show f_X8_beginsLate_22C ρ k 1 p d 0 = _
      unfold f_X8_beginsLate_22C
      rw [chk_pos (by omega), h3, if_pos (by decide)])]
    rfl
  | some y =>
    obtain ⟨v, o', m, l⟩ := y
    obtain ⟨hm, -, -, hl, -, -, hor⟩ := dpl_some w hc hc2 hx
    rw [hx] at h
    obtain ⟨h1, h2, h3, h4, h5⟩ := h.2.2.2 v o' m l rfl
    have hl1 : lateX B c f p (some (v, (o', m, l))) ≤ 1 := by rw [← hx]; exact late_1 w hc hc2 p
    have hl2 : lateX B c f p (some (v, (o', m, l))) = (if o' = (p : Int) then 1 else 0) + cnt (fun k => decide (lq m l k = p) && decide (bg B c f (lq m l) k ≠ B 1 p)) (nof m) := rfl
    have hm4 := hm.2.1
    rw [h2]
    by_cases ho : o' = (p : Int)
    · rw [if_neg (by omega)]
      rw [if_pos ho] at hl2
      rw [show lateX B c f p (some (v, (o', m, l))) = 1 by omega]
      rfl
    · rw [if_pos ho]
      rw [if_neg ho, Nat.zero_add] at hl2
      rw [hl2]
      unfold f_X8_beginsLate_22
      obtain ⟨e, e1, e2⟩ := loop_ex (f := f_X8_beginsLate_22B ρ k 1 p d) (fun s => ∃ i : Nat, s = (i : Int) ∧ i ≤ nof m ∧ ∀ j, j < i → lq m l j ≠ p) (fun s => (10 - s).toNat) (fun e => (∃ i : Nat, i < nof m ∧ e = .inl (4 * (d : Int) + i) ∧ lq m l i = p) ∨ (e = .inr () ∧ ∀ j, j < nof m → lq m l j ≠ p)) (a := 0) ⟨0, rfl, Nat.zero_le _, fun j hj => absurd hj (Nat.not_lt_zero _)⟩ (Nat.le_of_ble_eq_true rfl) (by
        rintro _ ⟨i, rfl, hi, k1⟩
        show (∃ a', f_X8_beginsLate_22C ρ k 1 p d (i : Int) = _ ∧ _) ∨ ∃ a', f_X8_beginsLate_22C ρ k 1 p d (i : Int) = _ ∧ _
        unfold f_X8_beginsLate_22C
        rw [chk_pos (by omega), h3]
        by_cases hend : (nof m : Int) ≤ i
        · right
          rw [if_pos hend]
          have : i = nof m := by omega
          subst this
          exact ⟨_, rfl, Or.inr ⟨rfl, k1⟩⟩
        · rw [if_neg hend]
          simp only [Option.bind_some]
          have e4 : jadd (jmul (d : Int) 4) (i : Int) = 4 * (d : Int) + i := by rw [jmul_ok (by omega) (by omega), jadd_ok (by omega) (by omega)]; omega
          rw [e4, chk_pos (by omega), (h5 i (by omega)).1]
          by_cases hq : lq m l i = p
          · right
            rw [if_neg (by omega)]
            exact ⟨_, rfl, Or.inl ⟨i, by omega, rfl, hq⟩⟩
          · left
            rw [if_pos (by omega), jadd_ok (by omega) (by omega)]
            refine ⟨_, rfl, ⟨i + 1, by omega, by omega, fun j hj => ?_⟩, by omega⟩
            by_cases hji : j = i
            · subst hji; exact hq
            · exact k1 j (by omega))
      rw [e1]
      rcases e2 with ⟨i, i1, i2, i3⟩ | ⟨i2, i3⟩
      · rw [i2]
        show f_X8_beginsLate_52 ρ k 1 p (4 * (d : Int) + i) = _
        unfold f_X8_beginsLate_52
        rw [chk_pos (by omega), chk_pos (by omega), (h5 i i1).2.1, show ρ (1 + 2) (p : Int) = B 1 p from hB.start (by omega) (by omega)]
        rw [cnt_one i1 fun j hj hji => by
          have : lq m l j ≠ p := fun z => hji (lq_inj hm4 hl hj i1 (by rw [z, i3]))
          simp [this]]
        by_cases hb : bg B c f (lq m l) i = B 1 p
        · rw [if_pos hb]; simp [hb]
        · rw [if_neg hb]; simp [hb, i3]
      · rw [i2, cnt_none fun j hj => by simp [i3 j hj]]
        rfl
theorem late_b {B : Bk} (w : WF B) (p : Nat) : ∀ n : Nat, (n : Int) ≤ B 8 1 → lateS B p n ≤ n
  | 0, _ => Nat.le_refl _
  | n + 1, h => by
    have h1 := late_b w p n (by omega)
    have h2 : lateN B n p ≤ 1 := late_1 w (by omega) (by omega) p
    show lateS B p n + lateN B n p ≤ n + 1
    omega
theorem X10_lateOnes {σ : Mem} {B : Bk} (h : ST σ B) {p : Nat} (hp : (p : Int) < B 8 0) {N : Nat} (hN : B 8 1 = N) : ∃ τ, f_X10_lateOnesOf σ p = some (((lateS B p N : Nat) : Int), τ) ∧ CFr σ τ ∧ ST τ B := by
  have hn := h.2.2.1.1
  unfold WFn at hn
  have w := h.2.2.1
  have hp0 := w.2.1 p (by omega) hp
  obtain ⟨d, hd⟩ := n_of hp0.1.1
  unfold f_X10_lateOnesOf f_X10_lateOnesOf_4
  obtain ⟨e, e1, e2, e3, e4⟩ := loop_ex (f := f_X10_lateOnesOf_4B p) (fun s => ∃ i : Nat, s.2.1 = (i : Int) ∧ i ≤ N ∧ s.1 = ((lateS B p i : Nat) : Int) ∧ CFr σ s.2.2 ∧ ST s.2.2 B) (fun s => (10 - s.2.1).toNat) (fun e => e.1 = ((lateS B p N : Nat) : Int) ∧ CFr σ e.2 ∧ ST e.2 B) (a := (0, 0, σ)) ⟨0, rfl, Nat.zero_le _, rfl, CFr.rfl, h⟩ (Nat.le_of_ble_eq_true rfl) (by
    rintro ⟨x4, _, τ⟩ ⟨i, rfl, hi, g4, k1, k2⟩
    have g4 : x4 = _ := g4
    have k1 : CFr σ τ := k1
    have k2 : ST τ B := k2
    show (∃ a', f_X10_lateOnesOf_4C p x4 (i : Int) τ = _ ∧ _) ∨ ∃ a', f_X10_lateOnesOf_4C p x4 (i : Int) τ = _ ∧ _
    unfold f_X10_lateOnesOf_4C
    rw [k2.1.nC]
    by_cases hend : B 8 1 ≤ i
    · right
      rw [if_pos hend]
      have : i = N := by omega
      subst this
      exact ⟨_, rfl, g4, k1, k2⟩
    · left
      obtain ⟨ρ, a1, a2, a3, a4, a5⟩ := ask k2 (c := (i : Int)) (by omega) (by omega)
      have hb := late_b w p i (by omega)
      have h1 : lateN B i p ≤ 1 := late_1 w (by omega) (by omega) p
      have eb := X8_beginsLate a4.1 w (c := (i : Int)) (by omega) (by omega) hp hd (a5 d (by omega))
      have en : lateX B i (fre B i (ovr B i d)) p (dpl B i d (ovr B i d)) = lateN B i p := by
        unfold lateN
        rw [hd, Int.toNat_natCast]
      rw [en] at eb
      rw [if_neg hend, bind_some' a1, bind_some' eb]
      have fin : ∀ z : Int, z = ((lateS B p (i + 1) : Nat) : Int) → ∃ a', f_X10_lateOnesOf_41 ρ p z (i : Int) = some (.inl a') ∧ (∃ i : Nat, a'.2.1 = (i : Int) ∧ i ≤ N ∧ a'.1 = ((lateS B p i : Nat) : Int) ∧ CFr σ a'.2.2 ∧ ST a'.2.2 B) ∧ (10 - a'.2.1).toNat < (10 - (i : Int)).toNat := fun z hz => by
        unfold f_X10_lateOnesOf_41
        simp only [Option.bind_some]
        rw [jadd_ok (by omega) (by omega)]
        exact ⟨_, rfl, ⟨i + 1, by show (i : Int) + 1 = _; omega, by omega, hz, k1.trans a2, a4⟩, by show (10 - ((i : Int) + 1)).toNat < (10 - (i : Int)).toNat; omega⟩
      have es : lateS B p (i + 1) = lateS B p i + lateN B i p := rfl
      by_cases hz : ((lateN B i p : Nat) : Int) = 0
      · rw [if_pos hz]
        exact fin x4 (by rw [g4, es]; omega)
      · rw [if_neg hz, jadd_ok (by omega) (by omega)]
        exact fin _ (by rw [g4, es]; omega))
  rw [e1]
  exact ⟨e.2, by show some (e.1, e.2) = _; rw [e2], e3, e4⟩
theorem X11_elsewhere_in {τ : Mem} {B : Bk} (hR : isRk τ 182 B) (w : WF B) {c : Int} (hc : 0 ≤ c) (hc2 : c < B 8 1) {p : Nat} (hp : (p : Int) < B 8 0) {d : Nat} (hd : d < 5) (h : isRw τ B c d) {z : Int} (hz : 0 ≤ z ∧ z ≤ 1000) : f_X11_elsewhere_49 τ p z c d 0 = some (.inl (z + ((match dpl B c d (ovr B c d) with | none => 0 | some (_, (_, m, l)) => cnt (fun k => decide (lq m l k = p) && decide (bg B c (fre B c (ovr B c d)) (lq m l) k ≠ B 1 p)) (nof m) : Nat) : Int), c + 1, τ)) := by
  have hn := w.1
  unfold WFn at hn
  obtain ⟨hr, -, -⟩ := h
  have hcnt := isRd_cnt hr
  have hc4 := cntd_4 w hc hc2 d (ovr B c d)
  unfold f_X11_elsewhere_49
  obtain ⟨F, hF⟩ : ∃ F : Nat → Bool, F = fun k => match dpl B c d (ovr B c d) with | none => false | some (_, (_, m, l)) => decide (lq m l k = p) && decide (bg B c (fre B c (ovr B c d)) (lq m l) k ≠ B 1 p) := ⟨_, rfl⟩
  have hres : ((match dpl B c d (ovr B c d) with | none => 0 | some (_, (_, m, l)) => cnt (fun k => decide (lq m l k = p) && decide (bg B c (fre B c (ovr B c d)) (lq m l) k ≠ B 1 p)) (nof m) : Nat) : Int) = ((cnt F (cntd (dpl B c d (ovr B c d))) : Nat) : Int) := by
    rw [hF]
    cases dpl B c d (ovr B c d) with
    | none => rfl
    | some y => obtain ⟨v, o', m, l⟩ := y; rfl
  rw [hres]
  have hb := cnt_le F
  rw [show loop (f_X11_elsewhere_49B τ p c d) FU (z, 0) = some (z + ((cnt F (cntd (dpl B c d (ovr B c d))) : Nat) : Int)) from loop_is (P := fun s => ∃ i : Nat, s.2 = (i : Int) ∧ i ≤ cntd (dpl B c d (ovr B c d)) ∧ s.1 = z + ((cnt F i : Nat) : Int)) (μ := fun s => (10 - s.2).toNat) (by
    rintro ⟨x4, _⟩ ⟨i, rfl, hi, g4⟩
    have g4 : x4 = _ := g4
    show (∃ a', f_X11_elsewhere_49C τ p c d x4 (i : Int) = _ ∧ _) ∨ f_X11_elsewhere_49C τ p c d x4 (i : Int) = _
    unfold f_X11_elsewhere_49C
    rw [chk_pos (by omega), hcnt]
    by_cases hend : ((cntd (dpl B c d (ovr B c d)) : Nat) : Int) ≤ i
    · right
      rw [if_pos hend]
      have : i = cntd (dpl B c d (ovr B c d)) := by omega
      rw [g4, this]
    · left
      have e4 : jadd (jmul 4 (d : Int)) (i : Int) = 4 * (d : Int) + i := by rw [jmul_ok (by omega) (by omega), jadd_ok (by omega) (by omega)]
      rw [if_neg hend, e4, chk_pos (by omega), chk_pos (by omega), bind_some' (X11_start hR (by omega))]
      cases hx : dpl B c d (ovr B c d) with
      | none =>
        rw [hx] at hend
        exact absurd (show ((0 : Nat) : Int) ≤ i by omega) hend
      | some y =>
        obtain ⟨v, o', m, l⟩ := y
        rw [hx] at hr hend hi hc4
        have hc4' : nof m ≤ 4 := hc4
        obtain ⟨-, -, -, -, r5⟩ := hr.2 v o' m l rfl
        have hin : i < nof m := by
          have : ¬ ((nof m : Nat) : Int) ≤ i := hend
          omega
        obtain ⟨q1, q2⟩ := r5 i hin
        have hbi := hb i
        rw [q1, q2]
        have eF : F i = (decide (lq m l i = p) && decide (bg B c (fre B c (ovr B c d)) (lq m l) i ≠ B 1 p)) := by rw [hF, hx]
        have fin : ∀ (b : Bool) (s : Int), F i = b → s = (if b then 1 else 0) → ∃ a', f_X11_elsewhere_103 τ p c d (i : Int) s x4 = some (.inl a') ∧ (∃ i : Nat, a'.2 = (i : Int) ∧ i ≤ nof m ∧ a'.1 = z + ((cnt F i : Nat) : Int)) ∧ (10 - a'.2).toNat < (10 - (i : Int)).toNat := fun b s e1 e2 => by
          unfold f_X11_elsewhere_103
          simp only [Option.bind_some]
          have hs : 0 ≤ s ∧ s ≤ 1 := by rw [e2]; split <;> omega
          rw [jadd_ok (by omega) (by omega), jadd_ok (by omega) (by omega)]
          refine ⟨_, rfl, ⟨i + 1, by show (i : Int) + 1 = _; omega, by omega, ?_⟩, by show (10 - ((i : Int) + 1)).toNat < (10 - (i : Int)).toNat; omega⟩
          show x4 + s = _
          rw [g4, cnt_s, e1, e2]
          cases b
          · simp
          · simp; omega
        by_cases hq : ((lq m l i : Nat) : Int) ≠ p
        · rw [if_pos hq]
          exact fin false 0 (by rw [eF]; simp; omega) rfl
        · rw [if_neg hq]
          by_cases hb2 : bg B c (fre B c (ovr B c d)) (lq m l) i = B 1 p
          · rw [if_pos hb2]
            exact fin false 0 (by rw [eF]; simp [hb2]) rfl
          · rw [if_neg hb2]
            exact fin true 1 (by rw [eF]; simp [hb2]; omega) rfl) ⟨0, rfl, Nat.zero_le _, by show z = z + _; simp [cnt]⟩ (Nat.le_of_ble_eq_true rfl)]
  show f_X11_elsewhere_111 τ p _ c = _
  unfold f_X11_elsewhere_111
  simp only [Option.bind_some]
  rw [jadd_ok (by omega) (by omega)]
theorem X11_elsewhere_ok {σ : Mem} {B : Bk} (hR : isRk σ 182 B) (w : WF B) {p : Nat} (hp : (p : Int) < B 8 0) {N : Nat} (hN : B 8 1 = N) : ∃ τ, f_X11_elsewhere σ p = some (((lateS B p N : Nat) : Int), τ) ∧ ∀ x, ¬ (192 ≤ x ∧ x ≤ 202) → τ x = σ x := by
  have hn := w.1
  unfold WFn at hn
  have hp0 := w.2.1 p (by omega) hp
  obtain ⟨d, hd⟩ := n_of hp0.1.1
  unfold f_X11_elsewhere f_X11_elsewhere_4
  obtain ⟨e, e1, e2, e3⟩ := loop_ex (f := f_X11_elsewhere_4B p) (fun s => ∃ i : Nat, s.2.1 = (i : Int) ∧ i ≤ N ∧ s.1 = ((lateS B p i : Nat) : Int) ∧ ∀ x, ¬ (192 ≤ x ∧ x ≤ 202) → s.2.2 x = σ x) (fun s => (10 - s.2.1).toNat) (fun e => e.1 = ((lateS B p N : Nat) : Int) ∧ ∀ x, ¬ (192 ≤ x ∧ x ≤ 202) → e.2 x = σ x) (a := (0, 0, σ)) ⟨0, rfl, Nat.zero_le _, rfl, fun _ _ => rfl⟩ (Nat.le_of_ble_eq_true rfl) (by
    rintro ⟨x4, _, τ⟩ ⟨i, rfl, hi, g4, k1⟩
    have g4 : x4 = _ := g4
    have k1 : ∀ x, ¬ (192 ≤ x ∧ x ≤ 202) → τ x = σ x := k1
    show (∃ a', f_X11_elsewhere_4C p x4 (i : Int) τ = _ ∧ _) ∨ ∃ a', f_X11_elsewhere_4C p x4 (i : Int) τ = _ ∧ _
    unfold f_X11_elsewhere_4C
    have hRt : isRk τ 182 B := hR.row (k1 182 (by decide))
    rw [chk_pos (by decide), hRt.nC]
    by_cases hend : B 8 1 ≤ i
    · right
      rw [if_pos hend]
      have : i = N := by omega
      subst this
      exact ⟨_, rfl, g4, k1⟩
    · left
      obtain ⟨ρ, t1, t2, t3⟩ := X11_plans hRt w (c := (i : Int)) (by omega) (by omega)
      have hRr := hRt.row (t2 182 (by decide))
      have hb := late_b w p i (by omega)
      rw [if_neg hend, bind_some' t1, bind_some' (X11_day hRr (by omega)), hd, chk_pos (by omega), isRd_ov (t3 d (by omega)).1]
      have fin : ∀ s : Int, s = (if ov (dpl B i d (ovr B i d)) = (p : Int) then 1 else 0) → ∃ a', f_X11_elsewhere_44 ρ p (i : Int) d s x4 = some (.inl a') ∧ (∃ i : Nat, a'.2.1 = (i : Int) ∧ i ≤ N ∧ a'.1 = ((lateS B p i : Nat) : Int) ∧ ∀ x, ¬ (192 ≤ x ∧ x ≤ 202) → a'.2.2 x = σ x) ∧ (10 - a'.2.1).toNat < (10 - (i : Int)).toNat := fun s hs => by
        unfold f_X11_elsewhere_44
        simp only [Option.bind_some]
        have hs1 : 0 ≤ s ∧ s ≤ 1 := by rw [hs]; split <;> omega
        rw [jadd_ok (by omega) (by omega), X11_elsewhere_in hRr w (by omega) (by omega) hp (by omega) (t3 d (by omega)) (by omega)]
        refine ⟨_, rfl, ⟨i + 1, by show (i : Int) + 1 = _; omega, by omega, ?_, fun x hx => by show ρ x = _; rw [t2 x hx, k1 x hx]⟩, by show (10 - ((i : Int) + 1)).toNat < (10 - (i : Int)).toNat; omega⟩
        show x4 + s + _ = (((lateS B p i + lateN B i p : Nat)) : Int)
        rw [g4, hs]
        unfold lateN
        rw [hd, Int.toNat_natCast]
        cases hx : dpl B i d (ovr B i d) with
        | none =>
          show _ + (if (-1 : Int) = (p : Int) then (1 : Int) else 0) + ((0 : Nat) : Int) = ((_ + 0 : Nat) : Int)
          rw [if_neg (by omega)]; omega
        | some y =>
          obtain ⟨v, o', m, l⟩ := y
          show _ + (if o' = (p : Int) then (1 : Int) else 0) + ((cnt _ (nof m) : Nat) : Int) = ((_ + ((if o' = (p : Int) then 1 else 0) + cnt _ (nof m)) : Nat) : Int)
          split <;> omega
      by_cases ho : ov (dpl B i d (ovr B i d)) ≠ (p : Int)
      · rw [if_pos ho]
        exact fin 0 (by rw [if_neg ho])
      · rw [if_neg ho]
        exact fin 1 (by rw [if_pos (Decidable.not_not.mp ho)]))
  rw [e1]
  exact ⟨e.2, by show some (e.1, e.2) = _; rw [e2], e3⟩
theorem X10_takers {σ : Mem} {B : Bk} (hB : isBk σ 1 B) (w : WF B) {p : Nat} (hp : p < 12) {N : Nat} (hN : B 8 1 = N) : f_X10_takersOf σ p = some ((cnt (fun c => tk B c p) N : Nat) : Int) := by
  have hn := w.1
  unfold WFn at hn
  unfold f_X10_takersOf f_X10_takersOf_4
  rw [show loop (f_X10_takersOf_4B σ p) FU (0, 0) = some ((cnt (fun c => tk B c p) N : Nat) : Int) from loop_is (P := fun s => ∃ i : Nat, s.2 = (i : Int) ∧ i ≤ N ∧ s.1 = ((cnt (fun c => tk B c p) i : Nat) : Int)) (μ := fun s => (10 - s.2).toNat) (by
    rintro ⟨x4, _⟩ ⟨i, rfl, hi, g4⟩
    have g4 : x4 = _ := g4
    show (∃ a', f_X10_takersOf_4C σ p x4 (i : Int) = _ ∧ _) ∨ f_X10_takersOf_4C σ p x4 (i : Int) = _
    unfold f_X10_takersOf_4C
    rw [hB.nC]
    have hb := cnt_le (fun c => tk B c p) i
    by_cases hend : B 8 1 ≤ i
    · right
      rw [if_pos hend, g4]
      have : i = N := by omega
      rw [this]
    · left
      rw [if_neg hend, bind_some' (X0_doesTake hB w (by omega) (by omega) (by omega))]
      have fin : ∀ z : Int, z = ((cnt (fun c => tk B c p) (i + 1) : Nat) : Int) → ∃ a', f_X10_takersOf_30 σ p z (i : Int) = some (.inl a') ∧ (∃ i : Nat, a'.2 = (i : Int) ∧ i ≤ N ∧ a'.1 = ((cnt (fun c => tk B c p) i : Nat) : Int)) ∧ (10 - a'.2).toNat < (10 - (i : Int)).toNat := fun z hz => by
        unfold f_X10_takersOf_30
        simp only [Option.bind_some]
        rw [jadd_ok (by omega) (by omega)]
        exact ⟨_, rfl, ⟨i + 1, by show (i : Int) + 1 = _; omega, by omega, hz⟩, by show (10 - ((i : Int) + 1)).toNat < (10 - (i : Int)).toNat; omega⟩
      cases ht : tk B i p with
      | true =>
        rw [if_neg (by simp), jadd_ok (by omega) (by omega)]
        exact fin _ (by rw [g4, cnt_s, if_pos ht]; omega)
      | false =>
        rw [if_pos (by simp)]
        exact fin _ (by rw [g4, cnt_s, if_neg (by rw [ht]; decide)])) ⟨0, rfl, Nat.zero_le _, rfl⟩ (Nat.le_of_ble_eq_true rfl)]
  rfl
theorem X11_paperOf50 {σ : Mem} {B : Bk} (hR : isRk σ 182 B) (w : WF B) {p : Nat} (hp : p < 12) {N : Nat} (hN : B 8 1 = N) (x : Int) : f_X11_paperOf_50 σ p x 0 0 = f_X11_paperOf_86 σ p x ((cnt (fun c => tk B c p) N : Nat) : Int) := by
  have hn := w.1
  unfold WFn at hn
  unfold f_X11_paperOf_50
  rw [show loop (f_X11_paperOf_50B σ p x) FU (0, 0) = some ((cnt (fun c => tk B c p) N : Nat) : Int) from loop_is (P := fun s => ∃ i : Nat, s.2 = (i : Int) ∧ i ≤ N ∧ s.1 = ((cnt (fun c => tk B c p) i : Nat) : Int)) (μ := fun s => (10 - s.2).toNat) (by
    rintro ⟨x4, _⟩ ⟨i, rfl, hi, g4⟩
    have g4 : x4 = _ := g4
    show (∃ a', f_X11_paperOf_50C σ p x x4 (i : Int) = _ ∧ _) ∨ f_X11_paperOf_50C σ p x x4 (i : Int) = _
    unfold f_X11_paperOf_50C
    rw [chk_pos (by decide), hR.nC]
    have hb := cnt_le (fun c => tk B c p) i
    by_cases hend : B 8 1 ≤ i
    · right
      rw [if_pos hend, g4]
      have : i = N := by omega
      rw [this]
    · left
      rw [if_neg hend, bind_some' (X11_has hR w (by omega) (by omega) (by omega))]
      have fin : ∀ z : Int, (z = 0 ∨ z = 1) → x4 + z = ((cnt (fun c => tk B c p) (i + 1) : Nat) : Int) → ∃ a', f_X11_paperOf_78 σ p x (i : Int) z x4 = some (.inl a') ∧ (∃ i : Nat, a'.2 = (i : Int) ∧ i ≤ N ∧ a'.1 = ((cnt (fun c => tk B c p) i : Nat) : Int)) ∧ (10 - a'.2).toNat < (10 - (i : Int)).toNat := fun z hz0 hz => by
        unfold f_X11_paperOf_78
        simp only [Option.bind_some]
        rw [jadd_ok (by omega) (by omega), jadd_ok (by omega) (by omega)]
        exact ⟨_, rfl, ⟨i + 1, by show (i : Int) + 1 = _; omega, by omega, hz⟩, by show (10 - ((i : Int) + 1)).toNat < (10 - (i : Int)).toNat; omega⟩
      cases ht : tk B i p with
      | true =>
        rw [if_neg (by simp)]
        exact fin _ (Or.inr rfl) (by rw [g4, cnt_s, if_pos ht]; omega)
      | false =>
        rw [if_pos (by simp)]
        exact fin _ (Or.inl rfl) (by rw [g4, cnt_s, if_neg (by rw [ht]; decide)]; omega)) ⟨0, rfl, Nat.zero_le _, rfl⟩ (Nat.le_of_ble_eq_true rfl)]
  rfl
/-- paperOf -/
theorem k_paperOf {n : Nat} {σ : Mem} {B : Bk} (h : INV0 n σ B) (hl : n < 1000) (p x : Int) : CALL0 n σ B (f_X10_paperOf σ p x) (fun ρ => f_X11_paperOf ρ p x) := by
  have hst := h.1
  obtain ⟨hB, hR, w, hW⟩ := h.1
  have hn := w.1
  unfold WFn at hn
  have hR' : isRk (refd σ (-52)) 182 B := isRk_refd hR
  by_cases h1 : 0 ≤ p ∧ p < B 8 0
  rotate_left
  · refine same.call h (same.no (x := -52) (by omega) (by decide) ?_ CFr.rfl hW ?_ RFr.rfl)
    · unfold f_X10_paperOf
      rw [bind_some' (X0_hasPaper hB p), if1, if_neg h1]
      exact c_no (by decide)
    · show f_X11_paperOf _ p x = _
      unfold f_X11_paperOf
      rw [bind_some' (X11_isPaper hR' w p), if0, if_neg h1]
      exact r_no (by decide)
  obtain ⟨p, rfl⟩ := n_of h1.1
  obtain ⟨N, hN⟩ := n_of hn.2.1.1
  by_cases hx : 0 ≤ x ∧ x ≤ 4
  rotate_left
  · refine same.call h (same.no (x := -52) (by omega) (by decide) ?_ CFr.rfl hW ?_ RFr.rfl)
    · unfold f_X10_paperOf
      rw [bind_some' (X0_hasPaper hB _), if1, if_pos h1]
      rw [if_neg (by omega), if_neg (by omega), if_neg (by omega), if_neg (by omega), if_neg (by omega)]
      exact c_no (by decide)
    · show f_X11_paperOf _ _ _ = _
      unfold f_X11_paperOf
      rw [bind_some' (X11_isPaper hR' w _), if0, if_pos h1]
      rw [bind_some' (X11_isIn x 0 4), if1, if_neg hx]
      exact r_no (by decide)
  by_cases hx3 : x < 3
  · refine same.call h (same.ok (v := if x = 0 then B 0 p else if x = 1 then B 1 p else B 2 p) (by omega) ?_ CFr.rfl hW ?_ RFr.rfl)
    · unfold f_X10_paperOf
      rw [bind_some' (X0_hasPaper hB _), if1, if_pos h1]
      rw [chk_pos (by omega), chk_pos (by omega), chk_pos (by omega), show σ 2 (p : Int) = B 0 p from hB.day h1.1 (by omega), show σ 3 (p : Int) = B 1 p from hB.start h1.1 (by omega), show σ 4 (p : Int) = B 2 p from hB.len h1.1 (by omega)]
      by_cases e0 : x = 0
      · rw [if_pos e0, if_pos e0]
      · by_cases e1 : x = 1
        · rw [if_neg e0, if_neg e0, if_pos e1, if_pos e1]
        · rw [if_neg e0, if_neg e0, if_neg e1, if_neg e1, if_pos (by omega)]
    · show f_X11_paperOf _ _ _ = _
      unfold f_X11_paperOf
      rw [bind_some' (X11_isPaper hR w _), if0, if_pos h1]
      rw [bind_some' (X11_isIn x 0 4), if1, if_pos hx, if_neg (by omega), j3 (by omega), jadd_ok (by omega) (by omega), chk_pos (by omega)]
      by_cases e0 : x = 0
      · rw [if_pos e0, e0, Int.add_zero, hR.day h1.1 (by omega)]
      · by_cases e1 : x = 1
        · rw [if_neg e0, if_pos e1, e1, hR.start h1.1 (by omega)]
        · rw [if_neg e0, if_neg e1, show x = 2 by omega, hR.len h1.1 (by omega)]
  by_cases hx4 : x = 3
  · refine same.call h (same.ok (v := ((cnt (fun c => tk B c p) N : Nat) : Int)) (by omega) ?_ CFr.rfl hW ?_ RFr.rfl)
    · unfold f_X10_paperOf
      rw [bind_some' (X0_hasPaper hB _), if1, if_pos h1]
      rw [if_neg (by omega), if_neg (by omega), if_neg (by omega), if_pos hx4, bind_some' (X10_takers hB w (by omega) hN)]
    · show f_X11_paperOf _ _ _ = _
      unfold f_X11_paperOf
      rw [bind_some' (X11_isPaper hR w _), if0, if_pos h1]
      rw [bind_some' (X11_isIn x 0 4), if1, if_pos hx, if_pos (by omega), X11_paperOf50 hR w (by omega) hN]
      unfold f_X11_paperOf_86
      rw [if_neg (by omega)]
  · obtain ⟨ρ, a1, a2, a4⟩ := X10_lateOnes hst h1.2 hN
    obtain ⟨hBr, hRr, -, hWr⟩ := a4
    obtain ⟨τ, t1, t2⟩ := X11_elsewhere_ok hRr w h1.2 hN
    refine same.call h (same.ok (τ := τ) (v := ((lateS B p N : Nat) : Int)) (by omega) ?_ a2 hWr ?_ (rf_of t2))
    · unfold f_X10_paperOf
      rw [bind_some' (X0_hasPaper hB _), if1, if_pos h1]
      rw [if_neg (by omega), if_neg (by omega), if_neg (by omega), if_neg (by omega), if_pos (by omega), bind_some' a1]
    · show f_X11_paperOf _ _ _ = _
      unfold f_X11_paperOf
      rw [bind_some' (X11_isPaper hRr w _), if0, if_pos h1]
      rw [bind_some' (X11_isIn x 0 4), if1, if_pos hx, if_pos (by omega), X11_paperOf50 hRr w (by omega) hN]
      unfold f_X11_paperOf_86
      rw [if_pos (by omega), bind_some' t1]
