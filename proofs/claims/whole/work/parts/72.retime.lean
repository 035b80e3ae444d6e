/-! WHAT IF: retime (by mk72.py) -/
def bv (B : Bk) (p : Nat) (v : Int) : Bk := mup B 1 p v
theorem bv_r {B : Bk} {p : Nat} {v x : Int} (h : x ≠ 1) : bv B p v x = B x := mup_row h
theorem bv_o {B : Bk} {p : Nat} {v q : Int} (h : q ≠ p) : bv B p v 1 q = B 1 q := mup_miss (fun z => h z.2)
theorem WF_bv {B : Bk} (w : WF B) {p : Nat} {v : Int} (hv : 0 ≤ v ∧ v < 48) : WF (bv B p v) := by
  obtain ⟨w1, w2, w3, w4⟩ := w
  refine ⟨by unfold WFn; rw [bv_r (by decide)]; exact w1, fun q q1 q2 => ?_, w3.of (bv_r (by decide)) (bv_r (by decide)) (bv_r (by decide)) (bv_r (by decide)) (bv_r (by decide)) (by rw [bv_r (by decide)]) (by rw [bv_r (by decide)]), w4.of (bv_r (by decide)) (by rw [bv_r (by decide)])⟩
  rw [bv_r (by decide)] at q2
  have := w2 q q1 q2
  rw [bv_r (show (0 : Int) ≠ 1 by decide), bv_r (show (2 : Int) ≠ 1 by decide)]
  refine ⟨this.1, ?_, this.2.2⟩
  by_cases e : q = p
  · rw [e]; show 0 ≤ mup B 1 p v 1 p ∧ mup B 1 p v 1 p < 48; rw [mup_hit rfl rfl]; exact hv
  · rw [bv_o e]; exact this.2.1
theorem bv_od {B : Bk} {p : Nat} {v c d : Int} : od (bv B p v) c d = od B c d := od_congr (by rw [bv_r (by decide)]) (bv_r (by decide)) (by rw [bv_r (by decide)])
theorem agr_bv {B : Bk} {p : Nat} {v c d : Int} (h : (od B c d).testBit p = false) : agr B (bv B p v) c d := ⟨by rw [bv_r (by decide)], by rw [bv_r (by decide)], by rw [bv_r (by decide)], by rw [bv_r (by decide)], fun q _ _ => by rw [bv_r (by decide)], bv_od, fun q hq => bv_o (fun e => by
  have : q = p := by omega
  rw [this] at hq
  rw [h] at hq
  cases hq)⟩
theorem bv_tk {B : Bk} {p : Nat} {v c : Int} (i : Nat) : tk (bv B p v) c i = tk B c i := by unfold tk; rw [bv_r (by decide)]
theorem cts_agr {B B' : Bk} (w : WF B) {c : Int} (hc : 0 ≤ c) (hc2 : c < B 8 1) (h : ∀ d : Nat, agr B B' c d) (n : Nat) : cts B' c n = cts B c n := cnt_congr fun d _ => by rw [ovr_agr w hc hc2 h d, dpl_agr w hc hc2 (h d) (ovr_b w hc hc2 d).2]
theorem kpt_agr {B B' : Bk} (w : WF B) {c : Int} (hc : 0 ≤ c) (hc2 : c < B 8 1) (h : ∀ d : Nat, agr B B' c d) : ∀ n, kpt B' c n = kpt B c n
  | 0 => rfl
  | n + 1 => by
    show kpt B' c n + kv (dpl B' c n (ovr B' c n)) = kpt B c n + kv (dpl B c n (ovr B c n))
    rw [kpt_agr w hc hc2 h n, ovr_agr w hc hc2 h n, dpl_agr w hc hc2 (h n) (ovr_b w hc hc2 n).2]
def cC (B : Bk) (p : Nat) (v : Int) : Nat → Nat
  | 0 => 0
  | c + 1 => if tk B c p then cC B p v c + cts (bv B p v) c 5 else cC B p v c
def cK (B : Bk) (p : Nat) (v : Int) : Nat → Int
  | 0 => 0
  | c + 1 => if tk B c p then cK B p v c + kpt (bv B p v) c 5 else cK B p v c
def cO (B : Bk) (p : Nat) (v : Int) : Nat → Int
  | 0 => 0
  | c + 1 => cO B p v c + (10000 * (cts (bv B p v) c 5 : Int) + kpt (bv B p v) c 5)
def cR (B : Bk) (p : Nat) : Nat → Int
  | 0 => 0
  | c + 1 => if tk B c p then cR B p c else cR B p c + (10000 * (cts B c 5 : Int) + kpt B c 5)
theorem c_all {B : Bk} (w : WF B) {p : Nat} {v : Int} (hv : 0 ≤ v ∧ v < 48) : ∀ n : Nat, (n : Int) ≤ B 8 1 → cO B p v n = cR B p n + 10000 * (cC B p v n : Int) + cK B p v n ∧ cC B p v n ≤ 5 * n ∧ 0 ≤ cK B p v n ∧ cK B p v n ≤ 240 * n ∧ 0 ≤ cO B p v n ∧ cO B p v n ≤ 60000 * n
  | 0, _ => ⟨rfl, Nat.le_refl _, Int.le_refl _, by show (0 : Int) ≤ 240 * ((0 : Nat) : Int); decide, Int.le_refl _, by show (0 : Int) ≤ 60000 * ((0 : Nat) : Int); decide⟩
  | n + 1, hn => by
    obtain ⟨h1, h2, h3, h4, h5, h6⟩ := c_all w (p := p) hv n (by omega)
    have w' := WF_bv w (p := p) hv
    have k1 := cts_5 (bv B p v) n
    have k2 := kpt_b w' (c := (n : Int)) (by omega) (by rw [bv_r (by decide)]; omega) 5
    show cO B p v n + (10000 * (cts (bv B p v) n 5 : Int) + kpt (bv B p v) n 5) = (if tk B n p then cR B p n else cR B p n + (10000 * (cts B n 5 : Int) + kpt B n 5)) + 10000 * ((if tk B n p then cC B p v n + cts (bv B p v) n 5 else cC B p v n : Nat) : Int) + (if tk B n p then cK B p v n + kpt (bv B p v) n 5 else cK B p v n) ∧ (if tk B n p then cC B p v n + cts (bv B p v) n 5 else cC B p v n) ≤ 5 * (n + 1) ∧ 0 ≤ (if tk B n p then cK B p v n + kpt (bv B p v) n 5 else cK B p v n) ∧ (if tk B n p then cK B p v n + kpt (bv B p v) n 5 else cK B p v n) ≤ 240 * ((n + 1 : Nat) : Int) ∧ 0 ≤ cO B p v n + (10000 * (cts (bv B p v) n 5 : Int) + kpt (bv B p v) n 5) ∧ cO B p v n + (10000 * (cts (bv B p v) n 5 : Int) + kpt (bv B p v) n 5) ≤ 60000 * ((n + 1 : Nat) : Int)
    cases ht : tk B n p with
    | true =>
      simp only [if_pos]
      omega
    | false =>
      have ha : ∀ d : Nat, agr B (bv B p v) n d := fun d => agr_bv (by rw [od_tb, ht]; simp)
      rw [cts_agr w (by omega) (by omega) ha 5, kpt_agr w (by omega) (by omega) ha 5] at *
      simp only [Bool.false_eq_true, if_false]
      omega
/-- the first of the least ones -/
def am (f : Nat → Int) : Nat → Nat
  | 0 => 0
  | v + 1 => if f (v + 1) < f (am f v) then v + 1 else am f v
theorem am_le (f : Nat → Int) : ∀ v, am f v ≤ v
  | 0 => Nat.le_refl _
  | v + 1 => by
    have := am_le f v
    unfold am
    split <;> omega
theorem am_s (f : Nat → Int) (v : Nat) : am f (v + 1) = if f (v + 1) < f (am f v) then v + 1 else am f v := rfl
theorem X10_try45 {σ : Mem} {B : Bk} (h : ST σ B) {p : Nat} (hp : (p : Int) < B 8 0) {v : Nat} (hv : v < 48) (hD : isBk σ 10 (bv B p v)) (h0 : σ 179 v = 0) (h1 : σ 180 v = 0) {N : Nat} (hN : B 8 1 = N) : ∃ τ, f_X10_tryStarts_45 σ p v 0 = some (.inl ((v : Int) + 1, τ)) ∧ CFr σ τ ∧ ST τ B ∧ isBk τ 10 (bv B p v) ∧ τ 179 v = (cC B p v N : Int) ∧ τ 180 v = cK B p v N ∧ ∀ u, u ≠ (v : Int) → τ 179 u = σ 179 u ∧ τ 180 u = σ 180 u := by
  have hn := h.2.2.1.1
  unfold WFn at hn
  have w := h.2.2.1
  have w' := WF_bv w (p := p) (v := v) (by omega)
  have hp0 := w.2.1 p (by omega) hp
  obtain ⟨d0, hd0⟩ := n_of hp0.1.1
  have e8 : bv B p v 8 = B 8 := bv_r (by decide)
  unfold f_X10_tryStarts_45
  obtain ⟨e, e1, e2, e3, e4, e5, e6, e7⟩ := loop_ex (f := f_X10_tryStarts_45B p v) (fun s => ∃ i : Nat, s.1 = (i : Int) ∧ i ≤ N ∧ CFr σ s.2 ∧ ST s.2 B ∧ isBk s.2 10 (bv B p v) ∧ s.2 179 v = (cC B p v i : Int) ∧ s.2 180 v = cK B p v i ∧ ∀ u, u ≠ (v : Int) → s.2 179 u = σ 179 u ∧ s.2 180 u = σ 180 u) (fun s => (20 - s.1).toNat) (fun e => CFr σ e ∧ ST e B ∧ isBk e 10 (bv B p v) ∧ e 179 v = (cC B p v N : Int) ∧ e 180 v = cK B p v N ∧ ∀ u, u ≠ (v : Int) → e 179 u = σ 179 u ∧ e 180 u = σ 180 u) (a := (0, σ)) ⟨0, rfl, Nat.zero_le _, CFr.rfl, h, hD, h0, h1, fun _ _ => ⟨rfl, rfl⟩⟩ (Nat.le_of_ble_eq_true rfl) (by
    rintro ⟨_, τ⟩ ⟨i, rfl, hi, k1, k2, k3, k4, k5, k6⟩
    have k1 : CFr σ τ := k1
    have k2 : ST τ B := k2
    have k3 : isBk τ 10 (bv B p v) := k3
    have k4 : τ 179 v = (cC B p v i : Int) := k4
    have k5 : τ 180 v = cK B p v i := k5
    have k6 : ∀ u, u ≠ (v : Int) → τ 179 u = σ 179 u ∧ τ 180 u = σ 180 u := k6
    show (∃ a', f_X10_tryStarts_45C p v (i : Int) τ = _ ∧ _) ∨ ∃ a', f_X10_tryStarts_45C p v (i : Int) τ = _ ∧ _
    unfold f_X10_tryStarts_45C
    rw [k3.nC, e8]
    by_cases hend : B 8 1 ≤ i
    · right
      rw [if_pos hend]
      have : i = N := by omega
      subst this
      exact ⟨_, rfl, k1, k2, k3, k4, k5, k6⟩
    · left
      have fin : ∀ ρ : Mem, CFr σ ρ → ST ρ B → isBk ρ 10 (bv B p v) → ρ 179 v = (cC B p v (i + 1) : Int) → ρ 180 v = cK B p v (i + 1) → (∀ u, u ≠ (v : Int) → ρ 179 u = σ 179 u ∧ ρ 180 u = σ 180 u) → ∃ a', f_X10_tryStarts_144 ρ p v (i : Int) = some (.inl a') ∧ (∃ i : Nat, a'.1 = (i : Int) ∧ i ≤ N ∧ CFr σ a'.2 ∧ ST a'.2 B ∧ isBk a'.2 10 (bv B p v) ∧ a'.2 179 v = (cC B p v i : Int) ∧ a'.2 180 v = cK B p v i ∧ ∀ u, u ≠ (v : Int) → a'.2 179 u = σ 179 u ∧ a'.2 180 u = σ 180 u) ∧ (20 - a'.1).toNat < (20 - (i : Int)).toNat := fun ρ z1 z2 z3 z4 z5 z6 => by
        unfold f_X10_tryStarts_144
        simp only [Option.bind_some]
        rw [jadd_ok (by omega) (by omega)]
        exact ⟨_, rfl, ⟨i + 1, by show (i : Int) + 1 = _; omega, by omega, z1, z2, z3, z4, z5, z6⟩, by show (20 - ((i : Int) + 1)).toNat < (20 - (i : Int)).toNat; omega⟩
      have ec : cC B p v (i + 1) = if tk B i p then cC B p v i + cts (bv B p v) i 5 else cC B p v i := rfl
      have ek : cK B p v (i + 1) = if tk B i p then cK B p v i + kpt (bv B p v) i 5 else cK B p v i := rfl
      rw [if_neg hend, bind_some' (X0_doesTake k3 w' (c := (i : Int)) (p := p) (by omega) (by rw [e8]; omega) (by omega)), bv_tk]
      cases ht : tk B i p with
      | false =>
        rw [bf, if_pos rfl]
        rw [ht] at ec ek
        exact fin τ k1 k2 k3 (by rw [ec]; exact k4) (by rw [ek]; exact k5) k6
      | true =>
        rw [bt, if_neg (by decide)]
        rw [ht] at ec ek
        obtain ⟨ρ, a1, a2, a3, a4, a5⟩ := ask k2 (c := (i : Int)) (by omega) (by omega)
        have pp1 : ((54 + 10 * (i : Int), ρ) : Int × Mem).1 = 54 + 10 * (i : Int) := rfl
        have pp2 : ((54 + 10 * (i : Int), ρ) : Int × Mem).2 = ρ := rfl
        rw [bind_some' a1, pp1, pp2]
        obtain ⟨τ1, b1, b2, b3⟩ := X8_become w (c := (i : Int)) (by omega) (by omega) (k2 := 54 + 10 * (i : Int)) (by omega) a5
        rw [bind_some' b1, chk_pos (by omega)]
        have hD2 : isBk τ1 10 (bv B p v) := k3.rows fun x x1 x2 => by rw [b2 x (by omega), a3 x (by omega) (by omega)]
        rw [show τ1 11 (p : Int) = (d0 : Int) by rw [← hd0, show τ1 11 (p : Int) = bv B p v 0 p from hD2.day (by omega) (by omega), bv_r (by decide)]]
        obtain ⟨τ2, r1, r2, r3⟩ := X4_replan (Or.inr (Or.inl rfl)) hD2 w w' (c := (i : Int)) (by omega) (by omega) (by rw [e8]; omega) (k := 154) (by unfold isK; decide) (d0 := d0) (by omega) (fun d hd => agr_bv (by rw [od_tb, hd0, decide_eq_false (show ¬ (d0 : Int) = (d : Int) by omega)]; simp)) (by rw [e8]) b3
        have hk := kpt_b w' (c := (i : Int)) (by omega) (by rw [e8]; omega) 5
        have hc5 := cts_5 (bv B p v) i
        obtain ⟨-, q2, q3, q4, -, -⟩ := c_all w (p := p) (v := v) (by omega) i (by omega)
        have m1 : ∀ x, x ≠ 179 → x ≠ 180 → ¬ (36 ≤ x ∧ x ≤ 42) → ¬ (45 ≤ x ∧ x ≤ 163) → τ2 x = τ x := fun x x1 x2 x3 x4 => by rw [r2 x x3 (by omega), b2 x (by omega), a3 x x3 (by omega)]
        have m2 : τ2 179 = τ 179 ∧ τ2 180 = τ 180 := ⟨by rw [r2 179 (by decide) (by decide), b2 179 (by decide), a3 179 (by decide) (by decide)], by rw [r2 180 (by decide) (by decide), b2 180 (by decide), a3 180 (by decide) (by decide)]⟩
        rw [bind_some' r1, chk_pos (by omega), bind_some' (X8_cants r3), chk_pos (by omega), m2.1, k4, jadd_ok (by omega) (by omega)]
        simp only [Option.bind_some]
        obtain ⟨τ3, hτ3⟩ : ∃ τ3, τ3 = mup τ2 179 v ((cC B p v i : Int) + (cts (bv B p v) i 5 : Int)) := ⟨_, rfl⟩
        rw [← hτ3]
        have n1 : ∀ x, x ≠ 179 → τ3 x = τ2 x := fun x hx => by rw [hτ3]; exact mup_row hx
        rw [chk_pos (by omega), bind_some' (X8_keptSlots w' (by omega) (by rw [e8]; omega) (r3.keep fun x x1 x2 => n1 x (by omega))), chk_pos (by omega), n1 180 (by decide), m2.2, k5, jadd_ok (by omega) (by omega)]
        have fr : ∀ x, x ≠ 179 → x ≠ 180 → mup τ3 180 v (cK B p v i + kpt (bv B p v) i 5) x = τ2 x := fun x x1 x2 => by rw [mup_row x2, n1 x x1]
        refine fin _ (fun x x1 x2 x3 x4 x5 => ?_) (a4.of (fun x x1 x2 => ?_) ?_ (fun x x1 x2 => ?_)) (hD2.rows fun x x1 x2 => by rw [fr x (by omega) (by omega), r2 x (by omega) (by omega)]) ?_ ?_ (fun u hu => ?_)
        · rw [fr x x4 x5, r2 x (by omega) (by omega), b2 x (by omega), a2 x (by omega) x2 x3 x4 x5, k1 x x1 x2 x3 x4 x5]
        · rw [fr x (by omega) (by omega), r2 x (by omega) (by omega), b2 x (by omega)]
        · rw [fr 182 (by decide) (by decide), r2 182 (by decide) (by decide), b2 182 (by decide)]
        · rw [fr x (by omega) (by omega), r2 x (by omega) (by omega), b2 x (by omega)]
        · rw [mup_miss (by omega), hτ3, mup_hit rfl rfl, ec]
          simp
        · rw [mup_hit rfl rfl, ek]
          rfl
        · rw [mup_miss (k := 180) (a := 179) (by omega), hτ3, mup_miss (fun z => hu z.2), m2.1, mup_miss (fun z => hu z.2), mup_miss (k := 179) (a := 180) (by omega), m2.2]
          exact k6 u hu)
  rw [e1]
  refine ⟨e, ?_, e2, e3, e4, e5, e6, e7⟩
  show f_X10_tryStarts_150 e p v = _
  unfold f_X10_tryStarts_150
  simp only [Option.bind_some]
  rw [jadd_ok (by omega) (by omega)]
theorem X10_tryStarts {σ : Mem} {B : Bk} (h : ST σ B) {p : Nat} (hp : (p : Int) < B 8 0) {N : Nat} (hN : B 8 1 = N) : ∃ τ, f_X10_tryStarts σ p = some τ ∧ CFr σ τ ∧ ST τ B ∧ ∀ u : Nat, u < 48 → τ 179 u = (cC B p u N : Int) ∧ τ 180 u = cK B p u N := by
  have hn := h.2.2.1.1
  unfold WFn at hn
  have w := h.2.2.1
  obtain ⟨σ1, b1, b2, b3⟩ := X0_become (σ := σ) (b0 := 10) h.1 (by decide)
  have hst1 : ST σ1 B := h.of (fun x x1 x2 => b3 x (by omega)) (b3 182 (by decide)) (fun x x1 x2 => b3 x (by omega))
  have c1 : CFr σ σ1 := fun x x1 x2 x3 x4 x5 => b3 x (by omega)
  unfold f_X10_tryStarts
  rw [bind_some' b1]
  unfold f_X10_tryStarts_13
  obtain ⟨e, e1, e2, e3, e4⟩ := loop_ex (f := f_X10_tryStarts_13B p) (fun s => ∃ i : Nat, s.1 = (i : Int) ∧ i ≤ 48 ∧ CFr σ s.2 ∧ ST s.2 B ∧ (∃ v, isBk s.2 10 (bv B p v)) ∧ ∀ u : Nat, u < i → s.2 179 u = (cC B p u N : Int) ∧ s.2 180 u = cK B p u N) (fun s => (50 - s.1).toNat) (fun e => CFr σ e ∧ ST e B ∧ ∀ u : Nat, u < 48 → e 179 u = (cC B p u N : Int) ∧ e 180 u = cK B p u N) (a := (0, σ1)) ⟨0, rfl, Nat.zero_le _, c1, hst1, ⟨B 1 p, by
      have : bv B p (B 1 p) = B := funext fun x => funext fun i => by
        by_cases e : x = 1 ∧ i = p
        · rw [e.1, e.2]; exact mup_hit rfl rfl
        · exact mup_miss e
      rw [this]; exact b2⟩, fun u hu => absurd hu (Nat.not_lt_zero _)⟩ (Nat.le_of_ble_eq_true rfl) (by
    rintro ⟨_, τ⟩ ⟨i, rfl, hi, k1, k2, ⟨v, k3⟩, k4⟩
    have k1 : CFr σ τ := k1
    have k2 : ST τ B := k2
    have k3 : isBk τ 10 (bv B p v) := k3
    have k4 : ∀ u : Nat, u < i → τ 179 u = (cC B p u N : Int) ∧ τ 180 u = cK B p u N := k4
    show (∃ a', f_X10_tryStarts_13C p (i : Int) τ = _ ∧ _) ∨ ∃ a', f_X10_tryStarts_13C p (i : Int) τ = _ ∧ _
    unfold f_X10_tryStarts_13C
    by_cases hend : (48 : Int) ≤ i
    · right
      rw [if_pos hend]
      exact ⟨_, rfl, k1, k2, fun u hu => k4 u (by omega)⟩
    · left
      rw [if_neg hend, chk_pos (by omega)]
      simp only [Option.bind_some]
      rw [chk_pos (by omega), chk_pos (by omega)]
      obtain ⟨τ1, hτ1⟩ : ∃ τ1, τ1 = mup (mup (mup τ 179 i 0) 180 i 0) 12 p i := ⟨_, rfl⟩
      rw [← hτ1]
      have n1 : ∀ x, x ≠ 179 → x ≠ 180 → x ≠ 12 → τ1 x = τ x := fun x x1 x2 x3 => by rw [hτ1, mup_row x3, mup_row x2, mup_row x1]
      have hD1 : isBk τ1 10 (bv B p i) := by
        have k3' : isBk (mup (mup τ 179 i 0) 180 i 0) 10 (bv B p v) := k3.rows fun x x1 x2 => by rw [mup_row (by omega), mup_row (by omega)]
        have := k3'.put (t := 1) (i := p) (v := i) (by decide) (by decide)
        have e : mup (bv B p v) 1 p i = bv B p i := funext fun x => funext fun j => by
          unfold bv
          by_cases e : x = 1 ∧ j = p
          · rw [e.1, e.2, mup_hit rfl rfl, mup_hit rfl rfl]
          · rw [mup_miss e, mup_miss e, mup_miss e]
        rw [e] at this
        rw [hτ1]
        exact this
      have hst : ST τ1 B := k2.of (fun x x1 x2 => n1 x (by omega) (by omega) (by omega)) (n1 182 (by decide) (by decide) (by decide)) (fun x x1 x2 => n1 x (by omega) (by omega) (by omega))
      obtain ⟨ρ, a1, a2, a3, a4, a5, a6, a7⟩ := X10_try45 hst hp (v := i) (by omega) hD1 (by rw [hτ1, mup_miss (by omega), mup_miss (by omega), mup_hit rfl rfl]) (by rw [hτ1, mup_miss (by omega), mup_hit rfl rfl]) hN
      rw [a1]
      refine ⟨_, rfl, ⟨i + 1, by show (i : Int) + 1 = _; omega, by omega, fun x x1 x2 x3 x4 x5 => by show ρ x = _; rw [a2 x x1 x2 x3 x4 x5, n1 x x4 x5 (by omega), k1 x x1 x2 x3 x4 x5], a3, ⟨i, a4⟩, fun u hu => ?_⟩, by show (50 - ((i : Int) + 1)).toNat < (50 - (i : Int)).toNat; omega⟩
      by_cases e : u = i
      · subst e; exact ⟨a5, a6⟩
      · obtain ⟨q1, q2⟩ := a7 u (by omega)
        obtain ⟨q3, q4⟩ := k4 u (by omega)
        refine ⟨?_, ?_⟩
        · show ρ 179 u = _
          rw [q1, hτ1, mup_miss (by omega), mup_miss (by omega), mup_miss (by omega), q3]
        · show ρ 180 u = _
          rw [q2, hτ1, mup_miss (by omega), mup_miss (by omega), mup_miss (by omega), q4])
  rw [e1]
  exact ⟨e, rfl, e2, e3, e4⟩
theorem X10_retime28 {σ : Mem} {f : Nat → Int} {C : Nat → Nat} {K : Nat → Int} {R : Int} (hC : ∀ u : Nat, u < 48 → σ 179 u = (C u : Int) ∧ σ 180 u = K u) (hf : ∀ u : Nat, u < 48 → f u = R + 10000 * (C u : Int) + K u ∧ 0 ≤ K u ∧ K u ≤ 2400) : f_X10_retime_28 σ 0 1 = some ((am f 47 : Int), σ) := by
  unfold f_X10_retime_28
  rw [show loop (f_X10_retime_28B σ) FU (0, 1) = some (am f 47 : Int) from loop_is (P := fun s => ∃ v : Nat, s.2 = ((v + 1 : Nat) : Int) ∧ v ≤ 47 ∧ s.1 = (am f v : Int)) (μ := fun s => (50 - s.2).toNat) (by
    rintro ⟨x2, _⟩ ⟨v, rfl, hv, g4⟩
    have g4 : x2 = (am f v : Int) := g4
    show (∃ a', f_X10_retime_28C σ x2 ((v + 1 : Nat) : Int) = _ ∧ _) ∨ f_X10_retime_28C σ x2 ((v + 1 : Nat) : Int) = _
    unfold f_X10_retime_28C
    by_cases hend : (48 : Int) ≤ ((v + 1 : Nat) : Int)
    · right
      rw [if_pos hend, g4]
      have : v = 47 := by omega
      rw [this]
    · left
      have hle := am_le f v
      have h1 := hC (am f v) (by omega)
      have h2 := hC (v + 1) (by omega)
      have h3 := hf (am f v) (by omega)
      have h4 := hf (v + 1) (by omega)
      have fin : ∀ z : Int, z = (am f (v + 1) : Int) → ∃ a', f_X10_retime_105 σ z ((v + 1 : Nat) : Int) = some (.inl a') ∧ (∃ v : Nat, a'.2 = ((v + 1 : Nat) : Int) ∧ v ≤ 47 ∧ a'.1 = (am f v : Int)) ∧ (50 - a'.2).toNat < (50 - ((v + 1 : Nat) : Int)).toNat := fun z hz => by
        unfold f_X10_retime_105
        simp only [Option.bind_some]
        rw [jadd_ok (by omega) (by omega)]
        exact ⟨_, rfl, ⟨v + 1, by show ((v + 1 : Nat) : Int) + 1 = _; omega, by omega, hz⟩, by show (50 - (((v + 1 : Nat) : Int) + 1)).toNat < (50 - ((v + 1 : Nat) : Int)).toNat; omega⟩
      have es := am_s f v
      rw [if_neg hend, chk_pos (by omega), g4, chk_pos (by omega), h1.1, h2.1]
      unfold f_X10_retime_54
      rw [chk_pos (by omega), chk_pos (by omega), chk_pos (by omega), chk_pos (by omega), h1.1, h2.1]
      unfold f_X10_retime_76 f_X10_retime_103
      rw [chk_pos (by omega), chk_pos (by omega), h1.2, h2.2]
      by_cases q1 : (C (am f v) : Int) ≤ (C (v + 1) : Int)
      · rw [if_pos q1]
        by_cases q2 : (C (v + 1) : Int) ≠ (C (am f v) : Int)
        · rw [if_pos q2, if_neg (by decide), if_pos rfl]
          exact fin _ (by rw [es, if_neg (by omega)])
        · rw [if_neg q2, if_neg (by decide), if_neg (by decide)]
          by_cases q3 : K (am f v) ≤ K (v + 1)
          · rw [if_pos q3]
            exact fin _ (by rw [es, if_neg (by omega)])
          · rw [if_neg q3]
            exact fin _ (by rw [es, if_pos (by omega)])
      · rw [if_neg q1]
        have q2 : (C (v + 1) : Int) ≠ (C (am f v) : Int) := by omega
        rw [if_pos q2, if_pos (by decide)]
        exact fin _ (by rw [es, if_pos (by omega)])) ⟨0, rfl, by decide, rfl⟩ (Nat.le_of_ble_eq_true rfl)]
  rfl
theorem X11_retime56 {σ : Mem} {B : Bk} (w : WF B) {p : Nat} (hp : (p : Int) < B 8 0) {v : Nat} (hv : v < 48) (hR : isRk σ 182 (bv B p v)) {N : Nat} (hN : B 8 1 = N) (x2 x3 x4 x5 : Int) : ∃ τ, f_X11_retime_56 σ p x2 x3 x4 x5 0 0 = f_X11_retime_96 τ p x2 x3 x4 x5 (cO B p v N) ∧ ∀ x, ¬ (192 ≤ x ∧ x ≤ 202) → τ x = σ x := by
  have hn := w.1
  unfold WFn at hn
  have w' := WF_bv w (p := p) (v := v) (by omega)
  have e8 : bv B p v 8 = B 8 := bv_r (by decide)
  unfold f_X11_retime_56
  obtain ⟨e, e1, e2, e3⟩ := loop_ex (f := f_X11_retime_56B p x2 x3 x4 x5) (fun s => ∃ i : Nat, s.2.1 = (i : Int) ∧ i ≤ N ∧ s.1 = cO B p v i ∧ ∀ x, ¬ (192 ≤ x ∧ x ≤ 202) → s.2.2 x = σ x) (fun s => (20 - s.2.1).toNat) (fun e => e.1 = cO B p v N ∧ ∀ x, ¬ (192 ≤ x ∧ x ≤ 202) → e.2 x = σ x) (a := (0, 0, σ)) ⟨0, rfl, Nat.zero_le _, rfl, fun _ _ => rfl⟩ (Nat.le_of_ble_eq_true rfl) (by
    rintro ⟨x6, _, τ⟩ ⟨i, rfl, hi, g4, k1⟩
    have g4 : x6 = cO B p v i := g4
    have k1 : ∀ x, ¬ (192 ≤ x ∧ x ≤ 202) → τ x = σ x := k1
    show (∃ a', f_X11_retime_56C p x2 x3 x4 x5 x6 (i : Int) τ = _ ∧ _) ∨ ∃ a', f_X11_retime_56C p x2 x3 x4 x5 x6 (i : Int) τ = _ ∧ _
    unfold f_X11_retime_56C
    have hRt : isRk τ 182 (bv B p v) := hR.row (k1 182 (by decide))
    rw [chk_pos (by decide), hRt.nC, e8]
    by_cases hend : B 8 1 ≤ i
    · right
      rw [if_pos hend]
      have : i = N := by omega
      subst this
      exact ⟨_, rfl, g4, k1⟩
    · left
      obtain ⟨ρ, t1, t2, -⟩ := X11_cants hRt w' (c := (i : Int)) (by omega) (by rw [e8]; omega)
      obtain ⟨ρ2, s1, s2, -⟩ := X11_keptInAll (hRt.row (t2 182 (by decide))) w' (c := (i : Int)) (by omega) (by rw [e8]; omega)
      have hk := kpt_b w' (c := (i : Int)) (by omega) (by rw [e8]; omega) 5
      have hc5 := cts_5 (bv B p v) i
      obtain ⟨-, -, -, -, q5, q6⟩ := c_all w (p := p) (v := v) (by omega) i (by omega)
      rw [if_neg hend, bind_some' t1, bind_some' s1]
      simp only [Option.bind_some]
      rw [jmul_ok (by omega) (by omega), jadd_ok (a := 10000 * _) (by omega) (by omega), jadd_ok (by omega) (by omega), jadd_ok (by omega) (by omega)]
      exact ⟨_, rfl, ⟨i + 1, by show (i : Int) + 1 = _; omega, by omega, by show x6 + _ = _; rw [g4]; rfl, fun x hx => by show ρ2 x = _; rw [s2 x hx, t2 x hx, k1 x hx]⟩, by show (20 - ((i : Int) + 1)).toNat < (20 - (i : Int)).toNat; omega⟩)
  rw [e1]
  exact ⟨e.2, by show f_X11_retime_96 e.2 p x2 x3 x4 x5 e.1 = _; rw [e2], e3⟩
theorem X11_retime29 {σ : Mem} {B : Bk} (hR : isRk σ 182 B) (w : WF B) {p : Nat} (hp : (p : Int) < B 8 0) {N : Nat} (hN : B 8 1 = N) : ∃ τ, f_X11_retime_29 σ p (B 1 p) (-1) 0 0 = some ((am (fun v : Nat => cO B p (v : Int) N) 47 : Int), τ) ∧ ∀ x, ¬ (192 ≤ x ∧ x ≤ 202) → τ x = σ x := by
  have hn := w.1
  unfold WFn at hn
  obtain ⟨f, hf⟩ : ∃ f : Nat → Int, f = fun v : Nat => cO B p (v : Int) N := ⟨_, rfl⟩
  rw [← hf]
  have ej : jadd (jadd 0 (jmul 3 (p : Int))) 1 = 3 * (p : Int) + 1 := by rw [j3 (by omega), jadd_ok (by omega) (by omega)]
  unfold f_X11_retime_29
  obtain ⟨e, e1, e2, e3, e4⟩ := loop_ex (f := f_X11_retime_29B p (B 1 p)) (fun s => ∃ v : Nat, s.2.2.1 = (v : Int) ∧ v ≤ 48 ∧ ((v = 0 ∧ s.1 = -1) ∨ (0 < v ∧ s.1 = (am f (v - 1) : Int) ∧ s.2.1 = f (am f (v - 1)))) ∧ (∀ i, i ≠ 3 * (p : Int) + 1 → s.2.2.2 182 i = σ 182 i) ∧ ∀ x, x ≠ 182 → ¬ (192 ≤ x ∧ x ≤ 202) → s.2.2.2 x = σ x) (fun s => (50 - s.2.2.1).toNat) (fun e => e.1 = (am f 47 : Int) ∧ (∀ i, i ≠ 3 * (p : Int) + 1 → e.2 182 i = σ 182 i) ∧ ∀ x, x ≠ 182 → ¬ (192 ≤ x ∧ x ≤ 202) → e.2 x = σ x) (a := (-1, 0, 0, σ)) ⟨0, rfl, by decide, Or.inl ⟨rfl, rfl⟩, fun _ _ => rfl, fun _ _ _ => rfl⟩ (Nat.le_of_ble_eq_true rfl) (by
    rintro ⟨x3, x4, _, τ⟩ ⟨v, rfl, hv, g, k1, k2⟩
    have g : (v = 0 ∧ x3 = -1) ∨ (0 < v ∧ x3 = (am f (v - 1) : Int) ∧ x4 = f (am f (v - 1))) := g
    have k1 : ∀ i, i ≠ 3 * (p : Int) + 1 → τ 182 i = σ 182 i := k1
    have k2 : ∀ x, x ≠ 182 → ¬ (192 ≤ x ∧ x ≤ 202) → τ x = σ x := k2
    show (∃ a', f_X11_retime_29C p (B 1 p) x3 x4 (v : Int) τ = _ ∧ _) ∨ ∃ a', f_X11_retime_29C p (B 1 p) x3 x4 (v : Int) τ = _ ∧ _
    unfold f_X11_retime_29C
    by_cases hend : (48 : Int) ≤ v
    · right
      rw [if_pos hend]
      have : v = 48 := by omega
      subst this
      refine ⟨_, rfl, ?_, k1, k2⟩
      rcases g with ⟨z, -⟩ | ⟨-, z, -⟩
      · omega
      · exact z
    · left
      rw [if_neg hend, ej, chk_pos (by omega)]
      simp only [Option.bind_some]
      have hR1 : isRk (mup τ 182 (3 * (p : Int) + 1) v) 182 (bv B p v) := (hR.put3 (t := 1) (i := p) (v := v) (by decide) (by omega)).pt fun i => by
        by_cases e : i = 3 * (p : Int) + 1
        · rw [mup_hit rfl e, mup_hit rfl e]
        · rw [mup_miss (fun z => e z.2), mup_miss (fun z => e z.2), k1 i e]
      obtain ⟨ρ, a1, a2⟩ := X11_retime56 w hp (v := v) (by omega) hR1 hN (B 1 p) x3 x4 (v : Int)
      rw [a1, show cO B p v N = f v by rw [hf]]
      have fr1 : ∀ i, i ≠ 3 * (p : Int) + 1 → ρ 182 i = σ 182 i := fun i hi => by rw [a2 182 (by decide), mup_miss (fun z => hi z.2), k1 i hi]
      have fr2 : ∀ x, x ≠ 182 → ¬ (192 ≤ x ∧ x ≤ 202) → ρ x = σ x := fun x x1 x2 => by rw [a2 x x2, mup_row x1, k2 x x1 x2]
      have fin : ∀ y3 y4 : Int, y3 = (am f v : Int) → y4 = f (am f v) → ∃ a', f_X11_retime_127 ρ p (B 1 p) y3 (v : Int) y4 = some (.inl a') ∧ (∃ v : Nat, a'.2.2.1 = (v : Int) ∧ v ≤ 48 ∧ ((v = 0 ∧ a'.1 = -1) ∨ (0 < v ∧ a'.1 = (am f (v - 1) : Int) ∧ a'.2.1 = f (am f (v - 1)))) ∧ (∀ i, i ≠ 3 * (p : Int) + 1 → a'.2.2.2 182 i = σ 182 i) ∧ ∀ x, x ≠ 182 → ¬ (192 ≤ x ∧ x ≤ 202) → a'.2.2.2 x = σ x) ∧ (50 - a'.2.2.1).toNat < (50 - (v : Int)).toNat := fun y3 y4 z1 z2 => by
        unfold f_X11_retime_127
        simp only [Option.bind_some]
        rw [jadd_ok (by omega) (by omega)]
        exact ⟨_, rfl, ⟨v + 1, by show (v : Int) + 1 = _; omega, by omega, Or.inr ⟨by omega, z1, z2⟩, fr1, fr2⟩, by show (50 - ((v : Int) + 1)).toNat < (50 - (v : Int)).toNat; omega⟩
      unfold f_X11_retime_96 f_X11_retime_107 f_X11_retime_113
      rcases g with ⟨z, z1⟩ | ⟨z, z1, z2⟩
      · rw [if_pos (by omega), if_neg (by omega)]
        subst z
        exact fin _ _ rfl rfl
      · obtain ⟨u, rfl⟩ : ∃ u, v = u + 1 := ⟨v - 1, by omega⟩
        rw [show u + 1 - 1 = u from rfl] at z1 z2
        have hle := am_le f u
        have es := am_s f u
        rw [if_neg (by omega), z2]
        by_cases q : f (am f u) ≤ f (u + 1)
        · rw [if_pos q, if_pos (by omega)]
          rw [if_neg (by omega)] at es
          exact fin _ _ (by rw [es]; exact z1) (by rw [es])
        · rw [if_neg q, if_neg (by omega)]
          rw [if_pos (by omega)] at es
          exact fin _ _ (by rw [es]) (by rw [es]))
  rw [e1]
  refine ⟨mup e.2 182 (3 * (p : Int) + 1) (B 1 p), ?_, fun x hx => ?_⟩
  · show f_X11_retime_135 e.2 p (B 1 p) e.1 = _
    unfold f_X11_retime_135
    rw [ej, chk_pos (by omega), e2]
    rfl
  · by_cases q : x = 182
    · subst q
      funext i
      by_cases z : i = 3 * (p : Int) + 1
      · rw [mup_hit rfl z, z, hR.start (by omega) (by omega)]
      · rw [mup_miss (fun y => z y.2), e3 i z]
    · rw [mup_row q, e4 x q hx]
/-- retime -/
theorem k_retime {n : Nat} {σ : Mem} {B : Bk} (h : INV0 n σ B) (hl : n < 1000) (p : Int) : CALL0 n σ B (f_X10_retime σ p) (fun ρ => f_X11_retime ρ p) := by
  have hst := h.1
  obtain ⟨hB, hR, w, hW⟩ := h.1
  have hn := w.1
  unfold WFn at hn
  have hR' : isRk (refd σ (-52)) 182 B := isRk_refd hR
  by_cases h1 : 0 ≤ p ∧ p < B 8 0
  rotate_left
  · refine same.call h (same.no (x := -52) (by omega) (by decide) ?_ CFr.rfl hW ?_ RFr.rfl)
    · unfold f_X10_retime
      rw [bind_some' (X0_hasPaper hB p), if1, if_neg h1]
      exact c_no (by decide)
    · show f_X11_retime _ p = _
      unfold f_X11_retime
      rw [bind_some' (X11_isPaper hR' w p), if1, if_neg h1]
      exact r_no (by decide)
  obtain ⟨p, rfl⟩ := n_of h1.1
  obtain ⟨N, hN⟩ := n_of hn.2.1.1
  obtain ⟨ρ, a1, a2, a3, a4⟩ := X10_tryStarts hst h1.2 hN
  have hRr : isRk ρ 182 B := a3.2.1
  obtain ⟨τ, t1, t2⟩ := X11_retime29 hRr w h1.2 hN
  have hl := X10_retime28 (σ := ρ) (f := fun v : Nat => cO B p (v : Int) N) (C := fun v : Nat => cC B p (v : Int) N) (K := fun v : Nat => cK B p (v : Int) N) (R := cR B p N) a4 (fun u hu => by
    obtain ⟨q1, q2, q3, q4, -, -⟩ := c_all w (p := p) (v := u) (by omega) N (by omega)
    exact ⟨q1, q3, by omega⟩)
  refine same.call h (same.ok (ρ := ρ) (τ := τ) (v := (am (fun v : Nat => cO B p (v : Int) N) 47 : Int)) (by omega) ?_ a2 a3.2.2.2 ?_ (rf_of t2))
  · unfold f_X10_retime
    rw [bind_some' (X0_hasPaper hB _), if1, if_pos h1]
    rw [bind_some' a1, hl]
  · show f_X11_retime _ _ = _
    unfold f_X11_retime
    rw [bind_some' (X11_isPaper hRr w _), if1, if_pos h1]
    rw [bind_some' (X11_start hRr (by omega)), t1]
