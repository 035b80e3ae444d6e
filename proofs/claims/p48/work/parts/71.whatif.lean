/-! WHAT IF: relief, hoursFor (by mk71.py) -/
/-- the paper whose change helps most, among the first ones -/
def rlf (B : Bk) (c : Int) : Nat → Option (Nat × Nat)
  | 0 => none
  | p + 1 => if fifth B c p then rlf B c p else match rlf B c p with
    | none => some (p, cts (flp B c p) c 5)
    | some (q, m) => if cts (flp B c p) c 5 < m then some (p, cts (flp B c p) c 5) else some (q, m)
theorem rlf_s (B : Bk) (c : Int) (p : Nat) : rlf B c (p + 1) = if fifth B c p then rlf B c p else match rlf B c p with
    | none => some (p, cts (flp B c p) c 5)
    | some (q, m) => if cts (flp B c p) c 5 < m then some (p, cts (flp B c p) c 5) else some (q, m) := rfl
theorem cts_5 (B : Bk) (c : Int) : cts B c 5 ≤ 5 := cnt_le _ 5
theorem rlf_b (B : Bk) (c : Int) : ∀ (n : Nat) {q m : Nat}, rlf B c n = some (q, m) → q < n ∧ m ≤ 5
  | 0, _, _, h => by cases h
  | n + 1, q, m, h => by
    have h5 := cts_5 (flp B c n) c
    rw [rlf_s] at h
    split at h
    · have := rlf_b B c n h; omega
    · split at h
      · cases h; omega
      · rename_i q' m' heq
        have := rlf_b B c n heq
        split at h <;> cases h <;> omega
def rl1 (x : Option (Nat × Nat)) : Int := match x with | none => -1 | some (q, _) => q
theorem X10_relief36 {σ : Mem} {B : Bk} (h : ST σ B) (hD : isBk σ 10 B) {c : Int} (hc : 0 ≤ c) (hc2 : c < B 8 1) {N : Nat} (hN : B 8 0 = N) : ∃ τ, f_X10_relief_36 σ c (-1) 0 0 = some (rl1 (rlf B c N), τ) ∧ CFr σ τ ∧ ST τ B := by
  have hn := h.2.2.1.1
  unfold WFn at hn
  have w := h.2.2.1
  unfold f_X10_relief_36
  obtain ⟨e, e1, e2, e3, e4⟩ := loop_ex (f := f_X10_relief_36B c) (fun s => ∃ i : Nat, s.2.2.1 = (i : Int) ∧ i ≤ N ∧ s.1 = rl1 (rlf B c i) ∧ (∀ q m, rlf B c i = some (q, m) → s.2.1 = (m : Int)) ∧ CFr σ s.2.2.2 ∧ ST s.2.2.2 B ∧ isBk s.2.2.2 10 B) (fun s => (20 - s.2.2.1).toNat) (fun e => e.1 = rl1 (rlf B c N) ∧ CFr σ e.2 ∧ ST e.2 B) (a := (-1, 0, 0, σ)) ⟨0, rfl, Nat.zero_le _, rfl, fun q m z => (by cases z), CFr.rfl, h, hD⟩ (Nat.le_of_ble_eq_true rfl) (by
    rintro ⟨x2, x3, _, τ⟩ ⟨i, rfl, hi, g1, g2, k1, k2, k3⟩
    have g1 : x2 = rl1 (rlf B c i) := g1
    have g2 : ∀ q m, rlf B c i = some (q, m) → x3 = (m : Int) := g2
    have k1 : CFr σ τ := k1
    have k2 : ST τ B := k2
    have k3 : isBk τ 10 B := k3
    show (∃ a', f_X10_relief_36C c x2 x3 (i : Int) τ = _ ∧ _) ∨ ∃ a', f_X10_relief_36C c x2 x3 (i : Int) τ = _ ∧ _
    unfold f_X10_relief_36C
    rw [k3.nP]
    by_cases hend : B 8 0 ≤ i
    · right
      rw [if_pos hend]
      have : i = N := by omega
      subst this
      exact ⟨_, rfl, g1, k1, k2⟩
    · left
      have fin : ∀ (ρ : Mem) (y2 y3 : Int), CFr σ ρ → ST ρ B → isBk ρ 10 B → y2 = rl1 (rlf B c (i + 1)) → (∀ q m, rlf B c (i + 1) = some (q, m) → y3 = (m : Int)) → ∃ a', f_X10_relief_87 ρ c y2 y3 (i : Int) = some (.inl a') ∧ (∃ i : Nat, a'.2.2.1 = (i : Int) ∧ i ≤ N ∧ a'.1 = rl1 (rlf B c i) ∧ (∀ q m, rlf B c i = some (q, m) → a'.2.1 = (m : Int)) ∧ CFr σ a'.2.2.2 ∧ ST a'.2.2.2 B ∧ isBk a'.2.2.2 10 B) ∧ (20 - a'.2.2.1).toNat < (20 - (i : Int)).toNat := fun ρ y2 y3 z1 z2 z3 z4 z5 => by
        unfold f_X10_relief_87
        simp only [Option.bind_some]
        rw [jadd_ok (by omega) (by omega)]
        exact ⟨_, rfl, ⟨i + 1, by show (i : Int) + 1 = _; omega, by omega, z4, z5, z1, z2, z3⟩, by show (20 - ((i : Int) + 1)).toNat < (20 - (i : Int)).toNat; omega⟩
      rw [if_neg hend, bind_some' (X0_mayFlip k3 w hc hc2 (by omega))]
      have es := rlf_s B c i
      cases hf : fifth B c i with
      | true =>
        rw [hf, bt] at es
        rw [if_pos rfl, if_pos rfl]
        exact fin τ x2 x3 k1 k2 k3 (by rw [es]; exact g1) (fun q m z => g2 q m (by rw [← es]; exact z))
      | false =>
        rw [hf, bf] at es
        obtain ⟨ρ, a1, a2, a3, a4⟩ := X10_cantsFlipped k2 k3 hc hc2 (p := i) (by omega) hf
        rw [if_neg (by decide), bind_some' a1]
        simp only [Option.bind_some]
        unfold f_X10_relief_81
        cases hr : rlf B c i with
        | none =>
          rw [hr] at g1 es
          have g1 : x2 = -1 := g1
          have es : rlf B c (i + 1) = some (i, cts (flp B c i) c 5) := es
          rw [if_pos g1]
          exact fin ρ _ _ (k1.trans a2) a3 a4 (by rw [es]; rfl) (fun q m z => by rw [es] at z; cases z; rfl)
        | some y =>
          obtain ⟨q, m⟩ := y
          have hqm := rlf_b B c i hr
          have g2' := g2 q m hr
          rw [hr] at g1 es
          have g1 : x2 = (q : Int) := g1
          have es : rlf B c (i + 1) = if cts (flp B c i) c 5 < m then some (i, cts (flp B c i) c 5) else some (q, m) := es
          rw [if_neg (by omega), g2']
          by_cases hlt : cts (flp B c i) c 5 < m
          · rw [if_pos hlt] at es
            rw [if_neg (by omega)]
            exact fin ρ _ _ (k1.trans a2) a3 a4 (by rw [es]; rfl) (fun q m z => by rw [es] at z; cases z; rfl)
          · rw [if_neg hlt] at es
            rw [if_pos (by omega)]
            exact fin ρ _ _ (k1.trans a2) a3 a4 (by rw [es]; exact g1) (fun q m z => by rw [es] at z; cases z; rfl))
  rw [e1]
  exact ⟨e.2, by show some (e.1, e.2) = _; rw [e2], e3, e4⟩
/-- the least hours with which one can on all days -/
theorem hr_8 {B : Bk} {v : Int} : ∀ i, i ≠ 3 → mup B 8 3 v 8 i = B 8 i := fun i hi => mup_miss (fun z => hi z.2)
theorem WF_hours {B : Bk} (w : WF B) {v : Int} (hv : 8 ≤ v ∧ v ≤ 40) : WF (mup B 8 3 v) := by
  have hn := w.1
  unfold WFn at hn
  obtain ⟨w1, w2, w3, w4⟩ := w
  refine ⟨?_, w2.of (mup_row (by decide)) (mup_row (by decide)) (mup_row (by decide)) (hr_8 _ (by decide)), w3.of (mup_row (by decide)) (mup_row (by decide)) (mup_row (by decide)) (mup_row (by decide)) (mup_row (by decide)) (hr_8 _ (by decide)) (hr_8 _ (by decide)), w4.of (mup_row (by decide)) (hr_8 _ (by decide))⟩
  unfold WFn
  rw [hr_8 0 (by decide), hr_8 1 (by decide), hr_8 2 (by decide), hr_8 4 (by decide), hr_8 5 (by decide), mup_hit rfl rfl]
  exact ⟨hn.1, hn.2.1, hn.2.2.1, hv, hn.2.2.2.2⟩
def hrC (B : Bk) (c : Int) (v : Int) : Nat := cts (mup B 8 3 v) c 5
def hrQ (B : Bk) (c r : Int) : Prop := (8 ≤ r ∧ r ≤ 40 ∧ hrC B c r = 0 ∧ ∀ v, 8 ≤ v → v < r → hrC B c v ≠ 0) ∨ (r = -1 ∧ ∀ v, 8 ≤ v → v ≤ 40 → hrC B c v ≠ 0)
theorem hrQ_one {B : Bk} {c r s : Int} (h : hrQ B c r) (g : hrQ B c s) : r = s := by
  rcases h with ⟨h1, h2, h3, h4⟩ | ⟨h1, h2⟩
  · rcases g with ⟨g1, g2, g3, g4⟩ | ⟨g1, g2⟩
    · rcases Int.lt_trichotomy r s with q | q | q
      · exact absurd h3 (g4 r h1 q)
      · exact q
      · exact absurd g3 (h4 s g1 q)
    · exact absurd h3 (g2 r h1 h2)
  · rcases g with ⟨g1, g2, g3, g4⟩ | ⟨g1, g2⟩
    · exact absurd g3 (h2 s g1 g2)
    · omega
theorem X10_hours32 {σ : Mem} {B : Bk} (h : ST σ B) (hD : isBk σ 10 B) {c : Int} (hc : 0 ≤ c) (hc2 : c < B 8 1) : ∃ r τ, f_X10_hoursFor_32 σ c 8 = some (r, τ) ∧ hrQ B c r ∧ CFr σ τ ∧ ST τ B := by
  have hn := h.2.2.1.1
  unfold WFn at hn
  have w := h.2.2.1
  unfold f_X10_hoursFor_32
  obtain ⟨e, e1, e2⟩ := loop_ex (f := f_X10_hoursFor_32B c) (fun s => 8 ≤ s.1 ∧ s.1 ≤ 41 ∧ (∀ v, 8 ≤ v → v < s.1 → hrC B c v ≠ 0) ∧ (∃ H, isBk s.2 10 (mup B 8 3 H)) ∧ CFr σ s.2 ∧ ST s.2 B) (fun s => (50 - s.1).toNat) (fun e => ∃ r τ, (e = .inl (r, τ) ∨ (r = -1 ∧ e = .inr τ)) ∧ hrQ B c r ∧ CFr σ τ ∧ ST τ B) (a := (8, σ)) ⟨by show (8 : Int) ≤ 8; decide, by show (8 : Int) ≤ 41; decide, fun v h1 h2 => absurd h2 (by show ¬ v < 8; omega), ⟨B 8 3, by
      have : mup B 8 3 (B 8 3) = B := funext fun x => funext fun i => by
        by_cases e : x = 8 ∧ i = 3
        · rw [e.1, e.2, mup_hit rfl rfl]
        · rw [mup_miss e]
      rw [this]; exact hD⟩, CFr.rfl, h⟩ (Nat.le_of_ble_eq_true rfl) (by
    rintro ⟨v, τ⟩ ⟨v1, v2, v3, ⟨H, hH⟩, k1, k2⟩
    have v1 : 8 ≤ v := v1
    have v2 : v ≤ 41 := v2
    have v3 : ∀ u, 8 ≤ u → u < v → hrC B c u ≠ 0 := v3
    have hH : isBk τ 10 (mup B 8 3 H) := hH
    have k1 : CFr σ τ := k1
    have k2 : ST τ B := k2
    show (∃ a', f_X10_hoursFor_32C c v τ = _ ∧ _) ∨ ∃ a', f_X10_hoursFor_32C c v τ = _ ∧ _
    unfold f_X10_hoursFor_32C
    by_cases hend : 40 < v
    · right
      rw [if_pos hend]
      exact ⟨_, rfl, -1, τ, Or.inr ⟨rfl, rfl⟩, Or.inr ⟨rfl, fun u u1 u2 => v3 u u1 (by omega)⟩, k1, k2⟩
    · have hD1 : isBk (mup τ 10 11 v) 10 (mup B 8 3 v) := by
        have := hH.putn (i := 3) (v := v)
        have e : mup (mup B 8 3 H) 8 3 v = mup B 8 3 v := funext fun x => funext fun i => by
          by_cases e : x = 8 ∧ i = 3
          · rw [e.1, e.2, mup_hit rfl rfl, mup_hit rfl rfl]
          · rw [mup_miss e, mup_miss e, mup_miss e]
        rw [e] at this
        exact this
      have w' := WF_hours w (v := v) (by omega)
      obtain ⟨ρ, g1, g2, g3⟩ := X4_planWeek (Or.inr (Or.inl rfl)) hD1 w' hc (by rw [hr_8 1 (by decide)]; exact hc2) (k := 154) (by unfold isK; decide)
      have hst : ST ρ B := k2.of (fun x x1 x2 => by rw [g2 x (by omega) (by omega), mup_row (by omega)]) (by rw [g2 182 (by decide) (by decide), mup_row (by decide)]) (fun x x1 x2 => by rw [g2 x (by omega) (by omega), mup_row (by omega)])
      have hcf : CFr σ ρ := k1.trans fun x x1 x2 x3 x4 x5 => by rw [g2 x (by omega) (by omega), mup_row (by omega)]
      rw [if_neg hend]
      simp only [Option.bind_some]
      rw [bind_some' g1, bind_some' (X8_cants g3)]
      by_cases hz : hrC B c v = 0
      · right
        rw [if_neg (by unfold hrC at hz; omega)]
        exact ⟨_, rfl, v, ρ, Or.inl rfl, Or.inl ⟨v1, by omega, hz, v3⟩, hcf, hst⟩
      · left
        rw [if_pos (by unfold hrC at hz; omega), jadd_ok (by omega) (by omega)]
        refine ⟨_, rfl, ⟨by show 8 ≤ v + 1; omega, by show v + 1 ≤ 41; omega, fun u u1 u2 => ?_, ⟨v, hD1.rows fun x x1 x2 => g2 x (by omega) (by omega)⟩, hcf, hst⟩, by show (50 - (v + 1)).toNat < (50 - v).toNat; omega⟩
        have u2 : u < v + 1 := u2
        by_cases e : u = v
        · rw [e]; exact hz
        · exact v3 u u1 (by omega))
  rw [e1]
  obtain ⟨r, τ, q1, q2, q3, q4⟩ := e2
  rcases q1 with q1 | ⟨q1, q5⟩
  · exact ⟨r, τ, by rw [q1]; rfl, q2, q3, q4⟩
  · exact ⟨r, τ, by rw [q5, q1]; rfl, q2, q3, q4⟩