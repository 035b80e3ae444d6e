/-! A WEEK, in the class -/
def isWk (σ : Mem) (k : Int) (B : Bk) (c : Int) : Prop := ∀ d : Nat, d < 5 → isWd σ k B c d (fre B c (ovr B c d)) (ahd B c (ovr B c d)) (dpl B c d (ovr B c d))
theorem isWk.keep {σ τ : Mem} {k : Int} {B : Bk} {c : Int} (h : isWk σ k B c) (e : ∀ x, k + 1 ≤ x → x ≤ k + 9 → τ x = σ x) : isWk τ k B c := fun d hd => (h d hd).keep e
theorem isWd_ov {σ : Mem} {k : Int} {B : Bk} {c d f : Int} {a : Nat} {x : Option (Int × Tr)} (h : isWd σ k B c d f a x) : σ (k + 2) d = ov x := by
  cases x with
  | none => exact (h.2.2.1 rfl).2.1
  | some y => obtain ⟨v, o, m, l⟩ := y; exact (h.2.2.2 v o m l rfl).2.1
/-- another day's planning leaves a day's rows -/
theorem isWd_off {σ τ : Mem} {k : Int} {B : Bk} (w : WF B) {c : Int} (hc : 0 ≤ c) (hc2 : c < B 8 1) {d : Nat} {o f : Int} {a : Nat} (h : isWd σ k B c d f a (dpl B c d o)) {e : Int} (g : wfr σ τ k e) (he : (d : Int) ≠ e) : isWd τ k B c d f a (dpl B c d o) := by
  have q := fun (x : Int) h1 h2 => g.2.1 x (d : Int) h1 h2 he
  refine ⟨by rw [q _ (by omega) (by omega)]; exact h.1, by rw [q _ (by omega) (by omega)]; exact h.2.1, fun h0 => ?_, fun v o' m l h0 => ?_⟩
  · rw [q (k + 1) (by omega) (by omega), q (k + 2) (by omega) (by omega), q (k + 5) (by omega) (by omega), q (k + 6) (by omega) (by omega)]
    exact h.2.2.1 h0
  · rw [q (k + 1) (by omega) (by omega), q (k + 2) (by omega) (by omega), q (k + 5) (by omega) (by omega), q (k + 6) (by omega) (by omega)]
    have h4 := (dpl_some w hc hc2 h0).1.2.1
    obtain ⟨z1, z2, z3, z4, z5⟩ := h.2.2.2 v o' m l h0
    refine ⟨z1, z2, z3, z4, fun j hj => ?_⟩
    rw [g.2.2 (k + 7) _ (by omega) (by omega) (by omega), g.2.2 (k + 8) _ (by omega) (by omega) (by omega), g.2.2 (k + 9) _ (by omega) (by omega) (by omega)]
    exact z5 j hj
theorem X8_cameTo {σ : Mem} {k : Int} {B : Bk} {c : Int} {d : Nat} (hd : d < 5) (h : ∀ e : Nat, e + 1 = d → σ (k + 2) e = ovr B c d) : f_X8_cameTo σ k d = some (ovr B c d) := by
  unfold f_X8_cameTo
  cases d with
  | zero => rw [if_pos (by decide)]; rfl
  | succ d =>
    rw [if_neg (by omega), if_neg (by omega), jsub_ok (by omega) (by omega), chk_pos (by omega), show ((d + 1 : Nat) : Int) - 1 = (d : Int) by omega, h d rfl]
/-- one day more -/
theorem wk_day {σ : Mem} {B : Bk} {b : Int} (hb : isB b) (hB : isBk σ b B) (w : WF B) {c : Int} (hc : 0 ≤ c) (hc2 : c < B 8 1) {k : Int} (hk : isK k) {d : Nat} (hd : d < 5) (h : ∀ e : Nat, e < d → isWd σ k B c e (fre B c (ovr B c e)) (ahd B c (ovr B c e)) (dpl B c e (ovr B c e))) : ∃ τ, f_X4_planDay σ b c d k = some τ ∧ wfr σ τ k d ∧ ∀ e : Nat, e < d + 1 → isWd τ k B c e (fre B c (ovr B c e)) (ahd B c (ovr B c e)) (dpl B c e (ovr B c e)) := by
  obtain ⟨τ, h1, h2, h3⟩ := X4_planDay hb hB w hc hc2 hk (d := (d : Int)) (o := ovr B c d) (by omega) (ovr_b w hc hc2 d) (X8_cameTo hd (fun e he => by
    subst he
    exact isWd_ov (h e (by omega))))
  refine ⟨τ, h1, h2, fun e he => ?_⟩
  by_cases ee : e = d
  · subst ee; exact h3
  · exact isWd_off w hc hc2 (h e (by omega)) h2 (by omega)
theorem wk_bk {σ τ : Mem} {B : Bk} {b k d : Int} (hb : isB b) (hk : isK k) (hB : isBk σ b B) (g : wfr σ τ k d) : isBk τ b B := by
  unfold isB at hb
  unfold isK at hk
  exact hB.rows fun x h1 h2 => g.1 x (by omega) (by omega)
def cfr (σ τ : Mem) (k : Int) : Prop := ∀ x, ¬ (36 ≤ x ∧ x ≤ 42) → ¬ (k + 1 ≤ x ∧ x ≤ k + 9) → τ x = σ x
theorem cfr_bk {σ τ : Mem} {B : Bk} {b k : Int} (hb : isB b) (hk : isK k) (hB : isBk σ b B) (g : cfr σ τ k) : isBk τ b B := by
  unfold isB at hb
  unfold isK at hk
  exact hB.rows fun x h1 h2 => g x (by omega) (by omega)
theorem X4_planWeek {σ : Mem} {B : Bk} {b : Int} (hb : isB b) (hB : isBk σ b B) (w : WF B) {c : Int} (hc : 0 ≤ c) (hc2 : c < B 8 1) {k : Int} (hk : isK k) : ∃ τ, f_X4_planWeek σ b c k = some τ ∧ cfr σ τ k ∧ isWk τ k B c := by
  unfold f_X4_planWeek f_X4_planWeek_3
  obtain ⟨τ, g1, g2, g3⟩ := loop_ex (f := f_X4_planWeek_3B b c k) (fun s => ∃ d : Nat, s.1 = (d : Int) ∧ d ≤ 5 ∧ cfr σ s.2 k ∧ ∀ e : Nat, e < d → isWd s.2 k B c e (fre B c (ovr B c e)) (ahd B c (ovr B c e)) (dpl B c e (ovr B c e))) (fun s => (5 - s.1).toNat) (fun τ => cfr σ τ k ∧ isWk τ k B c) (a := (0, σ)) ⟨0, rfl, by omega, fun _ _ _ => rfl, fun e he => absurd he (Nat.not_lt_zero _)⟩ (Nat.le_of_ble_eq_true rfl) (by
    rintro ⟨_, τ⟩ ⟨d, rfl, hd, k1, k2⟩
    have k1 : cfr σ τ k := k1
    have k2 : ∀ e : Nat, e < d → isWd τ k B c e (fre B c (ovr B c e)) (ahd B c (ovr B c e)) (dpl B c e (ovr B c e)) := k2
    show (∃ a', f_X4_planWeek_3C b c k (d : Int) τ = _ ∧ _) ∨ ∃ a', f_X4_planWeek_3C b c k (d : Int) τ = _ ∧ _
    unfold f_X4_planWeek_3C
    by_cases h5 : (5 : Int) ≤ d
    · right
      rw [if_pos h5]
      have : d = 5 := by omega
      subst this
      exact ⟨_, rfl, k1, k2⟩
    · left
      rw [if_neg h5]
      obtain ⟨ρ, y1, y2, y3⟩ := wk_day hb (cfr_bk hb hk hB k1) w hc hc2 hk (d := d) (by omega) k2
      rw [bind_some' y1]
      simp only [Option.bind_some]
      rw [jadd_ok (by omega) (by omega)]
      exact ⟨_, rfl, ⟨d + 1, by show (d : Int) + 1 = _; omega, by omega, fun x h1 h2 => by show ρ x = _; rw [y2.1 x h1 h2, k1 x h1 h2], y3⟩, by show (5 - ((d : Int) + 1)).toNat < (5 - (d : Int)).toNat; omega⟩)
  exact ⟨τ, by rw [g1]; rfl, g2, g3⟩
/-- another day's planning leaves a day's rows -/
theorem isWd_offY {σ τ : Mem} {k : Int} {B : Bk} (w : WF B) {c : Int} (hc : 0 ≤ c) (hc2 : c < B 8 1) {d : Nat} {o f : Int} {a : Nat} (h : isWd σ k B c d f a (dpl B c d o)) {e : Int} (g : wfy σ τ k e) (he : (d : Int) ≠ e) : isWd τ k B c d f a (dpl B c d o) := by
  have q := fun (x : Int) h1 h2 => g.2.1 x (d : Int) h1 h2 he
  refine ⟨by rw [q _ (by omega) (by omega)]; exact h.1, by rw [q _ (by omega) (by omega)]; exact h.2.1, fun h0 => ?_, fun v o' m l h0 => ?_⟩
  · rw [q (k + 1) (by omega) (by omega), q (k + 2) (by omega) (by omega), q (k + 5) (by omega) (by omega), q (k + 6) (by omega) (by omega)]
    exact h.2.2.1 h0
  · rw [q (k + 1) (by omega) (by omega), q (k + 2) (by omega) (by omega), q (k + 5) (by omega) (by omega), q (k + 6) (by omega) (by omega)]
    have h4 := (dpl_some w hc hc2 h0).1.2.1
    obtain ⟨z1, z2, z3, z4, z5⟩ := h.2.2.2 v o' m l h0
    refine ⟨z1, z2, z3, z4, fun j hj => ?_⟩
    rw [g.2.2 (k + 7) _ (by omega) (by omega) (by omega), g.2.2 (k + 8) _ (by omega) (by omega) (by omega), g.2.2 (k + 9) _ (by omega) (by omega) (by omega)]
    exact z5 j hj
/-- one day more -/
theorem wk_dayY {σ : Mem} {B : Bk} {b : Int} (hb : isB b) (hB : isBk σ b B) (w : WF B) {c : Int} (hc : 0 ≤ c) (hc2 : c < B 8 1) {k : Int} (hk : isK k) {d : Nat} (hd : d < 5) (h : ∀ e : Nat, e < d → isWd σ k B c e (fre B c (ovr B c e)) (ahd B c (ovr B c e)) (dpl B c e (ovr B c e))) : ∃ τ, f_Y4_planDay σ b c d k = some τ ∧ wfy σ τ k d ∧ ∀ e : Nat, e < d + 1 → isWd τ k B c e (fre B c (ovr B c e)) (ahd B c (ovr B c e)) (dpl B c e (ovr B c e)) := by
  obtain ⟨τ, h1, h2, h3⟩ := Y4_planDay hb hB w hc hc2 hk (d := (d : Int)) (o := ovr B c d) (by omega) (ovr_b w hc hc2 d) (X8_cameTo hd (fun e he => by
    subst he
    exact isWd_ov (h e (by omega))))
  refine ⟨τ, h1, h2, fun e he => ?_⟩
  by_cases ee : e = d
  · subst ee; exact h3
  · exact isWd_offY w hc hc2 (h e (by omega)) h2 (by omega)
theorem wk_bkY {σ τ : Mem} {B : Bk} {b k d : Int} (hb : isB b) (hk : isK k) (hB : isBk σ b B) (g : wfy σ τ k d) : isBk τ b B := by
  unfold isB at hb
  unfold isK at hk
  exact hB.rows fun x h1 h2 => g.1 x (by omega) (by omega)
def cfy (σ τ : Mem) (k : Int) : Prop := ∀ x, ¬ (45 ≤ x ∧ x ≤ 51) → ¬ (k + 1 ≤ x ∧ x ≤ k + 9) → τ x = σ x
theorem cfy_bk {σ τ : Mem} {B : Bk} {b k : Int} (hb : isB b) (hk : isK k) (hB : isBk σ b B) (g : cfy σ τ k) : isBk τ b B := by
  unfold isB at hb
  unfold isK at hk
  exact hB.rows fun x h1 h2 => g x (by omega) (by omega)
/-- what is known of the weeks is so -/
def WKS (σ : Mem) (B : Bk) : Prop := ∀ c : Int, 0 ≤ c → c < B 8 1 → σ 53 c ≠ 0 → isWk σ (54 + 10 * c) B c
/-- what asking for a week changes -/
def wks (σ τ : Mem) : Prop := ∀ x, ¬ (36 ≤ x ∧ x ≤ 42) → ¬ (45 ≤ x ∧ x ≤ 153) → τ x = σ x
theorem wks.rfl {σ : Mem} : wks σ σ := fun _ _ _ => Eq.refl _
theorem wks.trans {σ τ ρ : Mem} (h : wks σ τ) (g : wks τ ρ) : wks σ ρ := fun x h1 h2 => by rw [g x h1 h2, h x h1 h2]
theorem wks_bk {σ τ : Mem} {B : Bk} {b : Int} (hb : isB b) (hB : isBk σ b B) (g : wks σ τ) : isBk τ b B := by
  unfold isB at hb
  exact hB.rows fun x h1 h2 => g x (by omega) (by omega)
theorem X9_of {σ : Mem} {B : Bk} (hB : isBk σ 1 B) (w : WF B) (hW : WKS σ B) {c : Int} (hc : 0 ≤ c) (hc2 : c < B 8 1) : ∃ τ, f_X9_of σ c = some (54 + 10 * c, τ) ∧ wks σ τ ∧ WKS τ B ∧ isWk τ (54 + 10 * c) B c := by
  have hn := w.1
  unfold WFn at hn
  have hk : isK (54 + 10 * c) := by unfold isK; omega
  unfold f_X9_of
  rw [chk_pos (by omega), chk_pos (by omega)]
  by_cases h0 : σ 53 c ≠ 0
  · rw [if_pos h0]
    unfold f_X9_of_50
    exact ⟨σ, rfl, wks.rfl, hW, hW c hc hc2 h0⟩
  rw [if_neg h0]
  unfold f_X9_of_19
  obtain ⟨τ, g1, g2, g3⟩ := loop_ex (f := f_X9_of_19B c (54 + 10 * c)) (fun s => ∃ d : Nat, s.1 = (d : Int) ∧ d ≤ 5 ∧ cfy σ s.2 (54 + 10 * c) ∧ ∀ e : Nat, e < d → isWd s.2 (54 + 10 * c) B c e (fre B c (ovr B c e)) (ahd B c (ovr B c e)) (dpl B c e (ovr B c e))) (fun s => (5 - s.1).toNat) (fun τ => cfy σ τ (54 + 10 * c) ∧ isWk τ (54 + 10 * c) B c) (a := (0, σ)) ⟨0, rfl, by omega, fun _ _ _ => rfl, fun e he => absurd he (Nat.not_lt_zero _)⟩ (Nat.le_of_ble_eq_true rfl) (by
    rintro ⟨_, τ⟩ ⟨d, rfl, hd, k1, k2⟩
    have k1 : cfy σ τ (54 + 10 * c) := k1
    have k2 : ∀ e : Nat, e < d → isWd τ (54 + 10 * c) B c e (fre B c (ovr B c e)) (ahd B c (ovr B c e)) (dpl B c e (ovr B c e)) := k2
    show (∃ a', f_X9_of_19C c (54 + 10 * c) (d : Int) τ = _ ∧ _) ∨ ∃ a', f_X9_of_19C c (54 + 10 * c) (d : Int) τ = _ ∧ _
    unfold f_X9_of_19C
    by_cases h5 : (5 : Int) ≤ d
    · right
      rw [if_pos h5]
      have : d = 5 := by omega
      subst this
      exact ⟨_, rfl, k1, k2⟩
    · left
      rw [if_neg h5]
      obtain ⟨ρ, y1, y2, y3⟩ := wk_dayY (Or.inl rfl) (cfy_bk (Or.inl rfl) hk hB k1) w hc hc2 hk (d := d) (by omega) k2
      rw [bind_some' y1]
      simp only [Option.bind_some]
      rw [jadd_ok (by omega) (by omega)]
      exact ⟨_, rfl, ⟨d + 1, by show (d : Int) + 1 = _; omega, by omega, fun x h1 h2 => by show ρ x = _; rw [y2.1 x h1 h2, k1 x h1 h2], y3⟩, by show (5 - ((d : Int) + 1)).toNat < (5 - (d : Int)).toNat; omega⟩)
  rw [g1]
  show ∃ ρ, f_X9_of_43 τ c (54 + 10 * c) = some (54 + 10 * c, ρ) ∧ _
  unfold f_X9_of_43 f_X9_of_50
  rw [chk_pos (by omega)]
  have hk2 : isWk (mup τ 53 c 1) (54 + 10 * c) B c := g3.keep fun x h1 h2 => mup_row (by omega)
  refine ⟨_, rfl, fun x h1 h2 => by rw [mup_row (by omega), g2 x (by omega) (by omega)], fun c' a1 a2 a3 => ?_, hk2⟩
  by_cases ec : c' = c
  · subst ec; exact hk2
  · rw [mup_miss (by omega), g2 53 (by omega) (by omega)] at a3
    exact (hW c' a1 a2 a3).keep fun x h1 h2 => by rw [mup_row (by omega), g2 x (by omega) (by omega)]
/-- planned anew from a day on: as if planned anew from the first -/
theorem X4_replan {σ : Mem} {B B' : Bk} {b : Int} (hb : isB b) (hB : isBk σ b B') (w : WF B) (w' : WF B') {c : Int} (hc : 0 ≤ c) (hc2 : c < B 8 1) (hc3 : c < B' 8 1) {k : Int} (hk : isK k) {d0 : Nat} (h5 : d0 < 5) (ha : ∀ d : Nat, d ≠ d0 → agr B B' c d) (hP : B' 8 0 = B 8 0) (hW : isWk σ k B c) : ∃ τ, f_X4_replan σ b c d0 k = some τ ∧ cfr σ τ k ∧ isWk τ k B' c := by
  -- before the day nothing has changed
  have hpre : ∀ d : Nat, d ≤ d0 → ovr B' c d = ovr B c d := by
    intro d
    induction d with
    | zero => intro _; rfl
    | succ d ih =>
      intro hd
      show ov (dpl B' c d (ovr B' c d)) = ov (dpl B c d (ovr B c d))
      rw [ih (by omega), dpl_agr w hc hc2 (ha d (by omega)) (ovr_b w hc hc2 d).2]
  -- behind a day that leaves the same, nothing has changed
  have hpost : ∀ e : Nat, d0 < e → ovr B' c e = ovr B c e → ∀ n, ovr B' c (e + n) = ovr B c (e + n) := by
    intro e he h n
    induction n with
    | zero => exact h
    | succ n ih =>
      show ov (dpl B' c ((e + n : Nat) : Int) (ovr B' c (e + n))) = ov (dpl B c ((e + n : Nat) : Int) (ovr B c (e + n)))
      rw [ih, dpl_agr w hc hc2 (ha (e + n) (by omega)) (ovr_b w hc hc2 _).2]
  have same : ∀ (ρ : Mem) (d : Nat), d < 5 → d ≠ d0 → ovr B' c d = ovr B c d → isWd ρ k B c d (fre B c (ovr B c d)) (ahd B c (ovr B c d)) (dpl B c d (ovr B c d)) → isWd ρ k B' c d (fre B' c (ovr B' c d)) (ahd B' c (ovr B' c d)) (dpl B' c d (ovr B' c d)) := fun ρ d h5 hd ho h => by
    rw [ho]
    exact isWd_agr w hc hc2 (ha d hd) (ovr_b w hc hc2 d).2 h
  unfold f_X4_replan f_X4_replan_6
  obtain ⟨τ, g1, g2, g3⟩ := loop_ex (f := f_X4_replan_6B b c k) (fun s => ∃ e : Nat, s.2.1 = (e : Int) ∧ e ≤ 5 ∧ d0 ≤ e ∧ cfr σ s.2.2 k ∧ (∀ d : Nat, d < e → isWd s.2.2 k B' c d (fre B' c (ovr B' c d)) (ahd B' c (ovr B' c d)) (dpl B' c d (ovr B' c d))) ∧ (∀ d : Nat, e ≤ d → d < 5 → isWd s.2.2 k B c d (fre B c (ovr B c d)) (ahd B c (ovr B c d)) (dpl B c d (ovr B c d))) ∧ (s.1 ≠ 0 → d0 < e ∧ ovr B' c e = ovr B c e)) (fun s => (5 - s.2.1).toNat) (fun τ => cfr σ τ k ∧ isWk τ k B' c) (a := (0, (d0 : Int), σ)) ⟨d0, rfl, by omega, Nat.le_refl _, fun _ _ _ => rfl, fun d hd => same σ d (by omega) (by omega) (hpre d (by omega)) (hW d (by omega)), fun d h1 h2 => hW d h2, fun h => absurd rfl h⟩ (by show (5 - (d0 : Int)).toNat < 1000000; omega) (by
    rintro ⟨x5, _, τ⟩ ⟨e, rfl, he, hde, k1, k2, k3, k4⟩
    have k1 : cfr σ τ k := k1
    have k2 : ∀ d : Nat, d < e → isWd τ k B' c d (fre B' c (ovr B' c d)) (ahd B' c (ovr B' c d)) (dpl B' c d (ovr B' c d)) := k2
    have k3 : ∀ d : Nat, e ≤ d → d < 5 → isWd τ k B c d (fre B c (ovr B c d)) (ahd B c (ovr B c d)) (dpl B c d (ovr B c d)) := k3
    have k4 : x5 ≠ 0 → d0 < e ∧ ovr B' c e = ovr B c e := k4
    show (∃ a', f_X4_replan_6C b c k x5 (e : Int) τ = _ ∧ _) ∨ ∃ a', f_X4_replan_6C b c k x5 (e : Int) τ = _ ∧ _
    unfold f_X4_replan_6C
    by_cases h5 : (5 : Int) ≤ e
    · right
      rw [if_pos h5]
      have : e = 5 := by omega
      subst this
      exact ⟨_, rfl, k1, k2⟩
    · rw [if_neg h5]
      by_cases hx : x5 ≠ 0
      · right
        rw [if_pos hx]
        obtain ⟨q1, q2⟩ := k4 hx
        refine ⟨_, rfl, k1, fun d hd => ?_⟩
        by_cases hde2 : d < e
        · exact k2 d hde2
        · refine same τ d hd (by omega) ?_ (k3 d (by omega) hd)
          have := hpost e q1 q2 (d - e)
          rw [show e + (d - e) = d by omega] at this
          exact this
      · left
        rw [if_neg hx, chk_pos (by omega)]
        simp only [Option.bind_some]
        obtain ⟨ρ, y1, y2, y3⟩ := wk_day hb (cfr_bk hb hk hB k1) w' hc hc3 hk (d := e) (by omega) k2
        rw [bind_some' y1, chk_pos (by omega), isWd_ov (y3 e (by omega)), isWd_ov (k3 e (Nat.le_refl _) (by omega))]
        have st : ∀ z : Int, (z ≠ 0 → ov (dpl B' c e (ovr B' c e)) = ov (dpl B c e (ovr B c e))) → ∃ a', f_X4_replan_55 ρ b c k (e : Int) z = some (.inl a') ∧ (∃ e : Nat, a'.2.1 = (e : Int) ∧ e ≤ 5 ∧ d0 ≤ e ∧ cfr σ a'.2.2 k ∧ (∀ d : Nat, d < e → isWd a'.2.2 k B' c d (fre B' c (ovr B' c d)) (ahd B' c (ovr B' c d)) (dpl B' c d (ovr B' c d))) ∧ (∀ d : Nat, e ≤ d → d < 5 → isWd a'.2.2 k B c d (fre B c (ovr B c d)) (ahd B c (ovr B c d)) (dpl B c d (ovr B c d))) ∧ (a'.1 ≠ 0 → d0 < e ∧ ovr B' c e = ovr B c e)) ∧ (5 - a'.2.1).toNat < (5 - (e : Int)).toNat := fun z hz => by
          unfold f_X4_replan_55
          simp only [Option.bind_some]
          rw [jadd_ok (by omega) (by omega)]
          exact ⟨_, rfl, ⟨e + 1, by show (e : Int) + 1 = _; omega, by omega, by omega, fun x h1 h2 => by show ρ x = _; rw [y2.1 x h1 h2, k1 x h1 h2], y3, fun d q1 q2 => isWd_off w hc hc2 (k3 d (by omega) q2) y2 (by omega), fun hz0 => ⟨by omega, hz hz0⟩⟩, by show (5 - ((e : Int) + 1)).toNat < (5 - (e : Int)).toNat; omega⟩
        by_cases hov : ov (dpl B' c e (ovr B' c e)) ≠ ov (dpl B c e (ovr B c e))
        · rw [if_pos hov]
          exact st 0 fun h => absurd rfl h
        · rw [if_neg hov]
          exact st 1 fun _ => Decidable.not_not.mp hov)
  exact ⟨τ, by rw [g1]; rfl, g2, g3⟩
