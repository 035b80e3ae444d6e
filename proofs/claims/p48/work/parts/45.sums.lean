/-! SUMS OVER A WEEK, both sides; a week taken over -/
def cts (B : Bk) (c : Int) : Nat → Nat := cnt fun d => (dpl B c d (ovr B c d)).isNone
def kv (x : Option (Int × Tr)) : Int := match x with
  | none => 0
  | some y => y.1
def kpt (B : Bk) (c : Int) : Nat → Int
  | 0 => 0
  | d + 1 => kpt B c d + kv (dpl B c d (ovr B c d))
theorem dpl_v {B : Bk} (w : WF B) {c : Int} (hc : 0 ≤ c) (hc2 : c < B 8 1) {d o v o' : Int} {m : Nat} {l : List Nat} (h : dpl B c d o = some (v, (o', m, l))) : v = ((cnt (kpB (woB B o') (ahd B c o) B c (fre B c o) (lq m l) (nof m)) 48 : Nat) : Int) := by
  obtain ⟨-, -, -, -, -, hv, -⟩ := dpl_some w hc hc2 h
  rw [hv]
  unfold msS msC
  rw [if_pos rfl]
theorem kv_b {B : Bk} (w : WF B) {c : Int} (hc : 0 ≤ c) (hc2 : c < B 8 1) (d o : Int) : 0 ≤ kv (dpl B c d o) ∧ kv (dpl B c d o) ≤ 48 := by
  cases h : dpl B c d o with
  | none => exact ⟨Int.le_refl _, by decide⟩
  | some y =>
    obtain ⟨v, o', m, l⟩ := y
    have h1 := dpl_v w hc hc2 h
    have h2 := cnt_le (kpB (woB B o') (ahd B c o) B c (fre B c o) (lq m l) (nof m)) 48
    show 0 ≤ v ∧ v ≤ 48
    omega
theorem kpt_b {B : Bk} (w : WF B) {c : Int} (hc : 0 ≤ c) (hc2 : c < B 8 1) : ∀ d : Nat, 0 ≤ kpt B c d ∧ kpt B c d ≤ 48 * d
  | 0 => ⟨Int.le_refl _, by simp [kpt]⟩
  | d + 1 => by
    have h1 := kpt_b w hc hc2 d
    have h2 := kv_b w hc hc2 d (ovr B c d)
    show 0 ≤ kpt B c d + kv (dpl B c d (ovr B c d)) ∧ kpt B c d + kv (dpl B c d (ovr B c d)) ≤ 48 * ((d + 1 : Nat) : Int)
    omega
theorem isWd_can {σ : Mem} {k : Int} {B : Bk} {c d f : Int} {a : Nat} {x : Option (Int × Tr)} (h : isWd σ k B c d f a x) : σ (k + 1) d = if x.isNone then 0 else 1 := by
  cases x with
  | none => exact (h.2.2.1 rfl).1
  | some y => obtain ⟨v, o, m, l⟩ := y; exact (h.2.2.2 v o m l rfl).1
theorem isRd_can {σ : Mem} {B : Bk} {c f d : Int} {x : Option (Int × Tr)} (h : isRd σ B c f d x) : σ 195 d = (if x.isNone then 0 else 1) ∧ σ 196 d = kv x := by
  cases x with
  | none => exact ⟨(h.1 rfl).1, (h.1 rfl).2.1⟩
  | some y => obtain ⟨v, o, m, l⟩ := y; exact ⟨(h.2 v o m l rfl).1, (h.2 v o m l rfl).2.1⟩
theorem isWd_kept {σ : Mem} {k : Int} {B : Bk} (w : WF B) {c : Int} (hc : 0 ≤ c) (hc2 : c < B 8 1) {d o : Int} (h : isWd σ k B c d (fre B c o) (ahd B c o) (dpl B c d o)) : f_J13_bitCount_95d88 σ (σ (k + 6) d) = some (kv (dpl B c d o)) := by
  cases hx : dpl B c d o with
  | none =>
    rw [(h.2.2.1 hx).2.2.2]
    exact (bitCount48_n (n := 0) (by decide)).trans (by decide +kernel)
  | some y =>
    obtain ⟨v, o', m, l⟩ := y
    obtain ⟨-, -, -, z4, -⟩ := h.2.2.2 v o' m l hx
    rw [z4, bitCount48_n (mset_lt _ _), show kv (some (v, (o', m, l))) = v from rfl, dpl_v w hc hc2 hx]
    congr 2
    refine cnt_congr fun i hi => ?_
    rw [mset_tb]; simp [hi]
theorem X8_cants {σ : Mem} {k : Int} {B : Bk} {c : Int} (h : isWk σ k B c) : f_X8_cants σ k = some ((cts B c 5 : Nat) : Int) := by
  unfold f_X8_cants f_X8_cants_4
  have key := loop_is (f := f_X8_cants_4B σ k) (P := fun s => ∃ d : Nat, s = ((cts B c d : Int), (d : Int)) ∧ d ≤ 5) (μ := fun s => (5 - s.2).toNat) (r := ((cts B c 5 : Nat) : Int)) ?_ (a := (0, 0)) ⟨0, rfl, by omega⟩ (by decide)
  · rw [key]; rfl
  · rintro s ⟨d, rfl, hd⟩
    show (∃ a', f_X8_cants_4C σ k _ _ = _ ∧ _) ∨ f_X8_cants_4C σ k _ _ = _
    unfold f_X8_cants_4C
    by_cases h5 : (5 : Int) ≤ d
    · right
      rw [if_pos h5]
      have : d = 5 := by omega
      subst this; rfl
    · left
      have hl : cts B c d ≤ d := cnt_le _ _
      have e1 : jadd (d : Int) 1 = ((d + 1 : Nat) : Int) := by rw [jadd_ok (by omega) (by omega)]; omega
      have es : cts B c (d + 1) = if (dpl B c d (ovr B c d)).isNone then cts B c d + 1 else cts B c d := cnt_s _ _
      refine ⟨((cts B c (d + 1) : Int), ((d + 1 : Nat) : Int)), ?_, ⟨d + 1, rfl, by omega⟩, by show (5 - ((d + 1 : Nat) : Int)).toNat < (5 - (d : Int)).toNat; omega⟩
      rw [if_neg h5, chk_pos (by omega), isWd_can (h d (by omega))]
      unfold f_X8_cants_21
      cases hn : (dpl B c d (ovr B c d)).isNone with
      | true =>
        rw [hn, if_pos rfl] at es
        rw [if_neg (by decide), jadd_ok (a := ((cts B c d : Nat) : Int)) (by omega) (by omega), e1, es]; rfl
      | false =>
        rw [hn, if_neg (by decide)] at es
        rw [if_pos (by decide), e1, es]; rfl
theorem X8_keptSlots {σ : Mem} {k : Int} {B : Bk} (w : WF B) {c : Int} (hc : 0 ≤ c) (hc2 : c < B 8 1) (h : isWk σ k B c) : f_X8_keptSlots σ k = some (kpt B c 5) := by
  unfold f_X8_keptSlots f_X8_keptSlots_4
  have key := loop_is (f := f_X8_keptSlots_4B σ k) (P := fun s => ∃ d : Nat, s = (kpt B c d, (d : Int)) ∧ d ≤ 5) (μ := fun s => (5 - s.2).toNat) (r := kpt B c 5) ?_ (a := (0, 0)) ⟨0, rfl, by omega⟩ (by decide)
  · rw [key]; rfl
  · rintro s ⟨d, rfl, hd⟩
    show (∃ a', f_X8_keptSlots_4C σ k _ _ = _ ∧ _) ∨ f_X8_keptSlots_4C σ k _ _ = _
    unfold f_X8_keptSlots_4C
    by_cases h5 : (5 : Int) ≤ d
    · right
      rw [if_pos h5]
      have : d = 5 := by omega
      subst this; rfl
    · left
      have hl := kpt_b w hc hc2 d
      have hv := kv_b w hc hc2 d (ovr B c d)
      have e1 : jadd (d : Int) 1 = ((d + 1 : Nat) : Int) := by rw [jadd_ok (by omega) (by omega)]; omega
      refine ⟨(kpt B c (d + 1), ((d + 1 : Nat) : Int)), ?_, ⟨d + 1, rfl, by omega⟩, by show (5 - ((d + 1 : Nat) : Int)).toNat < (5 - (d : Int)).toNat; omega⟩
      rw [if_neg h5, chk_pos (by omega), bind_some' (isWd_kept w hc hc2 (h d (by omega))), jadd_ok (a := kpt B c d) (by omega) (by omega), e1]; rfl
theorem isWd_copy {σ τ : Mem} {k k2 : Int} {B : Bk} (w : WF B) {c : Int} (hc : 0 ≤ c) (hc2 : c < B 8 1) {d : Nat} (hd : d < 5) {o f : Int} {a : Nat} (h : isWd σ k2 B c d f a (dpl B c d o)) (e1 : ∀ j, 1 ≤ j → j ≤ 6 → τ (k + j) d = σ (k2 + j) d) (e2 : ∀ j i, 7 ≤ j → j ≤ 9 → 0 ≤ i → i < 20 → τ (k + j) i = σ (k2 + j) i) : isWd τ k B c d f a (dpl B c d o) := by
  refine ⟨by rw [e1 3 (by decide) (by decide)]; exact h.1, by rw [e1 4 (by decide) (by decide)]; exact h.2.1, fun h0 => ?_, fun v o' m l h0 => ?_⟩
  · rw [e1 1 (by decide) (by decide), e1 2 (by decide) (by decide), e1 5 (by decide) (by decide), e1 6 (by decide) (by decide)]
    exact h.2.2.1 h0
  · rw [e1 1 (by decide) (by decide), e1 2 (by decide) (by decide), e1 5 (by decide) (by decide), e1 6 (by decide) (by decide)]
    have h4 := (dpl_some w hc hc2 h0).1.2.1
    obtain ⟨z1, z2, z3, z4, z5⟩ := h.2.2.2 v o' m l h0
    refine ⟨z1, z2, z3, z4, fun j hj => ?_⟩
    rw [e2 7 _ (by decide) (by decide) (by omega) (by omega), e2 8 _ (by decide) (by decide) (by omega) (by omega), e2 9 _ (by decide) (by decide) (by omega) (by omega)]
    exact z5 j hj
/-- the trial week takes another over -/
theorem X8_become {σ : Mem} {B : Bk} (w : WF B) {c : Int} (hc : 0 ≤ c) (hc2 : c < B 8 1) {k2 : Int} (hk : 54 ≤ k2 ∧ k2 ≤ 144) (h : isWk σ k2 B c) : ∃ τ, f_X8_become σ 154 k2 = some τ ∧ (∀ x, ¬ (155 ≤ x ∧ x ≤ 163) → τ x = σ x) ∧ isWk τ 154 B c := by
  unfold f_X8_become f_X8_become_2
  obtain ⟨τ, g1, g2, g3⟩ := loop_ex (f := f_X8_become_2B 154 k2) (fun s => ∃ d : Nat, s.1 = (d : Int) ∧ d ≤ 5 ∧ (∀ x, x ≠ 155 → s.2 x = σ x) ∧ ∀ e : Nat, e < d → s.2 155 e = σ (k2 + 1) e) (fun s => (5 - s.1).toNat) (fun τ => (∀ x, x ≠ 155 → τ x = σ x) ∧ ∀ e : Nat, e < 5 → τ 155 e = σ (k2 + 1) e) (a := (0, σ)) ⟨0, rfl, by omega, fun _ _ => rfl, fun e he => absurd he (Nat.not_lt_zero _)⟩ (Nat.le_of_ble_eq_true rfl) (by
    rintro ⟨_, τ⟩ ⟨d, rfl, hd, k1, k3⟩
    have k1 : ∀ x, x ≠ 155 → τ x = σ x := k1
    have k3 : ∀ e : Nat, e < d → τ 155 e = σ (k2 + 1) e := k3
    show (∃ a', f_X8_become_2C 154 k2 (d : Int) τ = _ ∧ _) ∨ ∃ a', f_X8_become_2C 154 k2 (d : Int) τ = _ ∧ _
    unfold f_X8_become_2C
    by_cases h5 : (5 : Int) ≤ d
    · right
      rw [if_pos h5]
      have : d = 5 := by omega
      subst this
      exact ⟨_, rfl, k1, k3⟩
    · left
      have hv := isWd_can (h d (by omega))
      have hv2 : σ (k2 + 1) d = 0 ∨ σ (k2 + 1) d = 1 := by rw [hv]; split <;> simp
      rw [if_neg h5, chk_pos (by omega), k1 (k2 + 1) (by omega), chk_pos (by omega)]
      simp only [Option.bind_some]
      rw [jadd_ok (by omega) (by omega)]
      refine ⟨_, rfl, ⟨d + 1, by show (d : Int) + 1 = _; omega, by omega, fun x hx => by dsimp only; rw [mup_row (by omega), k1 x hx], fun e he => ?_⟩, by show (5 - ((d : Int) + 1)).toNat < (5 - (d : Int)).toNat; omega⟩
      dsimp only
      by_cases ee : e = d
      · subst ee; rw [mup_hit (by decide) rfl]
      · rw [mup_miss (by omega)]; exact k3 e (by omega))
  rw [g1]
  show ∃ ρ, f_X8_become_25 τ 154 k2 = some ρ ∧ _
  unfold f_X8_become_25
  rw [chk_pos (by decide)]
  simp only [Option.bind_some]
  rw [chk_pos (by decide), chk_pos (by decide), chk_pos (by decide), chk_pos (by decide), chk_pos (by decide), chk_pos (by decide), chk_pos (by decide)]
  refine ⟨_, rfl, fun x hx => ?_, fun d hd => isWd_copy w hc hc2 hd (h d hd) (fun j h1 h2 => ?_) (fun j i h1 h2 h3 h4 => ?_)⟩
  · rw [mcp_row (by omega), mcp_row (by omega), mcp_row (by omega), mcp_row (by omega), mcp_row (by omega), mcp_row (by omega), mcp_row (by omega), mcp_row (by omega), g2 x (by omega)]
  · by_cases j1 : j = 1
    · subst j1
      rw [mcp_row (by omega), mcp_row (by omega), mcp_row (by omega), mcp_row (by omega), mcp_row (by omega), mcp_row (by omega), mcp_row (by omega), mcp_row (by omega)]
      exact g3 d hd
    by_cases j2 : j = 2
    · subst j2
      rw [mcp_row (by omega), mcp_row (by omega), mcp_row (by omega), mcp_row (by omega), mcp_row (by omega), mcp_row (by omega), mcp_row (by omega), mcp_hit (by omega) (by omega) (by omega), show (0 : Int) + ((d : Int) - 0) = d by omega, g2 _ (by omega)]
    by_cases j3 : j = 3
    · subst j3
      rw [mcp_row (by omega), mcp_row (by omega), mcp_row (by omega), mcp_row (by omega), mcp_row (by omega), mcp_row (by omega), mcp_hit (by omega) (by omega) (by omega), show (0 : Int) + ((d : Int) - 0) = d by omega, mcp_row (by omega), g2 _ (by omega)]
    by_cases j4 : j = 4
    · subst j4
      rw [mcp_row (by omega), mcp_row (by omega), mcp_row (by omega), mcp_row (by omega), mcp_row (by omega), mcp_hit (by omega) (by omega) (by omega), show (0 : Int) + ((d : Int) - 0) = d by omega, mcp_row (by omega), mcp_row (by omega), g2 _ (by omega)]
    by_cases j5 : j = 5
    · subst j5
      rw [mcp_row (by omega), mcp_row (by omega), mcp_row (by omega), mcp_row (by omega), mcp_hit (by omega) (by omega) (by omega), show (0 : Int) + ((d : Int) - 0) = d by omega, mcp_row (by omega), mcp_row (by omega), mcp_row (by omega), g2 _ (by omega)]
    have : j = 6 := by omega
    subst this
    rw [mcp_row (by omega), mcp_row (by omega), mcp_row (by omega), mcp_hit (by omega) (by omega) (by omega), show (0 : Int) + ((d : Int) - 0) = d by omega, mcp_row (by omega), mcp_row (by omega), mcp_row (by omega), mcp_row (by omega), g2 _ (by omega)]
  · by_cases j7 : j = 7
    · subst j7
      rw [mcp_row (by omega), mcp_row (by omega), mcp_hit (by omega) (by omega) (by omega), show (0 : Int) + (i - 0) = i by omega, mcp_row (by omega), mcp_row (by omega), mcp_row (by omega), mcp_row (by omega), mcp_row (by omega), g2 _ (by omega)]
    by_cases j8 : j = 8
    · subst j8
      rw [mcp_row (by omega), mcp_hit (by omega) (by omega) (by omega), show (0 : Int) + (i - 0) = i by omega, mcp_row (by omega), mcp_row (by omega), mcp_row (by omega), mcp_row (by omega), mcp_row (by omega), mcp_row (by omega), g2 _ (by omega)]
    have : j = 9 := by omega
    subst this
    rw [mcp_hit (by omega) (by omega) (by omega), show (0 : Int) + (i - 0) = i by omega, mcp_row (by omega), mcp_row (by omega), mcp_row (by omega), mcp_row (by omega), mcp_row (by omega), mcp_row (by omega), mcp_row (by omega), g2 _ (by omega)]
