/-! TEXTS: the class reads them -/
def TX (σ : Mem) (f : Int → Int) (S : Nat) : Prop := S ≤ 250 ∧ fB f ∧ σ 28 1 = (S : Int) ∧ ∀ i, 0 ≤ i → i < 250 → σ 29 i = f i
theorem TX.keep {σ τ : Mem} {f : Int → Int} {S : Nat} (h : TX σ f S) (e1 : τ 28 1 = σ 28 1) (e2 : τ 29 = σ 29) : TX τ f S := ⟨h.1, h.2.1, by rw [e1]; exact h.2.2.1, fun i h1 h2 => by rw [e2]; exact h.2.2.2 i h1 h2⟩
theorem X7_byteAt {σ : Mem} {f : Int → Int} {S : Nat} (hT : TX σ f S) (a : Nat) : f_X7_byteAt σ a = some (byt f S a) := by
  obtain ⟨h1, -, h2, h3⟩ := hT
  unfold f_X7_byteAt
  rw [if_neg (by omega), h2]
  by_cases e : S ≤ a
  · rw [if_pos (by omega), byt_out e]
  · rw [if_neg (by omega), if_neg (by omega), chk_pos (by omega), h3 _ (by omega) (by omega), byt_in (by omega)]
theorem byt_b {f : Int → Int} (hf : fB f) {S : Nat} (hS : S ≤ 250) (a : Nat) : -1 ≤ byt f S a ∧ byt f S a ≤ 255 := by
  by_cases h : a < S
  · rw [byt_in h]
    have := hf a (by omega) (by omega)
    omega
  · rw [byt_out (by omega)]
    decide
theorem X7_skip {σ : Mem} {f : Int → Int} {S : Nat} (hT : TX σ f S) {a : Nat} (ha : a ≤ S) (h2 : σ 28 2 = (a : Int)) : ∃ τ, f_X7_skipBlanks σ = some τ ∧ (∀ x, x ≠ 28 → τ x = σ x) ∧ (∀ i, i ≠ 2 → τ 28 i = σ 28 i) ∧ τ 28 2 = (nb f S a : Int) := by
  have hS := hT.1
  unfold f_X7_skipBlanks f_X7_skipBlanks_2
  obtain ⟨e, e1, e2, e3, e4⟩ := loop_ex (f := f_X7_skipBlanks_2B) (fun s => ∃ k : Nat, s.1 = (k : Int) ∧ a + k ≤ S ∧ (∀ x, x ≠ 28 → s.2 x = σ x) ∧ (∀ i, i ≠ 2 → s.2 28 i = σ 28 i) ∧ s.2 28 2 = ((a + k : Nat) : Int) ∧ nb f S (a + k) = nb f S a) (fun s => (300 - s.1).toNat) (fun e => (∀ x, x ≠ 28 → e x = σ x) ∧ (∀ i, i ≠ 2 → e 28 i = σ 28 i) ∧ e 28 2 = (nb f S a : Int)) (a := (0, σ)) ⟨0, rfl, ha, fun _ _ => rfl, fun _ _ => rfl, h2, rfl⟩ (Nat.le_of_ble_eq_true rfl) (by
    rintro ⟨_, τ⟩ ⟨k, rfl, hk, k1, k2, k3, k4⟩
    have k1 : ∀ x, x ≠ 28 → τ x = σ x := k1
    have k2 : ∀ i, i ≠ 2 → τ 28 i = σ 28 i := k2
    have k3 : τ 28 2 = ((a + k : Nat) : Int) := k3
    have hTt : TX τ f S := hT.keep (k2 1 (by decide)) (k1 29 (by decide))
    show (∃ a', f_X7_skipBlanks_2C (k : Int) τ = _ ∧ _) ∨ ∃ a', f_X7_skipBlanks_2C (k : Int) τ = _ ∧ _
    unfold f_X7_skipBlanks_2C
    by_cases hend : (250 : Int) ≤ k
    · right
      rw [if_pos hend]
      refine ⟨_, rfl, k1, k2, ?_⟩
      rw [k3, ← k4]
      unfold nb
      rw [go_ge (by omega)]
    · rw [if_neg hend, k3, bind_some' (X7_byteAt hTt (a + k))]
      by_cases hp : byt f S (a + k) = 32
      · left
        have hlt : a + k < S := by
          by_cases q : a + k < S
          · exact q
          · rw [byt_out (by omega)] at hp
            exact absurd hp (by decide)
        rw [if_neg (fun z => z hp), bsm, bsm, jadd_ok (by omega) (by omega), jadd_ok (by omega) (by omega)]
        refine ⟨_, rfl, ⟨k + 1, by show (k : Int) + 1 = _; omega, by omega, fun x hx => ?_, fun i hi => ?_, ?_, ?_⟩, by show (300 - ((k : Int) + 1)).toNat < (300 - (k : Int)).toNat; omega⟩
        · show mup τ 28 2 _ x = _
          rw [mup_row hx, k1 x hx]
        · show mup τ 28 2 _ 28 i = _
          rw [mup_miss (fun z => hi z.2), k2 i hi]
        · show mup τ 28 2 (((a + k : Nat) : Int) + 1) 28 2 = ((a + (k + 1) : Nat) : Int)
          rw [mup_hit rfl rfl]
          omega
        · rw [← k4]
          exact go_t hlt (decide_eq_true hp)
      · right
        rw [if_pos hp]
        refine ⟨_, rfl, k1, k2, ?_⟩
        rw [k3, ← k4]
        unfold nb
        rw [go_f (decide_eq_false hp)])
  rw [e1]
  exact ⟨e, rfl, e2, e3, e4⟩
/-- how a number was read -/
def oC (f : Int → Int) (S : Nat) (a : Nat) (o : Nat ⊕ (Int × Nat)) (v : Int) (τ : Mem) : Prop := τ 28 3 = (nb f S a : Int) ∧ match o with
  | .inl q => v = -1 ∧ τ 28 4 = (q : Int)
  | .inr y => v = y.1 ∧ τ 28 2 = (y.2 : Int)
theorem dv2_b {f : Int → Int} (hf : fB f) {b k : Nat} (h : b + k ≤ 250) : -600 ≤ dv2 f b k ∧ dv2 f b k ≤ 3000 := by
  unfold dv2
  split
  · decide
  · have h1 := hf b (by omega) (by omega)
    split
    · omega
    · have h2 := hf ((b + 1 : Nat) : Int) (by omega) (by omega)
      omega
theorem dv2_s (f : Int → Int) (b : Nat) {k : Nat} (h : k < 2) : dv2 f b (k + 1) = 10 * dv2 f b k + f ((b + k : Nat) : Int) - 48 := by
  rcases (show k = 0 ∨ k = 1 by omega) with e | e
  · subst e
    show f b - 48 = 10 * 0 + f ((b + 0 : Nat) : Int) - 48
    rw [Nat.add_zero]
    omega
  · subst e
    show 10 * (f b - 48) + (f (b + 1 : Nat) - 48) = 10 * (f b - 48) + f ((b + 1 : Nat) : Int) - 48
    omega
theorem dv2_m (f : Int → Int) (b : Nat) {k : Nat} (h : 2 ≤ k) : dv2 f b (k + 1) = dv2 f b k := by
  unfold dv2
  rw [if_neg (by omega), if_neg (by omega), if_neg (by omega), if_neg (by omega)]
theorem X7_isDigit {σ : Mem} (x : Int) : f_X7_isDigit σ x = some (if 48 ≤ x ∧ x ≤ 57 then 1 else 0) := by
  unfold f_X7_isDigit
  by_cases h1 : x < 48
  · rw [if_pos h1, if_neg (by omega)]
  · rw [if_neg h1]
    by_cases h2 : 57 < x
    · rw [if_pos h2, if_neg (by omega)]
    · rw [if_neg h2, if_pos (by omega)]
theorem X7_isLetter {σ : Mem} (x : Int) : f_X7_isLetter σ x = some (if 97 ≤ x ∧ x ≤ 122 then 1 else 0) := by
  unfold f_X7_isLetter
  by_cases h1 : x < 97
  · rw [if_pos h1, if_neg (by omega)]
  · rw [if_neg h1]
    by_cases h2 : 122 < x
    · rw [if_pos h2, if_neg (by omega)]
    · rw [if_neg h2, if_pos (by omega)]
theorem X7_number {σ : Mem} {f : Int → Int} {S : Nat} (hT : TX σ f S) {a : Nat} (ha : a ≤ S) (h2 : σ 28 2 = (a : Int)) (lo hi : Int) : ∃ v τ, f_X7_number σ lo hi = some (v, τ) ∧ (∀ x, x ≠ 28 → τ x = σ x) ∧ (∀ i, i ≠ 2 → i ≠ 3 → i ≠ 4 → τ 28 i = σ 28 i) ∧ oC f S a (nm f S lo hi a) v τ := by
  have hS := hT.1
  have hf := hT.2.1
  obtain ⟨σ1, a1, a2, a3, a4⟩ := X7_skip hT ha h2
  have g1 := go_ok (txB f S) S _ a rfl ha
  have g1a : a ≤ nb f S a := g1.1
  have g1b : nb f S a ≤ S := g1.2.1
  obtain ⟨b, hb⟩ : ∃ b, b = nb f S a := ⟨_, rfl⟩
  have g2 := go_ok (pD f S) S _ b rfl (by omega)
  obtain ⟨m, hm⟩ : ∃ m, go (pD f S) S b = b + m := ⟨go (pD f S) S b - b, by have := g2.1; omega⟩
  have hne : ne' f S a = b + m := by unfold ne'; rw [← hb, hm]
  obtain ⟨σ3, hσ3⟩ : ∃ σ3, σ3 = mup σ1 28 3 (b : Int) := ⟨_, rfl⟩
  have q1 : ∀ x, x ≠ 28 → σ3 x = σ x := fun x hx => by rw [hσ3, mup_row hx, a2 x hx]
  have q2 : ∀ i, i ≠ 2 → i ≠ 3 → σ3 28 i = σ 28 i := fun i i1 i2 => by rw [hσ3, mup_miss (fun z => i2 z.2), a3 i i1]
  have q3 : σ3 28 3 = (b : Int) := by rw [hσ3, mup_hit rfl rfl]
  have q4 : σ3 28 2 = (b : Int) := by rw [hσ3, mup_miss (by decide), a4, hb]
  obtain ⟨e, e1, e2, e3, e4, e5, e6, e7⟩ := loop_ex (f := f_X7_number_20B lo hi) (fun s => ∃ k : Nat, s.2.1 = (k : Int) ∧ s.2.2.1 = (k : Int) ∧ b + k ≤ S ∧ s.1 = dv2 f b k ∧ (∀ x, x ≠ 28 → s.2.2.2 x = σ x) ∧ (∀ i, i ≠ 2 → i ≠ 3 → s.2.2.2 28 i = σ 28 i) ∧ s.2.2.2 28 3 = (b : Int) ∧ s.2.2.2 28 2 = ((b + k : Nat) : Int) ∧ go (pD f S) S (b + k) = b + m) (fun s => (300 - s.2.2.1).toNat) (fun e => e.1 = dv2 f b m ∧ e.2.1 = (m : Int) ∧ (∀ x, x ≠ 28 → e.2.2 x = σ x) ∧ (∀ i, i ≠ 2 → i ≠ 3 → e.2.2 28 i = σ 28 i) ∧ e.2.2 28 3 = (b : Int) ∧ e.2.2 28 2 = ((b + m : Nat) : Int)) (a := (0, 0, 0, σ3)) ⟨0, rfl, rfl, by omega, rfl, q1, q2, q3, q4, hm⟩ (Nat.le_of_ble_eq_true rfl) (by
    rintro ⟨x3, _, _, τ⟩ ⟨k, rfl, rfl, hk, g, k1, k2, k3, k4, k5⟩
    have g : x3 = dv2 f b k := g
    have k1 : ∀ x, x ≠ 28 → τ x = σ x := k1
    have k2 : ∀ i, i ≠ 2 → i ≠ 3 → τ 28 i = σ 28 i := k2
    have k3 : τ 28 3 = (b : Int) := k3
    have k4 : τ 28 2 = ((b + k : Nat) : Int) := k4
    have hTt : TX τ f S := hT.keep (k2 1 (by decide) (by decide)) (k1 29 (by decide))
    show (∃ a', f_X7_number_20C lo hi x3 (k : Int) (k : Int) τ = _ ∧ _) ∨ ∃ a', f_X7_number_20C lo hi x3 (k : Int) (k : Int) τ = _ ∧ _
    have stop : go (pD f S) S (b + k) = b + k → ∃ a', some (Sum.inr (x3, (k : Int), τ)) = some (Sum.inr (α := Int × Int × Int × Mem) a') ∧ a'.1 = dv2 f b m ∧ a'.2.1 = (m : Int) ∧ (∀ x, x ≠ 28 → a'.2.2 x = σ x) ∧ (∀ i, i ≠ 2 → i ≠ 3 → a'.2.2 28 i = σ 28 i) ∧ a'.2.2 28 3 = (b : Int) ∧ a'.2.2 28 2 = ((b + m : Nat) : Int) := fun z => by
      have e : k = m := by omega
      exact ⟨_, rfl, by rw [← e]; exact g, by rw [← e], k1, k2, k3, by rw [← e]; exact k4⟩
    unfold f_X7_number_20C
    by_cases hend : (250 : Int) ≤ k
    · right
      rw [if_pos hend]
      exact stop (go_ge (by omega))
    · rw [if_neg hend, k4, bind_some' (X7_byteAt hTt (b + k)), bind_some' (X7_isDigit _), if0]
      by_cases hp : 48 ≤ byt f S (b + k) ∧ byt f S (b + k) ≤ 57
      · left
        have hlt : b + k < S := by
          by_cases q : b + k < S
          · exact q
          · rw [byt_out (by omega)] at hp
            exact absurd hp (by decide)
        have fin : ∀ y : Int, y = dv2 f b (k + 1) → ∃ a', f_X7_number_65 τ lo hi y k k = some (Sum.inl a') ∧ (∃ k : Nat, a'.2.1 = (k : Int) ∧ a'.2.2.1 = (k : Int) ∧ b + k ≤ S ∧ a'.1 = dv2 f b k ∧ (∀ x, x ≠ 28 → a'.2.2.2 x = σ x) ∧ (∀ i, i ≠ 2 → i ≠ 3 → a'.2.2.2 28 i = σ 28 i) ∧ a'.2.2.2 28 3 = (b : Int) ∧ a'.2.2.2 28 2 = ((b + k : Nat) : Int) ∧ go (pD f S) S (b + k) = b + m) ∧ (300 - a'.2.2.1).toNat < (300 - (k : Int)).toNat := fun y hy => by
          unfold f_X7_number_65
          rw [bsm, bsm, bsm, k4, jadd_ok (by omega) (by omega), jadd_ok (by omega) (by omega)]
          refine ⟨_, rfl, ⟨k + 1, by show (k : Int) + 1 = _; omega, by show (k : Int) + 1 = _; omega, by omega, hy, fun x hx => ?_, fun i i1 i2 => ?_, ?_, ?_, ?_⟩, by show (300 - ((k : Int) + 1)).toNat < (300 - (k : Int)).toNat; omega⟩
          · show mup τ 28 2 (((b + k : Nat) : Int) + 1) x = _
            rw [mup_row hx, k1 x hx]
          · show mup τ 28 2 (((b + k : Nat) : Int) + 1) 28 i = _
            rw [mup_miss (fun z => i1 z.2), k2 i i1 i2]
          · show mup τ 28 2 (((b + k : Nat) : Int) + 1) 28 3 = _
            rw [mup_miss (by decide), k3]
          · show mup τ 28 2 (((b + k : Nat) : Int) + 1) 28 2 = ((b + (k + 1) : Nat) : Int)
            rw [mup_hit rfl rfl]
            omega
          · rw [← k5]
            exact go_t hlt (decide_eq_true hp)
        rw [if_pos hp]
        by_cases h2k : (2 : Int) ≤ k
        · rw [if_pos h2k]
          exact fin _ (by rw [g, dv2_m f b (by omega)])
        · have hbv := dv2_b hf (b := b) (k := k) (by omega)
          rw [if_neg h2k, bind_some' (X7_byteAt hTt (b + k)), bsm, g, byt_in hlt]
          rw [byt_in hlt] at hp
          rw [jmul_ok (by omega) (by omega), jadd_ok (by omega) (by omega), jsub_ok (by omega) (by omega)]
          exact fin _ (by rw [dv2_s f b (by omega)]; omega)
      · right
        rw [if_neg hp]
        exact stop (go_f (decide_eq_false hp)))
  obtain ⟨y, z, τ⟩ := e
  have e2 : y = dv2 f b m := e2
  have e3 : z = (m : Int) := e3
  have e4 : ∀ x, x ≠ 28 → τ x = σ x := e4
  have e5 : ∀ i, i ≠ 2 → i ≠ 3 → τ 28 i = σ 28 i := e5
  have e6 : τ 28 3 = (b : Int) := e6
  have e7 : τ 28 2 = ((b + m : Nat) : Int) := e7
  have hnv : nv f S a = y := by unfold nv; rw [hne, ← hb, e2, show b + m - b = m by omega]
  have hnm : nm f S lo hi a = if 1 ≤ m ∧ m ≤ 2 ∧ lo ≤ y ∧ y ≤ hi then .inr (y, b + m) else .inl b := by
    unfold nm
    rw [hnv, hne, ← hb, show b + m - b = m by omega]
  have h0 : f_X7_number σ lo hi = f_X7_number_84 τ lo hi y m := by
    unfold f_X7_number f_X7_number_20
    rw [bind_some' a1, bsm, a4, ← hb, ← hσ3, e1, bsm, e3]
  rw [h0]
  have bad : ¬ (1 ≤ m ∧ m ≤ 2 ∧ lo ≤ y ∧ y ≤ hi) → ∃ v ρ, f_X7_number_105 τ = some (v, ρ) ∧ (∀ x, x ≠ 28 → ρ x = σ x) ∧ (∀ i, i ≠ 2 → i ≠ 3 → i ≠ 4 → ρ 28 i = σ 28 i) ∧ oC f S a (nm f S lo hi a) v ρ := fun h => by
    refine ⟨-1, mup τ 28 4 b, ?_, fun x hx => by rw [mup_row hx, e4 x hx], fun i i1 i2 i3 => by rw [mup_miss (fun z => i3 z.2), e5 i i1 i2], ?_⟩
    · unfold f_X7_number_105 f_X7_faultHere
      rw [e6]
      rfl
    · rw [hnm, if_neg h]
      exact ⟨by rw [mup_miss (by decide), e6, hb], rfl, mup_hit rfl rfl⟩
  unfold f_X7_number_84
  by_cases c1 : m = 0
  · rw [if_pos (by omega)]
    exact bad (by omega)
  rw [if_neg (by omega)]
  by_cases c2 : 2 < m
  · rw [if_pos (by omega)]
    exact bad (by omega)
  rw [if_neg (by omega)]
  by_cases c3 : y < lo
  · rw [if_pos c3]
    exact bad (by omega)
  rw [if_neg c3]
  by_cases c4 : y ≤ hi
  · rw [if_pos c4]
    refine ⟨_, _, rfl, e4, fun i i1 i2 _ => e5 i i1 i2, by rw [e6, hb], ?_⟩
    rw [hnm, if_pos ⟨by omega, by omega, by omega, c4⟩]
    exact ⟨rfl, e7⟩
  · rw [if_neg c4]
    exact bad (by omega)
