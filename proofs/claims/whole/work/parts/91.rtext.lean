/-! TEXTS: the reference reads them -/
def TR (σ : Mem) (f : Int → Int) (S : Nat) : Prop := S ≤ 250 ∧ fB f ∧ σ 181 9 = (S : Int) ∧ (∀ i, 0 ≤ i → i < 250 → σ 189 i = f i) ∧ WRD σ
theorem TR.keep {σ τ : Mem} {f : Int → Int} {S : Nat} (h : TR σ f S) (e1 : τ 181 9 = σ 181 9) (e2 : τ 189 = σ 189) (e3 : τ 190 = σ 190) : TR τ f S := ⟨h.1, h.2.1, by rw [e1]; exact h.2.2.1, fun i h1 h2 => by rw [e2]; exact h.2.2.2.1 i h1 h2, h.2.2.2.2.pt fun i => by rw [e3]⟩
theorem X11_isLetter {σ : Mem} {f : Int → Int} {S : Nat} (hT : TR σ f S) (a : Nat) : f_X11_isLetter σ a = some (if 97 ≤ byt f S a ∧ byt f S a ≤ 122 then 1 else 0) := by
  obtain ⟨h1, -, h2, h3, -⟩ := hT
  unfold f_X11_isLetter
  rw [h2]
  by_cases e : S ≤ a
  · rw [if_pos (show (S : Int) ≤ a by omega), byt_out e, if_neg (by decide)]
  · rw [if_neg (show ¬ (S : Int) ≤ a by omega), chk_pos (by omega), h3 _ (by omega) (by omega), chk_pos (by omega), byt_in (by omega)]
    by_cases c1 : f a < 97
    · rw [if_pos c1, if_neg (by omega)]
    · rw [if_neg c1]
      by_cases c2 : 122 < f a
      · rw [if_pos c2, if_neg (by omega)]
      · rw [if_neg c2, if_pos (by omega)]
theorem X11_isFigure {σ : Mem} {f : Int → Int} {S : Nat} (hT : TR σ f S) (a : Nat) : f_X11_isFigure σ a = some (if 48 ≤ byt f S a ∧ byt f S a ≤ 57 then 1 else 0) := by
  obtain ⟨h1, -, h2, h3, -⟩ := hT
  unfold f_X11_isFigure
  rw [h2]
  by_cases e : S ≤ a
  · rw [if_pos (show (S : Int) ≤ a by omega), byt_out e, if_neg (by decide)]
  · rw [if_neg (show ¬ (S : Int) ≤ a by omega), chk_pos (by omega), h3 _ (by omega) (by omega), chk_pos (by omega), byt_in (by omega)]
    by_cases c1 : f a < 48
    · rw [if_pos c1, if_neg (by omega)]
    · rw [if_neg c1]
      by_cases c2 : 57 < f a
      · rw [if_pos c2, if_neg (by omega)]
      · rw [if_neg c2, if_pos (by omega)]
theorem X11_blanks {σ : Mem} {f : Int → Int} {S : Nat} (hT : TR σ f S) {a : Nat} (ha : a ≤ S) (h2 : σ 181 10 = (a : Int)) : ∃ τ, f_X11_blanks σ = some τ ∧ (∀ x, x ≠ 181 → τ x = σ x) ∧ (∀ i, i ≠ 10 → i ≠ 11 → τ 181 i = σ 181 i) ∧ τ 181 10 = (nb f S a : Int) ∧ τ 181 11 = (nb f S a : Int) := by
  have hS := hT.1
  unfold f_X11_blanks f_X11_blanks_0
  obtain ⟨e, e1, e2, e3, e4⟩ := loop_ex (f := f_X11_blanks_0B) (fun s => ∃ k : Nat, a + k ≤ S ∧ (∀ x, x ≠ 181 → s x = σ x) ∧ (∀ i, i ≠ 10 → s 181 i = σ 181 i) ∧ s 181 10 = ((a + k : Nat) : Int) ∧ nb f S (a + k) = nb f S a) (fun s => (300 - s 181 10).toNat) (fun e => (∀ x, x ≠ 181 → e x = σ x) ∧ (∀ i, i ≠ 10 → e 181 i = σ 181 i) ∧ e 181 10 = (nb f S a : Int)) (a := σ) ⟨0, ha, fun _ _ => rfl, fun _ _ => rfl, h2, rfl⟩ (by show (300 - σ 181 10).toNat < 1000000; omega) (by
    rintro τ ⟨k, hk, k1, k2, k3, k4⟩
    have hTt : TR τ f S := hT.keep (k2 9 (by decide)) (k1 189 (by decide)) (k1 190 (by decide))
    show (∃ a', f_X11_blanks_0C τ = _ ∧ _) ∨ ∃ a', f_X11_blanks_0C τ = _ ∧ _
    unfold f_X11_blanks_0C
    rw [hTt.2.2.1, k3]
    by_cases hend : S ≤ a + k
    · right
      rw [if_pos (show (S : Int) ≤ ((a + k : Nat) : Int) by omega)]
      refine ⟨_, rfl, k1, k2, ?_⟩
      rw [k3, ← k4]
      unfold nb
      rw [go_ge (by omega)]
    · rw [if_neg (show ¬ (S : Int) ≤ ((a + k : Nat) : Int) by omega), chk_pos (by omega), hTt.2.2.2.1 _ (by omega) (by omega)]
      by_cases hp : byt f S (a + k) = 32
      · left
        have hp' := hp
        rw [byt_in (by omega)] at hp'
        rw [if_neg (fun z => z hp'), bsm, jadd_ok (by omega) (by omega)]
        refine ⟨_, rfl, ⟨k + 1, by omega, fun x hx => ?_, fun i hi => ?_, ?_, ?_⟩, ?_⟩
        · rw [mup_row hx, k1 x hx]
        · rw [mup_miss (fun z => hi z.2), k2 i hi]
        · rw [mup_hit rfl rfl]
          omega
        · rw [← k4]
          exact go_t (show a + k < S by omega) (decide_eq_true hp)
        · rw [mup_hit rfl rfl]
          omega
      · right
        have hp' := hp
        rw [byt_in (by omega)] at hp'
        rw [if_pos hp']
        refine ⟨_, rfl, k1, k2, ?_⟩
        rw [k3, ← k4]
        unfold nb
        rw [go_f (decide_eq_false hp)])
  rw [e1, bsm]
  unfold f_X11_blanks_38
  rw [bsm, e4]
  exact ⟨_, rfl, fun x hx => by rw [mup_row hx, e2 x hx], fun i i1 i2 => by rw [mup_miss (fun z => i2 z.2), e3 i i1], by rw [mup_miss (by decide), e4], mup_hit rfl rfl⟩
theorem X11_wrong {σ : Mem} (h : σ 181 13 = -1) : f_X11_wrong σ = some (mup σ 181 13 (σ 181 11)) := by
  unfold f_X11_wrong
  rw [if_neg (by omega)]
  rfl
theorem X11_num0 {σ : Mem} (h : 0 ≤ σ 181 13) (lo hi : Int) : f_X11_number σ lo hi = some σ := by
  unfold f_X11_number
  rw [if_neg (by omega)]
def oR (f : Int → Int) (S : Nat) (a : Nat) (o : Nat ⊕ (Int × Nat)) (τ : Mem) : Prop := τ 181 11 = (nb f S a : Int) ∧ match o with
  | .inl q => τ 181 13 = (q : Int)
  | .inr y => τ 181 13 = -1 ∧ τ 181 12 = y.1 ∧ τ 181 10 = (y.2 : Int)
theorem X11_number {σ : Mem} {f : Int → Int} {S : Nat} (hT : TR σ f S) {a : Nat} (ha : a ≤ S) (h2 : σ 181 10 = (a : Int)) (h13 : σ 181 13 = -1) (lo hi : Int) : ∃ τ, f_X11_number σ lo hi = some τ ∧ (∀ x, x ≠ 181 → τ x = σ x) ∧ (∀ i, i ≠ 10 → i ≠ 11 → i ≠ 12 → i ≠ 13 → τ 181 i = σ 181 i) ∧ oR f S a (nm f S lo hi a) τ := by
  have hS := hT.1
  have hf := hT.2.1
  obtain ⟨σ3, a1, q1, q2, q4, q3⟩ := X11_blanks hT ha h2
  have g1 := go_ok (txB f S) S _ a rfl ha
  have g1b : nb f S a ≤ S := g1.2.1
  obtain ⟨b, hb⟩ : ∃ b, b = nb f S a := ⟨_, rfl⟩
  rw [← hb] at q3 q4
  have g2 := go_ok (pD f S) S _ b rfl (by omega)
  obtain ⟨m, hm⟩ : ∃ m, go (pD f S) S b = b + m := ⟨go (pD f S) S b - b, by have := g2.1; omega⟩
  have hne : ne' f S a = b + m := by unfold ne'; rw [← hb, hm]
  have hmS : b + m ≤ S := by rw [← hm]; exact g2.2.1
  obtain ⟨e, e1, e2, e3, e4, e5, e6⟩ := loop_ex (f := f_X11_number_17B lo hi) (fun s => ∃ k : Nat, s.2.1 = (k : Int) ∧ b + k ≤ S ∧ s.1 = dv2 f b k ∧ (∀ x, x ≠ 181 → s.2.2 x = σ3 x) ∧ (∀ i, i ≠ 10 → s.2.2 181 i = σ3 181 i) ∧ s.2.2 181 10 = ((b + k : Nat) : Int) ∧ go (pD f S) S (b + k) = b + m) (fun s => (300 - s.2.1).toNat) (fun e => e.1 = dv2 f b m ∧ e.2.1 = (m : Int) ∧ (∀ x, x ≠ 181 → e.2.2 x = σ3 x) ∧ (∀ i, i ≠ 10 → e.2.2 181 i = σ3 181 i) ∧ e.2.2 181 10 = ((b + m : Nat) : Int)) (a := (0, 0, σ3)) ⟨0, rfl, by omega, rfl, fun _ _ => rfl, fun _ _ => rfl, q4, hm⟩ (Nat.le_of_ble_eq_true rfl) (by
    rintro ⟨x3, _, τ⟩ ⟨k, rfl, hk, g, k1, k2, k4, k5⟩
    have g : x3 = dv2 f b k := g
    have k1 : ∀ x, x ≠ 181 → τ x = σ3 x := k1
    have k2 : ∀ i, i ≠ 10 → τ 181 i = σ3 181 i := k2
    have k4 : τ 181 10 = ((b + k : Nat) : Int) := k4
    have hTt : TR τ f S := hT.keep (by rw [k2 9 (by decide), q2 9 (by decide) (by decide)]) (by rw [k1 189 (by decide), q1 189 (by decide)]) (by rw [k1 190 (by decide), q1 190 (by decide)])
    show (∃ a', f_X11_number_17C lo hi x3 (k : Int) τ = _ ∧ _) ∨ ∃ a', f_X11_number_17C lo hi x3 (k : Int) τ = _ ∧ _
    unfold f_X11_number_17C
    rw [k4, bind_some' (X11_isFigure hTt (b + k)), if0]
    by_cases hp : 48 ≤ byt f S (b + k) ∧ byt f S (b + k) ≤ 57
    · left
      have hlt : b + k < S := by
        by_cases q : b + k < S
        · exact q
        · rw [byt_out (by omega)] at hp
          exact absurd hp (by decide)
      have fin : ∀ y : Int, y = dv2 f b (k + 1) → ∃ a', f_X11_number_55 τ lo hi k y = some (Sum.inl a') ∧ (∃ k : Nat, a'.2.1 = (k : Int) ∧ b + k ≤ S ∧ a'.1 = dv2 f b k ∧ (∀ x, x ≠ 181 → a'.2.2 x = σ3 x) ∧ (∀ i, i ≠ 10 → a'.2.2 181 i = σ3 181 i) ∧ a'.2.2 181 10 = ((b + k : Nat) : Int) ∧ go (pD f S) S (b + k) = b + m) ∧ (300 - a'.2.1).toNat < (300 - (k : Int)).toNat := fun y hy => by
        unfold f_X11_number_55
        rw [bsm, bsm, k4, jadd_ok (by omega) (by omega), jadd_ok (by omega) (by omega)]
        refine ⟨_, rfl, ⟨k + 1, by show (k : Int) + 1 = _; omega, by omega, hy, fun x hx => ?_, fun i i1 => ?_, ?_, ?_⟩, by show (300 - ((k : Int) + 1)).toNat < (300 - (k : Int)).toNat; omega⟩
        · show mup τ 181 10 (((b + k : Nat) : Int) + 1) x = _
          rw [mup_row hx, k1 x hx]
        · show mup τ 181 10 (((b + k : Nat) : Int) + 1) 181 i = _
          rw [mup_miss (fun z => i1 z.2), k2 i i1]
        · show mup τ 181 10 (((b + k : Nat) : Int) + 1) 181 10 = ((b + (k + 1) : Nat) : Int)
          rw [mup_hit rfl rfl]
          omega
        · rw [← k5]
          exact go_t hlt (decide_eq_true hp)
      rw [if_pos hp]
      by_cases h2k : (2 : Int) ≤ k
      · rw [if_pos h2k]
        exact fin _ (by rw [g, dv2_m f b (by omega)])
      · have hbv := dv2_b hf (b := b) (k := k) (by omega)
        rw [byt_in hlt] at hp
        rw [if_neg h2k, chk_pos (by omega), hTt.2.2.2.1 _ (by omega) (by omega), g, jmul_ok (by omega) (by omega), jadd_ok (by omega) (by omega), jsub_ok (by omega) (by omega)]
        exact fin _ (by rw [dv2_s f b (by omega)])
    · right
      rw [if_neg hp]
      have z := go_f (p := pD f S) (S := S) (a := b + k) (decide_eq_false hp)
      have e : k = m := by omega
      exact ⟨_, rfl, by rw [← e]; exact g, by rw [← e], k1, k2, by rw [← e]; exact k4⟩)
  obtain ⟨y, z, τ⟩ := e
  have e2 : y = dv2 f b m := e2
  have e3 : z = (m : Int) := e3
  have e4 : ∀ x, x ≠ 181 → τ x = σ3 x := e4
  have e5 : ∀ i, i ≠ 10 → τ 181 i = σ3 181 i := e5
  have e6 : τ 181 10 = ((b + m : Nat) : Int) := e6
  have hnv : nv f S a = y := by unfold nv; rw [hne, ← hb, e2, show b + m - b = m by omega]
  have hnm : nm f S lo hi a = if 1 ≤ m ∧ m ≤ 2 ∧ lo ≤ y ∧ y ≤ hi then .inr (y, b + m) else .inl b := by
    unfold nm
    rw [hnv, hne, ← hb, show b + m - b = m by omega]
  have h0 : f_X11_number σ lo hi = f_X11_number_72 τ lo hi y m := by
    unfold f_X11_number f_X11_number_17
    rw [if_pos (by omega), bind_some' a1, e1, bsm, e3]
  rw [h0]
  have t13 : τ 181 13 = -1 := by rw [e5 13 (by decide), q2 13 (by decide) (by decide)]; exact h13
  have t11 : τ 181 11 = (b : Int) := by rw [e5 11 (by decide), q3]
  have f1 : ∀ x, x ≠ 181 → τ x = σ x := fun x hx => by rw [e4 x hx, q1 x hx]
  have f2 : ∀ i, i ≠ 10 → i ≠ 11 → τ 181 i = σ 181 i := fun i i1 i2 => by rw [e5 i i1, q2 i i1 i2]
  have bad : ¬ (1 ≤ m ∧ m ≤ 2 ∧ lo ≤ y ∧ y ≤ hi) → ∃ ρ, f_X11_number_95 τ y = some ρ ∧ (∀ x, x ≠ 181 → ρ x = σ x) ∧ (∀ i, i ≠ 10 → i ≠ 11 → i ≠ 12 → i ≠ 13 → ρ 181 i = σ 181 i) ∧ oR f S a (nm f S lo hi a) ρ := fun h => by
    refine ⟨mup (mup τ 181 13 b) 181 12 y, ?_, fun x hx => by rw [mup_row hx, mup_row hx, f1 x hx], fun i i1 i2 i3 i4 => by rw [mup_miss (fun z => i3 z.2), mup_miss (fun z => i4 z.2), f2 i i1 i2], ?_⟩
    · unfold f_X11_number_95 f_X11_number_99
      rw [bind_some' (X11_wrong t13), t11]
      rfl
    · rw [hnm, if_neg h]
      exact ⟨by rw [mup_miss (by decide), mup_miss (by decide), t11, hb], by rw [mup_miss (by decide), mup_hit rfl rfl]⟩
  unfold f_X11_number_72
  by_cases c1 : m = 0
  · rw [if_pos (by omega)]
    exact bad (by omega)
  rw [if_neg (by omega)]
  by_cases c2 : 2 < m
  · rw [if_pos (by omega)]
    exact bad (by omega)
  rw [if_neg (by omega), bind_some' (X11_isIn y lo hi), if1]
  by_cases c3 : lo ≤ y ∧ y ≤ hi
  · rw [if_pos c3]
    refine ⟨mup τ 181 12 y, rfl, fun x hx => by rw [mup_row hx, f1 x hx], fun i i1 i2 i3 _ => by rw [mup_miss (fun z => i3 z.2), f2 i i1 i2], ?_⟩
    rw [hnm, if_pos ⟨by omega, by omega, c3.1, c3.2⟩]
    exact ⟨by rw [mup_miss (by decide), t11, hb], by rw [mup_miss (by decide), t13], mup_hit rfl rfl, by rw [mup_miss (by decide), e6]⟩
  · rw [if_neg c3]
    exact bad (by omega)
/-- words -/
def wc (w j : Nat) : Int := wrdL.getD (5 * w + j) 0
theorem wc_in : ∀ w : Nat, w < 8 → ∀ j : Nat, j < 5 → wc w j = if j < txl w then chS (w : Int) (j : Int) else 32 := by decide +kernel
def mk (f : Int → Int) (S t n w j : Nat) : Bool := if n ≤ j then decide (wc w j = 32) else decide (byt f S (t + j) = wc w j)
theorem mk_is {f : Int → Int} {S t n w : Nat} (hw : w < 8) (h1 : 1 ≤ n) (h5 : n ≤ 5) (hl : ∀ j, j < n → 97 ≤ byt f S (t + j) ∧ byt f S (t + j) ≤ 122) : al (mk f S t n w) 5 = txW f S t n w := by
  obtain ⟨-, -, l3, l4⟩ := w_len w hw
  cases hW : txW f S t n w with
  | true =>
    unfold txW at hW
    rw [Bool.and_eq_true] at hW
    have e := of_decide_eq_true hW.1
    have hc := al_t hW.2
    refine al_of fun j hj => ?_
    unfold mk
    have hwc := wc_in w hw j hj
    by_cases q : n ≤ j
    · rw [if_pos q]
      rw [if_neg (by omega)] at hwc
      exact decide_eq_true hwc
    · rw [if_neg q]
      rw [if_pos (by omega)] at hwc
      rw [hwc]
      exact hc j (by omega)
  | false =>
    cases hm : al (mk f S t n w) 5 with
    | false => rfl
    | true =>
      exfalso
      have hj := al_t hm
      have e : n = txl w := by
        rcases Nat.lt_trichotomy n (txl w) with c | c | c
        · have h := hj n (by omega)
          unfold mk at h
          rw [if_pos (Nat.le_refl _)] at h
          have h := of_decide_eq_true h
          have hwc := wc_in w hw n (by omega)
          rw [if_pos c] at hwc
          have := w_chr w hw n c
          omega
        · exact c
        · have h := hj (txl w) (by omega)
          unfold mk at h
          rw [if_neg (by omega)] at h
          have h := of_decide_eq_true h
          have hwc := wc_in w hw (txl w) (by omega)
          rw [if_neg (Nat.lt_irrefl _)] at hwc
          have := hl (txl w) c
          omega
      have : txW f S t n w = true := by
        unfold txW
        rw [decide_eq_true e, Bool.true_and]
        refine al_of fun j hj2 => ?_
        have h := hj j (by omega)
        unfold mk at h
        rw [if_neg (by omega)] at h
        have h := of_decide_eq_true h
        have hwc := wc_in w hw j (by omega)
        rw [if_pos hj2] at hwc
        rw [hwc] at h
        exact decide_eq_true h
      rw [hW] at this
      cases this
def lst (p : Nat → Bool) : Nat → Int
  | 0 => -1
  | n + 1 => if p n then (n : Int) else lst p n
theorem lst_f {p : Nat → Bool} : ∀ n : Nat, (∀ k, k < n → p k = false) → lst p n = -1
  | 0, _ => rfl
  | n + 1, h => by
    show (if p n then (n : Int) else lst p n) = -1
    rw [h n (by omega), bf]
    exact lst_f n fun k hk => h k (by omega)
theorem lst_t {p : Nat → Bool} {i : Nat} (hi : p i = true) : ∀ n : Nat, i < n → (∀ k, k < n → p k = true → k = i) → lst p n = (i : Int)
  | n + 1, h, hu => by
    show (if p n then (n : Int) else lst p n) = (i : Int)
    by_cases e : i = n
    · rw [← e, hi, bt]
    · cases hp : p n with
      | true => exact absurd (hu n (by omega) hp).symm e
      | false =>
        rw [bf]
        exact lst_t hi n (by omega) fun k hk => hu k (by omega)
theorem wdx_cases (p : Nat → Bool) : (∃ i, i < 8 ∧ p i = true ∧ wdx p = some i) ∨ ((∀ i, i < 8 → p i = false) ∧ wdx p = none) := by
  unfold wdx
  by_cases h0 : p 0 = true
  · exact Or.inl ⟨0, by decide, h0, by rw [if_pos h0]⟩
  by_cases h1 : p 1 = true
  · exact Or.inl ⟨1, by decide, h1, by rw [if_neg h0, if_pos h1]⟩
  by_cases h2 : p 2 = true
  · exact Or.inl ⟨2, by decide, h2, by rw [if_neg h0, if_neg h1, if_pos h2]⟩
  by_cases h3 : p 3 = true
  · exact Or.inl ⟨3, by decide, h3, by rw [if_neg h0, if_neg h1, if_neg h2, if_pos h3]⟩
  by_cases h4 : p 4 = true
  · exact Or.inl ⟨4, by decide, h4, by rw [if_neg h0, if_neg h1, if_neg h2, if_neg h3, if_pos h4]⟩
  by_cases h5 : p 5 = true
  · exact Or.inl ⟨5, by decide, h5, by rw [if_neg h0, if_neg h1, if_neg h2, if_neg h3, if_neg h4, if_pos h5]⟩
  by_cases h6 : p 6 = true
  · exact Or.inl ⟨6, by decide, h6, by rw [if_neg h0, if_neg h1, if_neg h2, if_neg h3, if_neg h4, if_neg h5, if_pos h6]⟩
  by_cases h7 : p 7 = true
  · exact Or.inl ⟨7, by decide, h7, by rw [if_neg h0, if_neg h1, if_neg h2, if_neg h3, if_neg h4, if_neg h5, if_neg h6, if_pos h7]⟩
  refine Or.inr ⟨fun i hi => ?_, by rw [if_neg h0, if_neg h1, if_neg h2, if_neg h3, if_neg h4, if_neg h5, if_neg h6, if_neg h7]⟩
  rw [Bool.not_eq_true] at h0 h1 h2 h3 h4 h5 h6 h7
  rcases (show i = 0 ∨ i = 1 ∨ i = 2 ∨ i = 3 ∨ i = 4 ∨ i = 5 ∨ i = 6 ∨ i = 7 by omega) with e | e | e | e | e | e | e | e <;> rw [e] <;> assumption
theorem isW_u {f : Int → Int} {S t n v w : Nat} (hv : v < 8) (hw : w < 8) (h1 : txW f S t n v = true) (h2 : txW f S t n w = true) : v = w := by
  unfold txW at h1 h2
  rw [Bool.and_eq_true] at h1 h2
  have e1 := of_decide_eq_true h1.1
  have e2 := of_decide_eq_true h2.1
  obtain ⟨-, -, l3, l4⟩ := w_len v hv
  obtain ⟨-, -, m3, m4⟩ := w_len w hw
  have c1 := of_decide_eq_true (al_t h1.2 0 (by omega))
  have c2 := of_decide_eq_true (al_t h2.2 0 (by omega))
  exact w_dif v hv w hw (by omega) (by rw [← show ((0 : Nat) : Int) = 0 from rfl, ← c1, ← c2])
theorem lst_wdx {f : Int → Int} {S t n : Nat} : lst (txW f S t n) 8 = oI (wdx (txW f S t n)) := by
  rcases wdx_cases (txW f S t n) with ⟨i, hi, h1, h2⟩ | ⟨h1, h2⟩
  · rw [h2, lst_t h1 8 hi fun k hk hp => isW_u hk hi hp h1]
    rfl
  · rw [h2, lst_f 8 h1]
    rfl
theorem X11_w61 {σ : Mem} {f : Int → Int} {S : Nat} (hT : TR σ f S) {t n : Nat} (hn : t + n ≤ S) (h10 : σ 181 10 = (t : Int)) {w : Nat} (hw : w < 8) (x2 : Int) (s : Bool) : f_X11_word_61 σ ((t + n : Nat) : Int) x2 w (if s then 1 else 0) 0 = some (.inl (if s && al (mk f S t n w) 5 then (w : Int) else x2, (w : Int) + 1)) := by
  have hS := hT.1
  unfold f_X11_word_61
  have main : loop (f_X11_word_61B σ ((t + n : Nat) : Int) x2 w) FU (if s then 1 else 0, 0) = some (if s && al (mk f S t n w) 5 then 1 else 0) := loop_is (P := fun a => ∃ j : Nat, a.2 = (j : Int) ∧ j ≤ 5 ∧ a.1 = if s && al (mk f S t n w) j then 1 else 0) (μ := fun a => (10 - a.2).toNat) (by
    rintro ⟨x4, _⟩ ⟨j, rfl, hj, g⟩
    have g : x4 = if s && al (mk f S t n w) j then 1 else 0 := g
    show (∃ a', f_X11_word_61C σ ((t + n : Nat) : Int) x2 w x4 (j : Int) = _ ∧ _) ∨ f_X11_word_61C σ ((t + n : Nat) : Int) x2 w x4 (j : Int) = _
    unfold f_X11_word_61C
    by_cases hend : (5 : Int) ≤ j
    · right
      have e : j = 5 := by omega
      rw [if_pos hend, g, e]
    rw [if_neg hend]
    cases hsa : s && al (mk f S t n w) j with
    | false =>
      right
      rw [hsa, bf] at g
      rw [if_pos g, g]
      have : (s && al (mk f S t n w) 5) = false := by
        rw [Bool.and_eq_false_iff] at hsa ⊢
        refine hsa.imp_right fun h => ?_
        cases hq : al (mk f S t n w) 5 with
        | false => rfl
        | true =>
          have := al_of (p := mk f S t n w) (n := j) fun i hi => al_t hq i (by omega)
          rw [h] at this
          cases this
      rw [this]
      rfl
    | true =>
      left
      rw [hsa, bt] at g
      have hwr := hT.2.2.2.2 (5 * w + j) (by omega)
      have hwr : σ 190 (5 * (w : Int) + j) = wc w j := by
        rw [show 5 * (w : Int) + j = ((5 * w + j : Nat) : Int) by omega]
        exact hwr
      have step : ∀ y : Int, y = (if mk f S t n w j then 1 else 0) → ∃ a', f_X11_word_133 σ ((t + n : Nat) : Int) x2 w j y = some (.inl a') ∧ (∃ j : Nat, a'.2 = (j : Int) ∧ j ≤ 5 ∧ a'.1 = if s && al (mk f S t n w) j then 1 else 0) ∧ (10 - a'.2).toNat < (10 - (j : Int)).toNat := fun y hy => by
        unfold f_X11_word_133
        rw [bsm, jadd_ok (by omega) (by omega)]
        refine ⟨_, rfl, ⟨j + 1, by show (j : Int) + 1 = _; omega, by omega, ?_⟩, by show (10 - ((j : Int) + 1)).toNat < (10 - (j : Int)).toNat; omega⟩
        show y = if s && (al (mk f S t n w) j && mk f S t n w j) then 1 else 0
        rw [← Bool.and_assoc, hsa, Bool.true_and, hy]
      rw [if_neg (by omega), jmul_ok (by omega) (by omega), jadd_ok (a := 5 * (w : Int)) (by omega) (by omega), chk_pos (by omega), bsm, hwr, h10, jadd_ok (by omega) (by omega)]
      unfold mk at step
      by_cases q : n ≤ j
      · rw [if_pos (show ((t + n : Nat) : Int) ≤ (t : Int) + j by omega)]
        by_cases c : wc w j = 32
        · rw [if_neg (fun z => z c)]
          exact step _ (by rw [if_pos q, decide_eq_true c]; rfl)
        · rw [if_pos c]
          exact step _ (by rw [if_pos q, decide_eq_false c]; rfl)
      · rw [if_neg (show ¬ ((t + n : Nat) : Int) ≤ (t : Int) + j by omega), chk_pos (by omega), show (t : Int) + j = ((t + j : Nat) : Int) by omega, hT.2.2.2.1 _ (by omega) (by omega)]
        by_cases c : byt f S (t + j) = wc w j
        · have c' := c
          rw [byt_in (by omega)] at c'
          rw [if_neg (fun z => z c')]
          exact step _ (by rw [if_neg q, decide_eq_true c]; rfl)
        · have c' := c
          rw [byt_in (by omega)] at c'
          rw [if_pos c']
          exact step _ (by rw [if_neg q, decide_eq_false c]; rfl)) ⟨0, rfl, by decide, by show _ = (if s && true then (1 : Int) else 0); rw [Bool.and_true]⟩ (Nat.le_of_ble_eq_true rfl)
  rw [main, bsm]
  have h151 : ∀ z : Int, f_X11_word_151 σ ((t + n : Nat) : Int) w z = some (.inl (z, (w : Int) + 1)) := fun z => by
    unfold f_X11_word_151
    rw [bsm, jadd_ok (by omega) (by omega)]
  unfold f_X11_word_141
  rw [h151, h151]
  cases s && al (mk f S t n w) 5 <;> rfl
theorem X11_word {σ : Mem} {f : Int → Int} {S : Nat} (hT : TR σ f S) {a : Nat} (ha : a ≤ S) (h2 : σ 181 10 = (a : Int)) : ∃ τ, f_X11_word σ = some (oI (wdx (txW f S (nb f S a) (go (pL f S) S (nb f S a) - nb f S a))), τ) ∧ (∀ x, x ≠ 181 → τ x = σ x) ∧ (∀ i, i ≠ 10 → i ≠ 11 → τ 181 i = σ 181 i) ∧ τ 181 10 = (go (pL f S) S (nb f S a) : Int) ∧ τ 181 11 = (nb f S a : Int) := by
  have hS := hT.1
  obtain ⟨σ1, a1, a2, a3, a4, a5⟩ := X11_blanks hT ha h2
  have g1 := go_ok (txB f S) S _ a rfl ha
  have g1b : nb f S a ≤ S := g1.2.1
  obtain ⟨t, ht⟩ : ∃ t, t = nb f S a := ⟨_, rfl⟩
  rw [← ht] at a4 a5 ⊢
  have g2 := go_ok (pL f S) S _ t rfl (by omega)
  obtain ⟨m, hm⟩ : ∃ m, go (pL f S) S t = t + m := ⟨go (pL f S) S t - t, by have := g2.1; omega⟩
  have hmS : t + m ≤ S := by rw [← hm]; exact g2.2.1
  rw [hm, show t + m - t = m by omega]
  have hl : ∀ j, j < m → 97 ≤ byt f S (t + j) ∧ byt f S (t + j) ≤ 122 := fun j hj => of_decide_eq_true (g2.2.2 (t + j) (by omega) (by omega))
  have hT1 : TR σ1 f S := hT.keep (a3 9 (by decide) (by decide)) (a2 189 (by decide)) (a2 190 (by decide))
  have l1 : loop (f_X11_word_9B σ1) FU (t : Int) = some ((t + m : Nat) : Int) := loop_is (P := fun x => ∃ k : Nat, x = ((t + k : Nat) : Int) ∧ t + k ≤ S ∧ go (pL f S) S (t + k) = t + m) (μ := fun x => (300 - x).toNat) (by
    rintro _ ⟨k, rfl, hk, k5⟩
    show (∃ a', f_X11_word_9C σ1 ((t + k : Nat) : Int) = _ ∧ _) ∨ f_X11_word_9C σ1 ((t + k : Nat) : Int) = _
    unfold f_X11_word_9C
    rw [bind_some' (X11_isLetter hT1 (t + k)), if0]
    by_cases hp : 97 ≤ byt f S (t + k) ∧ byt f S (t + k) ≤ 122
    · left
      have hlt : t + k < S := by
        by_cases q : t + k < S
        · exact q
        · rw [byt_out (by omega)] at hp
          exact absurd hp (by decide)
      rw [if_pos hp, bsm, jadd_ok (by omega) (by omega)]
      exact ⟨_, rfl, ⟨k + 1, by omega, by omega, by rw [← k5]; exact go_t hlt (decide_eq_true hp)⟩, by show (300 - (((t + k : Nat) : Int) + 1)).toNat < (300 - ((t + k : Nat) : Int)).toNat; omega⟩
    · right
      rw [if_neg hp]
      have z := go_f (p := pL f S) (S := S) (a := t + k) (decide_eq_false hp)
      rw [show t + k = t + m by omega]) ⟨0, rfl, by omega, hm⟩ (by show (300 - (t : Int)).toNat < 1000000; omega)
  have l2 : loop (f_X11_word_27B σ1 ((t + m : Nat) : Int)) FU (-1, 0) = some (lst (txW f S t m) 8) := loop_is (P := fun s => ∃ w : Nat, s.2 = (w : Int) ∧ w ≤ 8 ∧ s.1 = lst (txW f S t m) w) (μ := fun s => (10 - s.2).toNat) (by
    rintro ⟨x2, _⟩ ⟨w, rfl, hw, g⟩
    have g : x2 = lst (txW f S t m) w := g
    show (∃ a', f_X11_word_27C σ1 ((t + m : Nat) : Int) x2 (w : Int) = _ ∧ _) ∨ f_X11_word_27C σ1 ((t + m : Nat) : Int) x2 (w : Int) = _
    unfold f_X11_word_27C
    by_cases hend : (8 : Int) ≤ w
    · right
      have e : w = 8 := by omega
      rw [if_pos hend, g, e]
    · left
      obtain ⟨-, -, l3, l4⟩ := w_len w (by omega)
      have step : ∀ s : Bool, (s && al (mk f S t m w) 5) = txW f S t m w → ∃ a', f_X11_word_56 σ1 ((t + m : Nat) : Int) x2 w (if s then 1 else 0) = some (.inl a') ∧ (∃ w : Nat, a'.2 = (w : Int) ∧ w ≤ 8 ∧ a'.1 = lst (txW f S t m) w) ∧ (10 - a'.2).toNat < (10 - (w : Int)).toNat := fun s hs => by
        unfold f_X11_word_56
        rw [X11_w61 hT1 hmS a4 (by omega), hs]
        refine ⟨_, rfl, ⟨w + 1, by show (w : Int) + 1 = _; omega, by omega, ?_⟩, by show (10 - ((w : Int) + 1)).toNat < (10 - (w : Int)).toNat; omega⟩
        show (if txW f S t m w then (w : Int) else x2) = if txW f S t m w then (w : Int) else lst (txW f S t m) w
        rw [g]
      have no : m ≠ txl w → false = txW f S t m w := fun h => by
        unfold txW
        rw [decide_eq_false h, Bool.false_and]
      rw [if_neg hend, a4]
      by_cases c1 : m = 0
      · rw [if_pos (by omega)]
        exact step false (by rw [Bool.false_and]; exact no (by omega))
      · rw [if_neg (by omega), jsub_ok (by omega) (by omega)]
        by_cases c2 : 5 < m
        · rw [if_pos (by omega)]
          exact step false (by rw [Bool.false_and]; exact no (by omega))
        · rw [if_neg (by omega)]
          exact step true (by rw [Bool.true_and]; exact mk_is (by omega) (by omega) (by omega) hl)) ⟨0, rfl, by decide, rfl⟩ (Nat.le_of_ble_eq_true rfl)
  rw [lst_wdx] at l2
  refine ⟨mup σ1 181 10 ((t + m : Nat) : Int), ?_, fun x hx => by rw [mup_row hx, a2 x hx], fun i i1 i2 => by rw [mup_miss (fun z => i1 z.2), a3 i i1 i2], mup_hit rfl rfl, by rw [mup_miss (by decide), a5]⟩
  unfold f_X11_word f_X11_word_9 f_X11_word_23 f_X11_word_27
  rw [bind_some' a1, bsm, a4, l1, bsm, l2, bsm]
  rfl
