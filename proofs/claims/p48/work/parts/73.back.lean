/-! IMAGE, BACK, CHANGES (by mk73.py) -/
theorem X6_drop {σ : Mem} {N : Int} (hN : 0 ≤ N) (hs : ∀ s, 0 ≤ s → s < 8 → -1 ≤ σ 31 s ∧ σ 31 s ≤ 100) : ∃ τ, f_X6_dropCandsFrom σ N = some τ ∧ (∀ x, x ≠ 31 → τ x = σ x) ∧ ∀ s, 0 ≤ s → s < 8 → τ 31 s = if 10 + N ≤ σ 31 s then -1 else σ 31 s := by
  unfold f_X6_dropCandsFrom f_X6_dropCandsFrom_2
  obtain ⟨e, e1, e2, e3⟩ := loop_ex (f := f_X6_dropCandsFrom_2B N) (fun s => ∃ i : Nat, s.1 = (i : Int) ∧ i ≤ 8 ∧ (∀ x, x ≠ 31 → s.2 x = σ x) ∧ ∀ j, 0 ≤ j → j < 8 → s.2 31 j = if j < (i : Int) ∧ 10 + N ≤ σ 31 j then -1 else σ 31 j) (fun s => (20 - s.1).toNat) (fun e => (∀ x, x ≠ 31 → e x = σ x) ∧ ∀ j, 0 ≤ j → j < 8 → e 31 j = if 10 + N ≤ σ 31 j then -1 else σ 31 j) (a := (0, σ)) ⟨0, rfl, Nat.zero_le _, fun _ _ => rfl, fun j h1 h2 => by rw [if_neg (by omega)]⟩ (Nat.le_of_ble_eq_true rfl) (by
    rintro ⟨_, τ⟩ ⟨i, rfl, hi, k1, k2⟩
    have k1 : ∀ x, x ≠ 31 → τ x = σ x := k1
    have k2 : ∀ j, 0 ≤ j → j < 8 → τ 31 j = if j < (i : Int) ∧ 10 + N ≤ σ 31 j then -1 else σ 31 j := k2
    show (∃ a', f_X6_dropCandsFrom_2C N (i : Int) τ = _ ∧ _) ∨ ∃ a', f_X6_dropCandsFrom_2C N (i : Int) τ = _ ∧ _
    unfold f_X6_dropCandsFrom_2C
    by_cases hend : (8 : Int) ≤ i
    · right
      rw [if_pos hend]
      refine ⟨_, rfl, k1, fun j h1 h2 => ?_⟩
      rw [k2 j h1 h2]
      by_cases q : 10 + N ≤ σ 31 j
      · rw [if_pos ⟨by omega, q⟩, if_pos q]
      · rw [if_neg (fun z => q z.2), if_neg q]
    · left
      have e0 : τ 31 (i : Int) = σ 31 i := by rw [k2 i (by omega) (by omega), if_neg (by omega)]
      have hsi := hs i (by omega) (by omega)
      have fin : ∀ ρ : Mem, (∀ x, x ≠ 31 → ρ x = σ x) → (∀ j, 0 ≤ j → j < 8 → ρ 31 j = if j < ((i + 1 : Nat) : Int) ∧ 10 + N ≤ σ 31 j then -1 else σ 31 j) → ∃ a', f_X6_dropCandsFrom_24 ρ N (i : Int) = some (.inl a') ∧ (∃ i : Nat, a'.1 = (i : Int) ∧ i ≤ 8 ∧ (∀ x, x ≠ 31 → a'.2 x = σ x) ∧ ∀ j, 0 ≤ j → j < 8 → a'.2 31 j = if j < (i : Int) ∧ 10 + N ≤ σ 31 j then -1 else σ 31 j) ∧ (20 - a'.1).toNat < (20 - (i : Int)).toNat := fun ρ z1 z2 => by
        unfold f_X6_dropCandsFrom_24
        simp only [Option.bind_some]
        rw [jadd_ok (by omega) (by omega)]
        exact ⟨_, rfl, ⟨i + 1, by show (i : Int) + 1 = _; omega, by omega, z1, z2⟩, by show (20 - ((i : Int) + 1)).toNat < (20 - (i : Int)).toNat; omega⟩
      rw [if_neg hend, bind_some' (X6_candOn (by omega) (by omega)), e0]
      by_cases q : 10 + N ≤ σ 31 i
      · rw [if_neg (show ¬ σ 31 (i : Int) < 10 by omega), if_neg (by omega), chk_pos (by omega)]
        simp only [Option.bind_some]
        refine fin _ (fun x hx => by rw [mup_row hx, k1 x hx]) fun j h1 h2 => ?_
        by_cases e : j = i
        · rw [mup_hit rfl e, if_pos ⟨by omega, by rw [e]; exact q⟩]
        · rw [mup_miss (fun z => e z.2), k2 j h1 h2]
          by_cases g : j < (i : Int) ∧ 10 + N ≤ σ 31 j
          · rw [if_pos g, if_pos ⟨by omega, g.2⟩]
          · rw [if_neg g, if_neg (by omega)]
      · rw [if_pos (show (if σ 31 (i : Int) < 10 then (-1 : Int) else σ 31 i - 10) < N by split <;> omega)]
        refine fin τ k1 fun j h1 h2 => ?_
        rw [k2 j h1 h2]
        by_cases e : j = i
        · rw [if_neg (by omega), if_neg (by rw [e]; omega)]
        · by_cases g : j < (i : Int) ∧ 10 + N ≤ σ 31 j
          · rw [if_pos g, if_pos ⟨by omega, g.2⟩]
          · rw [if_neg g, if_neg (by omega)])
  rw [e1]
  exact ⟨e, rfl, e2, e3⟩
theorem jushr16 (a : Int) : 0 ≤ jushr a 16 ∧ jushr a 16 ≤ 65535 := by
  unfold jushr
  obtain ⟨u, hu⟩ : ∃ u : UInt32, u = (Int32.ofInt a).toUInt32 := ⟨_, rfl⟩
  rw [← hu, show (Int32.ofInt 16).toUInt32 &&& Int32.toUInt32 31 = UInt32.ofNat 16 from by decide +kernel]
  have e : (u >>> UInt32.ofNat 16).toBitVec.toNat = u.toNat / 65536 := by
    show (u >>> UInt32.ofNat 16).toNat = _
    rw [UInt32.toNat_shiftRight, show (UInt32.ofNat 16).toNat % 32 = 16 from by decide +kernel, Nat.shiftRight_eq_div_pow]
  have hu2 : u.toNat < 4294967296 := u.toBitVec.isLt
  have e2 : (u >>> UInt32.ofNat 16).toInt32.toInt = ((u.toNat / 65536 : Nat) : Int) := by
    show (u >>> UInt32.ofNat 16).toBitVec.toInt = _
    rw [BitVec.toInt_eq_toNat_of_lt (by rw [e]; omega), e]
  rw [e2]
  omega
/-- draws -/
def sdB (B : Bk) : Bk := mup B 8 5 (jadd (jmul (B 8 5) 1103515245) 12345)
def dv (B : Bk) (n : Int) : Int := jrem (jushr (sdB B 8 5) 16) n
theorem sd_r {B : Bk} {x : Int} (h : x ≠ 8) : sdB B x = B x := mup_row h
theorem sd_8 {B : Bk} {i : Int} (h : i ≠ 5) : sdB B 8 i = B 8 i := mup_miss (fun z => h z.2)
theorem sd_5 {B : Bk} : sdB B 8 5 = jadd (jmul (B 8 5) 1103515245) 12345 := mup_hit rfl rfl
theorem WF_sd {B : Bk} (w : WF B) : WF (sdB B) := by
  have hn := w.1
  unfold WFn at hn
  obtain ⟨w1, w2, w3, w4⟩ := w
  refine ⟨?_, w2.of (sd_r (by decide)) (sd_r (by decide)) (sd_r (by decide)) (sd_8 (by decide)), w3.of (sd_r (by decide)) (sd_r (by decide)) (sd_r (by decide)) (sd_r (by decide)) (sd_r (by decide)) (sd_8 (by decide)) (sd_8 (by decide)), w4.of (sd_r (by decide)) (sd_8 (by decide))⟩
  unfold WFn
  rw [sd_8 (by decide), sd_8 (by decide), sd_8 (by decide), sd_8 (by decide), sd_8 (by decide), sd_5]
  exact ⟨hn.1, hn.2.1, hn.2.2.1, hn.2.2.2.1, hn.2.2.2.2.1, ti32 _⟩
theorem dv_b {B : Bk} {n : Int} (h : 0 < n ∧ n ≤ 12) : 0 ≤ dv B n ∧ dv B n < n := by
  unfold dv
  have := jushr16 (sdB B 8 5)
  rw [jrem_ok this.1 (by omega) h.1 (by omega)]
  exact ⟨Int.emod_nonneg _ (by omega), Int.emod_lt_of_pos _ h.1⟩
def chgS (s : Bk × Int) : Bk × Int := if fifth (sdB (sdB s.1)) (dv s.1 (s.1 8 1)) (dv (sdB s.1) (s.1 8 0)).toNat then (sdB (sdB s.1), s.2) else (flp (sdB (sdB s.1)) (dv s.1 (s.1 8 1)) (dv (sdB s.1) (s.1 8 0)).toNat, s.2 + 1)
def chN (B : Bk) : Nat → Bk × Int
  | 0 => (B, 0)
  | n + 1 => chgS (chN B n)
def hid (p : Prop) : Prop := p
theorem ch_draw {D : Bk} (h1 : 0 < D 8 1 ∧ D 8 1 ≤ 10) (h0 : 0 < D 8 0 ∧ D 8 0 ≤ 12) : ∃ (c : Int) (p : Nat), hid (dv D (D 8 1) = c) ∧ hid (dv (sdB D) (D 8 0) = (p : Int)) ∧ 0 ≤ c ∧ c < D 8 1 ∧ (p : Int) < D 8 0 := by
  have c1 := dv_b (B := D) (n := D 8 1) ⟨h1.1, Int.le_trans h1.2 (by decide)⟩
  have c2 := dv_b (B := sdB D) (n := D 8 0) h0
  obtain ⟨p, hp⟩ := n_of c2.1
  refine ⟨_, p, rfl, hp, c1.1, c1.2, ?_⟩
  rw [← hp]
  exact c2.2
theorem chg_eq {s : Bk × Int} {D : Bk} (hD : D = s.1) {c : Int} {p : Nat} (hc : hid (dv D (D 8 1) = c)) (hp : hid (dv (sdB D) (D 8 0) = (p : Int))) : chgS s = if fifth (sdB (sdB D)) c p then (sdB (sdB D), s.2) else (flp (sdB (sdB D)) c p, s.2 + 1) := by
  unfold hid at hc hp
  unfold chgS
  rw [← hD, hc, hp, Int.toNat_natCast]
theorem ch_ok {B : Bk} (w : WF B) (hc : 0 < B 8 1) (hp : 0 < B 8 0) : ∀ n : Nat, WF (chN B n).1 ∧ (chN B n).1 8 1 = B 8 1 ∧ (chN B n).1 8 0 = B 8 0 ∧ 0 ≤ (chN B n).2 ∧ (chN B n).2 ≤ n := by
  intro n
  induction n with
  | zero => exact ⟨w, rfl, rfl, Int.le_refl _, Int.le_refl _⟩
  | succ n ih =>
    obtain ⟨h1, h2, h3, h4, h5⟩ := ih
    have es : chN B (n + 1) = chgS (chN B n) := rfl
    obtain ⟨D, hD⟩ : ∃ D, D = (chN B n).1 := ⟨_, rfl⟩
    obtain ⟨dn, hdn⟩ : ∃ dn, dn = (chN B n).2 := ⟨_, rfl⟩
    have hn := w.1
    unfold WFn at hn
    rw [← hD] at h1 h2 h3
    rw [← hdn] at h4 h5
    obtain ⟨c, p, ec, ep, c1, c2, c3⟩ := ch_draw (D := D) (by omega) (by omega)
    have w2 := WF_sd (WF_sd h1)
    have e81 : sdB (sdB D) 8 1 = B 8 1 := by rw [sd_8 (by decide), sd_8 (by decide), h2]
    have e80 : sdB (sdB D) 8 0 = B 8 0 := by rw [sd_8 (by decide), sd_8 (by decide), h3]
    rw [chg_eq hD ec ep, ← hdn] at es
    rw [es]
    rw [h2] at c2
    rw [h3] at c3
    cases hf : fifth (sdB (sdB D)) c p with
    | true =>
      rw [bt]
      exact ⟨w2, e81, e80, h4, by show dn ≤ _; clear e81 e80 es; omega⟩
    | false =>
      rw [bf]
      refine ⟨WF_flp w2 c1 (by rw [e81]; exact c2) (by rw [e80]; exact c3) hf, ?_, ?_, ?_, ?_⟩
      · show flp (sdB (sdB D)) c p 8 1 = _
        rw [flp_r (by decide), e81]
      · show flp (sdB (sdB D)) c p 8 0 = _
        rw [flp_r (by decide), e80]
      · show 0 ≤ dn + 1
        clear e81 e80 es
        omega
      · show dn + 1 ≤ _
        clear e81 e80 es
        omega