/-! AN ORDER, laid by the reference -/
def smq (B : Bk) (c : Int) (q : Nat → Nat) : Nat → Int
  | 0 => 0
  | k + 1 => smq B c q k + tm B c (q k)
theorem smq_b {B : Bk} (w : WF B) {c : Int} (hc : 0 ≤ c) (hc2 : c < B 8 1) {q : Nat → Nat} {n : Nat} (hq : ∀ k, k < n → (q k : Int) < B 8 0) : ∀ k, k ≤ n → 0 ≤ smq B c q k ∧ smq B c q k ≤ 24 * k
  | 0, _ => ⟨by simp [smq], by simp [smq]⟩
  | k + 1, h => by
    have ih := smq_b w hc hc2 hq k (by omega)
    have h1 := tm_b w hc hc2 (p := (q k : Int)) (by omega) (hq k (by omega))
    unfold smq
    omega
theorem i01 {b : Bool} : (if b then (1 : Int) else 0) = 0 ∨ (if b then (1 : Int) else 0) = 1 := by cases b <;> simp
theorem X11_isLaid {σ : Mem} {B : Bk} {c f a : Int} (hR : isRk σ 182 B) (w : WF B) (hc : 0 ≤ c) (hc2 : c < B 8 1) (hf : 0 ≤ f ∧ f ≤ 60) (ha : 0 ≤ a ∧ a ≤ 60) {n : Nat} (hn4 : n ≤ 4) {q : Nat → Nat} (hq : ∀ k, k < n → (q k : Int) < B 8 0 ∧ σ 192 k = (q k : Int)) :
    ∃ τ, f_X11_isLaid σ c n f a = some (if fitN B c f q n && decide (a + smq B c q n ≤ B 8 3) then 1 else 0, τ) ∧ (∀ x, x ≠ 193 → x ≠ 194 → τ x = σ x) ∧ ∀ k, k < n → τ 193 k = bg B c f q k ∧ τ 194 k = en B c f q k := by
  have hn := w.1
  unfold WFn at hn
  have hqP : ∀ k, k < n → (q k : Int) < B 8 0 := fun k hk => (hq k hk).1
  unfold f_X11_isLaid f_X11_isLaid_10
  have key := loop_ex (f := f_X11_isLaid_10B c n f) (fun s => ∃ k : Nat, s.2.2.1 = (k : Int) ∧ k ≤ n ∧ s.1 = a + smq B c q k ∧ s.2.1 = (if fitN B c f q k then 1 else 0) ∧ (∀ x, x ≠ 193 → x ≠ 194 → s.2.2.2 x = σ x) ∧ ∀ j : Nat, j < k → s.2.2.2 193 j = bg B c f q j ∧ s.2.2.2 194 j = en B c f q j) (fun s => (4 - s.2.2.1).toNat)
    (fun e => e.1 = a + smq B c q n ∧ e.2.1 = (if fitN B c f q n then 1 else 0) ∧ (∀ x, x ≠ 193 → x ≠ 194 → e.2.2 x = σ x) ∧ ∀ j : Nat, j < n → e.2.2 193 j = bg B c f q j ∧ e.2.2 194 j = en B c f q j) (a := (a, 1, 0, σ)) ?_ (Nat.le_of_ble_eq_true rfl) ?_
  · obtain ⟨e, h1, h2⟩ := key
    rw [h1]
    obtain ⟨x5, x6, τ⟩ := e
    obtain ⟨g1, g2, g3, g4⟩ := h2
    have g1 : x5 = _ := g1
    have g2 : x6 = _ := g2
    have g3 : ∀ x, x ≠ 193 → x ≠ 194 → τ x = σ x := g3
    subst g1 g2
    show ∃ τ', f_X11_isLaid_139 τ _ _ = some (_, τ') ∧ _
    unfold f_X11_isLaid_139
    have hR2 : isRk τ 182 B := hR.row (g3 182 (by decide) (by decide))
    refine ⟨τ, ?_, g3, g4⟩
    cases hfn : fitN B c f q n with
    | false => rfl
    | true =>
      rw [if_neg (by show ¬ ((1 : Int) = 0); decide), chk_pos (by decide), hR2.hours]
      by_cases hs : B 8 3 < a + smq B c q n
      · rw [if_pos hs, decide_eq_false (by omega)]; rfl
      · rw [if_neg hs, decide_eq_true (by omega)]; rfl
  · exact ⟨0, rfl, Nat.zero_le _, by simp [smq], rfl, fun _ _ _ => rfl, fun j hj => absurd hj (Nat.not_lt_zero _)⟩
  · rintro ⟨x5, x6, x7, τ⟩ ⟨k, g7, hk, g5, g6, grow, gj⟩
    have g7 : x7 = (k : Int) := g7
    have g5 : x5 = _ := g5
    have g6 : x6 = _ := g6
    show (∃ a', f_X11_isLaid_10C c n f x5 x6 x7 τ = _ ∧ _) ∨ ∃ a', f_X11_isLaid_10C c n f x5 x6 x7 τ = _ ∧ _
    subst g7 g5 g6
    have grow : ∀ x, x ≠ 193 → x ≠ 194 → τ x = σ x := grow
    have gj : ∀ j : Nat, j < k → τ 193 j = bg B c f q j ∧ τ 194 j = en B c f q j := gj
    unfold f_X11_isLaid_10C
    by_cases hkn : (n : Int) ≤ k
    · right
      rw [if_pos hkn]
      have : k = n := by omega
      subst this
      exact ⟨_, rfl, rfl, rfl, grow, gj⟩
    · left
      rw [if_neg hkn]
      obtain ⟨hqk, hqv⟩ := hq k (by omega)
      have hbg := bg_b w hc hc2 hf hqP (k := k) (by omega)
      have hnx := nx_b w hc hc2 hf hqP k (by omega)
      have hr := rs_b w hc hc2
      have ht := tm_b w hc hc2 (p := (q k : Int)) (by omega) hqk
      have hs := smq_b w hc hc2 hqP k (by omega)
      have hRt : isRk τ 182 B := hR.row (grow 182 (by decide) (by decide))
      have main : ∃ a', f_X11_isLaid_40 τ c n f (a + smq B c q k) (if fitN B c f q k then 1 else 0) k (nx B c f q k) = some (.inl a') ∧ (∃ k' : Nat, a'.2.2.1 = (k' : Int) ∧ k' ≤ n ∧ a'.1 = a + smq B c q k' ∧ a'.2.1 = (if fitN B c f q k' then 1 else 0) ∧ (∀ x, x ≠ 193 → x ≠ 194 → a'.2.2.2 x = σ x) ∧ ∀ j : Nat, j < k' → a'.2.2.2 193 j = bg B c f q j ∧ a'.2.2.2 194 j = en B c f q j) ∧ (4 - a'.2.2.1).toNat < (4 - (k : Int)).toNat := by
        unfold f_X11_isLaid_40
        rw [grow 192 (by decide) (by decide), hqv, chk_pos (by omega), bind_some' (X11_start hRt (by omega)), chk_pos (by omega)]
        simp only [Option.bind_some]
        rw [chk_pos (by omega), chk_pos (by omega)]
        rw [show mx (nx B c f q k) (B 1 (q k)) = bg B c f q k by rw [mx_eq]; unfold bg; omega]
        obtain ⟨τ2, hτ2⟩ : ∃ z, z = mup τ 193 (k : Int) (bg B c f q k) := ⟨_, rfl⟩
        have r2 : ∀ x, x ≠ 193 → τ2 x = τ x := fun x hx => by rw [hτ2, mup_row hx]
        have hR2 : isRk τ2 182 B := hRt.row (r2 182 (by decide))
        rw [← hτ2, r2 192 (by decide), grow 192 (by decide) (by decide), hqv, bind_some' (X11_timed hR2 w hc hc2 (by omega) hqk), chk_pos (by omega), chk_pos (by omega)]
        rw [show τ2 193 (k : Int) = bg B c f q k by rw [hτ2, mup_hit rfl rfl], jadd_ok (by omega) (by omega)]
        rw [show bg B c f q k + tm B c (q k) = en B c f q k from rfl]
        obtain ⟨τ3, hτ3⟩ : ∃ z, z = mup τ2 194 (k : Int) (en B c f q k) := ⟨_, rfl⟩
        have r3 : ∀ x, x ≠ 193 → x ≠ 194 → τ3 x = σ x := fun x hx h6 => by rw [hτ3, mup_row h6, r2 x hx, grow x hx h6]
        have hR3 : isRk τ3 182 B := hR.row (r3 182 (by decide) (by decide))
        have v185 : ∀ j : Nat, j < k + 1 → τ3 193 j = bg B c f q j ∧ τ3 194 j = en B c f q j := by
          intro j hj
          by_cases ej : j = k
          · subst ej
            exact ⟨by rw [hτ3, mup_miss (by omega), hτ2, mup_hit rfl rfl], by rw [hτ3, mup_hit rfl rfl]⟩
          · obtain ⟨p1, p2⟩ := gj j (by omega)
            exact ⟨by rw [hτ3, mup_miss (by omega), hτ2, mup_miss (by omega)]; exact p1, by rw [hτ3, mup_miss (by omega), hτ2, mup_miss (by omega)]; exact p2⟩
        rw [← hτ3, r3 192 (by decide) (by decide), hqv, bind_some' (X11_timed hR3 w hc hc2 (by omega) hqk), jadd_ok (a := a + smq B c q k) (by omega) (by omega)]
        have esm : a + smq B c q k + tm B c (q k) = a + smq B c q (k + 1) := by
          show _ = a + (smq B c q k + tm B c (q k)); omega
        rw [esm]
        have e1 : jadd (k : Int) 1 = ((k + 1 : Nat) : Int) := by rw [jadd_ok (by omega) (by omega)]; omega
        have efit : fitN B c f q (k + 1) = (fitN B c f q k && decide (en B c f q k ≤ 48)) := rfl
        have fin : ∀ z : Int, z = (if fitN B c f q (k + 1) then 1 else 0) → ∃ a', f_X11_isLaid_131 τ3 c n f (a + smq B c q (k + 1)) k z = some (.inl a') ∧ (∃ k' : Nat, a'.2.2.1 = (k' : Int) ∧ k' ≤ n ∧ a'.1 = a + smq B c q k' ∧ a'.2.1 = (if fitN B c f q k' then 1 else 0) ∧ (∀ x, x ≠ 193 → x ≠ 194 → a'.2.2.2 x = σ x) ∧ ∀ j : Nat, j < k' → a'.2.2.2 193 j = bg B c f q j ∧ a'.2.2.2 194 j = en B c f q j) ∧ (4 - a'.2.2.1).toNat < (4 - (k : Int)).toNat := by
          intro z hz
          unfold f_X11_isLaid_131
          rw [e1]
          exact ⟨_, rfl, ⟨k + 1, rfl, by omega, rfl, hz, r3, v185⟩, by show (4 - ((k + 1 : Nat) : Int)).toNat < (4 - (k : Int)).toNat; omega⟩
        cases hfk : fitN B c f q k with
        | false =>
          rw [if_pos (by decide)]
          exact fin 0 (by rw [efit, hfk]; rfl)
        | true =>
          rw [if_neg (by decide), chk_pos (by omega), show τ3 194 (k : Int) = en B c f q k by rw [hτ3, mup_hit rfl rfl]]
          by_cases h48 : 48 < en B c f q k
          · rw [if_pos h48]
            exact fin 0 (by rw [efit, hfk, decide_eq_false (by omega)]; rfl)
          · rw [if_neg h48]
            exact fin 1 (by rw [efit, hfk, decide_eq_true (by omega)]; rfl)
      by_cases hk0 : (k : Int) = 0
      · rw [if_neg (by simpa using hk0)]
        have : k = 0 := by omega
        subst this
        exact main
      · rw [if_pos hk0, jsub_ok (by omega) (by omega), chk_pos (by omega), bind_some' (X11_rest hRt w hc hc2)]
        obtain ⟨j, rfl⟩ : ∃ j, k = j + 1 := ⟨k - 1, by omega⟩
        have ej : ((j + 1 : Nat) : Int) - 1 = (j : Int) := by omega
        have hbj := bg_b w hc hc2 hf hqP (k := j) (by omega)
        rw [ej, (gj j (by omega)).2, jadd_ok (by omega) (by omega), ← nx_s]
        exact main
theorem anyN_s (p : Nat → Bool) (n : Nat) : anyN p (n + 1) = (anyN p n || p n) := rfl
theorem X11_isSitting {σ : Mem} {B : Bk} {c f : Int} {n t : Nat} (hn : n ≤ 4) {q : Nat → Nat} (h : ∀ k, k < n → σ 193 k = bg B c f q k ∧ σ 194 k = en B c f q k) : f_X11_isSitting σ n t = some (if siB B c f q n t then 1 else 0) := by
  unfold f_X11_isSitting f_X11_isSitting_5
  have key := loop_is (f := f_X11_isSitting_5B σ n t) (P := fun a => ∃ k : Nat, a = ((if siB B c f q k t then 1 else 0), (k : Int)) ∧ k ≤ n) (μ := fun a => (4 - a.2).toNat) (r := if siB B c f q n t then 1 else 0) ?_ (a := (0, 0)) ⟨0, rfl, by omega⟩ (by decide)
  · rw [key]
    show chk _ _ = _
    rw [chk_pos i01]
  · rintro a ⟨k, rfl, hk⟩
    show (∃ a', f_X11_isSitting_5C σ n t _ _ = _ ∧ _) ∨ f_X11_isSitting_5C σ n t _ _ = _
    unfold f_X11_isSitting_5C
    by_cases hkn : (n : Int) ≤ k
    · right
      rw [if_pos hkn]
      have : k = n := by omega
      subst this; rfl
    · left
      obtain ⟨h5, h6⟩ := h k (by omega)
      have e1 : jadd (k : Int) 1 = ((k + 1 : Nat) : Int) := by rw [jadd_ok (by omega) (by omega)]; omega
      have es : siB B c f q (k + 1) t = (siB B c f q k t || (decide (bg B c f q k ≤ t) && decide ((t : Int) < en B c f q k))) := rfl
      refine ⟨((if siB B c f q (k + 1) t then 1 else 0), ((k + 1 : Nat) : Int)), ?_, ⟨k + 1, rfl, by omega⟩, by show (4 - ((k + 1 : Nat) : Int)).toNat < (4 - (k : Int)).toNat; omega⟩
      rw [if_neg hkn]
      cases hsk : siB B c f q k t with
      | true =>
        rw [if_pos (by show (1 : Int) ≠ 0; decide)]
        unfold f_X11_isSitting_37 f_X11_isSitting_42
        rw [e1, es, hsk]; rfl
      | false =>
        rw [if_neg (by show ¬ ((0 : Int) ≠ 0); decide), chk_pos (by omega), h5]
        by_cases g1 : (t : Int) < bg B c f q k
        · rw [if_pos g1]
          unfold f_X11_isSitting_41 f_X11_isSitting_42
          rw [e1, es, hsk, decide_eq_false (by omega)]; rfl
        · rw [if_neg g1, chk_pos (by omega), h6]
          by_cases g2 : en B c f q k ≤ t
          · rw [if_pos g2]
            unfold f_X11_isSitting_41 f_X11_isSitting_42
            rw [e1, es, hsk, decide_eq_false (p := (t : Int) < en B c f q k) (by omega), Bool.and_false]; rfl
          · rw [if_neg g2]
            unfold f_X11_isSitting_37 f_X11_isSitting_42
            rw [e1, es, hsk, decide_eq_true (show bg B c f q k ≤ t by omega), decide_eq_true (show (t : Int) < en B c f q k by omega)]; rfl
/-- what goes over is waited for -/
def woB (B : Bk) (o : Int) (t : Nat) : Bool := decide (0 ≤ o) && decide (B 1 o ≤ t)
theorem X11_isWaiting {σ : Mem} {B : Bk} {c f o : Int} {n t : Nat} (hR : isRk σ 182 B) (w : WF B) (ho : o < B 8 0) (hn : n ≤ 4) {q : Nat → Nat} (hq : ∀ k, k < n → (q k : Int) < B 8 0 ∧ σ 192 k = (q k : Int)) (h : ∀ k, k < n → σ 193 k = bg B c f q k) : f_X11_isWaiting σ n o t = some (if wtB (woB B o) B c f q n t then 1 else 0) := by
  have hwn := w.1
  unfold WFn at hwn
  have main : f_X11_isWaiting_18 σ n t (if woB B o t then 1 else 0) = some (if wtB (woB B o) B c f q n t then 1 else 0) := by
    unfold f_X11_isWaiting_18 f_X11_isWaiting_23
    have key := loop_is (f := f_X11_isWaiting_23B σ n t) (P := fun a => ∃ k : Nat, a = ((if wtB (woB B o) B c f q k t then 1 else 0), (k : Int)) ∧ k ≤ n) (μ := fun a => (4 - a.2).toNat) (r := if wtB (woB B o) B c f q n t then 1 else 0) ?_ (a := ((if woB B o t then 1 else 0), 0)) ⟨0, by unfold wtB anyN; rw [Bool.or_false]; rfl, by omega⟩ (Nat.le_of_ble_eq_true rfl)
    · rw [key]
      show chk _ _ = _
      rw [chk_pos i01]
    · rintro a ⟨k, rfl, hk⟩
      show (∃ a', f_X11_isWaiting_23C σ n t _ _ = _ ∧ _) ∨ f_X11_isWaiting_23C σ n t _ _ = _
      unfold f_X11_isWaiting_23C
      by_cases hkn : (n : Int) ≤ k
      · right
        rw [if_pos hkn]
        have : k = n := by omega
        subst this; rfl
      · left
        have h5 := h k (by omega)
        obtain ⟨hq1, hq2⟩ := hq k (by omega)
        have e1 : jadd (k : Int) 1 = ((k + 1 : Nat) : Int) := by rw [jadd_ok (by omega) (by omega)]; omega
        have es : wtB (woB B o) B c f q (k + 1) t = (wtB (woB B o) B c f q k t || (decide (B 1 (q k) ≤ t) && decide ((t : Int) < bg B c f q k))) := by
          unfold wtB
          rw [anyN_s, Bool.or_assoc]
        refine ⟨((if wtB (woB B o) B c f q (k + 1) t then 1 else 0), ((k + 1 : Nat) : Int)), ?_, ⟨k + 1, rfl, by omega⟩, by show (4 - ((k + 1 : Nat) : Int)).toNat < (4 - (k : Int)).toNat; omega⟩
        rw [if_neg hkn]
        cases hsk : wtB (woB B o) B c f q k t with
        | true =>
          rw [if_pos (by show (1 : Int) ≠ 0; decide)]
          unfold f_X11_isWaiting_60 f_X11_isWaiting_65
          rw [e1, es, hsk]; rfl
        | false =>
          rw [if_neg (by show ¬ ((0 : Int) ≠ 0); decide), chk_pos (by omega), hq2, bind_some' (X11_start hR (by omega))]
          by_cases g1 : (t : Int) < B 1 (q k)
          · rw [if_pos g1]
            unfold f_X11_isWaiting_64 f_X11_isWaiting_65
            rw [e1, es, hsk, decide_eq_false (by omega)]; rfl
          · rw [if_neg g1, chk_pos (by omega), h5]
            by_cases g2 : bg B c f q k ≤ t
            · rw [if_pos g2]
              unfold f_X11_isWaiting_64 f_X11_isWaiting_65
              rw [e1, es, hsk, decide_eq_false (p := (t : Int) < bg B c f q k) (by omega), Bool.and_false]; rfl
            · rw [if_neg g2]
              unfold f_X11_isWaiting_60 f_X11_isWaiting_65
              rw [e1, es, hsk, decide_eq_true (show B 1 (q k) ≤ t by omega), decide_eq_true (show (t : Int) < bg B c f q k by omega)]; rfl
  unfold f_X11_isWaiting
  by_cases h0 : o < 0
  · rw [if_pos h0]
    unfold f_X11_isWaiting_17
    have : woB B o t = false := by unfold woB; rw [decide_eq_false (by omega)]; rfl
    rw [this] at main
    exact main
  · rw [if_neg h0, bind_some' (X11_start hR (by omega))]
    by_cases h1 : (t : Int) < B 1 o
    · rw [if_pos h1]
      unfold f_X11_isWaiting_17
      have : woB B o t = false := by unfold woB; rw [decide_eq_false (p := B 1 o ≤ t) (by omega), Bool.and_false]
      rw [this] at main
      exact main
    · rw [if_neg h1]
      have : woB B o t = true := by unfold woB; rw [decide_eq_true (by omega), decide_eq_true (by omega)]; rfl
      rw [this] at main
      exact main
theorem X11_keeps {σ : Mem} {B : Bk} {c f o : Int} {n a : Nat} (hR : isRk σ 182 B) (w : WF B) (ho : o < B 8 0) (hn : n ≤ 4) (ha : a ≤ 48) {q : Nat → Nat} (hq : ∀ k, k < n → (q k : Int) < B 8 0 ∧ σ 192 k = (q k : Int)) (h : ∀ k, k < n → σ 193 k = bg B c f q k ∧ σ 194 k = en B c f q k) : f_X11_keeps σ n o a = some ((cnt (kpB (woB B o) a B c f q n) 48 : Nat) : Int) := by
  unfold f_X11_keeps f_X11_keeps_6
  have h0 : ∀ k, k ≤ a → cnt (kpB (woB B o) a B c f q n) k = 0 := by
    intro k
    induction k with
    | zero => intro _; rfl
    | succ k ih =>
      intro hk
      rw [cnt_s, if_neg, ih (by omega)]
      unfold kpB saB
      rw [decide_eq_true (show k < a by omega)]
      simp
  have key := loop_is (f := f_X11_keeps_6B σ n o) (P := fun s => ∃ k : Nat, s = (((cnt (kpB (woB B o) a B c f q n) k : Nat) : Int), (k : Int)) ∧ a ≤ k ∧ k ≤ 48) (μ := fun s => (48 - s.2).toNat) (r := ((cnt (kpB (woB B o) a B c f q n) 48 : Nat) : Int)) ?_ (a := (0, (a : Int))) ⟨a, by rw [h0 a (Nat.le_refl _)]; rfl, Nat.le_refl _, ha⟩ (by show (48 - (a : Int)).toNat < 1000000; omega)
  · rw [key]; rfl
  · rintro s ⟨k, rfl, hka, hk⟩
    show (∃ a', f_X11_keeps_6C σ n o _ _ = _ ∧ _) ∨ f_X11_keeps_6C σ n o _ _ = _
    unfold f_X11_keeps_6C
    by_cases hkn : (48 : Int) ≤ k
    · right
      rw [if_pos hkn]
      have : k = 48 := by omega
      subst this; rfl
    · left
      have hcl := cnt_le (kpB (woB B o) a B c f q n) k
      have e1 : jadd (k : Int) 1 = ((k + 1 : Nat) : Int) := by rw [jadd_ok (by omega) (by omega)]; omega
      have es : kpB (woB B o) a B c f q n k = (wtB (woB B o) B c f q n k && !siB B c f q n k) := by
        unfold kpB saB
        rw [decide_eq_false (show ¬ k < a by omega), Bool.false_or]
      refine ⟨(((cnt (kpB (woB B o) a B c f q n) (k + 1) : Nat) : Int), ((k + 1 : Nat) : Int)), ?_, ⟨k + 1, rfl, by omega, by omega⟩, by show (48 - ((k + 1 : Nat) : Int)).toNat < (48 - (k : Int)).toNat; omega⟩
      rw [if_neg hkn, bind_some' (X11_isWaiting hR w ho hn hq (fun k hk => (h k hk).1)), cnt_s, es]
      cases hw : wtB (woB B o) B c f q n k with
      | false =>
        rw [if_pos (by decide)]
        unfold f_X11_keeps_40 f_X11_keeps_41
        rw [jadd_ok (b := 0) (by omega) (by omega), Int.add_zero, e1]; rfl
      | true =>
        rw [if_neg (by decide), bind_some' (X11_isSitting hn h)]
        cases hs : siB B c f q n k with
        | true =>
          rw [if_pos (by decide)]
          unfold f_X11_keeps_40 f_X11_keeps_41
          rw [jadd_ok (b := 0) (by omega) (by omega), Int.add_zero, e1]; rfl
        | false =>
          rw [if_neg (by decide)]
          unfold f_X11_keeps_41
          rw [jadd_ok (a := ((cnt (kpB (woB B o) a B c f q n) k : Nat) : Int)) (by omega) (by omega), e1]; rfl
