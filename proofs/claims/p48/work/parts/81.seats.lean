/-! SEATS: rooms with fewest moves, what they are -/
abbrev Lf : Type := Nat → Nat → Int
abbrev Pc : Type := List (Nat × Nat)
def seB (lf : Lf) (p : Nat × Nat) (r : Nat) : Bool := !anyN (fun j => decide (lf r (p.1 + j) ≤ 0)) p.2
def pen (w : Option Nat) (r : Nat) : Nat := match w with
  | none => 0
  | some x => if x = r then 0 else 1
theorem pen_1 (w : Option Nat) (r : Nat) : pen w r ≤ 1 := by
  cases w with
  | none => exact Nat.zero_le _
  | some x => show (if x = r then 0 else 1) ≤ 1; split <;> omega
/-- the first room with fewest moves from there on -/
def fa (f : Nat → Option Nat) (w : Option Nat) : Nat → Option (Nat × Nat)
  | 0 => none
  | r + 1 => match f r with
    | none => fa f w r
    | some k => match fa f w r with
      | none => some (r, k + pen w r)
      | some y => if k + pen w r < y.2 then some (r, k + pen w r) else some y
theorem fa_s (f : Nat → Option Nat) (w : Option Nat) (r : Nat) : fa f w (r + 1) = match f r with
    | none => fa f w r
    | some k => match fa f w r with
      | none => some (r, k + pen w r)
      | some y => if k + pen w r < y.2 then some (r, k + pen w r) else some y := rfl
theorem fa_in {f : Nat → Option Nat} {w : Option Nat} : ∀ {n b c : Nat}, fa f w n = some (b, c) → b < n ∧ ∃ k, f b = some k ∧ c = k + pen w b
  | 0, b, c, h => by cases h
  | n + 1, b, c, h => by
    rw [fa_s] at h
    cases hf : f n with
    | none =>
      rw [hf] at h
      have h : fa f w n = some (b, c) := h
      have := fa_in h
      exact ⟨by omega, this.2⟩
    | some k =>
      rw [hf] at h
      cases hg : fa f w n with
      | none =>
        rw [hg] at h
        have h : some (n, k + pen w n) = some (b, c) := h
        cases h
        exact ⟨by omega, k, hf, rfl⟩
      | some y =>
        obtain ⟨b', c'⟩ := y
        rw [hg] at h
        have h : (if k + pen w n < c' then some (n, k + pen w n) else some (b', c')) = some (b, c) := h
        by_cases e : k + pen w n < c'
        · rw [if_pos e] at h
          cases h
          exact ⟨by omega, k, hf, rfl⟩
        · rw [if_neg e] at h
          cases h
          have := fa_in hg
          exact ⟨by omega, this.2⟩
theorem fa_no {f : Nat → Option Nat} {w : Option Nat} : ∀ {n : Nat}, fa f w n = none ↔ ∀ r, r < n → f r = none
  | 0 => ⟨fun _ r hr => absurd hr (Nat.not_lt_zero _), fun _ => rfl⟩
  | n + 1 => by
    rw [fa_s]
    cases hf : f n with
    | none =>
      show fa f w n = none ↔ _
      rw [fa_no (n := n)]
      refine ⟨fun h r hr => ?_, fun h r hr => h r (by omega)⟩
      by_cases e : r = n
      · rw [e]; exact hf
      · exact h r (by omega)
    | some k =>
      refine ⟨fun h => ?_, fun h => by rw [h n (by omega)] at hf; cases hf⟩
      exfalso
      cases hg : fa f w n with
      | none => rw [hg] at h; cases h
      | some y =>
        rw [hg] at h
        have h : (if k + pen w n < y.2 then some (n, k + pen w n) else some y) = none := h
        split at h <;> cases h
def ct (lf : Lf) (R : Nat) : Pc → Nat → Option Nat
  | [], _ => none
  | p :: ps, r => if seB lf p r then (if ps.isEmpty then some 0 else (fa (ct lf R ps) (some r) R).map (·.2)) else none
theorem ct_c (lf : Lf) (R : Nat) (p : Nat × Nat) (ps : Pc) (r : Nat) : ct lf R (p :: ps) r = if seB lf p r then (if ps.isEmpty then some 0 else (fa (ct lf R ps) (some r) R).map (·.2)) else none := rfl
theorem ct_b (lf : Lf) (R : Nat) : ∀ (ps : Pc) {r k : Nat}, ct lf R ps r = some k → k < ps.length
  | [], r, k, h => by cases h
  | p :: ps, r, k, h => by
    rw [ct_c] at h
    split at h
    · split at h
      · cases h; exact Nat.zero_lt_succ _
      · cases hf : fa (ct lf R ps) (some r) R with
        | none => rw [hf] at h; cases h
        | some y =>
          obtain ⟨b, c⟩ := y
          rw [hf] at h
          have h : c = k := Option.some.inj h
          obtain ⟨-, k', hk, hc⟩ := fa_in hf
          have h1 := ct_b lf R ps hk
          have h2 := pen_1 (some r) b
          show k < ps.length + 1
          omega
    · cases h
theorem ct_no (lf : Lf) (R r : Nat) : ct lf R [] r = none := rfl
theorem fa_nil (lf : Lf) (R : Nat) (w : Option Nat) (n : Nat) : fa (ct lf R []) w n = none := fa_no.2 fun r _ => rfl
/-- the rooms, one by one; what is left -/
def rmF (lf : Lf) (R : Nat) (ps : Pc) : Nat → Option Nat
  | 0 => (fa (ct lf R ps) none R).map (·.1)
  | i + 1 => match rmF lf R ps i with
    | none => none
    | some b => (fa (ct lf R (ps.drop (i + 1))) (some b) R).map (·.1)
def udL (lf : Lf) (p : Nat × Nat) (b : Nat) : Lf := fun r t => if r = b ∧ p.1 ≤ t ∧ t < p.1 + p.2 then lf r t - 1 else lf r t
def lfF (lf : Lf) (R : Nat) (ps : Pc) : Nat → Lf
  | 0 => lf
  | i + 1 => match rmF lf R ps i with
    | none => lfF lf R ps i
    | some b => udL (lfF lf R ps i) (ps.getD i (0, 0)) b
theorem lfF_b (lf : Lf) (R : Nat) (ps : Pc) (r t : Nat) : ∀ i, lf r t - i ≤ lfF lf R ps i r t ∧ lfF lf R ps i r t ≤ lf r t
  | 0 => ⟨by show lf r t - ((0 : Nat) : Int) ≤ lf r t; omega, Int.le_refl _⟩
  | i + 1 => by
    have := lfF_b lf R ps r t i
    show lf r t - ((i + 1 : Nat) : Int) ≤ (match rmF lf R ps i with | none => lfF lf R ps i | some b => udL (lfF lf R ps i) (ps.getD i (0, 0)) b) r t ∧ (match rmF lf R ps i with | none => lfF lf R ps i | some b => udL (lfF lf R ps i) (ps.getD i (0, 0)) b) r t ≤ lf r t
    cases rmF lf R ps i with
    | none => show _ ≤ lfF lf R ps i r t ∧ lfF lf R ps i r t ≤ _; omega
    | some b =>
      show _ ≤ (if r = b ∧ _ ∧ _ then lfF lf R ps i r t - 1 else lfF lf R ps i r t) ∧ (if r = b ∧ _ ∧ _ then lfF lf R ps i r t - 1 else lfF lf R ps i r t) ≤ _
      split <;> omega
def mvF (lf : Lf) (R : Nat) (ps : Pc) : Int := if ps.isEmpty then 0 else match fa (ct lf R ps) none R with
  | none => -1
  | some y => (y.2 : Int)
def oI (o : Option Nat) : Int := match o with
  | none => -1
  | some x => (x : Int)
def e1k (o : Option Nat) : Int := match o with
  | none => 1000
  | some x => (x : Int)
theorem rmF_no (lf : Lf) (R : Nat) (ps : Pc) (h : rmF lf R ps 0 = none) : ∀ i, rmF lf R ps i = none
  | 0 => h
  | i + 1 => by
    show (match rmF lf R ps i with | none => none | some b => _) = none
    rw [rmF_no lf R ps h i]
theorem drop_c {ps : Pc} {i : Nat} (hi : i < ps.length) : ps.drop i = ps.getD i (0, 0) :: ps.drop (i + 1) := by
  rw [List.getD_eq_getElem?_getD, List.getElem?_eq_getElem hi]
  exact List.drop_eq_getElem_cons hi
theorem drop_e {ps : Pc} {i : Nat} : (ps.drop i).isEmpty = decide (ps.length ≤ i) := by
  by_cases h : ps.length ≤ i
  · rw [List.drop_eq_nil_of_le h, decide_eq_true h]; rfl
  · rw [drop_c (by omega), decide_eq_false h]; rfl
theorem rmF_end (lf : Lf) (R : Nat) (ps : Pc) {i : Nat} (h : ps.length ≤ i) : rmF lf R ps i = none := by
  cases i with
  | zero =>
    have : ps = [] := List.eq_nil_of_length_eq_zero (by omega)
    show (fa (ct lf R ps) none R).map (·.1) = none
    rw [this, fa_nil]
    rfl
  | succ i =>
    show (match rmF lf R ps i with | none => none | some b => (fa (ct lf R (ps.drop (i + 1))) (some b) R).map (·.1)) = none
    cases rmF lf R ps i with
    | none => rfl
    | some b =>
      show (fa (ct lf R (ps.drop (i + 1))) (some b) R).map (·.1) = none
      rw [List.drop_eq_nil_of_le h, fa_nil]
      rfl
/-! the class' table -/
def fuM (lf : Lf) (r : Nat) : Nat := mset (fun t => decide (lf r t ≤ 0)) 48
theorem fu_se {lf : Lf} {p : Nat × Nat} {r : Nat} (hp : p.1 + p.2 ≤ 48) : kand ((fuM lf r : Nat) : Int) ((spn p.1 (p.1 + p.2) : Nat) : Int) = 0 ↔ seB lf p r = true := by
  have h1 := mset_lt (fun t => decide (lf r t ≤ 0)) 48
  have h2 := spn_lt (a := p.1) hp
  rw [kand_n (by unfold fuM; omega) (by omega)]
  have e : (fuM lf r &&& spn p.1 (p.1 + p.2) = 0) ↔ seB lf p r = true := by
    unfold seB
    constructor
    · intro h
      cases hany : anyN (fun j => decide (lf r (p.1 + j) ≤ 0)) p.2 with
      | false => rfl
      | true =>
        exfalso
        obtain ⟨j, j1, j2⟩ := anyN_ex hany
        have : (fuM lf r &&& spn p.1 (p.1 + p.2)).testBit (p.1 + j) = true := by
          rw [Nat.testBit_and, spn_tb]
          unfold fuM
          rw [mset_tb, j2, decide_eq_true (show p.1 + j < 48 by omega), decide_eq_true (show p.1 ≤ p.1 + j by omega), decide_eq_true (show p.1 + j < p.1 + p.2 by omega)]
          rfl
        rw [h] at this
        simp at this
    · intro h
      simp only [Bool.not_eq_true'] at h
      apply Nat.eq_of_testBit_eq
      intro i
      rw [Nat.zero_testBit, Nat.testBit_and, spn_tb]
      unfold fuM
      rw [mset_tb]
      by_cases hi : p.1 ≤ i ∧ i < p.1 + p.2
      · have := anyN_f h (i - p.1) (by omega)
        rw [show p.1 + (i - p.1) = i by omega] at this
        rw [this]
        simp
      · by_cases g : p.1 ≤ i
        · rw [decide_eq_false (show ¬ i < p.1 + p.2 from fun z => hi ⟨g, z⟩)]
          simp
        · rw [decide_eq_false g]
          simp
  rw [← e]
  omega
def isCo (σ : Mem) (lf : Lf) (R : Nat) (ps : Pc) (i : Nat) : Prop := ∀ r : Nat, r < R → σ 178 (6 * (i : Int) + r) = e1k (ct lf R (ps.drop i) r)
theorem co6 {i r : Nat} (hi : i < 9) (hr : r < 6) : jadd (jmul (i : Int) 6) (r : Int) = 6 * (i : Int) + r ∧ 6 * (i : Int) + r < 54 := by
  rw [jmul_ok (by omega) (by omega), jadd_ok (by omega) (by omega)]
  omega
theorem X5_costWith {σ : Mem} {lf : Lf} {R : Nat} (hR : R ≤ 6) {ps : Pc} {i : Nat} (hi : i < 9) (hl : ps.length ≤ 9) (h : isCo σ lf R ps i) (w : Option Nat) {r : Nat} (hr : r < R) : f_X5_costWith σ i r (oI w) = some (e1k (ct lf R (ps.drop i) r) + (pen w r : Int)) := by
  obtain ⟨g1, g2⟩ := co6 (i := i) (r := r) hi (by omega)
  have hb : 0 ≤ e1k (ct lf R (ps.drop i) r) ∧ e1k (ct lf R (ps.drop i) r) ≤ 1000 := by
    cases hc : ct lf R (ps.drop i) r with
    | none => exact ⟨by show (0 : Int) ≤ 1000; decide, Int.le_refl _⟩
    | some k =>
      have := ct_b lf R _ hc
      rw [List.length_drop] at this
      exact ⟨by show 0 ≤ (k : Int); omega, by show (k : Int) ≤ 1000; omega⟩
  unfold f_X5_costWith f_X5_costWith_21 f_X5_costWith_26
  rw [g1, chk_pos (by omega), h r hr, jadd_ok (by omega) (by omega), jadd_ok (by omega) (by omega)]
  cases w with
  | none => rw [show oI none = -1 from rfl, if_pos rfl]; rfl
  | some x =>
    rw [show oI (some x) = (x : Int) from rfl, if_neg (by omega)]
    show _ = some (_ + ((if x = r then 0 else 1 : Nat) : Int))
    by_cases e : x = r
    · rw [if_neg (by omega), if_pos e]; rfl
    · rw [if_pos (by omega), if_neg e]; rfl
theorem X5_firstRoom {σ : Mem} {lf : Lf} {R : Nat} (hR : R ≤ 6) {ps : Pc} {i : Nat} (hi : i < 9) (hl : ps.length ≤ 9) (h : isCo σ lf R ps i) (w : Option Nat) : f_X5_firstRoom σ R i (oI w) = some (oI ((fa (ct lf R (ps.drop i)) w R).map (·.1))) := by
  have hcw := fun r (hr : r < R) => X5_costWith hR hi hl h w (r := r) hr
  have hct : ∀ r k, ct lf R (ps.drop i) r = some k → k ≤ 9 := fun r k hk => by
    have := ct_b lf R _ hk
    rw [List.length_drop] at this
    omega
  unfold f_X5_firstRoom f_X5_firstRoom_6
  rw [show loop (f_X5_firstRoom_6B σ R i (oI w)) FU (-1, 0) = some (oI ((fa (ct lf R (ps.drop i)) w R).map (·.1))) from loop_is (P := fun s => ∃ r : Nat, s.2 = (r : Int) ∧ r ≤ R ∧ s.1 = oI ((fa (ct lf R (ps.drop i)) w r).map (·.1))) (μ := fun s => (10 - s.2).toNat) (by
    rintro ⟨x4, _⟩ ⟨r, rfl, hr, g4⟩
    have g4 : x4 = oI ((fa (ct lf R (ps.drop i)) w r).map (·.1)) := g4
    show (∃ a', f_X5_firstRoom_6C σ R i (oI w) x4 (r : Int) = _ ∧ _) ∨ f_X5_firstRoom_6C σ R i (oI w) x4 (r : Int) = _
    unfold f_X5_firstRoom_6C
    by_cases hend : (R : Int) ≤ r
    · right
      rw [if_pos hend, g4]
      have : r = R := by omega
      rw [this]
    · left
      have fin : ∀ z : Int, z = oI ((fa (ct lf R (ps.drop i)) w (r + 1)).map (·.1)) → ∃ a', f_X5_firstRoom_53 σ R i (oI w) z (r : Int) = some (.inl a') ∧ (∃ r : Nat, a'.2 = (r : Int) ∧ r ≤ R ∧ a'.1 = oI ((fa (ct lf R (ps.drop i)) w r).map (·.1))) ∧ (10 - a'.2).toNat < (10 - (r : Int)).toNat := fun z hz => by
        unfold f_X5_firstRoom_53
        simp only [Option.bind_some]
        rw [jadd_ok (by omega) (by omega)]
        exact ⟨_, rfl, ⟨r + 1, by show (r : Int) + 1 = _; omega, by omega, hz⟩, by show (10 - ((r : Int) + 1)).toNat < (10 - (r : Int)).toNat; omega⟩
      have es := fa_s (ct lf R (ps.drop i)) w r
      have hp := pen_1 w r
      unfold f_X5_firstRoom_49
      rw [if_neg hend, bind_some' (hcw r (by omega))]
      cases hc : ct lf R (ps.drop i) r with
      | none =>
        rw [hc] at es
        have es : fa (ct lf R (ps.drop i)) w (r + 1) = fa (ct lf R (ps.drop i)) w r := es
        rw [if_pos (by show (1000 : Int) ≤ 1000 + (pen w r : Int); omega)]
        exact fin _ (by rw [es]; exact g4)
      | some k =>
        have hk := hct r k hc
        rw [hc] at es
        rw [if_neg (by show ¬ (1000 : Int) ≤ (k : Int) + (pen w r : Int); omega)]
        cases hg : fa (ct lf R (ps.drop i)) w r with
        | none =>
          rw [hg] at es g4
          have es : fa (ct lf R (ps.drop i)) w (r + 1) = some (r, k + pen w r) := es
          have g4 : x4 = -1 := g4
          rw [if_pos g4]
          exact fin _ (by rw [es]; rfl)
        | some y =>
          obtain ⟨b, cb⟩ := y
          obtain ⟨hb, k', hk', hcb⟩ := fa_in hg
          rw [hg] at es g4
          have es : fa (ct lf R (ps.drop i)) w (r + 1) = if k + pen w r < cb then some (r, k + pen w r) else some (b, cb) := es
          have g4 : x4 = (b : Int) := g4
          rw [if_neg (by omega), g4, bind_some' (hcw b (by omega)), hk']
          by_cases e : k + pen w r < cb
          · rw [if_pos e] at es
            rw [if_neg (by show ¬ (k' : Int) + (pen w b : Int) ≤ (k : Int) + (pen w r : Int); omega)]
            exact fin _ (by rw [es]; rfl)
          · rw [if_neg e] at es
            rw [if_pos (by show (k' : Int) + (pen w b : Int) ≤ (k : Int) + (pen w r : Int); omega)]
            exact fin _ (by rw [es]; rfl)) ⟨0, rfl, Nat.zero_le _, rfl⟩ (Nat.le_of_ble_eq_true rfl)]
  rfl
def okP9 (ps : Pc) : Prop := ps.length ≤ 9 ∧ ∀ i, i < ps.length → (ps.getD i (0, 0)).1 + (ps.getD i (0, 0)).2 ≤ 48
def isFu (σ : Mem) (lf : Lf) (R : Nat) : Prop := ∀ r : Nat, r < R → σ 173 r = ((fuM lf r : Nat) : Int)
theorem X5_costFrom {σ : Mem} {lf : Lf} {R : Nat} (hR : R ≤ 6) {ps : Pc} (hps : okP9 ps) (hF : isFu σ lf R) (hP : isPc σ ps) {i : Nat} (hi : i < ps.length) (h : i + 1 < ps.length → isCo σ lf R ps (i + 1)) {r : Nat} (hr : r < R) : f_X5_costFrom σ R ps.length i r = some (e1k (ct lf R (ps.drop i) r)) := by
  have h9 := hps.1
  have hse := fu_se (lf := lf) (r := r) (hps.2 i hi)
  unfold f_X5_costFrom
  rw [chk_pos (by omega), chk_pos (by omega), hF r hr, hP i hi, drop_c hi, ct_c, drop_e]
  cases hs : seB lf (ps.getD i (0, 0)) r with
  | false =>
    rw [hs] at hse
    rw [if_neg (fun z => by have := hse.1 z; cases this), bf]
    rfl
  | true =>
    rw [if_pos (hse.2 hs), bt, jadd_ok (by omega) (by omega)]
    by_cases hn : i + 1 < ps.length
    · rw [if_pos (by omega), decide_eq_false (by omega), bf, show (i : Int) + 1 = ((i + 1 : Nat) : Int) by omega, show (r : Int) = oI (some r) from rfl, bind_some' (X5_firstRoom hR (i := i + 1) (by omega) h9 (h hn) (some r))]
      cases hf : fa (ct lf R (ps.drop (i + 1))) (some r) R with
      | none => rfl
      | some y =>
        obtain ⟨b, cb⟩ := y
        obtain ⟨hb, k', hk', hcb⟩ := fa_in hf
        show (if (b : Int) ≠ -1 then _ else _) = some ((cb : Nat) : Int)
        rw [if_pos (by omega), show oI (Option.map (fun x => x.1) (some (b, cb))) = (b : Int) from rfl, bind_some' (X5_costWith hR (i := i + 1) (by omega) h9 (h hn) (some r) hb), hk']
        show some ((k' : Int) + (pen (some r) b : Int)) = some (cb : Int)
        rw [hcb]
        congr 1
    · rw [if_neg (by omega), decide_eq_true (by omega), bt]
      rfl
theorem isCo.keep {σ τ : Mem} {lf : Lf} {R : Nat} {ps : Pc} {i : Nat} (h : isCo σ lf R ps i) (e : ∀ r : Nat, r < R → τ 178 (6 * (i : Int) + r) = σ 178 (6 * (i : Int) + r)) : isCo τ lf R ps i := fun r hr => by rw [e r hr]; exact h r hr
theorem X5_moves11 {σ : Mem} {lf : Lf} {R : Nat} (hR : R ≤ 6) {ps : Pc} (hps : okP9 ps) (hF : isFu σ lf R) (hP : isPc σ ps) {i : Nat} (hi : i < ps.length) (h : ∀ j, i < j → j < ps.length → isCo σ lf R ps j) : ∃ τ, f_X5_countMoves_11 σ R ps.length i 0 = some (.inl ((i : Int) - 1, τ)) ∧ (∀ x, x ≠ 178 → τ x = σ x) ∧ ∀ j, i ≤ j → j < ps.length → isCo τ lf R ps j := by
  have h9 := hps.1
  unfold f_X5_countMoves_11
  obtain ⟨e, e1, e2, e3, e4⟩ := loop_ex (f := f_X5_countMoves_11B R ps.length i) (fun s => ∃ r : Nat, s.1 = (r : Int) ∧ r ≤ R ∧ (∀ x, x ≠ 178 → s.2 x = σ x) ∧ (∀ j, i < j → j < ps.length → isCo s.2 lf R ps j) ∧ ∀ q : Nat, q < r → s.2 178 (6 * (i : Int) + q) = e1k (ct lf R (ps.drop i) q)) (fun s => (10 - s.1).toNat) (fun e => (∀ x, x ≠ 178 → e x = σ x) ∧ (∀ j, i < j → j < ps.length → isCo e lf R ps j) ∧ isCo e lf R ps i) (a := (0, σ)) ⟨0, rfl, Nat.zero_le _, fun _ _ => rfl, h, fun q hq => absurd hq (Nat.not_lt_zero _)⟩ (Nat.le_of_ble_eq_true rfl) (by
    rintro ⟨_, τ⟩ ⟨r, rfl, hr, k1, k2, k3⟩
    have k1 : ∀ x, x ≠ 178 → τ x = σ x := k1
    have k2 : ∀ j, i < j → j < ps.length → isCo τ lf R ps j := k2
    have k3 : ∀ q : Nat, q < r → τ 178 (6 * (i : Int) + q) = e1k (ct lf R (ps.drop i) q) := k3
    show (∃ a', f_X5_countMoves_11C R ps.length i (r : Int) τ = _ ∧ _) ∨ ∃ a', f_X5_countMoves_11C R ps.length i (r : Int) τ = _ ∧ _
    unfold f_X5_countMoves_11C
    by_cases hend : (R : Int) ≤ r
    · right
      rw [if_pos hend]
      have : r = R := by omega
      subst this
      exact ⟨_, rfl, k1, k2, k3⟩
    · left
      obtain ⟨g1, g2⟩ := co6 (i := i) (r := r) (by omega) (by omega)
      have hFt : isFu τ lf R := fun r hr => by rw [k1 173 (by decide)]; exact hF r hr
      have hPt : isPc τ ps := fun i hi => by rw [k1 174 (by decide)]; exact hP i hi
      rw [if_neg hend, bind_some' (X5_costFrom hR hps hFt hPt hi (fun hn => k2 (i + 1) (by omega) hn) (r := r) (by omega)), g1, chk_pos (by omega)]
      simp only [Option.bind_some]
      rw [jadd_ok (by omega) (by omega)]
      refine ⟨_, rfl, ⟨r + 1, by show (r : Int) + 1 = _; omega, by omega, fun x hx => ?_, fun j j1 j2 => (k2 j j1 j2).keep fun q hq => ?_, fun q hq => ?_⟩, by show (10 - ((r : Int) + 1)).toNat < (10 - (r : Int)).toNat; omega⟩
      · show mup τ 178 (6 * (i : Int) + r) (e1k (ct lf R (ps.drop i) r)) x = _
        rw [mup_row hx, k1 x hx]
      · show mup τ 178 (6 * (i : Int) + r) (e1k (ct lf R (ps.drop i) r)) 178 _ = _
        rw [mup_miss (by omega)]
      · show mup τ 178 (6 * (i : Int) + r) (e1k (ct lf R (ps.drop i) r)) 178 _ = _
        by_cases e : q = r
        · rw [mup_hit rfl (by omega), e]
        · rw [mup_miss (by omega), k3 q (by omega)])
  rw [e1]
  refine ⟨e, ?_, e2, fun j j1 j2 => ?_⟩
  · rw [bsm]
    unfold f_X5_countMoves_44
    simp only [Option.bind_some]
    rw [jadd_ok (by omega) (by omega)]
    rfl
  · by_cases q : j = i
    · rw [q]; exact e4
    · exact e3 j (by omega) j2
theorem X5_countMoves {σ : Mem} {lf : Lf} {R : Nat} (hR : R ≤ 6) {ps : Pc} (hps : okP9 ps) (hF : isFu σ lf R) (hP : isPc σ ps) : ∃ τ, f_X5_countMoves σ R ps.length = some τ ∧ (∀ x, x ≠ 178 → τ x = σ x) ∧ ∀ j, j < ps.length → isCo τ lf R ps j := by
  have h9 := hps.1
  unfold f_X5_countMoves
  simp only [Option.bind_some]
  rw [jsub_ok (by omega) (by omega)]
  unfold f_X5_countMoves_4
  obtain ⟨e, e1, e2, e3⟩ := loop_ex (f := f_X5_countMoves_4B R ps.length) (fun s => ∃ i : Nat, s.1 = (i : Int) - 1 ∧ i ≤ ps.length ∧ (∀ x, x ≠ 178 → s.2 x = σ x) ∧ ∀ j, i ≤ j → j < ps.length → isCo s.2 lf R ps j) (fun s => (s.1 + 1).toNat) (fun e => (∀ x, x ≠ 178 → e x = σ x) ∧ ∀ j, j < ps.length → isCo e lf R ps j) (a := ((ps.length : Int) - 1, σ)) ⟨ps.length, rfl, Nat.le_refl _, fun _ _ => rfl, fun j j1 j2 => absurd j1 (by omega)⟩ (by show ((ps.length : Int) - 1 + 1).toNat < 1000000; omega) (by
    rintro ⟨_, τ⟩ ⟨i, rfl, hi, k1, k2⟩
    have k1 : ∀ x, x ≠ 178 → τ x = σ x := k1
    have k2 : ∀ j, i ≤ j → j < ps.length → isCo τ lf R ps j := k2
    show (∃ a', f_X5_countMoves_4C R ps.length ((i : Int) - 1) τ = _ ∧ _) ∨ ∃ a', f_X5_countMoves_4C R ps.length ((i : Int) - 1) τ = _ ∧ _
    unfold f_X5_countMoves_4C
    by_cases hend : (i : Int) - 1 < 0
    · right
      rw [if_pos hend]
      exact ⟨_, rfl, k1, fun j hj => k2 j (by omega) hj⟩
    · left
      obtain ⟨u, rfl⟩ : ∃ u, i = u + 1 := ⟨i - 1, by omega⟩
      have k1 : ∀ x, x ≠ 178 → τ x = σ x := k1
      have hFt : isFu τ lf R := fun r hr => by rw [k1 173 (by decide)]; exact hF r hr
      have hPt : isPc τ ps := fun i hi => by rw [k1 174 (by decide)]; exact hP i hi
      obtain ⟨ρ, a1, a2, a3⟩ := X5_moves11 hR hps hFt hPt (i := u) (by omega) (fun j j1 j2 => k2 j (by omega) j2)
      rw [if_neg hend, show ((u + 1 : Nat) : Int) - 1 = (u : Int) by omega, a1]
      exact ⟨_, rfl, ⟨u, rfl, by omega, fun x hx => by show ρ x = _; rw [a2 x hx, k1 x hx], a3⟩, by show ((u : Int) - 1 + 1).toNat < ((u : Int) + 1).toNat; omega⟩)
  rw [e1]
  exact ⟨e, rfl, e2, e3⟩
