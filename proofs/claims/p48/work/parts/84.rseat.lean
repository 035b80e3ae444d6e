/-! SEATS, the reference: costs, and whether all have a room -/
def isRl (σ : Mem) (lf : Lf) (R : Nat) : Prop := ∀ r t : Nat, r < R → t < 48 → σ 216 (48 * (r : Int) + t) = lf r t
theorem isRl.keep {σ τ : Mem} {lf : Lf} {R : Nat} (h : isRl σ lf R) (e : τ 216 = σ 216) : isRl τ lf R := fun r t hr ht => by rw [e]; exact h r t hr ht
theorem isRp.keep {σ τ : Mem} {ps : Pc} (h : isRp σ ps) (e0 : τ 181 37 = σ 181 37) (e1 : τ 211 = σ 211) (e2 : τ 212 = σ 212) : isRp τ ps := ⟨by rw [e0]; exact h.1, fun i hi => by rw [e1, e2]; exact h.2 i hi⟩
def e9 (o : Option Nat) : Int := match o with
  | none => 999
  | some x => (x : Int)
def e9y (o : Option (Nat × Nat)) : Int := match o with
  | none => 999
  | some y => (y.2 : Int)
theorem e9y_m (o : Option (Nat × Nat)) : e9 (o.map (·.2)) = e9y o := by cases o <;> rfl
theorem fa_mn {f : Nat → Option Nat} {w : Option Nat} {n : Nat} (hb : ∀ r k, f r = some k → k ≤ 900) : e9y (fa f w n) ≤ 999 ∧ e9y (fa f w (n + 1)) = min (e9y (fa f w n)) (e9 (f n) + (pen w n : Int)) := by
  have h1 : e9y (fa f w n) ≤ 999 := by
    cases hf : fa f w n with
    | none => exact Int.le_refl _
    | some y =>
      obtain ⟨b, c⟩ := y
      obtain ⟨-, k, hk, hc⟩ := fa_in hf
      have := hb b k hk
      have := pen_1 w b
      show (c : Int) ≤ 999
      omega
  refine ⟨h1, ?_⟩
  rw [fa_s]
  cases hn : f n with
  | none =>
    show e9y (fa f w n) = min (e9y (fa f w n)) (999 + (pen w n : Int))
    omega
  | some k =>
    have := hb n k hn
    have := pen_1 w n
    cases hf : fa f w n with
    | none =>
      show ((k + pen w n : Nat) : Int) = min 999 ((k : Int) + (pen w n : Int))
      omega
    | some y =>
      show e9y (if k + pen w n < y.2 then some (n, k + pen w n) else some y) = min (y.2 : Int) ((k : Int) + (pen w n : Int))
      by_cases e : k + pen w n < y.2
      · rw [if_pos e]
        show ((k + pen w n : Nat) : Int) = _
        omega
      · rw [if_neg e]
        show (y.2 : Int) = _
        omega
def isRc (σ : Mem) (lf : Lf) (R : Nat) (ps : Pc) (i : Nat) : Prop := ∀ r : Nat, r < R → σ 217 (6 * (i : Int) + r) = e9 (ct lf R (ps.drop i) r)
theorem isRc.keep {σ τ : Mem} {lf : Lf} {R : Nat} {ps : Pc} {i : Nat} (h : isRc σ lf R ps i) (e : ∀ r : Nat, r < R → τ 217 (6 * (i : Int) + r) = σ 217 (6 * (i : Int) + r)) : isRc τ lf R ps i := fun r hr => by rw [e r hr]; exact h r hr
theorem ct_9 {lf : Lf} {R : Nat} {ps : Pc} (hl : ps.length ≤ 9) (i : Nat) : ∀ r k, ct lf R (ps.drop i) r = some k → k ≤ 900 := fun r k hk => by
  have := ct_b lf R _ hk
  rw [List.length_drop] at this
  omega
/-- whether all have a room -/
def rdB (lf : Lf) (R : Nat) : Pc → Bool
  | [] => true
  | p :: ps => anyN (fun r => seB lf p r) R && rdB lf R ps
theorem rdB_fa {lf : Lf} {R : Nat} : ∀ {ps : Pc}, ps ≠ [] → ∀ w, (rdB lf R ps = true ↔ fa (ct lf R ps) w R ≠ none)
  | [], h, _ => absurd rfl h
  | p :: ps, _, w => by
    have key : fa (ct lf R (p :: ps)) w R ≠ none ↔ ∃ r, r < R ∧ ct lf R (p :: ps) r ≠ none := by
      constructor
      · intro h
        cases hf : fa (ct lf R (p :: ps)) w R with
        | none => exact absurd hf h
        | some y =>
          obtain ⟨b, c⟩ := y
          obtain ⟨hb, k, hk, -⟩ := fa_in hf
          exact ⟨b, hb, by rw [hk]; exact fun z => by cases z⟩
      · rintro ⟨r, hr, hc⟩ h
        exact hc (fa_no.1 h r hr)
    rw [key]
    show (anyN (fun r => seB lf p r) R && rdB lf R ps) = true ↔ _
    rw [Bool.and_eq_true]
    constructor
    · rintro ⟨h1, h2⟩
      obtain ⟨r, hr, hs⟩ := anyN_ex h1
      refine ⟨r, hr, ?_⟩
      rw [ct_c, hs, bt]
      cases ps with
      | nil => exact fun z => by cases z
      | cons a l =>
        have := (rdB_fa (lf := lf) (R := R) (ps := a :: l) (by simp) (some r)).1 h2
        show (fa (ct lf R (a :: l)) (some r) R).map (fun y : Nat × Nat => y.2) ≠ none
        cases hf : fa (ct lf R (a :: l)) (some r) R with
        | none => exact absurd hf this
        | some y => exact fun z => by cases z
    · rintro ⟨r, hr, hc⟩
      rw [ct_c] at hc
      cases hs : seB lf p r with
      | false => rw [hs, bf] at hc; exact absurd rfl hc
      | true =>
        rw [hs, bt] at hc
        refine ⟨anyN_t hr hs, ?_⟩
        cases ps with
        | nil => rfl
        | cons a l =>
          refine (rdB_fa (lf := lf) (R := R) (ps := a :: l) (by simp) (some r)).2 fun z => hc ?_
          show (fa (ct lf R (a :: l)) (some r) R).map (fun y : Nat × Nat => y.2) = none
          rw [z]
          rfl
