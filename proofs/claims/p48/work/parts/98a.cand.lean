/-! A CANDIDATE: days, what-ifs, relief, hours -/
section
variable {m n N : Nat} {xs : Nat → Int32} {k : Nat} {σ ξ : Mem} {B : Bk} {c : Nat}
theorem m_days (K : KS k σ B (some B)) (A : AR m n ξ B) (hc : c < n) (hk : k < 60000) (x7 x9 : Int) : RUN (loop (f_L_law_152B m n N xs (n : Int) (m : Int) x7 x9 c) FU (0, 0, (σ, ξ))) (fun e => ∃ ρ, KS (k + 250) ρ B (some B) ∧ e = .inr (kpt B c 5, (ρ, ξ))) := by
  have hc2 : (c : Int) < B 8 1 := by have := A.2.1; omega
  refine RUN.loop (fun s => ∃ (d : Nat) (ρ : Mem), d ≤ 5 ∧ KS (k + 50 * d) ρ B (some B) ∧ s = (kpt B c d, (d : Int), (ρ, ξ))) (fun s => (20 - s.2.1).toNat) ⟨0, σ, Nat.zero_le _, K, rfl⟩ (Nat.le_of_ble_eq_true rfl) ?_
  rintro _ ⟨d, ρ, hd, K1, rfl⟩
  show RUN (f_L_law_152C m n N xs (n : Int) (m : Int) x7 x9 c (kpt B c d) (d : Int) (ρ, ξ)) _
  unfold f_L_law_152C
  by_cases hend : (5 : Int) ≤ d
  · have : d = 5 := by omega
    subst this
    exact RUN.pos hend (RUN.ok ⟨ρ, K1.mono (by omega), rfl⟩)
  · have hd5 : d < 5 := by omega
    have less : (20 - ((d + 1 : Nat) : Int)).toNat < (20 - (d : Int)).toNat := by omega
    have w := K1.1.2.2.1
    have hkb := kpt_b w (c := c) (by omega) hc2 d
    have hkb2 := kpt_b w (c := c) (by omega) hc2 (d + 1)
    refine RUN.neg hend (RUN.chk ⟨by omega, by omega⟩ ?_)
    refine RUN.bind (l_planned K1 A hc hd5) ?_
    rintro ⟨v, ρ2, ξ2⟩ ⟨h1, h2, K2⟩
    have h1 : v = 1 := h1
    have h2 : ξ2 = ξ := h2
    subst h1 h2
    have K2 : KS (k + 50 * d) ρ2 B (some B) := K2
    refine RUN.neg (show ¬ (1 : Int) = 0 by decide) ?_
    have fin : ∀ (ρ3 : Mem) (P : (Int × Int × M2) ⊕ (M2 ⊕ (Int × M2)) → Prop), KS (k + 50 * d + 40) ρ3 B (some B) → (∀ ρ4, KS (k + 50 * (d + 1)) ρ4 B (some B) → P (.inl (kpt B c (d + 1), ((d + 1 : Nat) : Int), (ρ4, ξ2)))) → RUN (f_L_law_211 m n N xs (ρ3, ξ2) (n : Int) (m : Int) x7 x9 c (kpt B c d) (d : Int)) P := fun ρ3 P K3 hP => by
      unfold f_L_law_211
      refine RUN.call (a_plan K3 (by omega) hc2 hd5 (x := 1) ⟨by decide, by decide⟩) fun ρ4 K4 => ?_
      refine RUN.to (RUN.to ?_)
      have e : jadd (kpt B c d) (plV B c d 1) = kpt B c (d + 1) := by
        have e2 : kpt B c (d + 1) = kpt B c d + plV B c d 1 := rfl
        rw [e2] at hkb2 ⊢
        exact jadd_ok (by omega) (by omega)
      show RUN (some (Sum.inl (jadd (kpt B c d) (plV B c d 1), jadd (d : Int) 1, (ρ4, ξ2)))) P
      rw [e, j_s (by omega)]
      exact RUN.ok (hP ρ4 (K4.mono (by omega)))
    refine RUN.call (a_plan K2 (by omega) hc2 hd5 (x := 0) ⟨by decide, by decide⟩) fun ρ3 K3 => ?_
    cases hx : dpl B c d (ovr B c d) with
    | some y =>
      have e : plV B c d 0 = 1 := by unfold plV; rw [if_pos rfl, hx]; rfl
      refine RUN.pos (show plV B c d 0 ≠ 0 by rw [e]; decide) ?_
      exact fin ρ3 _ (K3.mono (by omega)) fun ρ4 K4 => ⟨⟨d + 1, ρ4, by omega, K4, rfl⟩, less⟩
    | none =>
      have e : plV B c d 0 = 0 := by unfold plV; rw [if_pos rfl, hx]; rfl
      refine RUN.neg (show ¬ plV B c d 0 ≠ 0 by rw [e]; decide) (RUN.chk ⟨by omega, by omega⟩ ?_)
      refine RUN.bind (l_clash K3 A hc hd5 (by omega) hx) ?_
      rintro ⟨v, ρ4, ξ4⟩ ⟨g1, g2, K4⟩
      have g1 : v = 1 := g1
      have g2 : ξ4 = ξ2 := g2
      subst g1 g2
      refine RUN.pos (show (1 : Int) ≠ 0 by decide) ?_
      exact fin ρ4 _ K4 fun ρ5 K5 => ⟨⟨d + 1, ρ5, by omega, K5, rfl⟩, less⟩
theorem flp_ne (h : 0 ≤ B 6 c) {p : Nat} : flp B c p 6 c ≠ B 6 c := by
  obtain ⟨T, hT⟩ := n_of h
  rw [flp_6, hT, Int.toNat_natCast]
  intro z
  have z2 : T ^^^ 2 ^ p = T := by omega
  have := congrArg (fun x => x.testBit p) z2
  simp [Nat.testBit_xor, Nat.testBit_two_pow] at this
theorem m_whatif (K : KS k σ B (some B)) (A : AR m n ξ B) (hc : c < n) (hk : k < 60000) (x7 x9 : Int) : RUN (loop (f_L_law_242B m n N xs (n : Int) (m : Int) x7 x9 c (kpt B c 5)) FU (0, (σ, ξ))) (fun e => ∃ ρ, KS (k + 30) ρ B (some B) ∧ e = .inr (.inr (ρ, ξ))) := by
  have hc2 : (c : Int) < B 8 1 := by have := A.2.1; omega
  have hm10 := A.2.2.1
  refine RUN.loop (fun s => ∃ (p : Nat) (ρ : Mem), p ≤ m ∧ KS (k + 3 * p) ρ B (some B) ∧ s = ((p : Int), (ρ, ξ))) (fun s => (20 - s.1).toNat) ⟨0, σ, Nat.zero_le _, K, rfl⟩ (Nat.le_of_ble_eq_true rfl) ?_
  rintro _ ⟨p, ρ, hp, K1, rfl⟩
  show RUN (f_L_law_242C m n N xs (n : Int) (m : Int) x7 x9 c (kpt B c 5) (p : Int) (ρ, ξ)) _
  unfold f_L_law_242C
  by_cases hend : (m : Int) ≤ p
  · have : p = m := by omega
    subst this
    exact RUN.pos hend (RUN.ok ⟨ρ, K1.mono (by omega), rfl⟩)
  · have hpm : p < m := by omega
    have hp2 : (p : Int) < B 8 0 := by have := A.1; omega
    have less : (20 - ((p + 1 : Nat) : Int)).toNat < (20 - (p : Int)).toNat := by omega
    have w := K1.1.2.2.1
    have hn := w.1
    unfold WFn at hn
    have h6 := (w.2.2.1 c (by omega) hc2).2.2.2.1
    obtain ⟨T, hT⟩ := n_of h6.1
    have ht : tk B c p = T.testBit p := by unfold tk; rw [hT, Int.toNat_natCast]
    have last : ∀ ρ2, KS (k + 3 * (p + 1)) ρ2 B (some B) → ∃ (q : Nat) (ρ : Mem), q ≤ m ∧ KS (k + 3 * q) ρ B (some B) ∧ (((p + 1 : Nat) : Int), ((ρ2, ξ) : M2)) = ((q : Int), (ρ, ξ)) := fun ρ2 K2 => ⟨p + 1, ρ2, by omega, K2, rfl⟩
    have nxt : ∀ (μ : M2) (x11 : Int), f_L_law_379 m n N xs μ (n : Int) (m : Int) x7 x9 c x11 (p : Int) = some (.inl (((p + 1 : Nat) : Int), μ)) := fun μ x11 => by
      unfold f_L_law_379
      simp only [Option.bind_some]
      rw [j_s (by omega)]
    refine RUN.neg hend ?_
    refine RUN.call (a_whatIf K1 (by omega) hc2 hp2) fun ρ2 K2 => ?_
    refine RUN.to ?_
    refine RUN.call (a_candOf K2 (by omega) hc2 (x := 3) (by decide)) fun ρ3 K3 => ?_
    refine RUN.to ?_
    have ejb : jand (jshr (cdV B c 3) (p : Int)) 1 = if tk B c p then 1 else 0 := by
      show jand (jshr (B 6 c) (p : Int)) 1 = _
      rw [hT, jbit (by omega) (by omega), ht]
    have ejs : jsub 1 (jand (jshr (cdV B c 3) (p : Int)) 1) = if tk B c p then 0 else 1 := by
      rw [ejb]
      cases tk B c p with
      | true => rw [bt, bt]; decide
      | false => rw [bf, bf]; decide
    show RUN ((f_X10_takes ρ3 c p (jsub 1 (jand (jshr (cdV B c 3) (p : Int)) 1))).bind _) _
    rw [ejs]
    cases hf : fifth B c p with
    | true =>
      have htk : tk B c p = false := by
        unfold fifth at hf
        cases h : tk B c p with
        | false => rfl
        | true => rw [h] at hf; cases hf
      have ew : wiV B c p = -55 := by unfold wiV; rw [hf]; rfl
      rw [htk, bf]
      refine RUN.call (a_stuck K3 (by omega) hc2 hp2 hf) fun ρ4 K4 => ?_
      refine RUN.to ?_
      refine RUN.neg (show ¬ 0 ≤ wiV B c p by rw [ew]; decide) ?_
      unfold f_L_law_299
      refine RUN.neg (show ¬ (0 : Int) ≤ -55 by decide) ?_
      unfold f_L_law_309
      refine RUN.neg (by decide) ?_
      refine RUN.pos (show wiV B c p < 0 by rw [ew]; decide) ?_
      unfold f_L_law_350
      refine RUN.call (a_back K4 (by omega)) fun ρ5 K5 => ?_
      refine RUN.pos (show wiV B c p < 0 by rw [ew]; decide) ?_
      exact RUN.eq (nxt _ _) ⟨last ρ5 (K5.mono (by omega)), less⟩
    | false =>
      have ew : wiV B c p = ((cts (flp B c p) c 5 : Nat) : Int) := by unfold wiV; rw [hf]; rfl
      have g := a_flip K3 (by omega) (by omega) hc2 hp2 hf (t := if tk B c p then 0 else 1) rfl
      have e8 : flp B c p 8 = B 8 := flp_r (by decide)
      have hc3 : (c : Int) < flp B c p 8 1 := by rw [e8]; exact hc2
      refine RUN.call g fun ρ4 K4 => ?_
      refine RUN.to ?_
      refine RUN.pos (show 0 ≤ wiV B c p by rw [ew]; omega) ?_
      unfold f_L_law_299
      refine RUN.pos (show (0 : Int) ≤ if tk B c p then 1 else 0 by cases tk B c p <;> decide) ?_
      unfold f_L_law_309
      refine RUN.neg (by decide) ?_
      refine RUN.neg (show ¬ wiV B c p < 0 by rw [ew]; omega) ?_
      refine RUN.call (a_candOf K4 (by omega) hc3 (x := 5) (by decide)) fun ρ5 K5 => ?_
      refine RUN.neg (show ¬ ((cts (flp B c p) c 5 : Nat) : Int) ≠ wiV B c p by rw [ew]; simp) ?_
      refine RUN.call (a_candOf K5 (by omega) hc3 (x := 3) (by decide)) fun ρ6 K6 => ?_
      refine RUN.chk ⟨by omega, by omega⟩ (RUN.chk ⟨by decide, by decide⟩ ?_)
      refine RUN.pos (show flp B c p 6 c ≠ ξ (3 + (m : Int) + c) 3 by rw [A.2.2.2.2.2.1 c hc]; exact flp_ne h6.1) ?_
      unfold f_L_law_350
      refine RUN.call (a_back K6 (by omega)) fun ρ7 K7 => ?_
      refine RUN.neg (show ¬ wiV B c p < 0 by rw [ew]; omega) ?_
      refine RUN.call (a_both K7 (by omega) hc2 hp2 hf) fun ρ8 K8 => ?_
      refine RUN.pos rfl ?_
      exact RUN.eq (nxt _ _) ⟨last ρ8 (K8.mono (by omega)), less⟩
/-- relief: the first of the best -/
theorem rlf_is (B : Bk) (c : Int) : ∀ n, (∀ q mm, rlf B c n = some (q, mm) → q < n ∧ fifth B c q = false ∧ mm = cts (flp B c q) c 5) ∧ ∀ p, p < n → fifth B c p = false → ∃ q mm, rlf B c n = some (q, mm) ∧ (mm < cts (flp B c p) c 5 ∨ (mm = cts (flp B c p) c 5 ∧ q ≤ p))
  | 0 => ⟨fun q mm h => (by cases h), fun p hp => absurd hp (Nat.not_lt_zero _)⟩
  | n + 1 => by
    obtain ⟨h1, h2⟩ := rlf_is B c n
    rw [rlf_s]
    cases hf : fifth B c n with
    | true =>
      rw [bt]
      refine ⟨fun q mm h => ?_, fun p hp hp2 => ?_⟩
      · obtain ⟨a1, a2, a3⟩ := h1 q mm h
        exact ⟨by omega, a2, a3⟩
      · by_cases e : p = n
        · subst e
          rw [hf] at hp2
          cases hp2
        · exact h2 p (by omega) hp2
    | false =>
      rw [bf]
      cases hr : rlf B c n with
      | none =>
        refine ⟨fun q mm h => ?_, fun p hp hp2 => ?_⟩
        · cases h
          exact ⟨by omega, hf, rfl⟩
        · by_cases e : p = n
          · subst e
            exact ⟨p, _, rfl, Or.inr ⟨rfl, Nat.le_refl _⟩⟩
          · obtain ⟨q, mm, g1, -⟩ := h2 p (by omega) hp2
            rw [hr] at g1
            cases g1
      | some y =>
        obtain ⟨q0, m0⟩ := y
        obtain ⟨a1, a2, a3⟩ := h1 q0 m0 hr
        show (∀ q mm, (if cts (flp B c n) c 5 < m0 then some (n, cts (flp B c n) c 5) else some (q0, m0)) = some (q, mm) → _) ∧ ∀ p, p < n + 1 → fifth B c p = false → ∃ q mm, (if cts (flp B c n) c 5 < m0 then some (n, cts (flp B c n) c 5) else some (q0, m0)) = some (q, mm) ∧ _
        by_cases hlt : cts (flp B c n) c 5 < m0
        · rw [if_pos hlt]
          refine ⟨fun q mm h => ?_, fun p hp hp2 => ⟨n, _, rfl, ?_⟩⟩
          · cases h
            exact ⟨by omega, hf, rfl⟩
          · by_cases e : p = n
            · subst e
              exact Or.inr ⟨rfl, Nat.le_refl _⟩
            · obtain ⟨q, mm, g1, g2⟩ := h2 p (by omega) hp2
              rw [hr] at g1
              cases g1
              left
              omega
        · rw [if_neg hlt]
          refine ⟨fun q mm h => ?_, fun p hp hp2 => ⟨q0, m0, rfl, ?_⟩⟩
          · cases h
            exact ⟨by omega, a2, a3⟩
          · by_cases e : p = n
            · subst e
              omega
            · obtain ⟨q, mm, g1, g2⟩ := h2 p (by omega) hp2
              rw [hr] at g1
              cases g1
              exact g2
theorem m_relief (K : KS k σ B (some B)) (A : AR m n ξ B) (hc : c < n) (x7 x9 : Int) : RUN (loop (f_L_law_397B m n N xs (n : Int) (m : Int) x7 x9 c (rl1 (rlf B c m))) FU (0, (σ, ξ))) (fun e => ∃ ρ, KS k ρ B (some B) ∧ e = .inr (ρ, ξ)) := by
  have hc2 : (c : Int) < B 8 1 := by have := A.2.1; omega
  have hm10 := A.2.2.1
  obtain ⟨r1, r2⟩ := rlf_is B c m
  refine RUN.loop (fun s => ∃ (p : Nat) (ρ : Mem), p ≤ m ∧ KS k ρ B (some B) ∧ s = ((p : Int), (ρ, ξ))) (fun s => (20 - s.1).toNat) ⟨0, σ, Nat.zero_le _, K, rfl⟩ (Nat.le_of_ble_eq_true rfl) ?_
  rintro _ ⟨p, ρ, hp, K1, rfl⟩
  show RUN (f_L_law_397C m n N xs (n : Int) (m : Int) x7 x9 c (rl1 (rlf B c m)) (p : Int) (ρ, ξ)) _
  unfold f_L_law_397C
  by_cases hend : (m : Int) ≤ p
  · exact RUN.pos hend (RUN.ok ⟨ρ, K1, rfl⟩)
  · have hpm : p < m := by omega
    have hp2 : (p : Int) < B 8 0 := by have := A.1; omega
    have less : (20 - ((p + 1 : Nat) : Int)).toNat < (20 - (p : Int)).toNat := by omega
    have last : ∀ ρ2, KS k ρ2 B (some B) → ∃ (q : Nat) (ρ : Mem), q ≤ m ∧ KS k ρ B (some B) ∧ (((p + 1 : Nat) : Int), ((ρ2, ξ) : M2)) = ((q : Int), (ρ, ξ)) := fun ρ2 K2 => ⟨p + 1, ρ2, by omega, K2, rfl⟩
    have nxt : ∀ (μ : M2) (x12 : Int), f_L_law_461 m n N xs μ (n : Int) (m : Int) x7 x9 c x12 (p : Int) = some (.inl (((p + 1 : Nat) : Int), μ)) := fun μ x12 => by
      unfold f_L_law_461
      simp only [Option.bind_some]
      rw [j_s (by omega)]
    refine RUN.neg hend ?_
    refine RUN.call (a_whatIf K1 (by omega) hc2 hp2) fun ρ2 K2 => ?_
    refine RUN.to ?_
    cases hf : fifth B c p with
    | true =>
      refine RUN.pos (show wiV B c p < 0 by unfold wiV; rw [hf, bt]; decide) ?_
      exact RUN.eq (nxt _ _) ⟨last ρ2 K2, less⟩
    | false =>
      have ew : wiV B c p = ((cts (flp B c p) c 5 : Nat) : Int) := by unfold wiV; rw [hf]; rfl
      obtain ⟨q, mm, g1, g2⟩ := r2 p hpm hf
      obtain ⟨q1, q2, q3⟩ := r1 q mm g1
      have er : rl1 (rlf B c m) = (q : Int) := by rw [g1]; rfl
      have eq : wiV B c q = ((mm : Nat) : Int) := by unfold wiV; rw [q2, q3]; rfl
      have hq2 : (q : Int) < B 8 0 := by have := A.1; omega
      refine RUN.neg (show ¬ wiV B c p < 0 by rw [ew]; omega) ?_
      rw [er]
      refine RUN.neg (by omega) ?_
      refine RUN.call (a_whatIf K2 (by omega) hc2 hq2) fun ρ3 K3 => ?_
      refine RUN.neg (show ¬ wiV B c p < wiV B c q by rw [ew, eq]; omega) ?_
      refine RUN.call (a_whatIf K3 (by omega) hc2 hq2) fun ρ4 K4 => ?_
      by_cases he : wiV B c p = wiV B c q
      · refine RUN.neg (show ¬ wiV B c p ≠ wiV B c q by rw [he]; simp) ?_
        rw [ew, eq] at he
        refine RUN.pos (show (q : Int) ≤ (p : Int) by omega) ?_
        exact RUN.eq (nxt _ _) ⟨last ρ4 K4, less⟩
      · refine RUN.pos he ?_
        exact RUN.eq (nxt _ _) ⟨last ρ4 K4, less⟩
end
