/-! WHAT IS TOLD: all of it -/
/-- the arrays and the book, with the first a candidates told -/
def TR (m n N : Nat) (xs : Nat → Int32) (ξ : Mem) (B : Bk) (a : Nat) : Prop := B 8 0 = m ∧ B 8 1 = a ∧ B 8 2 = 0 ∧ (∀ p : Nat, p < m → ξ (2 + p) 0 = B 0 p ∧ ξ (2 + p) 1 = B 1 p) ∧ (∀ j : Nat, j < a → ξ (3 + m + j) 3 = B 6 j) ∧ ξ 0 1 = B 8 4 ∧ (∀ x j, ¬ (3 + (m : Int) ≤ x ∧ j = 3) → ξ x j = xiQ N xs m n x j) ∧ ∀ j : Nat, a ≤ j → j < n → ξ (3 + m + j) 3 = 0
section
variable {m n N : Nat} {xs : Nat → Int32} {k : Nat} {σ ξ : Mem} {B : Bk} {J : Option Bk} {c p : Nat}
theorem TR.put {a : Nat} (h : TR m n N xs ξ B a) (hc : c < a) {v : Int} (hv : v = flp B c p 6 c) : TR m n N xs (mup ξ (3 + (m : Int) + c) 3 v) (flp B c p) a := by
  obtain ⟨h1, h2, h3, h4, h5, h6, h7, h8⟩ := h
  refine ⟨by rw [flp_r (by decide)]; exact h1, by rw [flp_r (by decide)]; exact h2, by rw [flp_r (by decide)]; exact h3, fun q hq => ?_, fun j hj => ?_, ?_, fun x j hx => ?_, fun j j1 j2 => ?_⟩
  · rw [mup_miss (fun z => absurd z.2 (by decide)), mup_miss (fun z => absurd z.2 (by decide)), flp_r (by decide), flp_r (by decide)]
    exact h4 q hq
  · by_cases e : j = c
    · subst e
      rw [mup_hit rfl rfl, hv]
    · rw [mup_miss (by omega), flp_o (by omega)]
      exact h5 j hj
  · rw [mup_miss (fun z => absurd z.2 (by decide)), flp_r (by decide)]
    exact h6
  · rw [mup_miss (by omega)]
    exact h7 x j hx
  · rw [mup_miss (by omega)]
    exact h8 j j1 j2
theorem TR.same {a : Nat} (h : TR m n N xs ξ B a) {r : Int} (v : Int) (hv : ξ r 3 = v) : mup ξ r 3 v = ξ := by
  funext x j
  by_cases e : x = r ∧ j = 3
  · rw [mup_hit e.1 e.2, e.1, e.2, hv]
  · rw [mup_miss e]
theorem t_253 {x2 x7 : Int} {μ : M2} (hp : p < 100) : f_L_tell_253 m n N xs μ x2 1 x7 (p : Int) = some (.inl (1, ((p + 1 : Nat) : Int), μ)) := by
  unfold f_L_tell_253
  simp only [Option.bind_some]
  rw [j_s (by omega)]
/-- one candidate's papers -/
theorem t_154 (K : KS k σ B none) (hk : k + m < 80000) (h : TR m n N xs ξ B (c + 1)) (hm10 : m ≤ 10) (hn4 : n ≤ 4) (hc : c < n) (h0 : ∀ q, tk B c q = false) : RUN (f_L_tell_154 m n N xs (σ, ξ) 110 1 c 0) (fun r => ∃ ρ ξ' B', KS (k + m) ρ B' none ∧ TR m n N xs ξ' B' (c + 1) ∧ r = .inl (1, ((c + 1 : Nat) : Int), (ρ, ξ'))) := by
  unfold f_L_tell_154
  refine RUN.bind (P := fun e => ∃ ρ ξ' B', KS (k + m) ρ B' none ∧ TR m n N xs ξ' B' (c + 1) ∧ e = (1, (ρ, ξ'))) ?_ ?_
  · refine RUN.loop (fun s => ∃ (p : Nat) (ρ ξ' : Mem) (B' : Bk), p ≤ m ∧ KS (k + p) ρ B' none ∧ TR m n N xs ξ' B' (c + 1) ∧ (∀ q, p ≤ q → tk B' c q = false) ∧ s = (1, (p : Int), (ρ, ξ'))) (fun s => (20 - s.2.1).toNat) ⟨0, σ, ξ, B, Nat.zero_le _, K, h, fun q _ => h0 q, rfl⟩ (Nat.le_of_ble_eq_true rfl) ?_
    rintro _ ⟨p, ρ, ξ', B', hp, K1, h1, hq, rfl⟩
    show RUN (f_L_tell_154C m n N xs 110 c 1 (p : Int) (ρ, ξ')) _
    unfold f_L_tell_154C
    by_cases hend : ((m : Nat) : Int) ≤ p
    · have : p = m := by omega
      subst this
      exact RUN.pos hend (RUN.ok ⟨ρ, ξ', B', K1, h1, rfl⟩)
    · have hpm : p < m := by omega
      have less : (20 - ((p + 1 : Nat) : Int)).toNat < (20 - (p : Int)).toNat := by omega
      have w := K1.1.2.2.1
      have hn := w.1
      unfold WFn at hn
      have hc2 : (c : Int) < B' 8 1 := by have := h1.2.1; omega
      have hp2 : (p : Int) < B' 8 0 := by have := h1.1; omega
      have h6 := (w.2.2.1 c (by omega) hc2).2.2.2.1
      obtain ⟨T, hT⟩ := n_of h6.1
      have htk := hq p (Nat.le_refl _)
      have hx3 := h1.2.2.2.2.1 c (by omega)
      have ei : jadd (jadd 110 (jmul 12 (c : Int))) (p : Int) = 110 + 12 * (c : Int) + p := by
        rw [jmul_ok (by omega) (by omega), show jadd 110 (12 * (c : Int)) = 110 + 12 * (c : Int) from jadd_ok (by omega) (by omega), jadd_ok (by omega) (by omega)]
      refine RUN.neg hend ?_
      rw [ei]
      refine RUN.bind (P := fun v => v = pkv N xs (110 + 12 * (c : Int) + p) 5) (RUN.eq (pk_is (by omega) (by decide)) rfl) ?_
      rintro _ rfl
      by_cases h3 : (3 : Int) ≤ pkv N xs (110 + 12 * (c : Int) + p) 5
      · refine RUN.pos h3 ?_
        exact RUN.eq (t_253 (by omega)) ⟨⟨p + 1, ρ, ξ', B', by omega, K1.mono (by omega), h1, fun q q1 => hq q (by omega), rfl⟩, less⟩
      · refine RUN.neg h3 ?_
        refine RUN.chk ⟨by omega, by omega⟩ ?_
        refine RUN.bind (P := fun v => v = if fifth B' c p then 1 else 0) (RUN.eq (l_fifth (σ := ρ) (N := N) (xs := xs) (n := n) h1.1 w hc2 (fun q hq => (h1.2.2.2.1 q hq).1) hx3 hpm hm10) rfl) ?_
        rintro _ rfl
        refine RUN.chk ⟨by omega, by omega⟩ (RUN.chk ⟨by decide, by decide⟩ ?_)
        cases hf : fifth B' c p with
        | false =>
          refine RUN.pos (by decide) ?_
          unfold f_L_tell_216
          refine RUN.chk ⟨by decide, by decide⟩ ?_
          refine RUN.to ?_
          refine RUN.neg (by decide) ?_
          have h2p : (2 : Nat) ^ p < 2 ^ 12 := Nat.pow_lt_pow_right (by decide) (by omega)
          have hTp : T.testBit p = false := by
            unfold tk at htk
            rw [hT, Int.toNat_natCast] at htk
            exact htk
          have ev : jor (ξ' (3 + (m : Int) + c) 3) (jshl 1 (p : Int)) = flp B' c p 6 c := by
            rw [hx3, hT, jshl_n (by omega), jor_n (by omega) (by omega), flp_6, hT, Int.toNat_natCast]
            have : T ||| 2 ^ p = T ^^^ 2 ^ p := Nat.eq_of_testBit_eq fun i => by
              rw [Nat.testBit_or, Nat.testBit_xor, Nat.testBit_two_pow]
              by_cases e : p = i
              · subst e
                rw [hTp]
                simp
              · rw [decide_eq_false e]
                cases T.testBit i <;> rfl
            rw [this]
          have g := a_flip K1 (by omega) (by omega) hc2 hp2 hf (t := 1) (by rw [htk]; rfl)
          rw [htk, bf] at g
          refine RUN.call g fun ρ2 K2 => ?_
          refine RUN.pos rfl ?_
          unfold f_L_tell_243
          refine RUN.neg (show ¬ (0 : Int) ≠ 0 by decide) ?_
          unfold f_L_tell_251
          refine RUN.eq (t_253 (by omega)) ⟨⟨p + 1, ρ2, _, _, by omega, K2, h1.put (by omega) ev, fun q q1 => ?_, rfl⟩, less⟩
          rw [flp_tk, hq q (by omega), decide_eq_false (show ¬ q = p by omega)]
          rfl
        | true =>
          refine RUN.neg (by decide) ?_
          unfold f_L_tell_216
          refine RUN.chk ⟨by decide, by decide⟩ ?_
          refine RUN.to ?_
          refine RUN.neg (by decide) ?_
          have ev : mup ξ' (3 + (m : Int) + c) 3 (jor (ξ' (3 + (m : Int) + c) 3) 0) = ξ' := by
            refine h1.same _ ?_
            rw [hx3, hT]
            show _ = jor (T : Int) ((0 : Nat) : Int)
            rw [jor_n (by omega) (by omega), Nat.or_zero]
          show RUN ((f_X10_takes ρ c p 1).bind fun v26 => (if (1 : Int) = 0 then (f_L_tell_243 m n N xs (v26.2, mup ξ' (3 + (m : Int) + c) 3 (jor (ξ' (3 + (m : Int) + c) 3) 0)) 110 c p (0 : Int) v26.1) else (f_L_tell_243 m n N xs (v26.2, mup ξ' (3 + (m : Int) + c) 3 (jor (ξ' (3 + (m : Int) + c) 3) 0)) 110 c p (-55 : Int) v26.1))) _
          rw [ev]
          refine RUN.call (a_stuck K1 (by omega) hc2 hp2 hf) fun ρ2 K2 => ?_
          refine RUN.neg (by decide) ?_
          unfold f_L_tell_243
          refine RUN.neg (show ¬ (-55 : Int) ≠ -55 by decide) ?_
          unfold f_L_tell_251
          exact RUN.eq (t_253 (by omega)) ⟨⟨p + 1, ρ2, ξ', B', by omega, K2.mono (by omega), h1, fun q q1 => hq q (by omega), rfl⟩, less⟩
  · rintro _ ⟨ρ, ξ', B', K1, h1, rfl⟩
    unfold f_L_tell_259
    refine RUN.to ?_
    refine RUN.ok ⟨ρ, ξ', B', K1, h1, ?_⟩
    rw [j_s (by omega)]
end
