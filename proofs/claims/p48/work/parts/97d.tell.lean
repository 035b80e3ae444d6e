/-! WHAT IS TOLD: a fifth paper, candidates, papers -/
section
variable {m n N : Nat} {xs : Nat → Int32} {k : Nat} {σ ξ : Mem} {B : Bk} {J : Option Bk} {c p : Nat}
/-- the papers of p's day among the first k that are taken -/
theorem l_fifth (hm : B 8 0 = (m : Int)) (w : WF B) (hc2 : (c : Int) < B 8 1) (hday : ∀ q : Nat, q < m → ξ (2 + q) 0 = B 0 q) (htk : ξ (3 + m + c) 3 = B 6 c) (hp : p < m) (hm10 : m ≤ 10) : f_L_isFifth m n N xs (σ, ξ) (3 + (m : Int) + c) p = some (if fifth B c p then 1 else 0) := by
  have hn := w.1
  unfold WFn at hn
  have h6 := (w.2.2.1 c (by omega) hc2).2.2.2.1
  obtain ⟨T, hT⟩ := n_of h6.1
  have ht : ∀ q, tk B c q = T.testBit q := fun q => by unfold tk; rw [hT, Int.toNat_natCast]
  have hj : ∀ q : Nat, q < 12 → jand (ξ (3 + (m : Int) + c) 3) (jshl 1 (q : Int)) = ((if tk B c q then 2 ^ q else 0 : Nat) : Int) := fun q hq => by rw [htk, hT, jand_bit (by omega) hq, ht]
  have h2p : ∀ q : Nat, 0 < 2 ^ q := fun q => Nat.lt_of_lt_of_le (show 0 < 2 ^ 0 by decide) (Nat.pow_le_pow_right (by decide) (Nat.zero_le _))
  obtain ⟨g, hg⟩ : ∃ g : Nat → Bool, g = fun q => tk B c q && decide (B 0 q = B 0 p) := ⟨_, rfl⟩
  have hcnt : cnt (fun i => (od B c (B 0 p)).testBit i) 12 = cnt g m := by
    rw [cnt_cut (f := fun i => (od B c (B 0 p)).testBit i) (n := m) (fun i hi => by rw [od_tb]; simp; omega) 12 (by omega)]
    refine cnt_congr fun i hi => ?_
    rw [od_tb, hg, decide_eq_true (show i < 12 by omega), decide_eq_true (show (i : Int) < B 8 0 by omega)]
    show (true && ((true && decide (B 0 i = B 0 p)) && tk B c i)) = (tk B c i && decide (B 0 i = B 0 p))
    cases tk B c i <;> cases decide (B 0 i = B 0 p) <;> rfl
  have key : RUN (loop (f_L_isFifth_5B m n N xs (σ, ξ) (3 + (m : Int) + c) p) FU (0, 0)) (fun e => e = ((cnt g m : Nat) : Int)) := by
    refine RUN.loop (fun s => ∃ q : Nat, q ≤ m ∧ s = (((cnt g q : Nat) : Int), (q : Int))) (fun s => (20 - s.2).toNat) ⟨0, Nat.zero_le _, rfl⟩ (Nat.le_of_ble_eq_true rfl) ?_
    rintro _ ⟨q, hq, rfl⟩
    show RUN (f_L_isFifth_5C m n N xs (σ, ξ) (3 + (m : Int) + c) p ((cnt g q : Nat) : Int) (q : Int)) _
    unfold f_L_isFifth_5C
    by_cases hend : ((m : Nat) : Int) ≤ q
    · have : q = m := by omega
      subst this
      exact RUN.pos hend (RUN.ok rfl)
    · have hqm : q < m := by omega
      have hcl := cnt_le g q
      have less : (20 - ((q + 1 : Nat) : Int)).toNat < (20 - (q : Int)).toNat := by omega
      have fin : ∀ (s : Int) (P : (Int × Int) ⊕ Int → Prop), s = (if g q then 1 else 0) → P (.inl (((cnt g (q + 1) : Nat) : Int), ((q + 1 : Nat) : Int))) → RUN (f_L_isFifth_43 m n N xs (σ, ξ) (3 + (m : Int) + c) p (q : Int) s ((cnt g q : Nat) : Int)) P := fun s P h1 hP => by
        unfold f_L_isFifth_43
        refine RUN.to (RUN.to ?_)
        have e : jadd ((cnt g q : Nat) : Int) s = ((cnt g (q + 1) : Nat) : Int) := by
          rw [cnt_s, h1]
          cases g q with
          | true => rw [bt, bt, jadd_ok (by omega) (by omega)]; omega
          | false => rw [bf, bf, jadd_ok (by omega) (by omega)]; omega
        rw [e, j_s (by omega)]
        exact RUN.ok hP
      refine RUN.neg hend (RUN.chk ⟨by decide, by decide⟩ ?_)
      cases htq : tk B c q with
      | false =>
        refine RUN.pos (show jand (ξ (3 + (m : Int) + c) 3) (jshl 1 (q : Int)) = 0 by rw [hj q (by omega), htq]; rfl) ?_
        unfold f_L_isFifth_42
        exact fin 0 _ (by rw [hg]; show (0 : Int) = if (tk B c q && _) then 1 else 0; rw [htq]; rfl) ⟨⟨q + 1, by omega, rfl⟩, less⟩
      | true =>
        have := h2p q
        refine RUN.neg (show ¬ jand (ξ (3 + (m : Int) + c) 3) (jshl 1 (q : Int)) = 0 by rw [hj q (by omega), htq, bt]; omega) ?_
        refine RUN.chk ⟨by omega, by omega⟩ (RUN.chk ⟨by decide, by decide⟩ (RUN.chk ⟨by omega, by omega⟩ (RUN.chk ⟨by decide, by decide⟩ ?_)))
        by_cases hd : B 0 q = B 0 p
        · refine RUN.neg (show ¬ ξ (2 + (q : Int)) 0 ≠ ξ (2 + (p : Int)) 0 by rw [hday q hqm, hday p hp, hd]; simp) ?_
          exact fin 1 _ (by rw [hg]; show (1 : Int) = if (tk B c q && decide (B 0 q = B 0 p)) then 1 else 0; rw [htq, decide_eq_true hd]; rfl) ⟨⟨q + 1, by omega, rfl⟩, less⟩
        · refine RUN.pos (show ξ (2 + (q : Int)) 0 ≠ ξ (2 + (p : Int)) 0 by rw [hday q hqm, hday p hp]; exact hd) ?_
          unfold f_L_isFifth_42
          exact fin 0 _ (by rw [hg]; show (0 : Int) = if (tk B c q && decide (B 0 q = B 0 p)) then 1 else 0; rw [htq, decide_eq_false hd]; rfl) ⟨⟨q + 1, by omega, rfl⟩, less⟩
  obtain ⟨e, he1, he2⟩ := key
  unfold f_L_isFifth f_L_isFifth_5
  rw [he1]
  show f_L_isFifth_51 m n N xs (σ, ξ) (3 + (m : Int) + c) p e = _
  unfold f_L_isFifth_51
  unfold fifth
  rw [hcnt, he2]
  by_cases h4 : cnt g m = 4
  · rw [if_neg (by omega), chk_pos ⟨by decide, by decide⟩]
    cases htp : tk B c p with
    | true =>
      have := h2p p
      rw [if_pos (show jand (ξ (3 + (m : Int) + c) 3) (jshl 1 (p : Int)) ≠ 0 by rw [hj p (by omega), htp, bt]; omega)]
      rfl
    | false =>
      rw [if_neg (show ¬ jand (ξ (3 + (m : Int) + c) 3) (jshl 1 (p : Int)) ≠ 0 by rw [hj p (by omega), htp]; simp), decide_eq_true h4]
      rfl
  · rw [if_pos (by omega), decide_eq_false h4, Bool.and_false]
    rfl
end
