/-! THE CANDIDATES, one by one; the rooms -/
section
variable {m n N : Nat} {xs : Nat → Int32} {k : Nat} {σ ξ : Mem} {B : Bk} {c : Nat}
/-- the kept slots of the first a candidates -/
def ktB (B : Bk) : Nat → Int
  | 0 => 0
  | a + 1 => ktB B a + kpt B a 5
theorem hr_twice {v u : Int} : mup (mup B 8 3 v) 8 3 u = mup B 8 3 u := by
  funext x i
  by_cases e : x = 8 ∧ i = 3
  · rw [mup_hit e.1 e.2, mup_hit e.1 e.2]
  · rw [mup_miss e, mup_miss e, mup_miss e]
theorem m_hours (K : KS k σ B (some B)) (A : AR m n ξ B) (hc : c < n) (hk : k < 60000) (x7 x9 : Int) : RUN (f_L_law_467 m n N xs (σ, ξ) (n : Int) (m : Int) x7 x9 c) (fun r => ∃ ρ, KS (k + 5) ρ B (some B) ∧ r = .inl (x9, ((c + 1 : Nat) : Int), (ρ, ξ))) := by
  have hc2 : (c : Int) < B 8 1 := by have := A.2.1; omega
  have hn4 := A.2.2.2.1
  have e81 : ∀ v, mup B 8 3 v 8 1 = B 8 1 := fun v => mup_miss (fun z => absurd z.2 (by decide))
  obtain ⟨r, hq, g⟩ := a_hoursFor K (c := (c : Int)) (by omega) hc2
  have fin : ∀ (k' : Nat) (ρ : Mem) (B' : Bk), KS k' ρ B' (some B) → k' < 80000 → k' + 1 ≤ k + 5 → RUN (f_L_law_555 m n N xs (ρ, ξ) (n : Int) (m : Int) x7 x9 c) (fun r => ∃ ρ, KS (k + 5) ρ B (some B) ∧ r = .inl (x9, ((c + 1 : Nat) : Int), (ρ, ξ))) := fun k' ρ B' K' h1 h2 => by
    unfold f_L_law_555
    refine RUN.call (a_back K' (by omega)) fun ρ2 K2 => ?_
    refine RUN.to ?_
    rw [j_s (by omega)]
    exact RUN.ok ⟨ρ2, K2.mono h2, rfl⟩
  unfold f_L_law_467
  refine RUN.call g fun ρ K1 => ?_
  refine RUN.to ?_
  rcases hq with ⟨h8, h40, hz, hlt⟩ | ⟨h1, hall⟩
  · refine RUN.pos (show 0 ≤ r by omega) ?_
    unfold f_L_law_490
    refine RUN.call (a_hours K1 (by omega) (v := r) ⟨h8, h40⟩) fun ρ2 K2 => ?_
    refine RUN.call (a_candOf K2 (c := (c : Int)) (by omega) (by rw [e81]; exact hc2) (x := 5) (by decide)) fun ρ3 K3 => ?_
    have hz : cts (mup B 8 3 r) c 5 = 0 := hz
    refine RUN.neg (show ¬ ((cts (mup B 8 3 r) c 5 : Nat) : Int) ≠ 0 by rw [hz]; simp) ?_
    unfold f_L_law_510
    refine RUN.neg (show ¬ r < 0 by omega) ?_
    unfold f_L_law_520
    refine RUN.pos rfl ?_
    by_cases h9 : r ≤ 8
    · refine RUN.pos h9 ?_
      exact fin _ _ _ K3 (by omega) (by omega)
    · refine RUN.neg h9 ?_
      have ej : jsub r 1 = r - 1 := jsub_ok (by omega) (by omega)
      rw [ej]
      have g2 := a_hours K3 (by omega) (v := r - 1) ⟨by omega, by omega⟩
      rw [hr_twice] at g2
      refine RUN.call g2 fun ρ4 K4 => ?_
      refine RUN.call (a_candOf K4 (c := (c : Int)) (by omega) (by rw [e81]; exact hc2) (x := 5) (by decide)) fun ρ5 K5 => ?_
      have hne : cts (mup B 8 3 (r - 1)) c 5 ≠ 0 := hlt (r - 1) (by omega) (by omega)
      refine RUN.pos (show ((cts (mup B 8 3 (r - 1)) c 5 : Nat) : Int) ≠ 0 by omega) ?_
      exact fin _ _ _ K5 (by omega) (by omega)
  · subst h1
    refine RUN.neg (show ¬ (0 : Int) ≤ -1 by decide) ?_
    unfold f_L_law_490
    refine RUN.call (a_hours K1 (by omega) (v := 40) (by decide)) fun ρ2 K2 => ?_
    refine RUN.call (a_candOf K2 (c := (c : Int)) (by omega) (by rw [e81]; exact hc2) (x := 5) (by decide)) fun ρ3 K3 => ?_
    have hne : cts (mup B 8 3 40) c 5 ≠ 0 := hall 40 (by decide) (by decide)
    refine RUN.pos (show ((cts (mup B 8 3 40) c 5 : Nat) : Int) ≠ 0 by omega) ?_
    unfold f_L_law_510
    refine RUN.pos (show (-1 : Int) < 0 by decide) ?_
    unfold f_L_law_520
    refine RUN.pos rfl ?_
    refine RUN.pos (show (-1 : Int) ≤ 8 by decide) ?_
    exact fin _ _ _ K3 (by omega) (by omega)
theorem ktB_b (w : WF B) : ∀ a : Nat, (a : Int) ≤ B 8 1 → 0 ≤ ktB B a ∧ ktB B a ≤ 240 * a
  | 0, _ => ⟨Int.le_refl _, Int.le_refl _⟩
  | a + 1, h => by
    have ih := ktB_b w a (by omega)
    have h2 := kpt_b w (c := (a : Int)) (by omega) (by omega) 5
    show 0 ≤ ktB B a + kpt B a 5 ∧ ktB B a + kpt B a 5 ≤ 240 * ((a + 1 : Nat) : Int)
    omega
theorem m_cands (K : KS k σ B (some B)) (A : AR m n ξ B) (hk : k < 50000) (x7 : Int) : RUN (loop (f_L_law_140B m n N xs (n : Int) (m : Int) x7) FU (0, 0, (σ, ξ))) (fun e => ∃ ρ, KS (k + 1200) ρ B (some B) ∧ e = .inr (.inr (.inr (.inr (.inr (.inr (ktB B n, (ρ, ξ)))))))) := by
  have hn4 := A.2.2.2.1
  have hA2 := A.2.1
  refine RUN.loop (fun s => ∃ (c : Nat) (ρ : Mem), c ≤ n ∧ KS (k + 300 * c) ρ B (some B) ∧ s = (ktB B c, (c : Int), (ρ, ξ))) (fun s => (20 - s.2.1).toNat) ⟨0, σ, Nat.zero_le _, K, rfl⟩ (Nat.le_of_ble_eq_true rfl) ?_
  rintro _ ⟨c, ρ, hc, K1, rfl⟩
  show RUN (f_L_law_140C m n N xs (n : Int) (m : Int) x7 (ktB B c) (c : Int) (ρ, ξ)) _
  unfold f_L_law_140C
  by_cases hend : (n : Int) ≤ c
  · have : c = n := by omega
    subst this
    exact RUN.pos hend (RUN.ok ⟨ρ, K1.mono (by omega), rfl⟩)
  · have hcn : c < n := by omega
    have hc2 : (c : Int) < B 8 1 := by omega
    have less : (20 - ((c + 1 : Nat) : Int)).toNat < (20 - (c : Int)).toNat := by omega
    have w := K1.1.2.2.1
    have hb := ktB_b w c (by omega)
    have hb2 := kpt_b w (c := (c : Int)) (by omega) hc2 5
    refine RUN.neg hend ?_
    unfold f_L_law_152
    refine RUN.bind (m_days K1 A hcn (by omega) _ _) ?_
    rintro _ ⟨ρ2, K2, rfl⟩
    show RUN (f_L_law_232 m n N xs (ρ2, ξ) (n : Int) (m : Int) x7 (ktB B c) c (kpt B c 5)) _
    unfold f_L_law_232
    refine RUN.to ?_
    rw [show jadd (ktB B c) (kpt B c 5) = ktB B (c + 1) from jadd_ok (by omega) (by omega)]
    unfold f_L_law_242
    refine RUN.bind (m_whatif K2 A hcn (by omega) _ _) ?_
    rintro _ ⟨ρ3, K3, rfl⟩
    show RUN (f_L_law_385 m n N xs (ρ3, ξ) (n : Int) (m : Int) x7 (ktB B (c + 1)) c) _
    unfold f_L_law_385
    have gr := a_relief K3 (c := (c : Int)) (by omega) hc2
    rw [show (B 8 0).toNat = m by have := A.1; omega] at gr
    refine RUN.call gr fun ρ4 K4 => ?_
    refine RUN.to ?_
    unfold f_L_law_397
    refine RUN.bind (m_relief K4 A hcn _ _) ?_
    rintro _ ⟨ρ5, K5, rfl⟩
    show RUN (f_L_law_467 m n N xs (ρ5, ξ) (n : Int) (m : Int) x7 (ktB B (c + 1)) c) _
    refine (m_hours K5 A hcn (by omega) _ _).mono ?_
    rintro _ ⟨ρ6, K6, rfl⟩
    exact ⟨⟨c + 1, ρ6, by omega, K6.mono (by omega), rfl⟩, less⟩
/-- two rooms -/
theorem AR_room (A : AR m n ξ B) (s : Int) : AR m n ξ (addR B s) := by
  obtain ⟨a1, a2, a3, a4, a5, a6, a7⟩ := A
  have e8 := addR_8 (B := B) (s := s)
  exact ⟨by rw [e8.2 0 (by decide)]; exact a1, by rw [e8.2 1 (by decide)]; exact a2, a3, a4, fun p hp => by rw [addR_r (by decide), addR_r (by decide)]; exact a5 p hp, fun c hc => by rw [addR_r (by decide)]; exact a6 c hc, by rw [e8.2 4 (by decide)]; exact a7⟩
theorem m_rooms (K : KS k σ B none) (A : AR m n ξ B) (hk : k < 50000) (h82 : B 8 2 = 0) (x2 x3 : Int) : RUN (loop (f_L_law_90B m n N xs x2 x3) FU (0, (σ, ξ))) (fun e => ∃ ρ B', KS (k + 2) ρ B' none ∧ AR m n ξ B' ∧ B' 8 2 = 2 ∧ e = (ρ, ξ)) := by
  refine RUN.loop (fun s => ∃ (r : Nat) (ρ : Mem) (B' : Bk), r ≤ 2 ∧ KS (k + r) ρ B' none ∧ AR m n ξ B' ∧ B' 8 2 = r ∧ s = ((r : Int), (ρ, ξ))) (fun s => (20 - s.1).toNat) ⟨0, σ, B, Nat.zero_le _, K, A, h82, rfl⟩ (Nat.le_of_ble_eq_true rfl) ?_
  rintro _ ⟨r, ρ, B', hr, K1, A1, h2, rfl⟩
  show RUN (f_L_law_90C m n N xs x2 x3 (r : Int) (ρ, ξ)) _
  unfold f_L_law_90C
  by_cases hend : (2 : Int) ≤ r
  · have : r = 2 := by omega
    subst this
    exact RUN.pos hend (RUN.ok ⟨ρ, B', K1, A1, h2, rfl⟩)
  · have less : (20 - ((r + 1 : Nat) : Int)).toNat < (20 - (r : Int)).toNat := by omega
    have hb := pk_b (N := N) (xs := xs) (i := 240 + (r : Int)) (k := 3) (by omega) ⟨by decide, by decide⟩
    refine RUN.neg hend ?_
    rw [show jadd 240 (r : Int) = 240 + (r : Int) from jadd_ok (by omega) (by omega)]
    refine RUN.bind (P := fun v => v = pkv N xs (240 + (r : Int)) 3) (RUN.eq (pk_is (by omega) (by decide)) rfl) ?_
    rintro _ rfl
    rw [show jadd 1 (pkv N xs (240 + (r : Int)) 3) = 1 + pkv N xs (240 + (r : Int)) 3 from jadd_ok (by omega) (by omega)]
    refine RUN.call (a_room K1 (by omega) (by omega) (s := 1 + pkv N xs (240 + (r : Int)) 3) (by omega)) fun ρ2 K2 => ?_
    refine RUN.to ?_
    rw [j_s (by omega)]
    exact RUN.ok ⟨⟨r + 1, ρ2, _, by omega, K2, AR_room A1 _, by rw [addR_8.1, h2]; omega, rfl⟩, less⟩
end
