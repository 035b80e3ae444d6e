/-! MOVES BETWEEN ROOMS, as the law counts them -/
def mvT (rm : Nat → Option Nat) : Nat → Nat
  | 0 => 0
  | k + 1 => mvT rm k + if oI (rm (k + 1)) = oI (rm k) then 0 else 1
theorem mvT_le (rm : Nat → Option Nat) : ∀ k, mvT rm k ≤ k
  | 0 => Nat.le_refl _
  | k + 1 => by
    have := mvT_le rm k
    show mvT rm k + (if oI (rm (k + 1)) = oI (rm k) then 0 else 1) ≤ k + 1
    split <;> omega
section
variable {lf : Lf} {R : Nat} {ps : Pc}
theorem mv_at {b0 m0 : Nat} (h : fa (ct lf R ps) none R = some (b0, m0)) : ∀ i, i < ps.length → ∃ b C, rmF lf R ps i = some b ∧ ct lf R (ps.drop i) b = some C ∧ m0 = C + mvT (rmF lf R ps) i
  | 0, hi => by
    obtain ⟨h1, k, h2, h3⟩ := fa_in h
    refine ⟨b0, k, ?_, h2, h3⟩
    show (fa (ct lf R ps) none R).map (·.1) = some b0
    rw [h]
    rfl
  | i + 1, hi => by
    obtain ⟨b, C, g1, g2, g3⟩ := mv_at h i (by omega)
    rw [drop_c (by omega), ct_c] at g2
    cases hs : seB lf (ps.getD i (0, 0)) b with
    | false => rw [hs, bf] at g2; cases g2
    | true =>
      rw [hs, bt, drop_e, decide_eq_false (by omega), bf] at g2
      cases hf : fa (ct lf R (ps.drop (i + 1))) (some b) R with
      | none => rw [hf] at g2; cases g2
      | some y =>
        obtain ⟨b', C'⟩ := y
        rw [hf] at g2
        have g2 : C' = C := Option.some.inj g2
        obtain ⟨h1, k', h2, h3⟩ := fa_in hf
        have er : rmF lf R ps (i + 1) = some b' := by
          show (match rmF lf R ps i with | none => none | some b => (fa (ct lf R (ps.drop (i + 1))) (some b) R).map (·.1)) = some b'
          rw [g1]
          show (fa (ct lf R (ps.drop (i + 1))) (some b) R).map (·.1) = some b'
          rw [hf]
          rfl
        refine ⟨b', k', er, h2, ?_⟩
        have em : mvT (rmF lf R ps) (i + 1) = mvT (rmF lf R ps) i + if oI (rmF lf R ps (i + 1)) = oI (rmF lf R ps i) then 0 else 1 := rfl
        rw [em, er, g1]
        have h3 : C' = k' + (if b = b' then 0 else 1) := h3
        have eo : (oI (some b') = oI (some b)) ↔ b = b' := by
          show ((b' : Int) = (b : Int)) ↔ _
          omega
        by_cases e : b = b'
        · rw [if_pos e] at h3
          rw [if_pos (eo.mpr e)]
          omega
        · rw [if_neg e] at h3
          rw [if_neg (fun z => e (eo.mp z))]
          omega
theorem mv_is (h0 : 0 ≤ mvF lf R ps) {z : Nat} (hz : ps.length = z + 1) : mvF lf R ps = ((mvT (rmF lf R ps) z : Nat) : Int) := by
  unfold mvF at h0 ⊢
  have he : ps.isEmpty = false := by
    cases ps with
    | nil => cases hz
    | cons p q => rfl
  rw [he, bf] at h0 ⊢
  cases hf : fa (ct lf R ps) none R with
  | none => rw [hf] at h0; exact absurd h0 (by show ¬ (0 : Int) ≤ -1; decide)
  | some y =>
    obtain ⟨b0, m0⟩ := y
    obtain ⟨b, C, g1, g2, g3⟩ := mv_at hf z (by omega)
    rw [drop_c (by omega), ct_c] at g2
    cases hs : seB lf (ps.getD z (0, 0)) b with
    | false => rw [hs, bf] at g2; cases g2
    | true =>
      rw [hs, bt, drop_e, decide_eq_true (by omega), bt] at g2
      have g2 : 0 = C := Option.some.inj g2
      show ((m0 : Nat) : Int) = _
      rw [g3, ← g2, Nat.zero_add]
end
/-! THE LAW'S END -/
section
variable {m n N : Nat} {xs : Nat → Int32} {k : Nat} {σ ξ : Mem} {B : Bk} {J : Option Bk}
theorem e_left (K : KS k σ B J) (h2 : B 8 2 = 2) (x7 : Int) : RUN (loop (f_L_law_857B m n N xs x7) FU (0, (σ, ξ))) (fun e => ∃ ρ, KS k ρ B J ∧ e = .inr (ρ, ξ)) := by
  refine RUN.loop (fun s => ∃ (t : Nat) (ρ : Mem), t ≤ 10 ∧ KS k ρ B J ∧ s = (5 * (t : Int), (ρ, ξ))) (fun s => (100 - s.1).toNat) ⟨0, σ, Nat.zero_le _, K, rfl⟩ (Nat.le_of_ble_eq_true rfl) ?_
  rintro _ ⟨t, ρ, ht, K1, rfl⟩
  show RUN (f_L_law_857C m n N xs x7 (5 * (t : Int)) (ρ, ξ)) _
  unfold f_L_law_857C
  by_cases hend : (48 : Int) ≤ 5 * (t : Int)
  · exact RUN.pos hend (RUN.ok ⟨ρ, K1, rfl⟩)
  · have less : (100 - (5 * ((t + 1 : Nat) : Int))).toNat < (100 - 5 * (t : Int)).toNat := by omega
    refine RUN.neg hend ?_
    unfold f_L_law_867
    refine RUN.bind (P := fun e => ∃ ρ, KS k ρ B J ∧ e = .inr (ρ, ξ)) ?_ ?_
    · refine RUN.loop (fun s => ∃ (r : Nat) (ρ : Mem), r ≤ 2 ∧ KS k ρ B J ∧ s = ((r : Int), (ρ, ξ))) (fun s => (20 - s.1).toNat) ⟨0, ρ, Nat.zero_le _, K1, rfl⟩ (Nat.le_of_ble_eq_true rfl) ?_
      rintro _ ⟨r, ρ, hr, K2, rfl⟩
      show RUN (f_L_law_867C m n N xs x7 (5 * (t : Int)) (r : Int) (ρ, ξ)) _
      unfold f_L_law_867C
      by_cases hend2 : (2 : Int) ≤ r
      · exact RUN.pos hend2 (RUN.ok ⟨ρ, K2, rfl⟩)
      · have less2 : (20 - ((r + 1 : Nat) : Int)).toNat < (20 - (r : Int)).toNat := by omega
        refine RUN.neg hend2 ?_
        obtain ⟨v, hv, g⟩ := a_left K2 (Q := r) (by omega) (D := 0) (by decide) (T := 5 * t) (by omega)
        rw [show ((5 * t : Nat) : Int) = 5 * (t : Int) by omega] at g
        refine RUN.call g fun ρ3 K3 => ?_
        refine RUN.pos hv ?_
        refine RUN.to ?_
        rw [j_s (by omega)]
        exact RUN.ok ⟨⟨r + 1, ρ3, by omega, K3, rfl⟩, less2⟩
    · rintro _ ⟨ρ2, K2, rfl⟩
      show RUN (f_L_law_894 m n N xs (ρ2, ξ) x7 (5 * (t : Int))) _
      unfold f_L_law_894
      refine RUN.to ?_
      rw [show jadd (5 * (t : Int)) 5 = 5 * ((t + 1 : Nat) : Int) from by rw [jadd_ok (by omega) (by omega)]; omega]
      exact RUN.ok ⟨⟨t + 1, ρ2, by omega, K2, rfl⟩, less⟩
theorem e_moves (K : KS k σ B J) {c D : Nat} (hc2 : (c : Int) < B 8 1) (hD : D < 5) (hc : c < 100) (x2 x7 : Int) : RUN (f_L_law_768 m n N xs (σ, ξ) x2 x7 c D ((psD B D c).length : Int) 0 1) (fun r => ∃ ρ, KS k ρ B J ∧ r = .inl (((c + 1 : Nat) : Int), (ρ, ξ))) := by
  obtain ⟨lf, hlf⟩ : ∃ lf, lf = lfC B (B 8 2).toNat D c := ⟨_, rfl⟩
  obtain ⟨ps, hps⟩ : ∃ ps, ps = psD B D c := ⟨_, rfl⟩
  obtain ⟨R, hR⟩ : ∃ R, R = (B 8 2).toNat := ⟨_, rfl⟩
  have hroom : ∀ (ρ : Mem) (i : Nat), KS k ρ B J → i < ps.length → GIVES (f_X10_roomOf ρ c D i) (oI (rmF lf R ps i)) k B J := fun ρ i K' hi => by
    rw [hlf, hps, hR]
    exact a_roomOf K' hc2 hD (by rw [← hps]; exact hi)
  have hmv : ∀ ρ, KS k ρ B J → GIVES (f_X10_pieces ρ c D 1) (mvF lf R ps) k B J := fun ρ K' => by
    rw [hlf, hps, hR]
    exact a_pieces K' hc2 hD (x := 1) (by decide)
  have h9 : ps.length ≤ 9 := by
    obtain ⟨ρ, a1, a2, N', R', hN, hRR, s1, s2, s3⟩ := a_lay K hD
    rw [hps]
    exact s3 c (by omega)
  rw [← hps]
  unfold f_L_law_768
  refine RUN.bind (P := fun e => ∃ ρ, KS k ρ B J ∧ e = (((mvT (rmF lf R ps) (ps.length - 1) : Nat) : Int), (ρ, ξ))) ?_ ?_
  · refine RUN.loop (fun s => ∃ (i : Nat) (ρ : Mem), (i = 0 ∨ i < ps.length) ∧ KS k ρ B J ∧ s = (((mvT (rmF lf R ps) i : Nat) : Int), ((i + 1 : Nat) : Int), (ρ, ξ))) (fun s => (20 - s.2.1).toNat) ⟨0, σ, Or.inl rfl, K, rfl⟩ (Nat.le_of_ble_eq_true rfl) ?_
    rintro _ ⟨i, ρ, hi, K1, rfl⟩
    show RUN (f_L_law_768C m n N xs x2 x7 c D (ps.length : Int) ((mvT (rmF lf R ps) i : Nat) : Int) ((i + 1 : Nat) : Int) (ρ, ξ)) _
    unfold f_L_law_768C
    by_cases hend : (ps.length : Int) ≤ ((i + 1 : Nat) : Int)
    · refine RUN.pos hend (RUN.ok ⟨ρ, K1, ?_⟩)
      rw [show ps.length - 1 = i by omega]
    · have hil : i + 1 < ps.length := by omega
      have less : (20 - ((i + 1 + 1 : Nat) : Int)).toNat < (20 - ((i + 1 : Nat) : Int)).toNat := by omega
      have hle := mvT_le (rmF lf R ps) i
      refine RUN.neg hend ?_
      refine RUN.call (hroom ρ (i + 1) K1 hil) fun ρ2 K2 => ?_
      rw [show jsub ((i + 1 : Nat) : Int) 1 = (i : Int) from by rw [jsub_ok (by omega) (by omega)]; omega]
      refine RUN.call (hroom ρ2 i K2 (by omega)) fun ρ3 K3 => ?_
      have em : mvT (rmF lf R ps) (i + 1) = mvT (rmF lf R ps) i + if oI (rmF lf R ps (i + 1)) = oI (rmF lf R ps i) then 0 else 1 := rfl
      by_cases e : oI (rmF lf R ps (i + 1)) = oI (rmF lf R ps i)
      · refine RUN.pos e ?_
        unfold f_L_law_809
        refine RUN.to (RUN.to ?_)
        rw [if_pos e] at em
        rw [j_s (by omega), show jadd ((mvT (rmF lf R ps) i : Nat) : Int) 0 = ((mvT (rmF lf R ps) (i + 1) : Nat) : Int) from by rw [em, jadd_ok (by omega) (by omega)]; omega]
        exact RUN.ok ⟨⟨i + 1, ρ3, Or.inr hil, K3, rfl⟩, less⟩
      · refine RUN.neg e ?_
        unfold f_L_law_809
        refine RUN.to (RUN.to ?_)
        rw [if_neg e] at em
        rw [show jadd ((mvT (rmF lf R ps) i : Nat) : Int) 1 = ((mvT (rmF lf R ps) (i + 1) : Nat) : Int) from by rw [em, jadd_ok (by omega) (by omega)]; omega, j_s (i := i + 1) (by omega)]
        exact RUN.ok ⟨⟨i + 1, ρ3, Or.inr hil, K3, rfl⟩, less⟩
  · rintro _ ⟨ρ, K1, rfl⟩
    show RUN (f_L_law_818 m n N xs (ρ, ξ) x2 x7 c D ((mvT (rmF lf R ps) (ps.length - 1) : Nat) : Int)) _
    have nxt : ∀ ρ2, KS k ρ2 B J → RUN (f_L_law_848 m n N xs (ρ2, ξ) x2 x7 c) (fun r => ∃ ρ, KS k ρ B J ∧ r = .inl (((c + 1 : Nat) : Int), (ρ, ξ))) := fun ρ2 K2 => by
      unfold f_L_law_848
      refine RUN.to ?_
      rw [j_s (by omega)]
      exact RUN.ok ⟨ρ2, K2, rfl⟩
    unfold f_L_law_818
    refine RUN.call (hmv ρ K1) fun ρ2 K2 => ?_
    by_cases h0 : mvF lf R ps < 0
    · exact RUN.pos h0 (nxt ρ2 K2)
    · refine RUN.neg h0 ?_
      refine RUN.call (hmv ρ2 K2) fun ρ3 K3 => ?_
      refine RUN.pos ?_ (nxt ρ3 K3)
      show mvF lf R ps = ((mvT (rmF lf R ps) (ps.length - 1) : Nat) : Int)
      by_cases hz : ps.length = 0
      · have : ps = [] := List.eq_nil_of_length_eq_zero hz
        rw [this]
        rfl
      · obtain ⟨z, hz2⟩ : ∃ z, ps.length = z + 1 := ⟨ps.length - 1, by omega⟩
        rw [mv_is (by omega) hz2, show ps.length - 1 = z by omega]
end
