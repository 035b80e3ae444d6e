/-! THE LAW ANSWERS TRUE -/
section
variable {m n N : Nat} {xs : Nat → Int32} {k : Nat} {σ ξ : Mem} {B : Bk} {J : Option Bk}
theorem dL_s (B : Bk) : (∀ i j, i < j → j < (dL B).length → dbg ((dL B).getD i du0) ≤ dbg ((dL B).getD j du0)) ∧ ∀ i, i < (dL B).length → 0 < ((dL B).getD i du0).2.2.2 := by
  have h : srtD (dL B) := dD_srt (K := KK B) (N := (B 8 1).toNat) 5
  have g : ∀ x ∈ dL B, x.2.1 < 5 ∧ x.2.2.1 < 48 ∧ 0 < x.2.2.2 := dD_in (K := KK B) (N := (B 8 1).toNat) 5
  refine ⟨fun i j hij hj => srtD_at h hij hj, fun i hi => ?_⟩
  exact (g _ (getD_mem du0 hi)).2.2
theorem slT_s {l : List Du} {i : Nat} (hi : i < l.length) : slL (l.take (i + 1)) = slL (l.take i) + (l.getD i du0).2.2.2 := by
  rw [take_s du0 hi, slL_app]
  rfl
theorem slT_b {l : List Du} (hl : ∀ x ∈ l, okD x) : ∀ i, i ≤ l.length → slL (l.take i) ≤ 48 * i
  | 0, _ => Nat.le_refl _
  | i + 1, h => by
    have ih := slT_b hl i (by omega)
    have := (hl _ (getD_mem du0 (show i < l.length by omega))).2.2.2
    rw [slT_s (by omega)]
    omega
theorem e_pairs (K : KS k σ B J) (hg : ξ 0 1 = B 8 4) {i : Nat} (hi : i < (dL B).length) (x2 x7 x9 x10 x11 : Int) : RUN (loop (f_L_law_604B m n N xs x2 x7 x9 x10 x11 i) FU (0, (σ, ξ))) (fun e => ∃ ρ, KS k ρ B J ∧ e = .inr (ρ, ξ)) := by
  have w := K.1.2.2.1
  have hn := w.1
  unfold WFn at hn
  obtain ⟨hl, h200⟩ := dL_ok w
  obtain ⟨d1, d2⟩ := dL_s B
  have hw := w_all (T := B 8 4) (by omega) d1 d2
  refine RUN.loop (fun s => ∃ (j : Nat) (ρ : Mem), j ≤ i ∧ KS k ρ B J ∧ s = ((j : Int), (ρ, ξ))) (fun s => (300 - s.1).toNat) ⟨0, σ, Nat.zero_le _, K, rfl⟩ (Nat.le_of_ble_eq_true rfl) ?_
  rintro _ ⟨j, ρ, hj, K1, rfl⟩
  show RUN (f_L_law_604C m n N xs x2 x7 x9 x10 x11 i (j : Int) (ρ, ξ)) _
  unfold f_L_law_604C
  by_cases hend : (i : Int) ≤ j
  · exact RUN.pos hend (RUN.ok ⟨ρ, K1, rfl⟩)
  · have hji : j < i := by omega
    have hjl : j < (dL B).length := by omega
    have less : (300 - ((j + 1 : Nat) : Int)).toNat < (300 - (j : Int)).toNat := by omega
    have nxt : ∀ ρ2, KS k ρ2 B J → RUN (f_L_law_692 m n N xs (ρ2, ξ) x2 x7 x9 x10 x11 i (j : Int)) (fun r => ∃ ρ, KS k ρ B J ∧ r = .inl (((j + 1 : Nat) : Int), (ρ, ξ))) := fun ρ2 K2 => by
      unfold f_L_law_692
      refine RUN.to ?_
      rw [j_s (by omega)]
      exact RUN.ok ⟨ρ2, K2, rfl⟩
    have oj := hl _ (getD_mem du0 hjl)
    have oi := hl _ (getD_mem du0 hi)
    obtain ⟨-, o2, o3, o4⟩ := oj
    obtain ⟨-, p2, p3, p4⟩ := oi
    refine RUN.neg hend ?_
    refine RUN.call (a_duty K1 hjl (x := 1) (by decide)) fun ρ2 K2 => ?_
    refine RUN.call (a_duty K2 hjl (x := 2) (by decide)) fun ρ3 K3 => ?_
    refine RUN.call (a_duty K3 hjl (x := 3) (by decide)) fun ρ4 K4 => ?_
    refine RUN.to ?_
    refine RUN.call (a_duty K4 hi (x := 4) (by decide)) fun ρ5 K5 => ?_
    refine RUN.call (a_duty K5 hjl (x := 4) (by decide)) fun ρ6 K6 => ?_
    by_cases he : dyV B i 4 = dyV B j 4
    · refine RUN.neg (show ¬ dyV B i 4 ≠ dyV B j 4 from fun z => z he) ?_
      refine RUN.call (a_duty K6 hi (x := 1) (by decide)) fun ρ7 K7 => ?_
      refine RUN.call (a_duty K7 hi (x := 2) (by decide)) fun ρ8 K8 => ?_
      refine RUN.chk ⟨by decide, by decide⟩ ?_
      have v1 : dyV B j 1 = (((dL B).getD j du0).2.1 : Int) := rfl
      have v2 : dyV B j 2 = (((dL B).getD j du0).2.2.1 : Int) := rfl
      have v3 : dyV B j 3 = (((dL B).getD j du0).2.2.2 : Int) := rfl
      have u1 : dyV B i 1 = (((dL B).getD i du0).2.1 : Int) := rfl
      have u2 : dyV B i 2 = (((dL B).getD i du0).2.2.1 : Int) := rfl
      have hwat : (wgv (B 8 4) (dL B)).2.2.getD i 0 = (wgv (B 8 4) (dL B)).2.2.getD j 0 := by
        have he : (((wgv (B 8 4) (dL B)).2.2.getD i 0 : Nat) : Int) = (((wgv (B 8 4) (dL B)).2.2.getD j 0 : Nat) : Int) := he
        omega
      have key := hw.2.2.2.1 i j hji hi hwat
      have e1 : jadd (jadd (jmul 48 (dyV B j 1)) (dyV B j 2)) (dyV B j 3) = dend ((dL B).getD j du0) := by
        rw [v1, v2, v3, jmul_ok (by omega) (by omega), show jadd (48 * (((dL B).getD j du0).2.1 : Int)) (((dL B).getD j du0).2.2.1 : Int) = 48 * (((dL B).getD j du0).2.1 : Int) + (((dL B).getD j du0).2.2.1 : Int) from jadd_ok (by omega) (by omega), jadd_ok (by omega) (by omega)]
        rfl
      have e2 : jadd (jmul 48 (dyV B i 1)) (dyV B i 2) = dbg ((dL B).getD i du0) := by
        rw [u1, u2, jmul_ok (by omega) (by omega), jadd_ok (by omega) (by omega)]
        rfl
      have b1 : dend ((dL B).getD j du0) = 48 * (((dL B).getD j du0).2.1 : Int) + (((dL B).getD j du0).2.2.1 : Int) + (((dL B).getD j du0).2.2.2 : Int) := rfl
      have e3 : jadd (dend ((dL B).getD j du0)) (ξ 0 1) = dend ((dL B).getD j du0) + B 8 4 := by rw [hg, jadd_ok (by omega) (by omega)]
      refine RUN.pos (show jadd (jadd (jadd (jmul 48 (dyV B j 1)) (dyV B j 2)) (dyV B j 3)) (ξ 0 1) ≤ jadd (jmul 48 (dyV B i 1)) (dyV B i 2) by rw [e1, e2, e3]; exact key) ?_
      refine (nxt ρ8 K8).mono ?_
      rintro _ ⟨ρ9, K9, rfl⟩
      exact ⟨⟨j + 1, ρ9, by omega, K9, rfl⟩, less⟩
    · refine RUN.pos he ?_
      refine (nxt ρ6 K6).mono ?_
      rintro _ ⟨ρ9, K9, rfl⟩
      exact ⟨⟨j + 1, ρ9, by omega, K9, rfl⟩, less⟩
theorem e_duties (K : KS k σ B J) (hg : ξ 0 1 = B 8 4) (x2 x7 x9 : Int) : RUN (loop (f_L_law_581B m n N xs x2 x7 x9 ((dL B).length : Int)) FU (0, 0, (σ, ξ))) (fun e => ∃ ρ, KS k ρ B J ∧ e = .inr (((slL (dL B) : Nat) : Int), (ρ, ξ))) := by
  obtain ⟨hl, h200⟩ := dL_ok K.1.2.2.1
  refine RUN.loop (fun s => ∃ (i : Nat) (ρ : Mem), i ≤ (dL B).length ∧ KS k ρ B J ∧ s = (((slL ((dL B).take i) : Nat) : Int), (i : Int), (ρ, ξ))) (fun s => (300 - s.2.1).toNat) ⟨0, σ, Nat.zero_le _, K, rfl⟩ (Nat.le_of_ble_eq_true rfl) ?_
  rintro _ ⟨i, ρ, hi, K1, rfl⟩
  show RUN (f_L_law_581C m n N xs x2 x7 x9 ((dL B).length : Int) ((slL ((dL B).take i) : Nat) : Int) (i : Int) (ρ, ξ)) _
  unfold f_L_law_581C
  by_cases hend : ((dL B).length : Int) ≤ i
  · refine RUN.pos hend (RUN.ok ⟨ρ, K1, ?_⟩)
    rw [show i = (dL B).length by omega, List.take_length]
  · have hil : i < (dL B).length := by omega
    have less : (300 - ((i + 1 : Nat) : Int)).toNat < (300 - (i : Int)).toNat := by omega
    have hb := slT_b hl i (by omega)
    have hs := slT_s hil
    have o4 := (hl _ (getD_mem du0 hil)).2.2.2
    refine RUN.neg hend ?_
    refine RUN.call (a_duty K1 hil (x := 3) (by decide)) fun ρ2 K2 => ?_
    refine RUN.to ?_
    have v3 : dyV B i 3 = (((dL B).getD i du0).2.2.2 : Int) := rfl
    have e1 : jadd ((slL ((dL B).take i) : Nat) : Int) (dyV B i 3) = ((slL ((dL B).take (i + 1)) : Nat) : Int) := by
      rw [v3, jadd_ok (by omega) (by omega)]
      omega
    show RUN (f_L_law_604 m n N xs (ρ2, ξ) x2 x7 x9 ((dL B).length : Int) (jadd ((slL ((dL B).take i) : Nat) : Int) (dyV B i 3)) i 0) _
    rw [e1]
    unfold f_L_law_604
    refine RUN.bind (e_pairs K2 hg hil _ _ _ _ _) ?_
    rintro _ ⟨ρ3, K3, rfl⟩
    show RUN (f_L_law_698 m n N xs (ρ3, ξ) x2 x7 x9 ((dL B).length : Int) ((slL ((dL B).take (i + 1)) : Nat) : Int) i) _
    unfold f_L_law_698
    refine RUN.to ?_
    rw [j_s (by omega)]
    exact RUN.ok ⟨⟨i + 1, ρ3, by omega, K3, rfl⟩, less⟩
theorem e_seats (K : KS k σ B J) (hn : B 8 1 = n) (hn4 : n ≤ 4) (x7 : Int) : RUN (loop (f_L_law_731B m n N xs (n : Int) x7) FU (0, (σ, ξ))) (fun e => ∃ ρ, KS k ρ B J ∧ e = .inr (ρ, ξ)) := by
  refine RUN.loop (fun s => ∃ (c : Nat) (ρ : Mem), c ≤ n ∧ KS k ρ B J ∧ s = ((c : Int), (ρ, ξ))) (fun s => (300 - s.1).toNat) ⟨0, σ, Nat.zero_le _, K, rfl⟩ (Nat.le_of_ble_eq_true rfl) ?_
  rintro _ ⟨c, ρ, hc, K1, rfl⟩
  show RUN (f_L_law_731C m n N xs (n : Int) x7 (c : Int) (ρ, ξ)) _
  unfold f_L_law_731C
  by_cases hend : (n : Int) ≤ c
  · exact RUN.pos hend (RUN.ok ⟨ρ, K1, rfl⟩)
  · have hcn : c < n := by omega
    have less : (300 - ((c + 1 : Nat) : Int)).toNat < (300 - (c : Int)).toNat := by omega
    have hb := pk_b (N := N) (xs := xs) (i := 250 + (c : Int)) (k := 2) (by omega) ⟨by decide, by decide⟩
    obtain ⟨D, hD⟩ := n_of hb.1
    refine RUN.neg hend ?_
    rw [show jadd 250 (c : Int) = 250 + (c : Int) from jadd_ok (by omega) (by omega)]
    refine RUN.bind (P := fun v => v = (D : Int)) (RUN.eq (pk_is (by omega) (by decide)) hD) ?_
    rintro _ rfl
    have g := a_pieces K1 (C := c) (by omega) (D := D) (by omega) (x := 0) (by decide)
    rw [if_pos rfl] at g
    refine RUN.call g fun ρ2 K2 => ?_
    refine RUN.to ?_
    refine (e_moves K2 (by omega) (by omega) (by omega) _ _).mono ?_
    rintro _ ⟨ρ3, K3, rfl⟩
    exact ⟨⟨c + 1, ρ3, by omega, K3, rfl⟩, less⟩
theorem e_567 (K : KS k σ B J) (A : AR m n ξ B) (h2 : B 8 2 = 2) : RUN (f_L_law_567 m n N xs (σ, ξ) (n : Int) (lkV B) (ktB B n)) (fun r => r.1 = 1) := by
  have w := K.1.2.2.1
  have hn := w.1
  unfold WFn at hn
  obtain ⟨d1, d2⟩ := dL_s B
  have hA2 := A.2.1
  have hsum : ((slL (dL B) : Nat) : Int) = ktB B n := by
    have e : slL (dL B) = smN (fun i => smN (fun e => cnt (KK B i e) 48) 5) (B 8 1).toNat := sl_dD 5
    rw [e, show (B 8 1).toNat = n by omega]
    exact sl_dL w n (by omega)
  unfold f_L_law_567
  have g0 := a_watch K (x := 0) (by decide)
  rw [if_pos rfl] at g0
  refine RUN.call g0 fun ρ K1 => ?_
  refine RUN.to ?_
  unfold f_L_law_581
  refine RUN.bind (e_duties K1 A.2.2.2.2.2.2 _ _ _) ?_
  rintro _ ⟨ρ2, K2, rfl⟩
  show RUN (f_L_law_704 m n N xs (ρ2, ξ) (n : Int) (lkV B) (ktB B n) ((slL (dL B) : Nat) : Int)) _
  unfold f_L_law_704
  refine RUN.neg (show ¬ ((slL (dL B) : Nat) : Int) ≠ ktB B n by rw [hsum]; simp) ?_
  have g1 := a_watch K2 (x := 1) (by decide)
  rw [if_neg (by decide), if_pos rfl] at g1
  refine RUN.call g1 fun ρ3 K3 => ?_
  have g2 := a_watch K3 (x := 2) (by decide)
  rw [if_neg (by decide), if_neg (by decide)] at g2
  refine RUN.call g2 fun ρ4 K4 => ?_
  refine RUN.pos (show ((wgv (B 8 4) (dL B)).1 : Int) = (aoN (dL B) (B 8 4) (dL B).length : Int) by rw [w_eq (by omega) d1 d2]) ?_
  unfold f_L_law_731
  refine RUN.bind (e_seats K4 hA2 A.2.2.2.1 _) ?_
  rintro _ ⟨ρ5, K5, rfl⟩
  show RUN (f_L_law_854 m n N xs (ρ5, ξ) (lkV B)) _
  unfold f_L_law_854 f_L_law_857
  refine RUN.bind (e_left K5 h2 _) ?_
  rintro _ ⟨ρ6, K6, rfl⟩
  show RUN (f_L_law_900 m n N xs (ρ6, ξ) (lkV B)) _
  unfold f_L_law_900
  refine RUN.bind (l_looks K6) ?_
  rintro ⟨v, μ⟩ ⟨hv, -, -⟩
  have hv : v = lkV B := hv
  subst hv
  refine RUN.neg (show ¬ lkV B ≠ lkV B by simp) ?_
  exact RUN.ok rfl
theorem law_true (hm10 : m ≤ 10) (hn4 : n ≤ 4) : ∃ τ, f_L_law m n N xs (sg0, xiQ N xs m n) = some (1, τ) := by
  have key : RUN (f_L_law m n N xs (sg0, xiQ N xs m n)) (fun r => r.1 = 1) := by
    unfold f_L_law
    refine RUN.bind (l_tell hm10 hn4) ?_
    rintro ⟨v, ρ, ξ⟩ ⟨hv, B, K, h⟩
    have hv : v = 1 := hv
    subst hv
    have K : KS 200 ρ B none := K
    have h : TR m n N xs ξ B n := h
    have A : AR m n ξ B := ⟨h.1, h.2.1, hm10, hn4, h.2.2.2.1, h.2.2.2.2.1, h.2.2.2.2.2.1⟩
    refine RUN.pos (show (1 : Int) ≠ 0 by decide) ?_
    unfold f_L_law_90
    refine RUN.bind (m_rooms K A (by decide) h.2.2.1 _ _) ?_
    rintro _ ⟨ρ2, B2, K2, A2, h2, rfl⟩
    unfold f_L_law_121
    refine RUN.bind (l_looks K2) ?_
    rintro ⟨v, ρ3, ξ3⟩ ⟨hv, hx, K3⟩
    have hv : v = lkV B2 := hv
    have hx : ξ3 = ξ := hx
    subst hv hx
    have K3 : KS (200 + 2) ρ3 B2 none := K3
    refine RUN.to ?_
    refine RUN.call (a_image K3) fun ρ4 K4 => ?_
    unfold f_L_law_140
    refine RUN.bind (m_cands K4 A2 (by decide) _) ?_
    rintro _ ⟨ρ5, K5, rfl⟩
    exact e_567 K5 A2 h2
  obtain ⟨⟨v, τ⟩, e, hv⟩ := key
  have hv : v = 1 := hv
  subst hv
  exact ⟨τ, e⟩
end
