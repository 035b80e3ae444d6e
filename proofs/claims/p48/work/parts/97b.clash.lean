/-! A DAY'S CLASH: the law's method answers true -/
section
variable {m n N : Nat} {xs : Nat → Int32} {k : Nat} {σ ξ : Mem} {B : Bk} {J : Option Bk} {c D T r : Nat}
theorem c_loop1 (K : KS k σ B J) (A : AR m n ξ B) (hc : c < n) (hk : k + m < 80000) (hT : B 6 c = (T : Int)) (hT2 : T < 4096) (hr : r < 4096) : RUN (loop (f_L_isClash_17B m n N xs (3 + (m : Int) + c) c D (r : Int)) FU (0, (σ, ξ))) (fun e => ∃ ρ, KS (k + m) ρ (bm B c (clM B D T r m)) J ∧ e = (ρ, ξ)) := by
  have w := K.1.2.2.1
  have hA1 := A.1
  have hA2 := A.2.1
  have hm10 := A.2.2.1
  refine RUN.loop (fun s => ∃ (p : Nat) (ρ : Mem), p ≤ m ∧ KS (k + p) ρ (bm B c (clM B D T r p)) J ∧ s = ((p : Int), (ρ, ξ))) (fun s => (20 - s.1).toNat) ⟨0, σ, Nat.zero_le _, by rw [clM_0 hT2, bm_id hT]; exact K, rfl⟩ (Nat.le_of_ble_eq_true rfl) ?_
  rintro _ ⟨p, ρ, hp, K1, rfl⟩
  show RUN (f_L_isClash_17C m n N xs (3 + (m : Int) + c) c D (r : Int) (p : Int) (ρ, ξ)) _
  unfold f_L_isClash_17C
  by_cases hend : ((m : Nat) : Int) ≤ p
  · have : p = m := by omega
    subst this
    refine RUN.pos hend ?_
    exact RUN.ok ⟨ρ, K1, rfl⟩
  · have hpm : p < m := by omega
    have hday := (A.2.2.2.2.1 p hpm).1
    have htak := A.2.2.2.2.2.1 c hc
    have less : (20 - ((p + 1 : Nat) : Int)).toNat < (20 - (p : Int)).toNat := by omega
    have e1 : jadd (p : Int) 1 = ((p + 1 : Nat) : Int) := by rw [jadd_ok (by omega) (by omega)]; omega
    have hjT : jand (ξ (3 + (m : Int) + c) 3) (jshl 1 (p : Int)) = ((if T.testBit p then 2 ^ p else 0 : Nat) : Int) := by rw [htak, hT, jand_bit hT2 (by omega)]
    have hjr : jand (r : Int) (jshl 1 (p : Int)) = ((if r.testBit p then 2 ^ p else 0 : Nat) : Int) := jand_bit hr (by omega)
    have h2p : 0 < 2 ^ p := Nat.lt_of_lt_of_le (show 0 < 2 ^ 0 by decide) (Nat.pow_le_pow_right (by decide) (Nat.zero_le _))
    have stay : ¬ (T.testBit p = true ∧ B 0 p = (D : Int) ∧ r.testBit p = false) → ∀ (P : (Int × M2) ⊕ M2 → Prop), (∀ ρ2, KS (k + (p + 1)) ρ2 (bm B c (clM B D T r (p + 1))) J → P (.inl (((p + 1 : Nat) : Int), (ρ2, ξ)))) → RUN (f_L_isClash_65 m n N xs (ρ, ξ) (3 + (m : Int) + c) c D (r : Int) (p : Int)) P := fun g P hP => by
      unfold f_L_isClash_65
      refine RUN.to ?_
      rw [e1]
      refine RUN.ok (hP ρ ?_)
      rw [clM_s hT2, if_neg g]
      exact K1.mono (by omega)
    refine RUN.neg hend ?_
    refine RUN.chk ⟨by omega, by omega⟩ (RUN.chk ⟨by decide, by decide⟩ ?_)
    by_cases hd : B 0 p = (D : Int)
    · refine RUN.neg (show ¬ ξ (2 + (p : Int)) 0 ≠ (D : Int) by rw [hday, hd]; simp) ?_
      refine RUN.chk ⟨by decide, by decide⟩ ?_
      cases ht : T.testBit p with
      | false =>
        rw [ht, bf] at hjT
        refine RUN.pos (show jand (ξ (3 + (m : Int) + c) 3) (jshl 1 (p : Int)) = 0 from hjT) ?_
        exact stay (fun z => by rw [ht] at z; exact absurd z.1 (by decide)) _ fun ρ2 K2 => ⟨⟨p + 1, ρ2, by omega, K2, rfl⟩, less⟩
      | true =>
        rw [ht, bt] at hjT
        refine RUN.neg (show ¬ jand (ξ (3 + (m : Int) + c) 3) (jshl 1 (p : Int)) = 0 by rw [hjT]; omega) ?_
        cases hrb : r.testBit p with
        | true =>
          rw [hrb, bt] at hjr
          refine RUN.pos (show jand (r : Int) (jshl 1 (p : Int)) ≠ 0 by rw [hjr]; omega) ?_
          exact stay (fun z => by rw [hrb] at z; exact absurd z.2.2 (by decide)) _ fun ρ2 K2 => ⟨⟨p + 1, ρ2, by omega, K2, rfl⟩, less⟩
        | false =>
          rw [hrb, bf] at hjr
          refine RUN.neg (show ¬ jand (r : Int) (jshl 1 (p : Int)) ≠ 0 by rw [hjr]; simp) ?_
          have htk : tk (bm B c (clM B D T r p)) c p = true := by
            rw [bm_tk, clM_tb hT2, ht]
            simp
          have hf : fifth (bm B c (clM B D T r p)) c p = false := by unfold fifth; rw [htk]; rfl
          have g := a_flip K1 (by omega) (c := (c : Int)) (by omega) (by rw [bm_r (by decide)]; omega) (p := p) (by rw [bm_r (by decide)]; omega) hf (t := 0) (by rw [htk]; rfl)
          rw [bm_flp] at g
          refine RUN.call g fun ρ2 K2 => ?_
          unfold f_L_isClash_65
          refine RUN.to ?_
          rw [e1]
          refine RUN.ok ⟨⟨p + 1, ρ2, by omega, ?_, rfl⟩, less⟩
          rw [clM_s hT2, if_pos ⟨ht, hd, hrb⟩]
          exact K2
    · refine RUN.pos (show ξ (2 + (p : Int)) 0 ≠ (D : Int) by rw [hday]; exact hd) ?_
      exact stay (fun z => hd z.2.1) _ fun ρ2 K2 => ⟨⟨p + 1, ρ2, by omega, K2, rfl⟩, less⟩
/-- what is left of the day is the clash -/
theorem clM_od (w : WF B) (hc2 : (c : Int) < B 8 1) (hm : B 8 0 = (m : Int)) (hT : B 6 c = (T : Int)) (hT2 : T < 4096) (hs : sub r (od B c D)) : od (bm B c (clM B D T r m)) c D = r := by
  refine Nat.eq_of_testBit_eq fun i => ?_
  have hn := w.1
  unfold WFn at hn
  have ht : tk B c i = T.testBit i := by unfold tk; rw [hT, Int.toNat_natCast]
  rw [bm_od, clM_tb hT2]
  cases hr : r.testBit i with
  | true =>
    have := hs i hr
    rw [od_tb, ht] at this
    simp at this
    simp [this]
  | false =>
    by_cases g : (i : Int) < B 8 0 ∧ B 0 i = (D : Int)
    · have hi : i < m := by omega
      simp [g.2, hi]
    · by_cases g1 : (i : Int) < B 8 0
      · have g2 : ¬ B 0 i = (D : Int) := fun z => g ⟨g1, z⟩
        simp [g2]
      · simp [g1]
theorem c_loop2 {M : Nat} (K : KS k σ (bm B c M) J) (w : WF B) (hc2 : (c : Int) < B 8 1) (hm : B 8 0 = (m : Int)) (hm10 : m ≤ 10) (hk : k + 2 * m < 80000) (hr : r < 4096) (hT : B 6 c = (T : Int)) (hM : ∀ i : Nat, (i : Int) < B 8 0 → B 0 i ≠ (D : Int) → M.testBit i = T.testBit i) (hod : od (bm B c M) c D = r) (hlw : ∀ p, r.testBit p = true → 0 < nlw (lwS B c (clr r p) (fre B c (ovr B c D)) (ahd B c (ovr B c D))) (PT (nof (clr r p)))) (hD : D < 5) : RUN (loop (f_L_isClash_91B m n N xs c D (r : Int)) FU (1, 0, (σ, ξ))) (fun e => ∃ ρ, KS (k + 2 * m) ρ (bm B c M) J ∧ e = (1, (ρ, ξ))) := by
  refine RUN.loop (fun s => ∃ (p : Nat) (ρ : Mem), p ≤ m ∧ KS (k + 2 * p) ρ (bm B c M) J ∧ s = (1, (p : Int), (ρ, ξ))) (fun s => (20 - s.2.1).toNat) ⟨0, σ, Nat.zero_le _, K, rfl⟩ (Nat.le_of_ble_eq_true rfl) ?_
  rintro _ ⟨p, ρ, hp, K1, rfl⟩
  show RUN (f_L_isClash_91C m n N xs c D (r : Int) 1 (p : Int) (ρ, ξ)) _
  unfold f_L_isClash_91C
  by_cases hend : ((m : Nat) : Int) ≤ p
  · have : p = m := by omega
    subst this
    refine RUN.pos hend ?_
    exact RUN.ok ⟨ρ, K1, rfl⟩
  · have hpm : p < m := by omega
    have less : (20 - ((p + 1 : Nat) : Int)).toNat < (20 - (p : Int)).toNat := by omega
    have e1 : jadd (p : Int) 1 = ((p + 1 : Nat) : Int) := by rw [jadd_ok (by omega) (by omega)]; omega
    have hjr : jand (r : Int) (jshl 1 (p : Int)) = ((if r.testBit p then 2 ^ p else 0 : Nat) : Int) := jand_bit hr (by omega)
    have h2p : 0 < 2 ^ p := Nat.lt_of_lt_of_le (show 0 < 2 ^ 0 by decide) (Nat.pow_le_pow_right (by decide) (Nat.zero_le _))
    have w1 := K1.1.2.2.1
    have hc3 : (c : Int) < bm B c M 8 1 := by rw [bm_r (by decide)]; exact hc2
    have hp3 : (p : Int) < bm B c M 8 0 := by rw [bm_r (by decide)]; omega
    refine RUN.neg hend ?_
    cases hrb : r.testBit p with
    | false =>
      rw [hrb, bf] at hjr
      refine RUN.pos (show jand (r : Int) (jshl 1 (p : Int)) = 0 from hjr) ?_
      unfold f_L_isClash_148
      refine RUN.to ?_
      rw [e1]
      exact RUN.ok ⟨⟨p + 1, ρ, by omega, K1.mono (by omega), rfl⟩, less⟩
    | true =>
      rw [hrb, bt] at hjr
      refine RUN.neg (show ¬ jand (r : Int) (jshl 1 (p : Int)) = 0 by rw [hjr]; omega) ?_
      have hin : (od (bm B c M) c D).testBit p = true := by rw [hod]; exact hrb
      rw [bm_od] at hin
      simp at hin
      have hMp : M.testBit p = true := hin.2.2
      have hday : B 0 p = (D : Int) := hin.2.1.2
      have htk : tk (bm B c M) c p = true := by rw [bm_tk]; exact hMp
      have hf : fifth (bm B c M) c p = false := by unfold fifth; rw [htk]; rfl
      have g := a_flip K1 (by omega) (by omega) hc3 (p := p) hp3 hf (t := 0) (by rw [htk]; rfl)
      have hf2 := flp_fifth w1 (by omega) hc3 hp3 hf
      rw [bm_flp] at g hf2
      have hodp : od (bm B c (M ^^^ 2 ^ p)) c D = clr r p := by
        refine Nat.eq_of_testBit_eq fun i => ?_
        rw [bm_od, clr_tb, ← hod, bm_od, Nat.testBit_xor, Nat.testBit_two_pow]
        by_cases e : i = p
        · subst e
          rw [hMp]
          simp
        · have e2 : ¬ p = i := fun z => e z.symm
          simp [e, e2]
      have hM2 : ∀ i : Nat, (i : Int) < B 8 0 → B 0 i ≠ (D : Int) → (M ^^^ 2 ^ p).testBit i = T.testBit i := fun i i1 i2 => by
        rw [Nat.testBit_xor, Nat.testBit_two_pow, decide_eq_false (fun z => i2 (by rw [← z]; exact hday)), hM i i1 i2]
        cases T.testBit i <;> rfl
      have hl := bm_law (M := M ^^^ 2 ^ p) w (by omega) hc2 hT hM2 hodp
      have hl2 := hlw p hrb
      refine RUN.call g fun ρ2 K2 => ?_
      refine RUN.neg (by decide) ?_
      have hc4 : (c : Int) < bm B c (M ^^^ 2 ^ p) 8 1 := by rw [bm_r (by decide)]; exact hc2
      have hp4 : (p : Int) < bm B c (M ^^^ 2 ^ p) 8 0 := by rw [bm_r (by decide)]; omega
      refine RUN.call (a_lawful K2 (by omega) hc4 hD) fun ρ3 K3 => ?_
      refine RUN.neg (show ¬ laV (bm B c (M ^^^ 2 ^ p)) c D ≤ 0 by rw [hl]; omega) ?_
      unfold f_L_isClash_137
      have htk2 : tk (bm B c (M ^^^ 2 ^ p)) c p = false := by
        rw [bm_tk, Nat.testBit_xor, Nat.testBit_two_pow, hMp]
        simp
      have g2 := a_flip K3 (by omega) (by omega) hc4 (p := p) hp4 hf2 (t := 1) (by rw [htk2]; rfl)
      rw [bm_flp, Nat.xor_assoc, Nat.xor_self, Nat.xor_zero] at g2
      refine RUN.call g2 fun ρ4 K4 => ?_
      unfold f_L_isClash_148
      refine RUN.to ?_
      rw [e1]
      exact RUN.ok ⟨⟨p + 1, ρ4, by omega, K4.mono (by omega), rfl⟩, less⟩
theorem l_clash (K : KS k σ B (some B)) (A : AR m n ξ B) (hc : c < n) (hD : D < 5) (hk : k < 70000) (hx : dpl B c D (ovr B c D) = none) : RUN (f_L_isClash m n N xs (σ, ξ) (3 + (m : Int) + c) c D) (FIN 1 (k + 40) B (some B) ξ) := by
  have hc2 : (c : Int) < B 8 1 := by have := A.2.1; omega
  have hm10 := A.2.2.1
  have w := K.1.2.2.1
  have hn := w.1
  unfold WFn at hn
  have h6 := (w.2.2.1 c (by omega) hc2).2.2.2.1
  obtain ⟨T, hT⟩ := n_of h6.1
  have hT2 : T < 4096 := by omega
  have hl : laV B c D = 0 := by unfold laV; rw [no_od w (by omega) hc2 hx]; rfl
  obtain ⟨r, h1, h2⟩ := a_clash K (by omega) hc2 hD hx (pos_od w (by omega) hc2 hx) hl
  obtain ⟨⟨g1, g2, g3⟩, h1⟩ := h1
  have hr : r < 4096 := Nat.lt_of_le_of_lt (sub_le g2) (od_lt B c D)
  have hM : ∀ i : Nat, (i : Int) < B 8 0 → B 0 i ≠ (D : Int) → (clM B D T r m).testBit i = T.testBit i := fun i i1 i2 => by
    rw [clM_tb hT2, decide_eq_false i2]
    simp
  have hod := clM_od w hc2 A.1 hT hT2 g2
  unfold f_L_isClash
  refine RUN.call (h2 _ _ _ K) fun ρ K1 => ?_
  refine RUN.to ?_
  unfold f_L_isClash_17
  refine RUN.bind (c_loop1 (D := D) K1 A hc (by omega) hT hT2 hr) ?_
  rintro _ ⟨ρ2, K2, rfl⟩
  have hc3 : (c : Int) < bm B c (clM B D T r m) 8 1 := by rw [bm_r (by decide)]; exact hc2
  have hlaw := bm_law w (by omega) hc2 hT hM hod
  unfold f_L_isClash_71
  refine RUN.call (a_lawful K2 (by omega) hc3 hD) fun ρ3 K3 => ?_
  refine RUN.neg (show ¬ laV (bm B c (clM B D T r m)) c D ≠ 0 by rw [hlaw, g3]; simp) ?_
  unfold f_L_isClash_86 f_L_isClash_91
  refine RUN.bind (c_loop2 K3 w hc2 A.1 hm10 (by omega) hr hT hM hod (fun p hp => ?_) hD) ?_
  · refine Nat.pos_of_ne_zero fun hz => ?_
    have hsub : sub (clr r p) (od B c D) := fun i hi => by
      rw [clr_tb] at hi
      simp at hi
      exact g2 i hi.1
    by_cases h0 : clr r p = 0
    · rw [h0] at hz
      have := nlw_none (B := B) (c := (c : Int)) (f := fre B c (ovr B c D)) (a := ahd B c (ovr B c D)) (by omega) (ahd_h w (by omega) hc2 D)
      omega
    · have hp12 : p < 12 := by
        refine Nat.not_le.mp fun q => ?_
        have := Nat.testBit_lt_two_pow (x := r) (i := p) (Nat.lt_of_lt_of_le (show r < 2 ^ 12 from hr) (Nat.pow_le_pow_right (by decide) q))
        rw [this] at hp
        cases hp
      have h3 := h1 (clr r p) ⟨by omega, hsub, hz⟩ trivial
      have h4 := nof_clr hp12 hp
      omega
  · rintro _ ⟨ρ4, K4, rfl⟩
    unfold f_L_isClash_154
    refine RUN.call (a_back K4 (by omega)) fun ρ5 K5 => ?_
    refine RUN.chk (Or.inr rfl) ?_
    exact RUN.ok ⟨rfl, rfl, K5.mono (by omega)⟩
end
