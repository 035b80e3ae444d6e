/-! A DAY'S PLAN: the order, from the start -/
section
variable {m n N : Nat} {xs : Nat → Int32} {k : Nat} {σ ξ : Mem} {B : Bk} {J : Option Bk} {c D : Nat}
theorem p_397 (K : KS k σ B J) (A : AR m n ξ B) (hc2 : (c : Int) < B 8 1) (hD : D < 5) {all over : Int} (ha : all = ((od B c D : Nat) : Int)) (ho : over = ov (dpl B c D (ovr B c D))) : RUN (f_L_isPlanned_397 m n N xs (σ, ξ) c D (ovr B c D) (ahd B c (ovr B c D) : Int) (cntd (dpl B c D (ovr B c D)) : Int) over all 1) (FIN 1 k B J ξ) := by
  have w := K.1.2.2.1
  unfold f_L_isPlanned_397
  have h6 : ∀ ρ, KS k ρ B J → RUN (f_L_isPlanned_627 m n N xs (ρ, ξ) c D (cntd (dpl B c D (ovr B c D)) : Int) over 1 all ((cnt (kp B c D) 48 : Nat) : Int)) (FIN 1 k B J ξ) := fun ρ K1 => p_627 K1 hc2 hD ha ho
  cases hx : dpl B c D (ovr B c D) with
  | none =>
    rw [hx] at ho h6
    refine p_405 (nq := 0) (f := 0) (q := fun _ => 0) K A hc2 hD (fun σ' _ j hj => absurd hj (Nat.not_lt_zero _)) (by decide) (fun j hj => absurd hj (Nat.not_lt_zero _)) (by have : over = -1 := ho; omega) (fun T base s hb h => ?_) h6
    rw [show over = -1 from ho]
    exact fin_none hx hb h
  | some y =>
    obtain ⟨v, o', mm, l⟩ := y
    obtain ⟨d1, d2, d3, d4, d5, d6, d7⟩ := dpl_some w (by omega) hc2 hx
    rw [hx] at ho h6
    have hoo : over = o' := ho
    refine p_405 (nq := nof mm) (f := fre B c (ovr B c D)) (q := lq mm l) K A hc2 hD (fun σ' K' j hj => ?_) d1.2.1 (fun j hj => ?_) (by have := A.1; omega) (fun T base s hb h => ?_) h6
    · have hI : j < cntd (dpl B c D (ovr B c D)) := by rw [hx]; exact hj
      have e0 : siV B c D j 0 = (lq mm l j : Int) := by unfold siV; rw [hx]; rfl
      have e1 : siV B c D j 1 = bg B c (fre B c (ovr B c D)) (lq mm l) j := by unfold siV; rw [hx]; rfl
      have e2 : siV B c D j 2 = en B c (fre B c (ovr B c D)) (lq mm l) j := by unfold siV; rw [hx]; rfl
      have g0 := a_sits K' (by omega) hc2 hD hI (x := 0) (by decide)
      have g1 := a_sits K' (by omega) hc2 hD hI (x := 1) (by decide)
      have g2 := a_sits K' (by omega) hc2 hD hI (x := 2) (by decide)
      rw [e0] at g0
      rw [e1] at g1
      rw [e2] at g2
      exact ⟨g0, g1, g2⟩
    · have := d1.2.2 _ (lq_in d1.2.1 d4 hj).2
      have := A.1
      omega
    · rw [hoo]
      exact fin_some w hc2 hx hb h
theorem p_334 (K : KS k σ B J) (A : AR m n ξ B) (hc2 : (c : Int) < B 8 1) (hD : D < 5) {all over sum left : Int} (ha : all = ((od B c D : Nat) : Int)) (ho : over = ov (dpl B c D (ovr B c D))) (hs : sum ≤ B 8 3) (hl : (dpl B c D (ovr B c D) ≠ none) → left = if 0 ≤ over then ((2 ^ over.toNat : Nat) : Int) else 0) : RUN (f_L_isPlanned_334 m n N xs (σ, ξ) c D (ovr B c D) (ahd B c (ovr B c D) : Int) (cntd (dpl B c D (ovr B c D)) : Int) over 1 sum left all) (FIN 1 k B J ξ) := by
  have w := K.1.2.2.1
  have hn := w.1
  unfold WFn at hn
  unfold f_L_isPlanned_334
  refine RUN.neg (by decide) ?_
  refine RUN.call (a_status K (x := 3) (by decide)) fun ρ K1 => ?_
  refine RUN.neg (show ¬ saV B 3 < sum by show ¬ B 8 3 < sum; omega) ?_
  refine RUN.call (a_plan K1 (by omega) hc2 hD (x := 0) ⟨by decide, by decide⟩) fun ρ2 K2 => ?_
  have fin : RUN (f_L_isPlanned_392 m n N xs (ρ2, ξ) c D (ovr B c D) (ahd B c (ovr B c D) : Int) (cntd (dpl B c D (ovr B c D)) : Int) over all) (FIN 1 k B J ξ) := by
    unfold f_L_isPlanned_392
    exact p_397 K2 A hc2 hD ha ho
  cases hx : dpl B c D (ovr B c D) with
  | none =>
    have e : plV B c D 0 = 0 := by unfold plV; rw [if_pos rfl, hx]; rfl
    rw [hx] at fin ho
    refine RUN.pos (show plV B c D 0 ≠ 1 by rw [e]; decide) ?_
    refine RUN.neg (show ¬ ((0 : Nat) : Int) ≠ 0 by decide) ?_
    refine RUN.neg (show ¬ 0 ≤ over by have : over = -1 := ho; omega) ?_
    exact fin
  | some y =>
    have e : plV B c D 0 = 1 := by unfold plV; rw [if_pos rfl, hx]; rfl
    have hl2 := hl (by rw [hx]; exact fun z => by cases z)
    obtain ⟨v, o', mm, l⟩ := y
    obtain ⟨d1, d2, d3, d4, d5, d6, d7⟩ := dpl_some w (by omega) hc2 hx
    rw [hx] at fin ho
    have hoo : over = o' := ho
    refine RUN.neg (show ¬ plV B c D 0 ≠ 1 by rw [e]; decide) ?_
    unfold f_L_isPlanned_376
    by_cases h0 : 0 ≤ over
    · refine RUN.pos h0 ?_
      rw [if_pos h0] at hl2
      obtain ⟨P, hP⟩ := n_of h0
      have hj : jshl 1 over = left := by
        rw [hl2, hP, Int.toNat_natCast, jshl_n (by omega)]
      refine RUN.neg (show ¬ left ≠ jshl 1 over by rw [hj]; simp) ?_
      exact fin
    · refine RUN.neg h0 ?_
      rw [if_neg h0] at hl2
      refine RUN.neg (show ¬ left ≠ 0 by rw [hl2]; simp) ?_
      exact fin
/-- the order, paper by paper -/
theorem p_186 (K : KS k σ B J) (A : AR m n ξ B) (hc2 : (c : Int) < B 8 1) {nq : Nat} {f : Int} {q : Nat → Nat} (hs : SIS k B J c D nq f q) (hn : nq ≤ 4) (hq : ∀ j, j < nq → q j < m) (hf : 0 ≤ f ∧ f ≤ 60) {om : Nat} (hom : om < 4096) (hle : ∀ j, j < nq → (lfM om q j).testBit (q j) = true) (hen : ∀ j, j < nq → en B c f q j ≤ 48) {load over all : Int} (hld : 0 ≤ load ∧ load ≤ 48) : RUN (loop (f_L_isPlanned_186B m n N xs c D (ovr B c D) load (rs B c) (nq : Int) over all) FU (1, f, load, (om : Int), 0, (σ, ξ))) (fun e => ∃ ρ, KS k ρ B J ∧ e = (1, load + smq B c q nq, ((lfM om q nq : Nat) : Int), (ρ, ξ))) := by
  have w := K.1.2.2.1
  have hwn := w.1
  unfold WFn at hwn
  have hqB : ∀ j, j < nq → (q j : Int) < B 8 0 := fun j hj => by have := hq j hj; have := A.1; omega
  have hr := rs_b w (c := c) (by omega) hc2
  refine RUN.loop (fun s => ∃ (j : Nat) (ρ : Mem), j ≤ nq ∧ KS k ρ B J ∧ s = (1, nx B c f q j, load + smq B c q j, ((lfM om q j : Nat) : Int), (j : Int), (ρ, ξ))) (fun s => (10 - s.2.2.2.2.1).toNat) ⟨0, σ, Nat.zero_le _, K, by show _ = (1, f, load + 0, (om : Int), 0, (σ, ξ)); rw [Int.add_zero]⟩ (Nat.le_of_ble_eq_true rfl) ?_
  rintro _ ⟨j, ρ, hj, K1, rfl⟩
  show RUN (f_L_isPlanned_186C m n N xs c D (ovr B c D) load (rs B c) (nq : Int) over all 1 (nx B c f q j) (load + smq B c q j) ((lfM om q j : Nat) : Int) (j : Int) (ρ, ξ)) _
  unfold f_L_isPlanned_186C
  by_cases hend : (nq : Int) ≤ j
  · have : j = nq := by omega
    subst this
    refine RUN.pos hend ?_
    exact RUN.ok ⟨ρ, K1, rfl⟩
  · have hjn : j < nq := by omega
    have hqm := hq j hjn
    have hm10 := A.2.2.1
    have hst := (A.2.2.2.2.1 (q j) hqm).2
    have hb := bg_b w (by omega) hc2 hf hqB hjn
    have hnx := nx_b w (by omega) hc2 hf hqB j (by omega)
    have hsm := smq_b w (by omega) hc2 hqB j (by omega)
    have hlt := lfM_lt hom q j
    have htm := tm_b w (c := c) (by omega) hc2 (p := (q j : Int)) (by omega) (hqB j hjn)
    have hE := hen j hjn
    have een : en B c f q j = bg B c f q j + tm B c (q j) := rfl
    have ebg : bg B c f q j = max (B 1 (q j)) (nx B c f q j) := rfl
    refine RUN.neg hend ?_
    refine RUN.call (hs ρ K1 j hjn).1 fun ρ2 K2 => ?_
    refine RUN.to ?_
    refine RUN.call (hs ρ2 K2 j hjn).2.1 fun ρ3 K3 => ?_
    refine RUN.to ?_
    refine RUN.call (hs ρ3 K3 j hjn).2.2 fun ρ4 K4 => ?_
    refine RUN.to ?_
    refine RUN.neg (by decide) ?_
    have hbit : jand ((lfM om q j : Nat) : Int) (jshl 1 (q j : Int)) = ((2 ^ q j : Nat) : Int) := by
      rw [jand_bit hlt (by omega), hle j hjn, bt]
    have h2p : 0 < 2 ^ q j := Nat.lt_of_lt_of_le (show 0 < 2 ^ 0 by decide) (Nat.pow_le_pow_right (by decide) (Nat.zero_le _))
    refine RUN.neg (show ¬ jand ((lfM om q j : Nat) : Int) (jshl 1 (q j : Int)) = 0 by rw [hbit]; omega) ?_
    refine RUN.chk ⟨by omega, by omega⟩ (RUN.chk ⟨by decide, by decide⟩ ?_)
    have fin : ∀ (s1 : Int) (P : (Int × Int × Int × Int × Int × M2) ⊕ (Int × Int × Int × M2) → Prop), s1 = bg B c f q j → (∀ ρ5, KS k ρ5 B J → P (.inl (1, nx B c f q (j + 1), load + smq B c q (j + 1), ((lfM om q (j + 1) : Nat) : Int), ((j + 1 : Nat) : Int), (ρ5, ξ)))) → RUN (f_L_isPlanned_268 m n N xs (ρ4, ξ) c D (ovr B c D) load (rs B c) (nq : Int) over (load + smq B c q j) ((lfM om q j : Nat) : Int) all (j : Int) (q j : Int) (bg B c f q j) (en B c f q j) s1 (bg B c f q j)) P := fun s1 P h1 hP => by
      unfold f_L_isPlanned_268
      refine RUN.neg (show ¬ bg B c f q j ≠ s1 by rw [h1]; simp) ?_
      refine RUN.call (a_time K4 (by omega) hc2 (by omega) (hqB j hjn)) fun ρ5 K5 => ?_
      refine RUN.neg (show ¬ en B c f q j ≠ jadd (bg B c f q j) (tm B c (q j)) by rw [jadd_ok (by omega) (by omega), ← een]; simp) ?_
      refine RUN.neg (show ¬ (48 : Int) < en B c f q j by omega) ?_
      unfold f_L_isPlanned_298
      refine RUN.to (RUN.to (RUN.to (RUN.to ?_)))
      have e1 : jand ((lfM om q j : Nat) : Int) (jxor (jshl 1 (q j : Int)) (-1)) = ((lfM om q (j + 1) : Nat) : Int) := jclr_n hlt (by omega)
      have e2 : jadd (en B c f q j) (rs B c) = nx B c f q (j + 1) := by rw [jadd_ok (by omega) (by omega), nx_s]
      have e3 : jadd (load + smq B c q j) (jsub (en B c f q j) (bg B c f q j)) = load + smq B c q (j + 1) := by
        rw [jsub_ok (by omega) (by omega), jadd_ok (by omega) (by omega)]
        show _ = load + (smq B c q j + tm B c (q j))
        omega
      have e4 : jadd (j : Int) 1 = ((j + 1 : Nat) : Int) := by rw [jadd_ok (by omega) (by omega)]; omega
      rw [e1, e2, e3, e4]
      exact RUN.ok (hP ρ5 K5)
    have less : (10 - ((j + 1 : Nat) : Int)).toNat < (10 - (j : Int)).toNat := by omega
    by_cases h1 : nx B c f q j ≤ B 1 (q j)
    · refine RUN.pos (show nx B c f q j ≤ ξ (2 + (q j : Int)) 1 by rw [hst]; exact h1) ?_
      refine RUN.chk ⟨by omega, by omega⟩ (RUN.chk ⟨by decide, by decide⟩ ?_)
      exact fin _ _ (show ξ (2 + (q j : Int)) 1 = _ by rw [hst]; omega) fun ρ5 K5 => ⟨⟨j + 1, ρ5, by omega, K5, rfl⟩, less⟩
    · refine RUN.neg (show ¬ nx B c f q j ≤ ξ (2 + (q j : Int)) 1 by rw [hst]; exact h1) ?_
      exact fin _ _ (by omega) fun ρ5 K5 => ⟨⟨j + 1, ρ5, by omega, K5, rfl⟩, less⟩
end
