/-! A DAY'S PLAN: the law's method answers true -/
section
variable {m n N : Nat} {xs : Nat → Int32} {k : Nat} {σ ξ : Mem} {B : Bk} {J : Option Bk} {c D : Nat}
theorem ahd_i (w : WF B) (hc2 : (c : Int) < B 8 1) : (if 0 ≤ ovr B c D then tm B c (ovr B c D) else 0) = (ahd B c (ovr B c D) : Int) := by
  have ho := (ovr_b w (c := c) (by omega) hc2 D)
  unfold ahd
  by_cases h : ovr B c D < 0
  · rw [if_pos h, if_neg (by omega)]; rfl
  · have := tm_b w (c := c) (by omega) hc2 (p := ovr B c D) (by omega) ho.2
    rw [if_neg h, if_pos (by omega)]
    omega
theorem fre_i : fre B c (ovr B c D) = if ovr B c D < 0 then 0 else tm B c (ovr B c D) + rs B c := rfl
theorem p_179 (K : KS k σ B J) (A : AR m n ξ B) (hc2 : (c : Int) < B 8 1) (hD : D < 5) {over : Int} (ho : over = ov (dpl B c D (ovr B c D))) : RUN (f_L_isPlanned_179 m n N xs (σ, ξ) c D (ovr B c D) (ahd B c (ovr B c D) : Int) (rs B c) (cntd (dpl B c D (ovr B c D)) : Int) over 1 (fre B c (ovr B c D)) (ahd B c (ovr B c D) : Int) ((od B c D : Nat) : Int)) (FIN 1 k B J ξ) := by
  have w := K.1.2.2.1
  have hn := w.1
  unfold WFn at hn
  have hoo := ovr_b w (c := c) (by omega) hc2 D
  have hf := fre_b w (c := c) (by omega) hc2 hoo.2
  have ha := ahd_b w (c := c) (by omega) hc2 hoo.2
  have hah := ahd_h w (c := c) (by omega) hc2 D
  have hod := od_lt B c D
  unfold f_L_isPlanned_179 f_L_isPlanned_186
  cases hx : dpl B c D (ovr B c D) with
  | none =>
    refine RUN.bind (P := fun e => ∃ ρ, KS k ρ B J ∧ e = (1, (ahd B c (ovr B c D) : Int) + smq B c (fun _ => 0) 0, ((lfM (od B c D) (fun _ => 0) 0 : Nat) : Int), (ρ, ξ))) ?_ ?_
    · exact p_186 (nq := 0) (q := fun _ => 0) K A hc2 (fun σ' _ j hj => absurd hj (Nat.not_lt_zero _)) (by decide) (fun j hj => absurd hj (Nat.not_lt_zero _)) hf hod (fun j hj => absurd hj (Nat.not_lt_zero _)) (fun j hj => absurd hj (Nat.not_lt_zero _)) (by omega)
    · rintro _ ⟨ρ, K1, rfl⟩
      have g := p_334 (N := N) (xs := xs) (sum := (ahd B c (ovr B c D) : Int) + smq B c (fun _ => 0) 0) (left := ((lfM (od B c D) (fun _ => 0) 0 : Nat) : Int)) K1 A hc2 hD rfl ho (by show (ahd B c (ovr B c D) : Int) + 0 ≤ _; omega) (fun z => absurd hx z)
      rw [hx] at g
      exact g
  | some y =>
    obtain ⟨v, o', mm, l⟩ := y
    obtain ⟨d1, d2, d3, d4, d5, d6, d7⟩ := dpl_some w (by omega) hc2 hx
    have hw5 := d5
    unfold lwS at hw5
    rw [Bool.and_eq_true] at hw5
    have hsum := of_decide_eq_true hw5.1
    rw [← smq_pt d1.2.1 d4] at hsum
    refine RUN.bind (P := fun e => ∃ ρ, KS k ρ B J ∧ e = (1, (ahd B c (ovr B c D) : Int) + smq B c (lq mm l) (nof mm), ((lfM (od B c D) (lq mm l) (nof mm) : Nat) : Int), (ρ, ξ))) ?_ ?_
    · refine p_186 (nq := nof mm) (q := lq mm l) K A hc2 (fun σ' K' j hj => ?_) d1.2.1 (fun j hj => ?_) hf hod (fun j hj => left_in w (by omega) hc2 hx hj) (fun j hj => fitN_at hj hw5.2) (by omega)
      · have hI : j < cntd (dpl B c D (ovr B c D)) := by rw [hx]; exact hj
        have e0 : siV B c D j 0 = (lq mm l j : Int) := by unfold siV; rw [hx]; rfl
        have e1 : siV B c D j 1 = bg B c (fre B c (ovr B c D)) (lq mm l) j := by unfold siV; rw [hx]; rfl
        have e2 : siV B c D j 2 = en B c (fre B c (ovr B c D)) (lq mm l) j := by unfold siV; rw [hx]; rfl
        have g0 := a_sits K' (by omega) hc2 hD hI (x := 0) (by decide)
        have g1 := a_sits K' (by omega) hc2 hD hI (x := 1) (by decide)
        have g2 := a_sits K' (by omega) hc2 hD hI (x := 2) (by decide)
        rw [e0] at g0
        rw [e1] at g1
        rw [e2] at g2
        exact ⟨g0, g1, g2⟩
      · have := d1.2.2 _ (lq_in d1.2.1 d4 hj).2
        have := A.1
        omega
    · rintro _ ⟨ρ, K1, rfl⟩
      have hle := left_end w (by omega) hc2 hx
      have g := p_334 (N := N) (xs := xs) (sum := (ahd B c (ovr B c D) : Int) + smq B c (lq mm l) (nof mm)) (left := ((lfM (od B c D) (lq mm l) (nof mm) : Nat) : Int)) K1 A hc2 hD rfl ho hsum (fun _ => by rw [hle, ho, hx]; rfl)
      rw [hx] at g
      exact g
/-- the papers of the day that one takes -/
theorem p_138 (A : AR m n ξ B) (w : WF B) (hc : c < n) (x3 x5 x6 x7 x8 x9 x10 x11 x12 : Int) : RUN (loop (f_L_isPlanned_138B m n N xs (σ, ξ) (3 + (m : Int) + c) x3 D x5 x6 x7 x8 x9 x10 x11 x12) FU (0, 0)) (fun e => e = ((od B c D : Nat) : Int)) := by
  have hwn := w.1
  unfold WFn at hwn
  have hA1 := A.1
  have hA2 := A.2.1
  have hm10 := A.2.2.1
  have h6 := (w.2.2.1 c (by omega) (by omega)).2.2.2.1
  obtain ⟨t, ht⟩ := n_of h6.1
  have htk : ∀ p, tk B c p = t.testBit p := fun p => by unfold tk; rw [ht, Int.toNat_natCast]
  have hod : od B c D = mset (fun p => decide (B 0 p = (D : Int)) && tk B c p) m := by
    unfold od
    rw [mset_cut (n := m) (fun i hi => by simp; omega) 12 (by omega)]
    refine mset_congr fun i hi => ?_
    show ((decide ((i : Int) < B 8 0) && decide (B 0 i = (D : Int))) && tk B c i) = (decide (B 0 i = (D : Int)) && tk B c i)
    rw [decide_eq_true (show (i : Int) < B 8 0 by omega), Bool.true_and]
  refine RUN.loop (fun s => ∃ p : Nat, p ≤ m ∧ s = (((mset (fun p => decide (B 0 p = (D : Int)) && tk B c p) p : Nat) : Int), (p : Int))) (fun s => (20 - s.2).toNat) ⟨0, Nat.zero_le _, rfl⟩ (Nat.le_of_ble_eq_true rfl) ?_
  rintro _ ⟨p, hp, rfl⟩
  show RUN (f_L_isPlanned_138C m n N xs (σ, ξ) (3 + (m : Int) + c) x3 D x5 x6 x7 x8 x9 x10 x11 x12 ((mset (fun p => decide (B 0 p = (D : Int)) && tk B c p) p : Nat) : Int) (p : Int)) _
  unfold f_L_isPlanned_138C
  by_cases hend : ((m : Nat) : Int) ≤ p
  · have : p = m := by omega
    subst this
    refine RUN.pos hend ?_
    exact RUN.ok (by rw [hod])
  · have hpm : p < m := by omega
    have hM := mset_lt (fun p => decide (B 0 p = (D : Int)) && tk B c p) p
    have hp12 : (2 : Nat) ^ p ≤ 2 ^ 12 := Nat.pow_le_pow_right (by decide) (by omega)
    have hday := (A.2.2.2.2.1 p hpm).1
    have htak := A.2.2.2.2.2.1 c hc
    refine RUN.neg hend ?_
    refine RUN.chk ⟨by omega, by omega⟩ (RUN.chk ⟨by decide, by decide⟩ ?_)
    have e1 : jadd (p : Int) 1 = ((p + 1 : Nat) : Int) := by rw [jadd_ok (by omega) (by omega)]; omega
    have less : (20 - ((p + 1 : Nat) : Int)).toNat < (20 - (p : Int)).toNat := by omega
    have es : mset (fun p => decide (B 0 p = (D : Int)) && tk B c p) (p + 1) = if (decide (B 0 p = (D : Int)) && tk B c p) then mset (fun p => decide (B 0 p = (D : Int)) && tk B c p) p ||| 2 ^ p else mset (fun p => decide (B 0 p = (D : Int)) && tk B c p) p := rfl
    by_cases hd : B 0 p = (D : Int)
    · refine RUN.neg (show ¬ ξ (2 + (p : Int)) 0 ≠ (D : Int) by rw [hday, hd]; simp) ?_
      refine RUN.chk ⟨by decide, by decide⟩ ?_
      unfold f_L_isPlanned_170
      refine RUN.to (RUN.to ?_)
      have e2 : jor ((mset (fun p => decide (B 0 p = (D : Int)) && tk B c p) p : Nat) : Int) (jand (ξ (3 + (m : Int) + c) 3) (jshl 1 (p : Int))) = ((mset (fun p => decide (B 0 p = (D : Int)) && tk B c p) (p + 1) : Nat) : Int) := by
        have h2p : (2 : Nat) ^ p < 2 ^ 31 := Nat.pow_lt_pow_right (by decide) (by omega)
        rw [htak, ht, jand_bit (by omega) (by omega), ← htk, es, decide_eq_true hd]
        cases tk B c p with
        | true => rw [bt, Bool.and_true, bt, jor_n (by omega) (by omega)]
        | false => rw [bf, Bool.and_false, bf, jor_n (by omega) (by omega), Nat.or_zero]
      rw [e1]
      refine RUN.ok ⟨⟨p + 1, by omega, ?_⟩, less⟩
      show (jor _ _, _) = _
      rw [e2]
    · refine RUN.pos (show ξ (2 + (p : Int)) 0 ≠ (D : Int) by rw [hday]; exact hd) ?_
      unfold f_L_isPlanned_170
      refine RUN.to (RUN.to ?_)
      have e2 : jor ((mset (fun p => decide (B 0 p = (D : Int)) && tk B c p) p : Nat) : Int) 0 = ((mset (fun p => decide (B 0 p = (D : Int)) && tk B c p) (p + 1) : Nat) : Int) := by
        rw [es, decide_eq_false hd, Bool.false_and, bf]
        show jor _ ((0 : Nat) : Int) = _
        rw [jor_n (by omega) (by omega), Nat.or_zero]
      rw [e1]
      refine RUN.ok ⟨⟨p + 1, by omega, ?_⟩, less⟩
      show (jor _ _, _) = _
      rw [e2]
theorem p_126 (K : KS k σ B J) (A : AR m n ξ B) (hc : c < n) (hD : D < 5) {over : Int} (ho : over = ov (dpl B c D (ovr B c D))) : RUN (f_L_isPlanned_126 m n N xs (σ, ξ) (3 + (m : Int) + c) c D (ovr B c D) (ahd B c (ovr B c D) : Int) (rs B c) (cntd (dpl B c D (ovr B c D)) : Int) over 1 (fre B c (ovr B c D))) (FIN 1 k B J ξ) := by
  have hc2 : (c : Int) < B 8 1 := by have := A.2.1; omega
  unfold f_L_isPlanned_126 f_L_isPlanned_138
  refine RUN.bind (p_138 (D := D) (σ := σ) A K.1.2.2.1 hc _ _ _ _ _ _ _ _ _) ?_
  rintro _ rfl
  exact p_179 K A hc2 hD ho
theorem p_37 (K : KS k σ B J) (A : AR m n ξ B) (hc : c < n) (hD : D < 5) {s0 : Int} (hs : s0 = (ahd B c (ovr B c D) : Int)) : RUN (f_L_isPlanned_37 m n N xs (σ, ξ) (3 + (m : Int) + c) c D (ovr B c D) s0) (FIN 1 k B J ξ) := by
  have hc2 : (c : Int) < B 8 1 := by have := A.2.1; omega
  have w := K.1.2.2.1
  have hoo := ovr_b w (c := c) (by omega) hc2 D
  have ha := ahd_b w (c := c) (by omega) hc2 hoo.2
  have hr := rs_b w (c := c) (by omega) hc2
  have hai := ahd_i (D := D) w hc2
  have hfi := fre_i (B := B) (c := c) (D := D)
  subst hs
  unfold f_L_isPlanned_37
  refine RUN.call (a_candOf K (by omega) hc2 (x := 4) (by decide)) fun ρ K1 => ?_
  refine RUN.to ?_
  refine RUN.call (a_plan K1 (by omega) hc2 hD (x := 5) ⟨by decide, by decide⟩) fun ρ2 K2 => ?_
  refine RUN.to ?_
  refine RUN.call (a_plan K2 (by omega) hc2 hD (x := 2) ⟨by decide, by decide⟩) fun ρ3 K3 => ?_
  refine RUN.to ?_
  refine RUN.call (a_plan K3 (by omega) hc2 hD (x := 4) ⟨by decide, by decide⟩) fun ρ4 K4 => ?_
  refine RUN.neg (show ¬ (ahd B c (ovr B c D) : Int) ≠ (ahd B c (ovr B c D) : Int) by simp) ?_
  refine RUN.call (a_plan K4 (by omega) hc2 hD (x := 3) ⟨by decide, by decide⟩) fun ρ5 K5 => ?_
  have key : ∀ x11, x11 = fre B c (ovr B c D) → RUN (f_L_isPlanned_126 m n N xs (ρ5, ξ) (3 + (m : Int) + c) c D (ovr B c D) (ahd B c (ovr B c D) : Int) (rs B c) (cntd (dpl B c D (ovr B c D)) : Int) (ov (dpl B c D (ovr B c D))) 1 x11) (FIN 1 k B J ξ) := fun x11 h => by
    rw [h]
    exact p_126 K5 A hc hD rfl
  by_cases h0 : 0 ≤ ovr B c D
  · rw [if_pos h0] at hai
    rw [if_neg (by omega), hai] at hfi
    have e : jadd (ahd B c (ovr B c D) : Int) (rs B c) = fre B c (ovr B c D) := by rw [hfi, jadd_ok (by omega) (by omega)]
    refine RUN.pos h0 ?_
    unfold f_L_isPlanned_102
    refine RUN.neg (show ¬ fre B c (ovr B c D) ≠ jadd (ahd B c (ovr B c D) : Int) (rs B c) by rw [e]; simp) ?_
    unfold f_L_isPlanned_110
    refine RUN.pos h0 ?_
    exact key _ e
  · rw [if_pos (by omega)] at hfi
    refine RUN.neg h0 ?_
    unfold f_L_isPlanned_102
    refine RUN.neg (show ¬ fre B c (ovr B c D) ≠ 0 by rw [hfi]; simp) ?_
    unfold f_L_isPlanned_110
    refine RUN.neg h0 ?_
    exact key _ hfi.symm
theorem l_planned (K : KS k σ B J) (A : AR m n ξ B) (hc : c < n) (hD : D < 5) : RUN (f_L_isPlanned m n N xs (σ, ξ) (3 + (m : Int) + c) c D) (FIN 1 k B J ξ) := by
  have hc2 : (c : Int) < B 8 1 := by have := A.2.1; omega
  have p19 : ∀ ρ, KS k ρ B J → RUN (f_L_isPlanned_19 m n N xs (ρ, ξ) (3 + (m : Int) + c) c D (ovr B c D)) (FIN 1 k B J ξ) := fun ρ K1 => by
    have w := K1.1.2.2.1
    have hoo := ovr_b w (c := c) (by omega) hc2 D
    have hai := ahd_i (D := D) w hc2
    unfold f_L_isPlanned_19
    by_cases h0 : 0 ≤ ovr B c D
    · rw [if_pos h0] at hai
      refine RUN.pos h0 ?_
      refine RUN.call (a_time K1 (by omega) hc2 h0 hoo.2) fun ρ2 K2 => ?_
      exact p_37 K2 A hc hD hai
    · rw [if_neg h0] at hai
      refine RUN.neg h0 ?_
      exact p_37 K1 A hc hD hai
  unfold f_L_isPlanned
  cases D with
  | zero =>
    refine RUN.neg (show ¬ ((0 : Nat) : Int) ≠ 0 by decide) ?_
    exact p19 σ K
  | succ d =>
    refine RUN.pos (show ((d + 1 : Nat) : Int) ≠ 0 by omega) ?_
    rw [show jsub ((d + 1 : Nat) : Int) 1 = (d : Int) from by rw [jsub_ok (by omega) (by omega)]; omega]
    refine RUN.call (a_plan K (by omega) hc2 (show d < 5 by omega) (x := 2) ⟨by decide, by decide⟩) fun ρ K1 => ?_
    exact p19 ρ K1
end
