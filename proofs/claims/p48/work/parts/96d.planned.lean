/-! A DAY'S PLAN: the law finds it right -/
theorem and_bit (t p : Nat) : t &&& 2 ^ p = if t.testBit p then 2 ^ p else 0 := by
  refine Nat.eq_of_testBit_eq fun i => ?_
  rw [Nat.testBit_and, Nat.testBit_two_pow]
  by_cases e : p = i
  · subst e
    cases h : t.testBit p with
    | true => rw [bt, Nat.testBit_two_pow]; simp
    | false => rw [bf, Nat.zero_testBit]; rfl
  · cases h : t.testBit p with
    | true => rw [bt, Nat.testBit_two_pow]; simp [e]
    | false => rw [bf, Nat.zero_testBit]; simp [e]
theorem jand_bit {t p : Nat} (ht : t < 4096) (hp : p < 12) : jand (t : Int) (jshl 1 (p : Int)) = ((if t.testBit p then 2 ^ p else 0 : Nat) : Int) := by
  have h2 : (2 : Nat) ^ p < 2 ^ 12 := Nat.pow_lt_pow_right (by decide) hp
  rw [jshl_n (by omega), jand_n (by omega) (by omega), and_bit]
section
variable {m n N : Nat} {xs : Nat → Int32} {k : Nat} {σ ξ : Mem} {B : Bk} {J : Option Bk} {c D : Nat}
theorem FIN_of {v : Int} {ρ : Mem} (K : KS k ρ B J) : FIN v k B J ξ (v, (ρ, ξ)) := ⟨rfl, rfl, K⟩
theorem p_766 (K : KS k σ B J) (hc2 : (c : Int) < B 8 1) (hD : D < 5) {all : Int} (ha : all = ((od B c D : Nat) : Int)) : RUN (f_L_isPlanned_766 m n N xs (σ, ξ) c D all) (FIN 1 k B J ξ) := by
  have w := K.1.2.2.1
  unfold f_L_isPlanned_766
  refine RUN.call (a_plan K (by omega) hc2 hD (x := 0) ⟨by decide, by decide⟩) fun ρ K1 => ?_
  cases hx : dpl B c D (ovr B c D) with
  | none =>
    have e : plV B c D 0 = 0 := by unfold plV; rw [if_pos rfl, hx]; rfl
    have hl : laV B c D = 0 := by unfold laV; rw [no_od w (by omega) hc2 hx]; rfl
    obtain ⟨r, h1, h2⟩ := a_clash K (by omega) hc2 hD hx (pos_od w (by omega) hc2 hx) hl
    obtain ⟨⟨g1, g2, g3⟩, -⟩ := h1
    have hr : r < 4096 := Nat.lt_of_le_of_lt (sub_le g2) (od_lt B c D)
    have hod := od_lt B c D
    refine RUN.pos (show plV B c D 0 ≠ 1 by rw [e]; decide) ?_
    refine RUN.call (a_lawful K1 (by omega) hc2 hD) fun ρ2 K2 => ?_
    refine RUN.neg (show ¬ laV B c D ≠ 0 by rw [hl]; decide) ?_
    refine RUN.call (h2 _ _ _ K2) fun ρ3 K3 => ?_
    refine RUN.call (h2 _ _ _ K3) fun ρ4 K4 => ?_
    refine RUN.neg (show ¬ jand (r : Int) all ≠ (r : Int) by rw [ha, jand_n (by omega) (by omega), sub_and g2]; simp) ?_
    refine RUN.call (h2 _ _ _ K4) fun ρ5 K5 => ?_
    refine RUN.neg (show ¬ (r : Int) = 0 by omega) ?_
    exact RUN.ok (FIN_of K5)
  | some y =>
    have e : plV B c D 0 = 1 := by unfold plV; rw [if_pos rfl, hx]; rfl
    refine RUN.neg (show ¬ plV B c D 0 ≠ 1 by rw [e]; decide) ?_
    refine RUN.call (a_plan6 K1 (by omega) hc2 hD hx) fun ρ2 K2 => ?_
    refine RUN.neg (show ¬ (0 : Int) ≠ 0 by decide) ?_
    exact RUN.ok (FIN_of K2)
theorem p_746 (K : KS k σ B J) (hc2 : (c : Int) < B 8 1) (hD : D < 5) {all over : Int} (ha : all = ((od B c D : Nat) : Int)) (ho : over = ov (dpl B c D (ovr B c D))) : RUN (f_L_isPlanned_746 m n N xs (σ, ξ) c D over 1 all) (FIN 1 k B J ξ) := by
  unfold f_L_isPlanned_746
  refine RUN.neg (by decide) ?_
  by_cases h : over < 0
  · exact RUN.pos h (p_766 K hc2 hD ha)
  · refine RUN.neg h ?_
    refine RUN.call (a_lawful K (by omega) hc2 hD) fun ρ K1 => ?_
    have hl : laV B c D = 0 := by
      cases hx : dpl B c D (ovr B c D) with
      | none => rw [hx] at ho; exact absurd (show over = -1 from ho) (by omega)
      | some y =>
        obtain ⟨v, o', mm, l⟩ := y
        rw [hx] at ho
        unfold laV
        rw [over_od hx (show 0 ≤ o' by have : over = o' := ho; omega)]
        rfl
    refine RUN.neg (show ¬ laV B c D ≠ 0 by rw [hl]; decide) ?_
    exact p_766 K1 hc2 hD ha
theorem p_650 (K : KS k σ B J) (hc2 : (c : Int) < B 8 1) (hD : D < 5) {all over kept : Int} (ha : all = ((od B c D : Nat) : Int)) (ho : over = ov (dpl B c D (ovr B c D))) (hk : kept = kv (dpl B c D (ovr B c D))) : RUN (f_L_isPlanned_650 m n N xs (σ, ξ) c D (cntd (dpl B c D (ovr B c D)) : Int) over all kept 1) (FIN 1 k B J ξ) := by
  have w := K.1.2.2.1
  unfold f_L_isPlanned_650
  by_cases h : 0 ≤ over
  · exact RUN.pos h (p_746 K hc2 hD ha ho)
  refine RUN.neg h ?_
  refine RUN.call (a_plan K (by omega) hc2 hD (x := 0) ⟨by decide, by decide⟩) fun ρ K1 => ?_
  cases hx : dpl B c D (ovr B c D) with
  | none =>
    have e : plV B c D 0 = 0 := by unfold plV; rw [if_pos rfl, hx]; rfl
    refine RUN.pos (show plV B c D 0 ≠ 1 by rw [e]; decide) ?_
    exact p_746 K1 hc2 hD ha ho
  | some y =>
    obtain ⟨v, o', mm, l⟩ := y
    have e : plV B c D 0 = 1 := by unfold plV; rw [if_pos rfl, hx]; rfl
    have ho2 := ho
    have hk2 := hk
    rw [hx] at ho2 hk2
    have ho2 : over = o' := ho2
    have hk2 : kept = v := hk2
    obtain ⟨e1, e2, e3⟩ := best_od hx (by omega)
    have hv := dpl_v w (by omega) hc2 hx
    obtain ⟨d1, d2, d3, d4, d5, d6, d7⟩ := dpl_some w (by omega) hc2 hx
    have h4 := d1.2.1
    refine RUN.neg (show ¬ plV B c D 0 ≠ 1 by rw [e]; decide) ?_
    show RUN (if (nof mm : Int) ≤ 0 then _ else _) _
    by_cases hz : (nof mm : Int) ≤ 0
    · exact RUN.pos hz (p_746 K1 hc2 hD ha ho)
    refine RUN.neg hz ?_
    refine RUN.neg (by decide) ?_
    refine RUN.call (a_lawful K1 (by omega) hc2 hD) fun ρ2 K2 => ?_
    refine RUN.neg (show ¬ laV B c D ≤ 0 by unfold laV; have := some_od hx (by omega); omega) ?_
    refine RUN.call (a_measure K2 (by omega) hc2 hD (b := 0) (by decide) hx e2 (by omega)) fun ρ3 K3 => ?_
    have hm0 : msC B c (fre B c (ovr B c D)) 0 (woB B (-1)) (ahd B c (ovr B c D)) (nof mm) (lq mm l) = kept := by
      unfold msC
      rw [if_pos rfl, hk2, hv, e2]
    refine RUN.neg (show ¬ msC B c (fre B c (ovr B c D)) 0 (woB B (-1)) (ahd B c (ovr B c D)) (nof mm) (lq mm l) ≠ kept by rw [hm0]; simp) ?_
    refine RUN.call (a_best K3 (by omega) hc2 hD (b := 0) (by decide) (by rw [← e1]; omega) e3) fun ρ4 K4 => ?_
    refine RUN.neg (show ¬ v ≠ kept by rw [hk2]; simp) ?_
    refine RUN.call (a_measure K4 (by omega) hc2 hD (b := 1) (by decide) hx e2 (by omega)) fun ρ5 K5 => ?_
    obtain ⟨z, hz2⟩ : ∃ z, nof mm = z + 1 := ⟨nof mm - 1, by omega⟩
    have hj : jsub (nof mm : Int) 1 = (z : Int) := by rw [jsub_ok (by omega) (by omega)]; omega
    have hsv : siV B c D z 2 = en B c (fre B c (ovr B c D)) (lq mm l) z := by
      unfold siV
      rw [hx]
      rfl
    have hm1 : msC B c (fre B c (ovr B c D)) 1 (woB B (-1)) (ahd B c (ovr B c D)) (nof mm) (lq mm l) = en B c (fre B c (ovr B c D)) (lq mm l) z := by
      unfold msC
      rw [if_neg (by decide), hz2]
      rfl
    have hs := a_sits K5 (by omega) hc2 hD (I := z) (by rw [hx]; show z < nof mm; omega) (x := 2) (by decide)
    rw [hsv] at hs
    show RUN ((f_X10_sits ρ5 c D (jsub (nof mm : Int) 1) 2).bind _) _
    rw [hj]
    refine RUN.call hs fun ρ6 K6 => ?_
    refine RUN.neg (show ¬ msC B c (fre B c (ovr B c D)) 1 (woB B (-1)) (ahd B c (ovr B c D)) (nof mm) (lq mm l) ≠ en B c (fre B c (ovr B c D)) (lq mm l) z by rw [hm1]; simp) ?_
    unfold f_L_isPlanned_744
    exact p_746 K6 hc2 hD ha ho
theorem p_627 (K : KS k σ B J) (hc2 : (c : Int) < B 8 1) (hD : D < 5) {all over : Int} (ha : all = ((od B c D : Nat) : Int)) (ho : over = ov (dpl B c D (ovr B c D))) : RUN (f_L_isPlanned_627 m n N xs (σ, ξ) c D (cntd (dpl B c D (ovr B c D)) : Int) over 1 all ((cnt (kp B c D) 48 : Nat) : Int)) (FIN 1 k B J ξ) := by
  have w := K.1.2.2.1
  have hk : ((cnt (kp B c D) 48 : Nat) : Int) = kv (dpl B c D (ovr B c D)) := by
    cases hx : dpl B c D (ovr B c D) with
    | none =>
      rw [cnt_none fun i _ => kp_none w (by omega) hc2 hx i]
      rfl
    | some y =>
      obtain ⟨v, o', mm, l⟩ := y
      rw [cnt_congr fun i _ => kp_some w (by omega) hc2 hx i]
      exact (dpl_v w (by omega) hc2 hx).symm
  unfold f_L_isPlanned_627
  refine RUN.neg (by decide) ?_
  refine RUN.call (a_plan K (by omega) hc2 hD (x := 1) ⟨by decide, by decide⟩) fun ρ K1 => ?_
  have e : plV B c D 1 = kv (dpl B c D (ovr B c D)) := rfl
  refine RUN.neg (show ¬ ((cnt (kp B c D) 48 : Nat) : Int) ≠ plV B c D 1 by rw [e, hk]; simp) ?_
  exact p_650 K1 hc2 hD ha ho hk
end
