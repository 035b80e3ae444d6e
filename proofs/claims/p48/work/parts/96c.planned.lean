/-! A DAY'S PLAN, all of it -/
section
variable {m n N : Nat} {xs : Nat → Int32} {k : Nat} {σ ξ : Mem} {B : Bk} {J : Option Bk} {c D : Nat}
theorem fin_some (w : WF B) (hc2 : (c : Int) < B 8 1) {v o' : Int} {mm : Nat} {l : List Nat} (hx : dpl B c D (ovr B c D) = some (v, o', mm, l)) {T : Nat} {base s : Int} (hb : base = if T < ahd B c (ovr B c D) then ovr B c D else -1) (h : SIT base T (bg B c (fre B c (ovr B c D)) (lq mm l)) (en B c (fre B c (ovr B c D)) (lq mm l)) (lq mm l) (nof mm) s) : dd B c (ovr B c D) (fre B c (ovr B c D)) (ahd B c (ovr B c D)) (dpl B c D (ovr B c D)) T = if 0 ≤ s then s else if wtB (woB B o') B c (fre B c (ovr B c D)) (lq mm l) (nof mm) T then 20 else -1 := by
  have g := DD_some w (by omega) hc2 hx T
  rcases h with ⟨h1, h2⟩ | ⟨i, h1, h2, h3, h4⟩
  · by_cases ht : T < ahd B c (ovr B c D)
    · have h0 : 0 ≤ ovr B c D := by
        refine Int.not_lt.mp fun z => ?_
        unfold ahd at ht
        rw [if_pos z] at ht
        omega
      rw [if_pos ht] at hb
      rw [h1, hb, if_pos h0]
      exact g.1 ht
    · rw [if_neg ht] at hb
      rw [h1, hb, if_neg (by decide)]
      exact dd_wait T hx ht h2
  · rw [h4, if_pos (by omega)]
    exact g.2.1 i h1 h2 h3
theorem fin_none (hx : dpl B c D (ovr B c D) = none) {T : Nat} {base s : Int} {b e : Nat → Int} {q : Nat → Nat} {f : Int} (hb : base = if T < ahd B c (ovr B c D) then ovr B c D else -1) (h : SIT base T b e q 0 s) : dd B c (ovr B c D) (fre B c (ovr B c D)) (ahd B c (ovr B c D)) (dpl B c D (ovr B c D)) T = if 0 ≤ s then s else if wtB (woB B (-1)) B c f q 0 T then 20 else -1 := by
  rcases h with ⟨h1, h2⟩ | ⟨i, h1, -⟩
  · rw [h1, hb, hx]
    unfold dd
    by_cases ht : T < ahd B c (ovr B c D)
    · have h0 : 0 ≤ ovr B c D := by
        refine Int.not_lt.mp fun z => ?_
        unfold ahd at ht
        rw [if_pos z] at ht
        omega
      rw [if_pos ht, if_pos h0]
    · rw [if_neg ht]
      show (-1 : Int) = if (0 : Int) ≤ -1 then -1 else if wtB (woB B (-1)) B (c : Int) f q 0 T = true then 20 else -1
      rw [if_neg (by decide)]
      have : wtB (woB B (-1)) B c f q 0 T = false := by
        unfold wtB woB anyN
        simp
      rw [this]
      rfl
  · exact absurd h1 (Nat.not_lt_zero _)
theorem kp_dd (T : Nat) : kp B c D T = decide (dd B c (ovr B c D) (fre B c (ovr B c D)) (ahd B c (ovr B c D)) (dpl B c D (ovr B c D)) T = 20) := rfl
theorem p_405 (K : KS k σ B J) (A : AR m n ξ B) (hc2 : (c : Int) < B 8 1) (hD : D < 5) {nq : Nat} {f : Int} {q : Nat → Nat} (hs : SIS k B J c D nq f q) (hn : nq ≤ 4) (hq : ∀ j, j < nq → q j < m) {over : Int} (ho : -1 ≤ over ∧ over < m) (hf : ∀ (T : Nat) (base s : Int), base = (if T < ahd B c (ovr B c D) then ovr B c D else -1) → SIT base T (bg B c f q) (en B c f q) q nq s → dd B c (ovr B c D) (fre B c (ovr B c D)) (ahd B c (ovr B c D)) (dpl B c D (ovr B c D)) T = if 0 ≤ s then s else if wtB (woB B over) B c f q nq T then 20 else -1) {all : Int} (h6 : ∀ ρ, KS k ρ B J → RUN (f_L_isPlanned_627 m n N xs (ρ, ξ) c D (nq : Int) over 1 all ((cnt (kp B c D) 48 : Nat) : Int)) (FIN 1 k B J ξ)) : RUN (f_L_isPlanned_405 m n N xs (σ, ξ) c D (ovr B c D) (ahd B c (ovr B c D) : Int) (nq : Int) over 1 all 0 0) (FIN 1 k B J ξ) := by
  unfold f_L_isPlanned_405
  refine RUN.bind (P := fun e => ∃ ρ, KS k ρ B J ∧ e = (1, ((cnt (kp B c D) 48 : Nat) : Int), (ρ, ξ))) ?_ ?_
  · refine RUN.loop (fun s => ∃ (T : Nat) (ρ : Mem), T ≤ 48 ∧ KS k ρ B J ∧ s = (1, ((cnt (kp B c D) T : Nat) : Int), (T : Int), (ρ, ξ))) (fun s => (100 - s.2.2.1).toNat) ⟨0, σ, Nat.zero_le _, K, rfl⟩ (Nat.le_of_ble_eq_true rfl) ?_
    rintro _ ⟨T, ρ, hT, K1, rfl⟩
    show RUN (f_L_isPlanned_405C m n N xs c D (ovr B c D) (ahd B c (ovr B c D) : Int) (nq : Int) over all 1 ((cnt (kp B c D) T : Nat) : Int) (T : Int) (ρ, ξ)) _
    unfold f_L_isPlanned_405C
    by_cases hend : (48 : Int) ≤ T
    · have : T = 48 := by omega
      subst this
      refine RUN.pos hend ?_
      exact RUN.ok ⟨ρ, K1, rfl⟩
    · have hT2 : T < 48 := by omega
      refine RUN.neg hend ?_
      refine RUN.call (a_does K1 (by omega) hc2 hD hT2) fun ρ2 K2 => ?_
      refine RUN.to ?_
      obtain ⟨dv, hdv⟩ : ∃ dv, dv = dd B c (ovr B c D) (fre B c (ovr B c D)) (ahd B c (ovr B c D)) (dpl B c D (ovr B c D)) T := ⟨_, rfl⟩
      have hcl := cnt_le (kp B c D) T
      have e1 : ∀ (s1 : Int), s1 = (if dv = 20 then 1 else 0) → jadd ((cnt (kp B c D) T : Nat) : Int) s1 = ((cnt (kp B c D) (T + 1) : Nat) : Int) := fun s1 h1 => by
        rw [cnt_s, kp_dd, ← hdv, h1]
        by_cases e : dv = 20
        · rw [if_pos e, decide_eq_true e, bt, jadd_ok (by omega) (by omega)]
          rfl
        · rw [if_neg e, decide_eq_false e, bf, jadd_ok (by omega) (by omega)]
          omega
      have fin : ∀ w0 : Int, w0 = (if woB B over T then 1 else 0) → ∀ (base : Int), base = (if T < ahd B c (ovr B c D) then ovr B c D else -1) → ∀ (kk : Int), RUN (f_L_isPlanned_481 m n N xs (ρ2, ξ) c D (ovr B c D) (ahd B c (ovr B c D) : Int) (nq : Int) over 1 all kk T dv w0 base 0) (fun r => ∃ ρ, KS k ρ B J ∧ r = .inl (1, kk, ((T + 1 : Nat) : Int), (ρ, ξ))) := fun w0 hw base hb kk => p_481 K2 A hs hn hq hT2 hw (fun s h => by rw [hdv]; exact hf T base s hb h)
      have fin2 : ∀ (w0 : Int), w0 = (if woB B over T then 1 else 0) → ∀ kk : Int, RUN (f_L_isPlanned_461 m n N xs (ρ2, ξ) c D (ovr B c D) (ahd B c (ovr B c D) : Int) (nq : Int) over 1 all kk T dv w0) (fun r => ∃ ρ, KS k ρ B J ∧ r = .inl (1, kk, ((T + 1 : Nat) : Int), (ρ, ξ))) := fun w0 hw kk => by
        unfold f_L_isPlanned_461
        by_cases ha : (ahd B c (ovr B c D) : Int) ≤ T
        · refine RUN.pos ha ?_
          unfold f_L_isPlanned_476
          exact fin w0 hw (-1) (by rw [if_neg (by omega)]) kk
        · refine RUN.neg ha ?_
          unfold f_L_isPlanned_476
          exact fin w0 hw (ovr B c D) (by rw [if_pos (by omega)]) kk
      have fin3 : ∀ s1 : Int, s1 = (if dv = 20 then 1 else 0) → RUN (f_L_isPlanned_437 m n N xs (ρ2, ξ) c D (ovr B c D) (ahd B c (ovr B c D) : Int) (nq : Int) over 1 all T dv s1 ((cnt (kp B c D) T : Nat) : Int)) (fun r => ∃ ρ, KS k ρ B J ∧ r = .inl (1, ((cnt (kp B c D) (T + 1) : Nat) : Int), ((T + 1 : Nat) : Int), (ρ, ξ))) := fun s1 h1 => by
        unfold f_L_isPlanned_437
        refine RUN.to ?_
        rw [e1 s1 h1]
        by_cases ho0 : over < 0
        · refine RUN.pos ho0 ?_
          unfold f_L_isPlanned_460
          exact fin2 0 (by rw [if_neg]; unfold woB; simp; omega) _
        · refine RUN.neg ho0 ?_
          refine RUN.chk ⟨by omega, ho.2⟩ (RUN.chk ⟨by decide, by decide⟩ ?_)
          obtain ⟨P, rfl⟩ := n_of (show 0 ≤ over by omega)
          have hst := (A.2.2.2.2.1 P (by omega)).2
          by_cases h2 : (T : Int) < B 1 P
          · refine RUN.pos (show (T : Int) < ξ (2 + (P : Int)) 1 by rw [hst]; exact h2) ?_
            unfold f_L_isPlanned_460
            exact fin2 0 (by rw [if_neg]; unfold woB; simp; omega) _
          · refine RUN.neg (show ¬ (T : Int) < ξ (2 + (P : Int)) 1 by rw [hst]; exact h2) ?_
            exact fin2 1 (by rw [if_pos]; unfold woB; simp; omega) _
      have last : ∀ ρ3, KS k ρ3 B J → ∃ (T' : Nat) (ρ : Mem), T' ≤ 48 ∧ KS k ρ B J ∧ ((1 : Int), ((cnt (kp B c D) (T + 1) : Nat) : Int), ((T + 1 : Nat) : Int), ((ρ3, ξ) : M2)) = (1, ((cnt (kp B c D) T' : Nat) : Int), (T' : Int), (ρ, ξ)) := fun ρ3 K3 => ⟨T + 1, ρ3, by omega, K3, rfl⟩
      have less : (100 - ((T + 1 : Nat) : Int)).toNat < (100 - (T : Int)).toNat := by omega
      by_cases h20 : dv = 20
      · refine RUN.neg (show ¬ (dd B c (ovr B c D) (fre B c (ovr B c D)) (ahd B c (ovr B c D)) (dpl B c D (ovr B c D)) T ≠ 20) by rw [← hdv]; omega) ?_
        rw [← hdv]
        refine (fin3 1 (by rw [if_pos h20])).mono ?_
        rintro _ ⟨ρ3, K3, rfl⟩
        exact ⟨last ρ3 K3, less⟩
      · refine RUN.pos (show dd B c (ovr B c D) (fre B c (ovr B c D)) (ahd B c (ovr B c D)) (dpl B c D (ovr B c D)) T ≠ 20 by rw [← hdv]; exact h20) ?_
        rw [← hdv]
        refine (fin3 0 (by rw [if_neg h20])).mono ?_
        rintro _ ⟨ρ3, K3, rfl⟩
        exact ⟨last ρ3 K3, less⟩
  · rintro _ ⟨ρ, K1, rfl⟩
    exact h6 ρ K1
end
