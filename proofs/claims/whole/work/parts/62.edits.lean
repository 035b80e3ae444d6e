/-! EDITS, one by one (by mk62.py) -/
theorem X10_isYesOrNo {σ : Mem} (x : Int) : f_X10_isYesOrNo σ x = some (if 0 ≤ x ∧ x ≤ 1 then 1 else 0) := by
  unfold f_X10_isYesOrNo
  by_cases h : x = 0
  · rw [if_pos h, if_pos (by omega)]; rfl
  · rw [if_neg h]
    by_cases h2 : x = 1
    · rw [if_neg (by omega), if_pos (by omega)]; rfl
    · rw [if_pos h2, if_neg (by omega)]
theorem X2_isKind {σ : Mem} (x : Int) : f_X2_isKind σ x = some (if 0 ≤ x ∧ x ≤ 5 then 1 else 0) := by
  unfold f_X2_isKind
  by_cases h : x < 0
  · rw [if_pos h, if_neg (by omega)]
  · rw [if_neg h]
    by_cases h2 : 6 ≤ x
    · rw [if_pos h2, if_neg (by omega)]
    · rw [if_neg h2, if_pos (by omega)]
/-- starts -/
theorem k_starts {n : Nat} {σ : Mem} {B : Bk} (h : INV0 n σ B) (hl : n < 1000) (p v : Int) : CALL0 n σ B (f_X10_starts σ p v) (fun ρ => f_X11_starts ρ p v) := by
  have hst := h.1
  obtain ⟨hB, hR, w, hW⟩ := h.1
  have hn := w.1
  unfold WFn at hn
  have hR' : isRk (refd σ (-52)) 182 B := isRk_refd hR
  by_cases h1 : 0 ≤ p ∧ p < B 8 0
  rotate_left
  · refine same.call h (same.no (x := -52) (by omega) (by decide) ?_ CFr.rfl hW ?_ RFr.rfl)
    · unfold f_X10_starts
      rw [bind_some' (X0_hasPaper hB p), if0, if_neg h1]
      exact c_no (by decide)
    · show f_X11_starts _ p v = _
      unfold f_X11_starts
      rw [bind_some' (X11_isPaper hR' w p), if0, if_neg h1]
      exact r_no (by decide)
  by_cases h2 : 0 ≤ v ∧ v < 48
  rotate_left
  · refine same.call h (same.no (x := -52) (by omega) (by decide) ?_ CFr.rfl hW ?_ RFr.rfl)
    · unfold f_X10_starts
      rw [bind_some' (X0_hasPaper hB p), if0, if_pos h1, bind_some' (X10_isSlot v), if1, if_neg h2]
      exact c_no (by decide)
    · show f_X11_starts _ p v = _
      unfold f_X11_starts
      rw [bind_some' (X11_isPaper hR' w p), if0, if_pos h1, bind_some' (X11_isSlot v), if0, if_neg h2]
      exact r_no (by decide)
  obtain ⟨hd1, hd2⟩ := h.2.2.2.2.2.2.2
  have eB : isBk (mup σ 3 p v) 1 (mup B 1 p v) := hB.put (t := 1) (by decide) (by decide)
  have eR : isRk (mup σ 182 (3 * p + 1) v) 182 (mup B 1 p v) := hR.put3 (t := 1) (by decide) (by omega)
  have e8 : mup B 1 p v 8 = B 8 := mup_row (by decide)
  obtain ⟨ρ, f1, f2, f3, f4⟩ := X9_forgetAll (σ := mup σ 3 p v) (by rw [mup_miss (by omega)]; omega)
  rw [mup_miss (by omega)] at f3
  have hRr : isRk ρ 182 B := hR.pt fun i => by rw [f2 182 i (by omega) (by omega), mup_miss (by omega)]
  have w' : WF (mup B 1 p v) := by
    obtain ⟨w1, w2, w3, w4⟩ := w
    refine ⟨by unfold WFn; rw [e8]; exact w1, fun q q1 q2 => ?_, w3.of (mup_row (by decide)) (mup_row (by decide)) (mup_row (by decide)) (mup_row (by decide)) (mup_row (by decide)) (by rw [e8]) (by rw [e8]), w4.of (mup_row (by decide)) (by rw [e8])⟩
    rw [e8] at q2
    have := w2 q q1 q2
    rw [mup_row (show (0 : Int) ≠ 1 by decide), mup_row (show (2 : Int) ≠ 1 by decide)]
    refine ⟨this.1, ?_, this.2.2⟩
    by_cases e : q = p
    · rw [mup_hit rfl e]; exact h2
    · rw [mup_miss (fun z => e z.2)]; exact this.2.1
  refine call_edit (ρ := ρ) (τ := mup ρ 182 (3 * p + 1) v) (v := B 1 p) h w' ?_ ?_ (fun x i g1 g2 g3 g4 g5 => by rw [mup_miss (by omega), f2 x i g2 g3, mup_miss (by omega)]) ?_ ?_ (by rw [e8]; exact Int.le_refl _) (fun c g1 g2 g3 => absurd (by rw [mup_miss (by omega)]; exact f4 c g1 (by rw [e8] at g2; omega)) g3) (Or.inl (by rw [mup_miss (by omega)]; exact f3))
  · unfold f_X10_starts
    rw [bind_some' (X0_hasPaper hB p), if0, if_pos h1, bind_some' (X10_isSlot v), if1, if_pos h2]
    rw [chk_pos (by omega)]
    simp only [Option.bind_some]
    rw [chk_pos (by omega), show σ 3 p = B 1 p from hB.start h1.1 (by omega), f1]
    rfl
  · show f_X11_starts _ p v = _
    unfold f_X11_starts
    rw [bind_some' (X11_isPaper hRr w p), if0, if_pos h1, bind_some' (X11_isSlot v), if0, if_pos h2]
    rw [j3 (by omega), jadd_ok (by omega) (by omega), bind_some' (X11_becomes (by omega)), hRr.start h1.1 (by omega)]
  · exact eB.pt fun x i g1 g2 => by rw [mup_miss (by omega), f2 x i (by omega) (by omega)]
  · exact eR.pt fun i => by
      by_cases e : i = 3 * p + 1
      · rw [mup_hit rfl e, mup_hit rfl e]
      · rw [mup_miss (fun z => e z.2), mup_miss (fun z => e z.2), f2 182 i (by omega) (by omega), mup_miss (by omega)]
/-- night -/
theorem k_night {n : Nat} {σ : Mem} {B : Bk} (h : INV0 n σ B) (hl : n < 1000) (c v : Int) : CALL0 n σ B (f_X10_night σ c v) (fun ρ => f_X11_night ρ c v) := by
  have hst := h.1
  obtain ⟨hB, hR, w, hW⟩ := h.1
  have hn := w.1
  unfold WFn at hn
  have hR' : isRk (refd σ (-52)) 182 B := isRk_refd hR
  by_cases h1 : 0 ≤ c ∧ c < B 8 1
  rotate_left
  · refine same.call h (same.no (x := -52) (by omega) (by decide) ?_ CFr.rfl hW ?_ RFr.rfl)
    · unfold f_X10_night
      rw [bind_some' (X0_hasCand hB c), if0, if_neg h1]
      exact c_no (by decide)
    · show f_X11_night _ c v = _
      unfold f_X11_night
      rw [bind_some' (X11_isCand hR' w c), if0, if_neg h1]
      exact r_no (by decide)
  by_cases h2 : 0 ≤ v ∧ v ≤ 1
  rotate_left
  · refine same.call h (same.no (x := -52) (by omega) (by decide) ?_ CFr.rfl hW ?_ RFr.rfl)
    · unfold f_X10_night
      rw [bind_some' (X0_hasCand hB c), if0, if_pos h1, bind_some' (X10_isYesOrNo v), if1, if_neg h2]
      exact c_no (by decide)
    · show f_X11_night _ c v = _
      unfold f_X11_night
      rw [bind_some' (X11_isCand hR' w c), if0, if_pos h1, bind_some' (X11_isIn v 0 1), if0, if_neg h2]
      exact r_no (by decide)
  obtain ⟨hd1, hd2⟩ := h.2.2.2.2.2.2.2
  have eB : isBk (mup σ 7 c v) 1 (mup B 5 c v) := hB.put (t := 5) (by decide) (by decide)
  have eR : isRk (mup σ 182 (36 + 4 * c + 2) v) 182 (mup B 5 c v) := hR.put4 (t := 2) (by decide) (by omega)
  have e8 : mup B 5 c v 8 = B 8 := mup_row (by decide)
  have f1 := X9_forget (σ := mup σ 7 c v) (c := c) (by omega) (by rw [mup_miss (by omega)]; omega)
  rw [mup_miss (by omega)] at f1
  obtain ⟨ρ, hρ⟩ : ∃ ρ, ρ = mup (mup (mup σ 7 c v) 53 c 0) 43 3 (σ 43 3 + 1) := ⟨_, rfl⟩
  rw [← hρ] at f1
  have f2 : ∀ x i, x ≠ 7 → (x = 43 → i ≠ 3) → x ≠ 53 → ρ x i = σ x i := fun x i g1 g2 g3 => by rw [hρ, mup_miss (by omega), mup_miss (by omega), mup_miss (by omega)]
  have hRr : isRk ρ 182 B := hR.pt fun i => f2 182 i (by omega) (by omega) (by omega)
  have w' : WF (mup B 5 c v) := by
    obtain ⟨w1, w2, w3, w4⟩ := w
    refine ⟨by unfold WFn; rw [e8]; exact w1, w2.of (mup_row (by decide)) (mup_row (by decide)) (mup_row (by decide)) (by rw [e8]), fun q q1 q2 => ?_, w4.of (mup_row (by decide)) (by rw [e8])⟩
    rw [e8] at q2
    obtain ⟨g1, g2, g3, g4, g5, g6⟩ := w3 q q1 q2
    rw [mup_row (show (3 : Int) ≠ 5 by decide), mup_row (show (4 : Int) ≠ 5 by decide), mup_row (show (6 : Int) ≠ 5 by decide), e8]
    refine ⟨g1, g2, ?_, g4, fun p hp => g5 p ?_, fun d => ?_⟩
    · by_cases e : q = c
      · rw [mup_hit rfl e]; omega
      · rw [mup_miss (fun z => e z.2)]; exact g3
    · unfold tk at hp ⊢
      rw [mup_row (by decide)] at hp
      exact hp
    · rw [od_congr (by rw [e8]) (mup_row (by decide)) (by rw [mup_row (by decide)])]
      exact g6 d
  refine call_edit (ρ := ρ) (τ := mup ρ 182 (36 + 4 * c + 2) v) (v := B 5 c) h w' ?_ ?_ (fun x i g1 g2 g3 g4 g5 => by rw [mup_miss (by omega), f2 x i (by omega) g2 g3]) ?_ ?_ (by rw [e8]; exact Int.le_refl _) (fun q g1 g2 g3 => ?_) (Or.inl (by rw [mup_miss (by omega), hρ, mup_hit rfl rfl]))
  · unfold f_X10_night
    rw [bind_some' (X0_hasCand hB c), if0, if_pos h1, bind_some' (X10_isYesOrNo v), if1, if_pos h2]
    rw [chk_pos (by omega)]
    simp only [Option.bind_some]
    rw [chk_pos (by omega), show σ 7 c = B 5 c from hB.night h1.1 (by omega), f1]
    rfl
  · show f_X11_night _ c v = _
    unfold f_X11_night
    rw [bind_some' (X11_isCand hRr w c), if0, if_pos h1, bind_some' (X11_isIn v 0 1), if0, if_pos h2]
    rw [j4 (by omega) (by decide), bind_some' (X11_becomes (by omega)), hRr.night h1.1 (by omega)]
  · exact eB.pt fun x i g1 g2 => by rw [mup_miss (by omega), hρ, mup_miss (by omega), mup_miss (by omega)]
  · exact eR.pt fun i => by
      by_cases e : i = 36 + 4 * c + 2
      · rw [mup_hit rfl e, mup_hit rfl e]
      · rw [mup_miss (fun z => e z.2), mup_miss (fun z => e z.2), f2 182 i (by omega) (by omega) (by omega)]
  · rw [e8] at g2
    have hqc : q ≠ c := fun e => g3 (by rw [mup_miss (by omega), hρ, mup_miss (by omega), mup_hit rfl e])
    refine ⟨fun e => g3 ?_, g2, fun d => ⟨by rw [mup_row (by decide)], by rw [mup_row (by decide)], by rw [mup_row (by decide)], by rw [mup_miss (fun z => hqc z.2)], fun p _ _ => by rw [mup_row (by decide)], od_congr (by rw [e8]) (mup_row (by decide)) (by rw [mup_row (by decide)]), fun p _ => by rw [mup_row (by decide)]⟩⟩
    rw [mup_miss (by omega), hρ, mup_miss (by omega), mup_miss (fun z => hqc z.2), mup_miss (by omega), e]
/-- hours -/
theorem k_hours {n : Nat} {σ : Mem} {B : Bk} (h : INV0 n σ B) (hl : n < 1000) (v : Int) : CALL0 n σ B (f_X10_hours σ v) (fun ρ => f_X11_hours ρ v) := by
  have hst := h.1
  obtain ⟨hB, hR, w, hW⟩ := h.1
  have hn := w.1
  unfold WFn at hn
  have hR' : isRk (refd σ (-52)) 182 B := isRk_refd hR
  by_cases h1 : 8 ≤ v ∧ v ≤ 40
  rotate_left
  · refine same.call h (same.no (x := -52) (by omega) (by decide) ?_ CFr.rfl hW ?_ RFr.rfl)
    · unfold f_X10_hours
      by_cases hz : v < 8
      · rw [if_pos hz]
        exact c_no (by decide)
      · rw [if_neg hz, if_neg (show ¬ v ≤ 40 by omega)]
        exact c_no (by decide)
    · show f_X11_hours _ v = _
      unfold f_X11_hours
      rw [bind_some' (X11_isIn v 8 40), if0, if_neg h1]
      exact r_no (by decide)
  obtain ⟨hd1, hd2⟩ := h.2.2.2.2.2.2.2
  have eB : isBk (mup σ 1 11 v) 1 (mup B 8 3 v) := hB.putn (i := 3)
  have eR : isRk (mup σ 182 85 v) 182 (mup B 8 3 v) := hR.putn (i := 3) (by decide)
  have e8 : ∀ i, i ≠ 3 → mup B 8 3 v 8 i = B 8 i := fun i hi => mup_miss (fun z => hi z.2)
  obtain ⟨ρ, f1, f2, f3, f4⟩ := X9_forgetAll (σ := mup σ 1 11 v) (by rw [mup_miss (by omega)]; omega)
  rw [mup_miss (by omega)] at f3
  have hRr : isRk ρ 182 B := hR.pt fun i => by rw [f2 182 i (by omega) (by omega), mup_miss (by omega)]
  have w' : WF (mup B 8 3 v) := by
    obtain ⟨w1, w2, w3, w4⟩ := w
    refine ⟨?_, w2.of (mup_row (by decide)) (mup_row (by decide)) (mup_row (by decide)) (e8 _ (by decide)), w3.of (mup_row (by decide)) (mup_row (by decide)) (mup_row (by decide)) (mup_row (by decide)) (mup_row (by decide)) (e8 _ (by decide)) (e8 _ (by decide)), w4.of (mup_row (by decide)) (e8 _ (by decide))⟩
    unfold WFn
    rw [e8 0 (by decide), e8 1 (by decide), e8 2 (by decide), e8 4 (by decide), e8 5 (by decide), mup_hit rfl rfl]
    exact ⟨hn.1, hn.2.1, hn.2.2.1, h1, hn.2.2.2.2⟩
  refine call_edit (ρ := ρ) (τ := mup ρ 182 85 v) (v := B 8 3) h w' ?_ ?_ (fun x i g1 g2 g3 g4 g5 => by rw [mup_miss (by omega), f2 x i g2 g3, mup_miss (by omega)]) ?_ ?_ (by rw [e8 1 (by decide)]; exact Int.le_refl _) (fun c g1 g2 g3 => absurd (by rw [mup_miss (by omega)]; exact f4 c g1 (by rw [e8 1 (by decide)] at g2; omega)) g3) (Or.inl (by rw [mup_miss (by omega)]; exact f3))
  · unfold f_X10_hours
    rw [if_neg (show ¬ v < 8 by omega), if_pos (show v ≤ 40 by omega)]
    simp only [Option.bind_some]
    rw [hB.hours, f1]
    rfl
  · show f_X11_hours _ v = _
    unfold f_X11_hours
    rw [bind_some' (X11_isIn v 8 40), if0, if_pos h1]
    rw [bind_some' (X11_becomes (by decide)), hRr.hours]
  · exact eB.pt fun x i g1 g2 => by rw [mup_miss (by omega), f2 x i (by omega) (by omega)]
  · exact eR.pt fun i => by
      by_cases e : i = 85
      · rw [mup_hit rfl e, mup_hit rfl e]
      · rw [mup_miss (fun z => e z.2), mup_miss (fun z => e z.2), f2 182 i (by omega) (by omega), mup_miss (by omega)]
/-- turn -/
theorem k_turn {n : Nat} {σ : Mem} {B : Bk} (h : INV0 n σ B) (hl : n < 1000) (v : Int) : CALL0 n σ B (f_X10_turn σ v) (fun ρ => f_X11_turn ρ v) := by
  have hst := h.1
  obtain ⟨hB, hR, w, hW⟩ := h.1
  have hn := w.1
  unfold WFn at hn
  have hR' : isRk (refd σ (-52)) 182 B := isRk_refd hR
  by_cases h1 : 0 ≤ v ∧ v ≤ 8
  rotate_left
  · refine same.call h (same.no (x := -52) (by omega) (by decide) ?_ CFr.rfl hW ?_ RFr.rfl)
    · unfold f_X10_turn
      by_cases hz : v < 0
      · rw [if_pos hz]
        exact c_no (by decide)
      · rw [if_neg hz, if_neg (show ¬ v ≤ 8 by omega)]
        exact c_no (by decide)
    · show f_X11_turn _ v = _
      unfold f_X11_turn
      rw [bind_some' (X11_isIn v 0 8), if0, if_neg h1]
      exact r_no (by decide)
  obtain ⟨hd1, hd2⟩ := h.2.2.2.2.2.2.2
  have eB : isBk (mup σ 1 12 v) 1 (mup B 8 4 v) := hB.putn (i := 4)
  have eR : isRk (mup σ 182 86 v) 182 (mup B 8 4 v) := hR.putn (i := 4) (by decide)
  have e8 : ∀ i, i ≠ 4 → mup B 8 4 v 8 i = B 8 i := fun i hi => mup_miss (fun z => hi z.2)
  have f1 := X9_forgetOthers (σ := mup σ 1 12 v) (by rw [mup_miss (by omega)]; omega)
  rw [mup_miss (by omega)] at f1
  obtain ⟨ρ, hρ⟩ : ∃ ρ, ρ = mup (mup σ 1 12 v) 43 3 (σ 43 3 + 1) := ⟨_, rfl⟩
  rw [← hρ] at f1
  have f2 : ∀ x i, x ≠ 1 → (x = 43 → i ≠ 3) → ρ x i = σ x i := fun x i g1 g2 => by rw [hρ, mup_miss (by omega), mup_miss (by omega)]
  have hRr : isRk ρ 182 B := hR.pt fun i => f2 182 i (by omega) (by omega)
  have w' : WF (mup B 8 4 v) := by
    obtain ⟨w1, w2, w3, w4⟩ := w
    refine ⟨?_, w2.of (mup_row (by decide)) (mup_row (by decide)) (mup_row (by decide)) (e8 _ (by decide)), w3.of (mup_row (by decide)) (mup_row (by decide)) (mup_row (by decide)) (mup_row (by decide)) (mup_row (by decide)) (e8 _ (by decide)) (e8 _ (by decide)), w4.of (mup_row (by decide)) (e8 _ (by decide))⟩
    unfold WFn
    rw [e8 0 (by decide), e8 1 (by decide), e8 2 (by decide), e8 3 (by decide), e8 5 (by decide), mup_hit rfl rfl]
    exact ⟨hn.1, hn.2.1, hn.2.2.1, hn.2.2.2.1, h1, hn.2.2.2.2.2⟩
  refine call_edit (ρ := ρ) (τ := mup ρ 182 86 v) (v := B 8 4) h w' ?_ ?_ (fun x i g1 g2 g3 g4 g5 => by rw [mup_miss (by omega), f2 x i (by omega) g2]) ?_ ?_ (by rw [e8 1 (by decide)]; exact Int.le_refl _) (fun q g1 g2 g3 => ?_) (Or.inl (by rw [mup_miss (by omega), hρ, mup_hit rfl rfl]))
  · unfold f_X10_turn
    rw [if_neg (show ¬ v < 0 by omega), if_pos (show v ≤ 8 by omega)]
    simp only [Option.bind_some]
    rw [hB.turn, f1]
    rfl
  · show f_X11_turn _ v = _
    unfold f_X11_turn
    rw [bind_some' (X11_isIn v 0 8), if0, if_pos h1]
    rw [bind_some' (X11_becomes (by decide)), hRr.turn]
  · exact eB.pt fun x i g1 g2 => by rw [mup_miss (by omega), hρ, mup_miss (by omega)]
  · exact eR.pt fun i => by
      by_cases e : i = 86
      · rw [mup_hit rfl e, mup_hit rfl e]
      · rw [mup_miss (fun z => e z.2), mup_miss (fun z => e z.2), f2 182 i (by omega) (by omega)]
  · rw [mup_miss (by omega), f2 53 q (by omega) (by omega)] at g3
    rw [e8 1 (by decide)] at g2
    exact ⟨g3, g2, fun d => ⟨by rw [e8 3 (by decide)], by rw [mup_row (by decide)], by rw [mup_row (by decide)], by rw [mup_row (by decide)], fun p _ _ => by rw [mup_row (by decide)], od_congr (e8 _ (by decide)) (mup_row (by decide)) (by rw [mup_row (by decide)]), fun p _ => by rw [mup_row (by decide)]⟩⟩
theorem k_seed {n : Nat} {σ : Mem} {B : Bk} (h : INV0 n σ B) {v : Int} (hv : in32 v) : CALL0 n σ B (f_X10_seed σ v) (fun ρ => f_X11_seed ρ v) := by
  obtain ⟨hB, hR, w, hW⟩ := h.1
  have hn := w.1
  unfold WFn at hn
  have eB : isBk (mup σ 1 13 v) 1 (mup B 8 5 v) := hB.putn (i := 5)
  have eR : isRk (mup σ 182 87 v) 182 (mup B 8 5 v) := hR.putn (i := 5) (by decide)
  have e8 : ∀ i, i ≠ 5 → mup B 8 5 v 8 i = B 8 i := fun i hi => mup_miss (fun z => hi z.2)
  have w' : WF (mup B 8 5 v) := by
    obtain ⟨w1, w2, w3, w4⟩ := w
    refine ⟨?_, w2.of (mup_row (by decide)) (mup_row (by decide)) (mup_row (by decide)) (e8 _ (by decide)), w3.of (mup_row (by decide)) (mup_row (by decide)) (mup_row (by decide)) (mup_row (by decide)) (mup_row (by decide)) (e8 _ (by decide)) (e8 _ (by decide)), w4.of (mup_row (by decide)) (e8 _ (by decide))⟩
    unfold WFn
    rw [e8 0 (by decide), e8 1 (by decide), e8 2 (by decide), e8 3 (by decide), e8 4 (by decide), mup_hit rfl rfl]
    exact ⟨hn.1, hn.2.1, hn.2.2.1, hn.2.2.2.1, hn.2.2.2.2.1, hv⟩
  have ha : ∀ c d : Int, agr B (mup B 8 5 v) c d := fun c d => ⟨by rw [e8 3 (by decide)], by rw [mup_row (by decide)], by rw [mup_row (by decide)], by rw [mup_row (by decide)], fun p _ _ => by rw [mup_row (by decide)], od_congr (e8 _ (by decide)) (mup_row (by decide)) (by rw [mup_row (by decide)]), fun p _ => by rw [mup_row (by decide)]⟩
  refine call_edit (ρ := mup σ 1 13 v) (τ := mup (mup σ 1 13 v) 182 87 v) (v := B 8 5) h w' ?_ ?_ (fun x i g1 g2 g3 g4 g5 => by rw [mup_miss (by omega), mup_miss (by omega)]) (eB.pt fun x i g1 g2 => mup_miss (by omega)) ?_ (by rw [e8 1 (by decide)]; exact Int.le_refl _) (fun q g1 g2 g3 => ?_) (Or.inr ⟨by rw [mup_miss (by omega), mup_miss (by omega)], e8 1 (by decide), e8 2 (by decide), e8 4 (by decide), fun r _ _ => mup_miss (by omega), fun c d _ _ => ha c d⟩)
  · unfold f_X10_seed
    simp only [Option.bind_some]
    rw [hB.seed]
  · show f_X11_seed _ _ = _
    unfold f_X11_seed
    rw [bind_some' (X11_becomes (by decide)), mup_miss (by omega), hR.seed]
  · exact eR.pt fun i => by
      by_cases e : i = 87
      · rw [mup_hit rfl e, mup_hit rfl e]
      · rw [mup_miss (fun z => e z.2), mup_miss (fun z => e z.2), mup_miss (by omega)]
  · rw [mup_miss (by omega), mup_miss (by omega)] at g3
    rw [e8 1 (by decide)] at g2
    exact ⟨g3, g2, fun d => ha q d⟩
