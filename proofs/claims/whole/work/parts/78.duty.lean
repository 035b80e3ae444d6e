/-! WATCH AND DUTY, both sides -/
theorem INV0.stp {n : Nat} {σ τ : Mem} {B : Bk} (h : INV0 n σ B) (s1 : ∀ x i, ¬ SC x → ¬ (164 ≤ x ∧ x ≤ 178) → (x = 181 → i = 2 ∨ i = 9) → τ x i = σ x i) (s2 : WKS τ B) (s3 : REF σ τ) : INV0 (n + 1) τ B := by
  obtain ⟨⟨hB, hR, w, hW⟩, h2, h3, h4, h5, h6, h7, h8⟩ := h
  have q : ∀ x i, ¬ SC x → ¬ (164 ≤ x ∧ x ≤ 178) → x ≠ 181 → τ x i = σ x i := fun x i hx h1 hx2 => s1 x i hx h1 fun e => absurd e hx2
  have e43 : τ 43 3 = σ 43 3 := q 43 3 (by unfold SC; decide) (by decide) (by decide)
  exact ⟨⟨hB.pt fun x i g1 g2 => q x i (by unfold SC; omega) (by omega) (by omega), hR.pt fun i => q 182 i (by unfold SC; decide) (by decide) (by decide), w, s2⟩, h2.pt (s1 181 2 (by unfold SC; decide) (by decide) fun _ => Or.inl rfl) (q 0 3 (by unfold SC; decide) (by decide) (by decide)) (fun x i g1 g2 => q x i (by unfold SC; omega) (by omega) (by omega)) (fun i => q 183 i (by unfold SC; decide) (by decide) (by decide)), h3.pt (fun i => q _ i (by unfold SC; decide) (by decide) (by decide)) (fun i => q _ i (by unfold SC; decide) (by decide) (by decide)) (fun i => q _ i (by unfold SC; decide) (by decide) (by decide)) (fun i => q _ i (by unfold SC; decide) (by decide) (by decide)) (Int.le_refl _), h4.pt (fun i => q _ i (by unfold SC; decide) (by decide) (by decide)) (fun i => q _ i (by unfold SC; decide) (by decide) (by decide)), h5.pt (s1 181 9 (by unfold SC; decide) (by decide) fun _ => Or.inr rfl) (q 28 1 (by unfold SC; decide) (by decide) (by decide)) (fun i => q _ i (by unfold SC; decide) (by decide) (by decide)) (fun i => q _ i (by unfold SC; decide) (by decide) (by decide)), h6.ref s3, h7.pt (fun i => q _ i (by unfold SC; decide) (by decide) (by decide)), h8.s (Or.inl e43)⟩
theorem REF.no {σ ρ τ : Mem} {x : Int} (hx : -56 ≤ x ∧ x ≤ -52) (h34 : ρ 34 = σ 34) (h176 : ρ 184 = σ 184) (t34 : ∀ j, τ 34 j = mup ρ 34 (-52 - x) (jadd (ρ 34 (-52 - x)) 1) 34 j) (t176 : ∀ j, τ 184 j = mup ρ 184 (-52 - x) (jadd (ρ 184 (-52 - x)) 1) 184 j) : REF σ τ := by
  refine Or.inr ⟨-52 - x, by omega, by omega, fun j => ?_, fun j => ?_⟩
  · rw [t34, ← h34]
    by_cases e : j = -52 - x
    · rw [mup_hit rfl e, if_pos e]
    · rw [mup_miss (fun z => e z.2), if_neg e]
  · rw [t176, ← h176]
    by_cases e : j = -52 - x
    · rw [mup_hit rfl e, if_pos e]
    · rw [mup_miss (fun z => e z.2), if_neg e]
def CALLD (n : Nat) (σ : Mem) (B : Bk) (a : Option (Int × Mem)) (r : Mem → Option (Int × Mem)) : Prop := ∃ v ρ τ, a = some (v, ρ) ∧ r ρ = some (v, τ) ∧ INV0 (n + 1) τ B ∧ DUC τ B ∧ (∀ x i, 171 ≤ x → x ≤ 178 → τ x i = σ x i) ∧ τ 43 3 = σ 43 3
theorem DUC.keep {σ τ : Mem} {B : Bk} (h : DUC σ B) (e : ∀ x i, 164 ≤ x → x ≤ 170 → τ x i = σ x i) (e43 : τ 43 3 = σ 43 3) : DUC τ B := by
  refine ⟨by rw [e _ _ (by decide) (by decide), e43]; exact h.1, fun g => ?_⟩
  rw [e _ _ (by decide) (by decide), e43] at g
  exact (h.2 g).keep (fun i _ => e _ _ (by decide) (by decide)) (fun x i x1 x2 => e x i (by omega) x2)
theorem same.d {n : Nat} {σ : Mem} {B : Bk} (h : INV0 n σ B) (hD : DUC σ B) {a : Option (Int × Mem)} {r : Mem → Option (Int × Mem)} (g : same σ B a r) : CALLD n σ B a r := by
  obtain ⟨v, ρ, τ, a1, a2, s1, s2, s3⟩ := g
  have q : ∀ x i, ¬ SC x → x ≠ 181 → τ x i = σ x i := fun x i hx hx2 => s1 x i hx fun e => absurd e hx2
  have e43 : τ 43 3 = σ 43 3 := q 43 3 (by unfold SC; decide) (by decide)
  exact ⟨v, ρ, τ, a1, a2, h.stp (fun x i h1 _ h3 => s1 x i h1 h3) s2 s3, hD.keep (fun x i x1 x2 => q x i (by unfold SC; omega) (by omega)) e43, fun x i x1 x2 => q x i (by unfold SC; omega) (by omega), e43⟩
theorem X11_begin {σ : Mem} {T : Int} {l : List Du} (h : isRdu σ T l) (hl : ∀ x ∈ l, okD x) (h2 : l.length ≤ 200) {i : Nat} (hi : i < l.length) : f_X11_begin σ i = some (dbg (l.getD i du0)) := by
  obtain ⟨-, g2, g3, -, -⟩ := h.2.1 i hi
  obtain ⟨-, o2, o3, -⟩ := hl _ (getD_mem du0 hi)
  unfold f_X11_begin
  rw [chk_pos (by omega), chk_pos (by omega), g2, g3, jmul_ok (by omega) (by omega), jadd_ok (by omega) (by omega)]
  rfl
theorem X11_atOnce17 {σ : Mem} {T : Int} (hT : 0 ≤ T ∧ T ≤ 8) {l : List Du} (h : isRdu σ T l) (hl : ∀ x ∈ l, okD x) (h200 : l.length ≤ 200) (h86 : σ 182 86 = T) {i : Nat} (hi : i < l.length) (m : Int) : f_X11_atOnce_17 σ m i 0 0 = some (.inl (mx m ((cnt (near l T i) l.length : Nat) : Int), (i : Int) + 1)) := by
  have hb := fun j (hj : j < l.length) => dbg_b (hl _ (getD_mem du0 hj))
  unfold f_X11_atOnce_17
  rw [show loop (f_X11_atOnce_17B σ m i) FU (0, 0) = some ((cnt (near l T i) l.length : Nat) : Int) from loop_is (P := fun s => ∃ j : Nat, s.2 = (j : Int) ∧ j ≤ l.length ∧ s.1 = ((cnt (near l T i) j : Nat) : Int)) (μ := fun s => (300 - s.2).toNat) (by
    rintro ⟨x3, _⟩ ⟨j, rfl, hj, g4⟩
    have g4 : x3 = ((cnt (near l T i) j : Nat) : Int) := g4
    show (∃ a', f_X11_atOnce_17C σ m i x3 (j : Int) = _ ∧ _) ∨ f_X11_atOnce_17C σ m i x3 (j : Int) = _
    unfold f_X11_atOnce_17C
    rw [h.1]
    by_cases hend : (l.length : Int) ≤ j
    · right
      rw [if_pos hend, g4]
      have : j = l.length := by omega
      rw [this]
    · left
      have hjl : j < l.length := by omega
      have hc := cnt_le (near l T i) j
      have h1 := hb i hi
      have h2 := hb j hjl
      have h3 := (hl _ (getD_mem du0 hjl)).2.2.2
      rw [if_neg hend, bind_some' (X11_begin h hl h200 hjl), bind_some' (X11_begin h hl h200 hi), bind_some' (X11_begin h hl h200 hi), bind_some' (X11_begin h hl h200 hjl), chk_pos (by omega), chk_pos (by decide), (h.2.1 j hjl).2.2.2.1, h86, jadd_ok (a := dbg _) (by omega) (by omega), jadd_ok (a := dbg _ + _) (by omega) (by omega)]
      have fin : ∀ z : Int, (z = 0 ∨ z = 1) → x3 + z = ((cnt (near l T i) (j + 1) : Nat) : Int) → ∃ a', f_X11_atOnce_76 σ m i (j : Int) z x3 = some (.inl a') ∧ (∃ j : Nat, a'.2 = (j : Int) ∧ j ≤ l.length ∧ a'.1 = ((cnt (near l T i) j : Nat) : Int)) ∧ (300 - a'.2).toNat < (300 - (j : Int)).toNat := fun z hz0 hz => by
        unfold f_X11_atOnce_76
        simp only [Option.bind_some]
        rw [jadd_ok (by omega) (by omega), jadd_ok (by omega) (by omega)]
        exact ⟨_, rfl, ⟨j + 1, by show (j : Int) + 1 = _; omega, by omega, hz⟩, by show (300 - ((j : Int) + 1)).toNat < (300 - (j : Int)).toNat; omega⟩
      unfold f_X11_atOnce_75
      by_cases q1 : dbg (l.getD i du0) < dbg (l.getD j du0)
      · rw [if_pos q1]
        exact fin _ (Or.inl rfl) (by rw [g4, cnt_s, show near l T i j = false by unfold near; rw [decide_eq_false (by omega)]; rfl, bf]; omega)
      · rw [if_neg q1]
        by_cases q2 : dbg (l.getD j du0) + ((l.getD j du0).2.2.2 : Int) + T ≤ dbg (l.getD i du0)
        · rw [if_pos q2]
          exact fin _ (Or.inl rfl) (by rw [g4, cnt_s, show near l T i j = false by unfold near; rw [decide_eq_false (show ¬ dbg (l.getD i du0) < dbg (l.getD j du0) + ((l.getD j du0).2.2.2 : Int) + T by omega), Bool.and_false], bf]; omega)
        · rw [if_neg q2]
          exact fin _ (Or.inr rfl) (by rw [g4, cnt_s, show near l T i j = true by unfold near; rw [decide_eq_true (by omega), decide_eq_true (by omega)]; rfl, bt]; omega)) ⟨0, rfl, Nat.zero_le _, rfl⟩ (Nat.le_of_ble_eq_true rfl)]
  rw [bsm]
  unfold f_X11_atOnce_84
  simp only [Option.bind_some]
  rw [jadd_ok (by omega) (by omega)]
theorem X11_atOnce {σ : Mem} {T : Int} (hT : 0 ≤ T ∧ T ≤ 8) {l : List Du} (h : isRdu σ T l) (hl : ∀ x ∈ l, okD x) (h200 : l.length ≤ 200) (h86 : σ 182 86 = T) : f_X11_atOnce σ = some ((aoN l T l.length : Nat) : Int) := by
  unfold f_X11_atOnce f_X11_atOnce_4
  rw [show loop (f_X11_atOnce_4B σ) FU (0, 0) = some ((aoN l T l.length : Nat) : Int) from loop_is (P := fun s => ∃ i : Nat, s.2 = (i : Int) ∧ i ≤ l.length ∧ s.1 = ((aoN l T i : Nat) : Int)) (μ := fun s => (300 - s.2).toNat) (by
    rintro ⟨x1, _⟩ ⟨i, rfl, hi, g4⟩
    have g4 : x1 = ((aoN l T i : Nat) : Int) := g4
    show (∃ a', f_X11_atOnce_4C σ x1 (i : Int) = _ ∧ _) ∨ f_X11_atOnce_4C σ x1 (i : Int) = _
    unfold f_X11_atOnce_4C
    rw [h.1]
    by_cases hend : (l.length : Int) ≤ i
    · right
      rw [if_pos hend, g4]
      have : i = l.length := by omega
      rw [this]
    · left
      rw [if_neg hend, X11_atOnce17 hT h hl h200 h86 (by omega)]
      refine ⟨_, rfl, ⟨i + 1, by show (i : Int) + 1 = _; omega, by omega, ?_⟩, by show (300 - ((i : Int) + 1)).toNat < (300 - (i : Int)).toNat; omega⟩
      show mx x1 _ = ((max (aoN l T i) (cnt (near l T i) l.length) : Nat) : Int)
      rw [mx_eq, g4]
      omega) ⟨0, rfl, Nat.zero_le _, rfl⟩ (Nat.le_of_ble_eq_true rfl)]
  rfl
theorem dL_ok {B : Bk} (w : WF B) : (∀ x ∈ dL B, okD x) ∧ (dL B).length ≤ 200 := by
  have hn := w.1
  unfold WFn at hn
  obtain ⟨N, hN⟩ := n_of hn.2.1.1
  unfold dL
  rw [hN, Int.toNat_natCast]
  exact ⟨ok_dD (by omega) 5 (Nat.le_refl _), len_all (by omega) fun c d hc hd => st_4 w (by omega) (by omega) hd⟩
/-- watch -/
theorem k_watch {n : Nat} {σ : Mem} {B : Bk} (h : INV0 n σ B) (hD : DUC σ B) (x : Int) : CALLD n σ B (f_X10_watch σ x) (fun ρ => f_X11_watch ρ x) := by
  have hst := h.1
  obtain ⟨hB, hR, w, hW⟩ := h.1
  have hn := w.1
  unfold WFn at hn
  by_cases h1 : 0 ≤ x ∧ x ≤ 2
  rotate_left
  · refine same.d h hD (same.no (x := -52) (by omega) (by decide) ?_ CFr.rfl hW ?_ RFr.rfl)
    · unfold f_X10_watch
      by_cases hz : x < 0
      · rw [if_pos hz]
        exact c_no (by decide)
      · rw [if_neg hz, if_neg (by omega)]
        exact c_no (by decide)
    · show f_X11_watch _ x = _
      unfold f_X11_watch
      rw [bind_some' (X11_isIn x 0 2), if1, if_neg h1]
      exact r_no (by decide)
  obtain ⟨ρ, a1, a2, a3, a4, a5⟩ := X1_gather hst hD
  obtain ⟨τ, t1, t2, t3⟩ := X11_duties_ok a3.2.1 w
  obtain ⟨hl, h200⟩ := dL_ok w
  have e86 : τ 182 86 = B 8 4 := by rw [t3 _ _ (by decide) (by decide) (fun z => absurd z (by decide)), a3.2.1.turn]
  refine ⟨if x = 0 then ((dL B).length : Int) else if x = 1 then ((wgv (B 8 4) (dL B)).1 : Int) else (aoN (dL B) (B 8 4) (dL B).length : Int), ρ, τ, ?_, ?_, h.stp (fun y i y1 y2 y3 => ?_) (a3.2.2.2.keep (by omega) fun y y1 y2 => funext fun i => t3 y i (by omega) (by omega) (by omega)) (Or.inl ⟨?_, ?_⟩), ⟨?_, fun _ => ?_⟩, fun y i y1 y2 => ?_, ?_⟩
  · unfold f_X10_watch
    rw [if_neg (by omega), if_pos (by omega), bind_some' a1]
    unfold f_X1_count f_X1_watchers f_X1_atOnce
    simp only [Option.bind_some]
    rw [a4.1.1, a4.2.1, a4.2.2.2]
    by_cases e : x = 0
    · rw [if_pos e, if_pos e]
    · by_cases e2 : x = 1
      · rw [if_neg e, if_neg e, if_pos e2, if_pos e2]
      · rw [if_neg e, if_neg e, if_neg e2, if_neg e2]
  · show f_X11_watch ρ x = _
    unfold f_X11_watch
    rw [bind_some' (X11_isIn x 0 2), if1, if_pos h1, bind_some' t1, bind_some' (X11_atOnce hn.2.2.2.2.1 t2 hl h200 e86), t2.1, t2.2.2.1]
    by_cases e : x = 0
    · rw [if_neg (by omega), if_pos e]
    · by_cases e2 : x = 1
      · rw [if_pos e, if_neg (by omega), if_neg e, if_pos e2]
      · rw [if_pos e, if_pos e2, if_neg e, if_neg e2]
  · unfold SC at y1
    rw [t3 y i (by omega) (by omega) (by omega), a2 y (by omega) (by omega) (by omega)]
  · funext i
    rw [t3 _ _ (by decide) (by decide) (fun z => absurd z (by decide)), a2 34 (by decide) (by decide) (by decide)]
  · funext i
    rw [t3 _ _ (by decide) (by decide) (fun z => absurd z (by decide)), a2 184 (by decide) (by decide) (by decide)]
  · rw [t3 _ _ (by decide) (by decide) (fun z => absurd z (by decide)), t3 _ _ (by decide) (by decide) (fun z => absurd z (by decide)), a5]
    exact Int.le_refl _
  · exact a4.keep (fun i _ => t3 _ _ (by decide) (by decide) (fun z => absurd z (by decide))) (fun y i y1 y2 => t3 _ _ (by omega) (by omega) (fun z => absurd z (by omega)))
  · rw [t3 _ _ (by omega) (by omega) (fun z => absurd z (by omega)), a2 y (by omega) (by omega) (by omega)]
  · rw [t3 _ _ (by decide) (by decide) (fun z => absurd z (by decide)), a2 43 (by decide) (by decide) (by decide)]
/-- duty -/
theorem k_duty {n : Nat} {σ : Mem} {B : Bk} (h : INV0 n σ B) (hD : DUC σ B) (i x : Int) : CALLD n σ B (f_X10_duty σ i x) (fun ρ => f_X11_duty ρ i x) := by
  have hst := h.1
  obtain ⟨hB, hR, w, hW⟩ := h.1
  have hn := w.1
  unfold WFn at hn
  obtain ⟨ρ, a1, a2, a3, a4, a5⟩ := X1_gather hst hD
  obtain ⟨hl, h200⟩ := dL_ok w
  by_cases hg : 0 ≤ x ∧ x ≤ 4 ∧ 0 ≤ i ∧ i < ((dL B).length : Int)
  rotate_left
  · have hc : f_X10_duty σ i x = some (-52, refd ρ (-52)) := by
      have fin : f_X10_duty_39 ρ = some (-52, refd ρ (-52)) := c_no (by decide)
      unfold f_X10_duty f_X1_count
      rw [bind_some' a1]
      simp only [Option.bind_some]
      rw [a4.1.1]
      by_cases q1 : i < 0
      · rw [if_pos q1, fin]
      rw [if_neg q1]
      by_cases q2 : ((dL B).length : Int) ≤ i
      · rw [if_pos q2, fin]
      rw [if_neg q2]
      by_cases q3 : x < 0
      · rw [if_pos q3, fin]
      rw [if_neg q3, if_neg (by omega), fin]
    have hR2 : isRk (refd ρ (-52)) 182 B := isRk_refd a3.2.1
    have hr : ∃ τ, f_X11_duty (refd ρ (-52)) i x = some (-52, nod τ (-52)) ∧ ∀ y i, ¬ (192 ≤ y ∧ y ≤ 202) → ¬ (204 ≤ y ∧ y ≤ 210) → (y = 181 → i ≠ 29 ∧ i ≠ 35) → τ y i = refd ρ (-52) y i := by
      unfold f_X11_duty
      rw [bind_some' (X11_isIn x 0 4), if1]
      by_cases q : 0 ≤ x ∧ x ≤ 4
      · obtain ⟨τ, t1, t2, t3⟩ := X11_duties_ok hR2 w
        rw [if_pos q, bind_some' t1, t2.1, jsub_ok (by omega) (by omega), bind_some' (X11_isIn i 0 _), if1, if_neg (by omega)]
        exact ⟨τ, r_no (by decide), t3⟩
      · rw [if_neg q]
        exact ⟨_, r_no (by decide), fun _ _ _ _ _ => rfl⟩
    obtain ⟨τ, t1, t3⟩ := hr
    have f : ∀ y j, y ≠ 34 → y ≠ 184 → ¬ (192 ≤ y ∧ y ≤ 202) → ¬ (204 ≤ y ∧ y ≤ 210) → (y = 181 → j ≠ 29 ∧ j ≠ 35) → nod τ (-52) y j = ρ y j := fun y j y1 y2 y3 y4 y5 => by rw [nod_row y2, t3 y j y3 y4 y5, refd_row y1]
    refine ⟨-52, refd ρ (-52), nod τ (-52), hc, t1, h.stp (fun y i y1 y2 y3 => ?_) (a3.2.2.2.keep (by omega) fun y y1 y2 => funext fun i => f y i (by omega) (by omega) (by omega) (by omega) (by omega)) (REF.no (ρ := ρ) (x := -52) (by decide) (a2 34 (by decide) (by decide) (by decide)) (a2 184 (by decide) (by decide) (by decide)) (fun j => ?_) (fun j => ?_)), ⟨?_, fun _ => ?_⟩, fun y i y1 y2 => ?_, ?_⟩
    · unfold SC at y1
      rw [f y i (by omega) (by omega) (by omega) (by omega) (by omega), a2 y (by omega) (by omega) (by omega)]
    · rw [nod_row (by decide), t3 _ _ (by decide) (by decide) (fun z => absurd z (by decide))]
      rfl
    · have e176 : τ 184 = ρ 184 := funext fun j => by rw [t3 _ _ (by decide) (by decide) (fun z => absurd z (by decide)), refd_row (by decide)]
      show mup τ 184 (-52 - -52) (jadd (τ 184 (-52 - -52)) 1) 184 j = _
      rw [e176]
      by_cases e : j = -52 - -52
      · rw [mup_hit rfl e, mup_hit rfl e]
      · rw [mup_miss (fun z => e z.2), mup_miss (fun z => e z.2), e176]
    · rw [f _ _ (by decide) (by decide) (by decide) (by decide) (fun z => absurd z (by decide)), f _ _ (by decide) (by decide) (by decide) (by decide) (fun z => absurd z (by decide)), a5]
      exact Int.le_refl _
    · exact a4.keep (fun i _ => f _ _ (by decide) (by decide) (by decide) (by decide) (fun z => absurd z (by decide))) (fun y i y1 y2 => f _ _ (by omega) (by omega) (by omega) (by omega) (fun z => absurd z (by omega)))
    · rw [f _ _ (by omega) (by omega) (by omega) (by omega) (fun z => absurd z (by omega)), a2 y (by omega) (by omega) (by omega)]
    · rw [f _ _ (by decide) (by decide) (by decide) (by decide) (fun z => absurd z (by decide)), a2 43 (by decide) (by decide) (by decide)]
  · obtain ⟨g1, g2, g3, g4⟩ := hg
    obtain ⟨I, rfl⟩ := n_of g3
    obtain ⟨τ, t1, t2, t3⟩ := X11_duties_ok a3.2.1 w
    obtain ⟨d1, d2, d3, d4⟩ := a4.1.2 I (by omega)
    have d5 := a4.2.2.1 I (by omega)
    obtain ⟨r1, r2, r3, r4, r5⟩ := t2.2.1 I (by omega)
    refine ⟨if x = 0 then (((dL B).getD I du0).1 : Int) else if x = 1 then (((dL B).getD I du0).2.1 : Int) else if x = 2 then (((dL B).getD I du0).2.2.1 : Int) else if x = 3 then (((dL B).getD I du0).2.2.2 : Int) else ((wgv (B 8 4) (dL B)).2.2.getD I 0 : Int), ρ, τ, ?_, ?_, h.stp (fun y i y1 y2 y3 => ?_) (a3.2.2.2.keep (by omega) fun y y1 y2 => funext fun i => t3 y i (by omega) (by omega) (by omega)) (Or.inl ⟨?_, ?_⟩), ⟨?_, fun _ => ?_⟩, fun y i y1 y2 => ?_, ?_⟩
    · unfold f_X10_duty f_X1_count
      rw [bind_some' a1]
      simp only [Option.bind_some]
      rw [a4.1.1, if_neg (by omega), if_neg (by omega), if_neg (by omega), if_pos (by omega)]
      unfold f_X1_tell
      rw [chk_pos (by omega), chk_pos (by omega), chk_pos (by omega), chk_pos (by omega), chk_pos (by omega), d1, d2, d3, d4, d5]
      rcases (show x = 0 ∨ x = 1 ∨ x = 2 ∨ x = 3 ∨ x = 4 by omega) with e | e | e | e | e <;> subst e <;> rfl
    · show f_X11_duty ρ I x = _
      unfold f_X11_duty
      rw [bind_some' (X11_isIn x 0 4), if1, if_pos ⟨g1, g2⟩, bind_some' t1, t2.1, jsub_ok (by omega) (by omega), bind_some' (X11_isIn _ 0 _), if1, if_pos (by omega), chk_pos (by omega), chk_pos (by omega), chk_pos (by omega), chk_pos (by omega), chk_pos (by omega), r1, r2, r3, r4, r5]
      rcases (show x = 0 ∨ x = 1 ∨ x = 2 ∨ x = 3 ∨ x = 4 by omega) with e | e | e | e | e <;> subst e <;> rfl
    · unfold SC at y1
      rw [t3 y i (by omega) (by omega) (by omega), a2 y (by omega) (by omega) (by omega)]
    · funext i
      rw [t3 _ _ (by decide) (by decide) (fun z => absurd z (by decide)), a2 34 (by decide) (by decide) (by decide)]
    · funext i
      rw [t3 _ _ (by decide) (by decide) (fun z => absurd z (by decide)), a2 184 (by decide) (by decide) (by decide)]
    · rw [t3 _ _ (by decide) (by decide) (fun z => absurd z (by decide)), t3 _ _ (by decide) (by decide) (fun z => absurd z (by decide)), a5]
      exact Int.le_refl _
    · exact a4.keep (fun i _ => t3 _ _ (by decide) (by decide) (fun z => absurd z (by decide))) (fun y i y1 y2 => t3 _ _ (by omega) (by omega) (fun z => absurd z (by omega)))
    · rw [t3 _ _ (by omega) (by omega) (fun z => absurd z (by omega)), a2 y (by omega) (by omega) (by omega)]
    · rw [t3 _ _ (by decide) (by decide) (fun z => absurd z (by decide)), a2 43 (by decide) (by decide) (by decide)]
