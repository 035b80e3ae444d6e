/-! PIECES, ROOMS AND SEATS LEFT, both sides -/
def CALLS (n : Nat) (σ : Mem) (B : Bk) (a : Option (Int × Mem)) (r : Mem → Option (Int × Mem)) : Prop := ∃ v ρ τ, a = some (v, ρ) ∧ r ρ = some (v, τ) ∧ INV0 (n + 1) τ B ∧ SEC τ B ∧ (∀ x i, 164 ≤ x → x ≤ 170 → τ x i = σ x i) ∧ τ 43 3 = σ 43 3
theorem same.s {n : Nat} {σ : Mem} {B : Bk} (h : INV0 n σ B) (hS : SEC σ B) {a : Option (Int × Mem)} {r : Mem → Option (Int × Mem)} (g : same σ B a r) : CALLS n σ B a r := by
  obtain ⟨v, ρ, τ, a1, a2, s1, s2, s3⟩ := g
  have q : ∀ x i, ¬ SC x → x ≠ 181 → τ x i = σ x i := fun x i hx hx2 => s1 x i hx fun e => absurd e hx2
  have e43 : τ 43 3 = σ 43 3 := q 43 3 (by unfold SC; decide) (by decide)
  exact ⟨v, ρ, τ, a1, a2, h.stp (fun x i h1 _ h3 => s1 x i h1 h3) s2 s3, hS.keep (fun x i x1 x2 => q x i (by unfold SC; omega) (by omega)) e43, fun x i x1 x2 => q x i (by unfold SC; omega) (by omega), e43⟩
theorem lay_seats {σ : Mem} {B : Bk} (h : ST σ B) (hS : SEC σ B) {d : Nat} (hd : d < 5) : ∃ ρ, f_X5_lay σ d = some ρ ∧ (∀ x, ¬ (35 ≤ x ∧ x ≤ 42) → ¬ (45 ≤ x ∧ x ≤ 153) → ¬ (171 ≤ x ∧ x ≤ 178) → ρ x = σ x) ∧ ST ρ B ∧ SEC ρ B ∧ ∃ N R : Nat, B 8 1 = N ∧ B 8 2 = R ∧ seC ρ B R d N ∧ isUs ρ B (lfC B R d N) R ∧ (∀ c, c < N → (psD B d c).length ≤ 9) ∧ ∀ ρ', isRk ρ' 182 B → ∃ τ, f_X11_seats ρ' d = some τ ∧ reC τ B R d N ∧ isRl τ (lfC B R d N) R ∧ ∀ y i, ¬ (192 ≤ y ∧ y ≤ 202) → y ≠ 204 → ¬ (211 ≤ y ∧ y ≤ 217) → (y = 181 → i ≠ 37) → τ y i = ρ' y i := by
  have w := h.2.2.1
  have hn := w.1
  unfold WFn at hn
  obtain ⟨N, hN⟩ := n_of hn.2.1.1
  obtain ⟨R, hR⟩ := n_of hn.2.2.1.1
  obtain ⟨ρ, a1, a2, a3, a4, a5⟩ := X5_lay h hS hd
  unfold seD at a4
  rw [hN, hR, Int.toNat_natCast, Int.toNat_natCast] at a4
  exact ⟨ρ, a1, a2, a3, a5, N, R, hN, hR, a4.1, a4.2.1, a4.2.2, fun ρ' hK => X11_seats_ok hK w hN hR hd a4.2.2⟩
theorem fin_s {n : Nat} {σ ρ τ : Mem} {B : Bk} (h : INV0 n σ B) (f1 : ∀ x, ¬ (35 ≤ x ∧ x ≤ 42) → ¬ (45 ≤ x ∧ x ≤ 153) → ¬ (171 ≤ x ∧ x ≤ 178) → ρ x = σ x) (s : ST ρ B) (hS : SEC ρ B) (f2 : ∀ y i, y ≠ 34 → y ≠ 184 → ¬ (192 ≤ y ∧ y ≤ 202) → y ≠ 204 → ¬ (211 ≤ y ∧ y ≤ 217) → (y = 181 → i ≠ 37) → τ y i = ρ y i) (hr : REF σ τ) : INV0 (n + 1) τ B ∧ SEC τ B ∧ (∀ x i, 164 ≤ x → x ≤ 170 → τ x i = σ x i) ∧ τ 43 3 = σ 43 3 := by
  have hn := s.2.2.1.1
  unfold WFn at hn
  have e43 : τ 43 3 = ρ 43 3 := f2 _ _ (by decide) (by decide) (by decide) (by decide) (by decide) (fun z => absurd z (by decide))
  refine ⟨h.stp (fun y i y1 y2 y3 => ?_) (s.2.2.2.keep (by omega) fun y y1 y2 => funext fun i => f2 y i (by omega) (by omega) (by omega) (by omega) (by omega) (by omega)) hr, hS.keep (fun x i x1 x2 => f2 x i (by omega) (by omega) (by omega) (by omega) (by omega) (by omega)) e43, fun x i x1 x2 => ?_, ?_⟩
  · unfold SC at y1
    rw [f2 y i (by omega) (by omega) (by omega) (by omega) (by omega) (by omega), f1 y (by omega) (by omega) (by omega)]
  · rw [f2 x i (by omega) (by omega) (by omega) (by omega) (by omega) (by omega), f1 x (by omega) (by omega) (by omega)]
  · rw [e43, f1 43 (by decide) (by decide) (by decide)]
theorem fin_r {σ ρ τ : Mem} (f1 : ∀ x, ¬ (35 ≤ x ∧ x ≤ 42) → ¬ (45 ≤ x ∧ x ≤ 153) → ¬ (171 ≤ x ∧ x ≤ 178) → ρ x = σ x) (f2 : ∀ y i, ¬ (192 ≤ y ∧ y ≤ 202) → y ≠ 204 → ¬ (211 ≤ y ∧ y ≤ 217) → (y = 181 → i ≠ 37) → τ y i = ρ y i) : REF σ τ := Or.inl ⟨funext fun i => by rw [f2 34 i (by decide) (by decide) (by decide) (fun z => absurd z (by decide)), f1 34 (by decide) (by decide) (by decide)], funext fun i => by rw [f2 184 i (by decide) (by decide) (by decide) (fun z => absurd z (by decide)), f1 184 (by decide) (by decide) (by decide)]⟩
/-- pieces -/
theorem k_pieces {n : Nat} {σ : Mem} {B : Bk} (h : INV0 n σ B) (hS : SEC σ B) (c d x : Int) : CALLS n σ B (f_X10_pieces σ c d x) (fun ρ => f_X11_pieces ρ c d x) := by
  have hst := h.1
  obtain ⟨hB, hR, w, hW⟩ := h.1
  have hn := w.1
  unfold WFn at hn
  by_cases hg : (0 ≤ c ∧ c < B 8 1) ∧ (0 ≤ d ∧ d < 5) ∧ 0 ≤ x ∧ x ≤ 1
  rotate_left
  · refine same.s h hS (same.no (x := -52) (by omega) (by decide) ?_ CFr.rfl hW ?_ RFr.rfl)
    · have fin : f_X10_pieces_27 σ = some (-52, refd σ (-52)) := c_no (by decide)
      unfold f_X10_pieces
      rw [bind_some' (X0_hasCand hB c)]
      by_cases q1 : 0 ≤ c ∧ c < B 8 1
      rotate_left
      · rw [if_neg q1, if_pos rfl, fin]
      rw [if_pos q1, if_neg (by decide), bind_some' (X10_isDay d)]
      by_cases q2 : 0 ≤ d ∧ d < 5
      rotate_left
      · rw [if_neg q2, if_pos rfl, fin]
      rw [if_pos q2, if_neg (by decide)]
      by_cases q3 : x < 0
      · rw [if_pos q3, fin]
      rw [if_neg q3, if_neg (by omega), fin]
    · have fin : f_X11_pieces_25 (refd σ (-52)) = some (-52, nod (refd σ (-52)) (-52)) := r_no (by decide)
      show f_X11_pieces _ c d x = _
      unfold f_X11_pieces
      rw [bind_some' (X11_isCand (isRk_refd hR) w c)]
      by_cases q1 : 0 ≤ c ∧ c < B 8 1
      rotate_left
      · rw [if_neg q1, if_pos rfl, fin]
      rw [if_pos q1, if_neg (by decide), bind_some' (X11_isDay d)]
      by_cases q2 : 0 ≤ d ∧ d < 5
      rotate_left
      · rw [if_neg q2, if_pos rfl, fin]
      rw [if_pos q2, if_neg (by decide), bind_some' (X11_isIn x 0 1), if1, if_neg (by omega), fin]
  obtain ⟨g1, g2, g3⟩ := hg
  obtain ⟨C, rfl⟩ := n_of g1.1
  obtain ⟨D, rfl⟩ := n_of g2.1
  obtain ⟨ρ, a1, a2, a3, a4, N, R, hN, hRR, s1, s2, s3, s4⟩ := lay_seats hst hS (d := D) (by omega)
  obtain ⟨τ, t1, t2, t3, t4⟩ := s4 ρ a3.2.1
  obtain ⟨u1, u2, -⟩ := s1 C (by omega)
  obtain ⟨v1, v2, -⟩ := t2 C (by omega)
  refine ⟨if x = 0 then ((psD B D C).length : Int) else mvF (lfC B R D C) R (psD B D C), ρ, τ, ?_, ?_, fin_s h a2 a3 a4 (fun y i _ _ y1 y2 y3 y4 => t4 y i y1 y2 y3 y4) (fin_r a2 t4)⟩
  · unfold f_X10_pieces f_X5_movesOf f_X5_piecesOf
    rw [bind_some' (X0_hasCand hB _), if_pos g1, if_neg (by decide), bind_some' (X10_isDay _), if_pos g2, if_neg (by decide), if_neg (by omega), if_pos (by omega), bind_some' a1, chk_pos (by omega), chk_pos (by omega), u1, u2]
    by_cases e : x = 0
    · rw [if_neg (by omega), if_pos e]
      rfl
    · rw [if_pos e, if_neg e]
      rfl
  · show f_X11_pieces ρ C D x = _
    unfold f_X11_pieces
    rw [bind_some' (X11_isCand a3.2.1 w _), if_pos g1, if_neg (by decide), bind_some' (X11_isDay _), if_pos g2, if_neg (by decide), bind_some' (X11_isIn x 0 1), if1, if_pos g3, bind_some' t1, chk_pos (by omega), chk_pos (by omega), v1, v2]
    by_cases e : x = 0
    · rw [if_neg (by omega), if_pos e]
    · rw [if_pos e, if_neg e]
/-- seats left -/
theorem k_left {n : Nat} {σ : Mem} {B : Bk} (h : INV0 n σ B) (hS : SEC σ B) (r d t : Int) : CALLS n σ B (f_X10_left σ r d t) (fun ρ => f_X11_left ρ r d t) := by
  have hst := h.1
  obtain ⟨hB, hR, w, hW⟩ := h.1
  have hn := w.1
  unfold WFn at hn
  by_cases hg : (0 ≤ r ∧ r < B 8 2) ∧ (0 ≤ d ∧ d < 5) ∧ 0 ≤ t ∧ t < 48
  rotate_left
  · refine same.s h hS (same.no (x := -52) (by omega) (by decide) ?_ CFr.rfl hW ?_ RFr.rfl)
    · have fin : f_X10_left_25 σ = some (-52, refd σ (-52)) := c_no (by decide)
      unfold f_X10_left
      rw [bind_some' (X0_hasRoom hB r)]
      by_cases q1 : 0 ≤ r ∧ r < B 8 2
      rotate_left
      · rw [if_neg q1, if_pos rfl, fin]
      rw [if_pos q1, if_neg (by decide), bind_some' (X10_isDay d)]
      by_cases q2 : 0 ≤ d ∧ d < 5
      rotate_left
      · rw [if_neg q2, if_pos rfl, fin]
      rw [if_pos q2, if_neg (by decide), bind_some' (X10_isSlot t), if1, if_neg (by omega), fin]
    · have fin : f_X11_left_33 (refd σ (-52)) = some (-52, nod (refd σ (-52)) (-52)) := r_no (by decide)
      show f_X11_left _ r d t = _
      unfold f_X11_left
      rw [chk_pos (by decide), (isRk_refd hR).nR, jsub_ok (by omega) (by omega), bind_some' (X11_isIn r 0 _)]
      by_cases q1 : 0 ≤ r ∧ r < B 8 2
      rotate_left
      · rw [if_neg (show ¬ (0 ≤ r ∧ r ≤ B 8 2 - 1) by omega), if_pos rfl, fin]
      rw [if_pos (show 0 ≤ r ∧ r ≤ B 8 2 - 1 by omega), if_neg (by decide), bind_some' (X11_isDay d)]
      by_cases q2 : 0 ≤ d ∧ d < 5
      rotate_left
      · rw [if_neg q2, if_pos rfl, fin]
      rw [if_pos q2, if_neg (by decide), bind_some' (X11_isSlot t), if1, if_neg (by omega), fin]
  obtain ⟨g1, g2, g3⟩ := hg
  obtain ⟨Q, rfl⟩ := n_of g1.1
  obtain ⟨D, rfl⟩ := n_of g2.1
  obtain ⟨T, rfl⟩ := n_of g3.1
  obtain ⟨ρ, a1, a2, a3, a4, N, R, hN, hRR, s1, s2, s3, s4⟩ := lay_seats hst hS (d := D) (by omega)
  obtain ⟨τ, t1, t2, t3, t4⟩ := s4 ρ a3.2.1
  have u1 := s2 Q T (by omega) (by omega)
  have v1 := t3 Q T (by omega) (by omega)
  have hb := lfC_b B R D N (fun c' hc' => s3 c' hc') Q T (by omega) (by omega)
  have h7 := w.2.2.2 Q (by omega) (by omega)
  have hv : jadd (jmul 48 (Q : Int)) (T : Int) = 48 * (Q : Int) + T := by rw [jmul_ok (by omega) (by omega), jadd_ok (by omega) (by omega)]
  have hv2 : jadd (jmul (Q : Int) 48) (T : Int) = 48 * (Q : Int) + T := by rw [jmul_ok (by omega) (by omega), jadd_ok (by omega) (by omega)]; omega
  refine ⟨lfC B R D N Q T, ρ, τ, ?_, ?_, fin_s h a2 a3 a4 (fun y i _ _ y1 y2 y3 y4 => t4 y i y1 y2 y3 y4) (fin_r a2 t4)⟩
  · have h9 : ρ 9 Q = B 7 Q := a3.1.seats (by omega) (by omega)
    unfold f_X10_left f_X5_usedAt
    rw [bind_some' (X0_hasRoom hB _), if_pos g1, if_neg (by decide), bind_some' (X10_isDay _), if_pos g2, if_neg (by decide), bind_some' (X10_isSlot _), if1, if_pos g3, bind_some' a1, chk_pos (by omega), hv2, chk_pos (by omega), u1, h9, bsm, jsub_ok (by omega) (by omega)]
    congr 2
    omega
  · show f_X11_left ρ Q D T = _
    unfold f_X11_left
    rw [chk_pos (by decide), a3.2.1.nR, jsub_ok (by omega) (by omega), bind_some' (X11_isIn _ 0 _), if_pos (show 0 ≤ (Q : Int) ∧ (Q : Int) ≤ B 8 2 - 1 by omega), if_neg (by decide), bind_some' (X11_isDay _), if_pos g2, if_neg (by decide), bind_some' (X11_isSlot _), if1, if_pos g3, bind_some' t1, hv, chk_pos (by omega), v1]
/-- the room of a piece -/
theorem k_roomOf {n : Nat} {σ : Mem} {B : Bk} (h : INV0 n σ B) (hS : SEC σ B) (c d i : Int) : CALLS n σ B (f_X10_roomOf σ c d i) (fun ρ => f_X11_roomOf ρ c d i) := by
  have hst := h.1
  obtain ⟨hB, hR, w, hW⟩ := h.1
  have hn := w.1
  unfold WFn at hn
  by_cases hg : (0 ≤ c ∧ c < B 8 1) ∧ (0 ≤ d ∧ d < 5)
  rotate_left
  · refine same.s h hS (same.no (x := -52) (by omega) (by decide) ?_ CFr.rfl hW ?_ RFr.rfl)
    · have fin : f_X10_roomOf_18 σ = some (-52, refd σ (-52)) := c_no (by decide)
      unfold f_X10_roomOf
      rw [bind_some' (X0_hasCand hB c)]
      by_cases q1 : 0 ≤ c ∧ c < B 8 1
      rotate_left
      · rw [if_neg q1, if_pos rfl, fin]
      rw [if_pos q1, if_neg (by decide), bind_some' (X10_isDay d), if1, if_neg (by omega), fin]
    · have fin : f_X11_roomOf_15 (refd σ (-52)) = some (-52, nod (refd σ (-52)) (-52)) := r_no (by decide)
      show f_X11_roomOf _ c d i = _
      unfold f_X11_roomOf
      rw [bind_some' (X11_isCand (isRk_refd hR) w c)]
      by_cases q1 : 0 ≤ c ∧ c < B 8 1
      rotate_left
      · rw [if_neg q1, if_pos rfl, fin]
      rw [if_pos q1, if_neg (by decide), bind_some' (X11_isDay d), if1, if_neg (by omega), fin]
  obtain ⟨g1, g2⟩ := hg
  obtain ⟨C, rfl⟩ := n_of g1.1
  obtain ⟨D, rfl⟩ := n_of g2.1
  obtain ⟨ρ, a1, a2, a3, a4, N, R, hN, hRR, s1, s2, s3, s4⟩ := lay_seats hst hS (d := D) (by omega)
  obtain ⟨u1, -, u3⟩ := s1 C (by omega)
  have h9 := s3 C (by omega)
  by_cases hi : 0 ≤ i ∧ i < ((psD B D C).length : Int)
  rotate_left
  · obtain ⟨τ, t1, t2, t3, t4⟩ := s4 (refd ρ (-52)) (isRk_refd a3.2.1)
    obtain ⟨v1, -, v3⟩ := t2 C (by omega)
    have f : ∀ y j, y ≠ 34 → y ≠ 184 → ¬ (192 ≤ y ∧ y ≤ 202) → y ≠ 204 → ¬ (211 ≤ y ∧ y ≤ 217) → (y = 181 → j ≠ 37) → nod τ (-52) y j = ρ y j := fun y j y1 y2 y3 y4 y5 y6 => by rw [nod_row y2, t4 y j y3 y4 y5 y6, refd_row y1]
    refine ⟨-52, refd ρ (-52), nod τ (-52), ?_, ?_, fin_s h a2 a3 a4 f (REF.no (ρ := ρ) (x := -52) (by decide) (a2 34 (by decide) (by decide) (by decide)) (a2 184 (by decide) (by decide) (by decide)) (fun j => ?_) (fun j => ?_))⟩
    · have fin : f_X10_roomOf_57 ρ = some (-52, refd ρ (-52)) := c_no (by decide)
      unfold f_X10_roomOf f_X5_piecesOf
      rw [bind_some' (X0_hasCand hB _), if_pos g1, if_neg (by decide), bind_some' (X10_isDay _), if1, if_pos g2, bind_some' a1]
      by_cases q : i < 0
      · rw [if_pos q, fin]
      · rw [if_neg q, chk_pos (by omega), bsm, u1, if_neg (by omega), fin]
    · show f_X11_roomOf (refd ρ (-52)) C D i = _
      unfold f_X11_roomOf
      rw [bind_some' (X11_isCand (isRk_refd a3.2.1) w _), if_pos g1, if_neg (by decide), bind_some' (X11_isDay _), if1, if_pos g2, bind_some' t1, chk_pos (by omega), v1, jsub_ok (by omega) (by omega), bind_some' (X11_isIn i 0 _), if_neg (show ¬ (0 ≤ i ∧ i ≤ ((psD B D C).length : Int) - 1) by omega), if_pos rfl]
      exact r_no (by decide)
    · rw [nod_row (by decide), t4 _ _ (by decide) (by decide) (by decide) (fun z => absurd z (by decide))]
      rfl
    · have e176 : τ 184 = ρ 184 := funext fun j => by rw [t4 _ _ (by decide) (by decide) (by decide) (fun z => absurd z (by decide)), refd_row (by decide)]
      show mup τ 184 (-52 - -52) (jadd (τ 184 (-52 - -52)) 1) 184 j = _
      rw [e176]
      by_cases e : j = -52 - -52
      · rw [mup_hit rfl e, mup_hit rfl e]
      · rw [mup_miss (fun z => e z.2), mup_miss (fun z => e z.2), e176]
  obtain ⟨I, rfl⟩ := n_of hi.1
  obtain ⟨τ, t1, t2, t3, t4⟩ := s4 ρ a3.2.1
  obtain ⟨v1, -, v3⟩ := t2 C (by omega)
  have u4 := u3 I (by omega)
  have v4 := v3 I (by omega)
  have hv : jadd (jmul 20 (C : Int)) (I : Int) = 20 * (C : Int) + I := by rw [jmul_ok (by omega) (by omega), jadd_ok (by omega) (by omega)]
  have hv2 : jadd (jmul (C : Int) 9) (I : Int) = 9 * (C : Int) + I := by rw [jmul_ok (by omega) (by omega), jadd_ok (by omega) (by omega)]; omega
  refine ⟨oI (rmF (lfC B R D C) R (psD B D C) I), ρ, τ, ?_, ?_, fin_s h a2 a3 a4 (fun y i _ _ y1 y2 y3 y4 => t4 y i y1 y2 y3 y4) (fin_r a2 t4)⟩
  · unfold f_X10_roomOf f_X5_piecesOf f_X5_roomAt
    rw [bind_some' (X0_hasCand hB _), if_pos g1, if_neg (by decide), bind_some' (X10_isDay _), if1, if_pos g2, bind_some' a1, if_neg (by omega), chk_pos (by omega), bsm, u1, if_pos (by omega), if_neg (by omega), if_neg (by omega), hv2, chk_pos (by omega), bsm, u4]
  · show f_X11_roomOf ρ C D I = _
    unfold f_X11_roomOf
    rw [bind_some' (X11_isCand a3.2.1 w _), if_pos g1, if_neg (by decide), bind_some' (X11_isDay _), if1, if_pos g2, bind_some' t1, chk_pos (by omega), v1, jsub_ok (by omega) (by omega), bind_some' (X11_isIn _ 0 _), if_pos (show 0 ≤ (I : Int) ∧ (I : Int) ≤ ((psD B D C).length : Int) - 1 by omega), if_neg (by decide), hv, chk_pos (by omega), v4]
