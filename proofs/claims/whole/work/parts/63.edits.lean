/-! NEW PAPERS, CANDIDATES, ROOMS; what one takes (by mk63.py) -/
def addP (B : Bk) (d s l : Int) : Bk := mup (mup (mup (mup B 0 (B 8 0) d) 1 (B 8 0) s) 2 (B 8 0) l) 8 0 (B 8 0 + 1)
def addC (B : Bk) (k a : Int) : Bk := mup (mup (mup (mup (mup B 3 (B 8 1) k) 4 (B 8 1) a) 5 (B 8 1) 0) 6 (B 8 1) 0) 8 1 (B 8 1 + 1)
def addR (B : Bk) (s : Int) : Bk := mup (mup B 7 (B 8 2) s) 8 2 (B 8 2 + 1)
theorem addP_r {B : Bk} {d s l x : Int} (h : 3 ≤ x) (h2 : x ≠ 8) : addP B d s l x = B x := by
  unfold addP
  rw [mup_row (by omega), mup_row (by omega), mup_row (by omega), mup_row (by omega)]
theorem addP_o {B : Bk} {d s l x i : Int} (h : x < 3) (h2 : i ≠ B 8 0) : addP B d s l x i = B x i := by
  unfold addP
  rw [mup_miss (by omega), mup_miss (by omega), mup_miss (by omega), mup_miss (by omega)]
theorem addP_n {B : Bk} {d s l : Int} : addP B d s l 0 (B 8 0) = d ∧ addP B d s l 1 (B 8 0) = s ∧ addP B d s l 2 (B 8 0) = l := by
  unfold addP
  refine ⟨?_, ?_, ?_⟩
  · rw [mup_miss (by omega), mup_miss (by omega), mup_miss (by omega), mup_hit rfl rfl]
  · rw [mup_miss (by omega), mup_miss (by omega), mup_hit rfl rfl]
  · rw [mup_miss (by omega), mup_hit rfl rfl]
theorem addP_8 {B : Bk} {d s l : Int} : addP B d s l 8 0 = B 8 0 + 1 ∧ ∀ i, i ≠ 0 → addP B d s l 8 i = B 8 i := by
  unfold addP
  refine ⟨mup_hit rfl rfl, fun i hi => ?_⟩
  rw [mup_miss (by omega), mup_miss (by omega), mup_miss (by omega), mup_miss (by omega)]
theorem addP_od {B : Bk} (w : WF B) {d s l : Int} {c : Int} (hc : 0 ≤ c) (hc2 : c < B 8 1) (e : Int) : od (addP B d s l) c e = od B c e := by
  have hn := w.1
  unfold WFn at hn
  unfold od tk
  rw [show addP B d s l 6 = B 6 from addP_r (by decide) (by decide), addP_8.1]
  refine mset_congr fun i hi => ?_
  by_cases q : (i : Int) = B 8 0
  · have : (B 6 c).toNat.testBit i = false := by
      cases ht : (B 6 c).toNat.testBit i with
      | false => rfl
      | true => exact absurd ((w.2.2.1 c hc hc2).2.2.2.2.1 i ht) (by omega)
    rw [this]; simp
  · rw [addP_o (by decide) q, show decide ((i : Int) < B 8 0 + 1) = decide ((i : Int) < B 8 0) from decide_eq_decide.2 (by omega)]
theorem addP_agr {B : Bk} (w : WF B) {d s l : Int} {c : Int} (hc : 0 ≤ c) (hc2 : c < B 8 1) (e : Int) : agr B (addP B d s l) c e := by
  refine ⟨addP_8.2 3 (by decide), by rw [addP_r (by decide) (by decide)], by rw [addP_r (by decide) (by decide)], by rw [addP_r (by decide) (by decide)], fun p h1 h2 => addP_o (by decide) (by omega), addP_od w hc hc2 e, fun p hp => addP_o (by decide) ?_⟩
  rw [od_tb] at hp
  simp at hp
  omega
theorem WF_addP {B : Bk} (w : WF B) (h12 : B 8 0 < 12) {d s l : Int} (hd : 0 ≤ d ∧ d < 5) (hs : 0 ≤ s ∧ s < 48) (hl : 1 ≤ l ∧ l ≤ 12) : WF (addP B d s l) := by
  have hn := w.1
  unfold WFn at hn
  have e8 := addP_8 (B := B) (d := d) (s := s) (l := l)
  refine ⟨?_, fun q q1 q2 => ?_, fun c c1 c2 => ?_, w.2.2.2.of (addP_r (by decide) (by decide)) (e8.2 2 (by decide))⟩
  · unfold WFn
    rw [e8.1, e8.2 1 (by decide), e8.2 2 (by decide), e8.2 3 (by decide), e8.2 4 (by decide), e8.2 5 (by decide)]
    exact ⟨⟨by omega, by omega⟩, hn.2⟩
  · rw [e8.1] at q2
    by_cases e : q = B 8 0
    · subst e
      obtain ⟨g1, g2, g3⟩ := addP_n (B := B) (d := d) (s := s) (l := l)
      rw [g1, g2, g3]
      exact ⟨hd, hs, hl⟩
    · rw [addP_o (by decide) e, addP_o (by decide) e, addP_o (by decide) e]
      exact w.2.1 q q1 (by omega)
  · rw [e8.2 1 (by decide)] at c2
    obtain ⟨g1, g2, g3, g4, g5, g6⟩ := w.2.2.1 c c1 c2
    rw [addP_r (show (3 : Int) ≤ 3 by decide) (by decide), addP_r (show (3 : Int) ≤ 4 by decide) (by decide), addP_r (show (3 : Int) ≤ 5 by decide) (by decide), addP_r (show (3 : Int) ≤ 6 by decide) (by decide)]
    refine ⟨g1, g2, g3, g4, fun p hp => ?_, fun e => by rw [addP_od w c1 c2]; exact g6 e⟩
    unfold tk at hp
    rw [addP_r (by decide) (by decide)] at hp
    have := g5 p hp
    rw [e8.1]
    omega
theorem addC_r {B : Bk} {k a x : Int} (h : x < 3 ∨ x = 7) : addC B k a x = B x := by
  unfold addC
  rw [mup_row (by omega), mup_row (by omega), mup_row (by omega), mup_row (by omega), mup_row (by omega)]
theorem addC_o {B : Bk} {k a x i : Int} (h : x < 8) (h2 : i ≠ B 8 1) : addC B k a x i = B x i := by
  unfold addC
  rw [mup_miss (by omega), mup_miss (by omega), mup_miss (by omega), mup_miss (by omega), mup_miss (by omega)]
theorem addC_n {B : Bk} {k a : Int} : addC B k a 3 (B 8 1) = k ∧ addC B k a 4 (B 8 1) = a ∧ addC B k a 5 (B 8 1) = 0 ∧ addC B k a 6 (B 8 1) = 0 := by
  unfold addC
  refine ⟨?_, ?_, ?_, ?_⟩
  · rw [mup_miss (by omega), mup_miss (by omega), mup_miss (by omega), mup_miss (by omega), mup_hit rfl rfl]
  · rw [mup_miss (by omega), mup_miss (by omega), mup_miss (by omega), mup_hit rfl rfl]
  · rw [mup_miss (by omega), mup_miss (by omega), mup_hit rfl rfl]
  · rw [mup_miss (by omega), mup_hit rfl rfl]
theorem addC_8 {B : Bk} {k a : Int} : addC B k a 8 1 = B 8 1 + 1 ∧ ∀ i, i ≠ 1 → addC B k a 8 i = B 8 i := by
  unfold addC
  refine ⟨mup_hit rfl rfl, fun i hi => ?_⟩
  rw [mup_miss (by omega), mup_miss (by omega), mup_miss (by omega), mup_miss (by omega), mup_miss (by omega)]
theorem addC_od {B : Bk} {k a c d : Int} (h : c ≠ B 8 1) : od (addC B k a) c d = od B c d := od_congr (addC_8.2 0 (by decide)) (addC_r (by decide)) (addC_o (by decide) h)
theorem addC_agr {B : Bk} {k a c d : Int} (h : c ≠ B 8 1) : agr B (addC B k a) c d := ⟨addC_8.2 3 (by decide), addC_o (by decide) h, addC_o (by decide) h, addC_o (by decide) h, fun p _ _ => by rw [addC_r (by decide)], addC_od h, fun p _ => by rw [addC_r (by decide)]⟩
theorem WF_addC {B : Bk} (w : WF B) (h10 : B 8 1 < 10) {k a : Int} (hk : 0 ≤ k ∧ k ≤ 5) (ha : 0 ≤ a ∧ a ≤ 9) : WF (addC B k a) := by
  have hn := w.1
  unfold WFn at hn
  have e8 := addC_8 (B := B) (k := k) (a := a)
  refine ⟨?_, w.2.1.of (addC_r (by decide)) (addC_r (by decide)) (addC_r (by decide)) (e8.2 0 (by decide)), fun c c1 c2 => ?_, w.2.2.2.of (addC_r (by decide)) (e8.2 2 (by decide))⟩
  · unfold WFn
    rw [e8.1, e8.2 0 (by decide), e8.2 2 (by decide), e8.2 3 (by decide), e8.2 4 (by decide), e8.2 5 (by decide)]
    exact ⟨hn.1, ⟨by omega, by omega⟩, hn.2.2⟩
  · rw [e8.1] at c2
    by_cases e : c = B 8 1
    · subst e
      obtain ⟨g1, g2, g3, g4⟩ := addC_n (B := B) (k := k) (a := a)
      rw [g1, g2, g3, g4]
      have ht : ∀ p : Nat, tk (addC B k a) (B 8 1) p = false := fun p => by unfold tk; rw [g4]; simp
      refine ⟨hk, ha, Or.inl rfl, ⟨by decide, by decide⟩, fun p hp => ?_, fun d => ?_⟩
      · rw [ht] at hp; cases hp
      · refine Nat.le_trans (cnt_sub (g := fun _ => false) (fun i hi => ?_) 12) (by decide)
        rw [od_tb, ht] at hi
        simp at hi
    · obtain ⟨g1, g2, g3, g4, g5, g6⟩ := w.2.2.1 c c1 (by omega)
      rw [addC_o (show (3 : Int) < 8 by decide) e, addC_o (show (4 : Int) < 8 by decide) e, addC_o (show (5 : Int) < 8 by decide) e, addC_o (show (6 : Int) < 8 by decide) e]
      refine ⟨g1, g2, g3, g4, fun p hp => ?_, fun d => by rw [addC_od e]; exact g6 d⟩
      unfold tk at hp
      rw [addC_o (by decide) e] at hp
      rw [e8.2 0 (by decide)]
      exact g5 p hp
theorem addR_r {B : Bk} {s x : Int} (h : x < 7) : addR B s x = B x := by
  unfold addR
  rw [mup_row (by omega), mup_row (by omega)]
theorem addR_8 {B : Bk} {s : Int} : addR B s 8 2 = B 8 2 + 1 ∧ ∀ i, i ≠ 2 → addR B s 8 i = B 8 i := by
  unfold addR
  refine ⟨mup_hit rfl rfl, fun i hi => ?_⟩
  rw [mup_miss (by omega), mup_miss (by omega)]
theorem addR_agr {B : Bk} {s c d : Int} : agr B (addR B s) c d := ⟨addR_8.2 3 (by decide), by rw [addR_r (by decide)], by rw [addR_r (by decide)], by rw [addR_r (by decide)], fun p _ _ => by rw [addR_r (by decide)], od_congr (addR_8.2 0 (by decide)) (addR_r (by decide)) (by rw [addR_r (by decide)]), fun p _ => by rw [addR_r (by decide)]⟩
theorem WF_addR {B : Bk} (w : WF B) (h6 : B 8 2 < 6) {s : Int} (hs : 1 ≤ s ∧ s ≤ 9) : WF (addR B s) := by
  have hn := w.1
  unfold WFn at hn
  have e8 := addR_8 (B := B) (s := s)
  refine ⟨?_, w.2.1.of (addR_r (by decide)) (addR_r (by decide)) (addR_r (by decide)) (e8.2 0 (by decide)), w.2.2.1.of (addR_r (by decide)) (addR_r (by decide)) (addR_r (by decide)) (addR_r (by decide)) (addR_r (by decide)) (e8.2 0 (by decide)) (e8.2 1 (by decide)), fun r r1 r2 => ?_⟩
  · unfold WFn
    rw [e8.1, e8.2 0 (by decide), e8.2 1 (by decide), e8.2 3 (by decide), e8.2 4 (by decide), e8.2 5 (by decide)]
    exact ⟨hn.1, hn.2.1, ⟨by omega, by omega⟩, hn.2.2.2⟩
  · rw [e8.1] at r2
    unfold addR
    by_cases e : r = B 8 2
    · rw [mup_miss (by omega), mup_hit rfl e]; exact hs
    · rw [mup_miss (by omega), mup_miss (by omega)]
      exact w.2.2.2 r r1 (by omega)
theorem X0_addPaper {σ : Mem} {b : Int} {B : Bk} (hB : isBk σ b B) (h0 : 0 ≤ B 8 0) (h12 : B 8 0 < 12) (d s l : Int) : ∃ τ, f_X0_addPaper σ b d s l = some (B 8 0, τ) ∧ isBk τ b (addP B d s l) ∧ ∀ x, ¬ (b ≤ x ∧ x ≤ b + 8) → τ x = σ x := by
  have k1 : isBk (mup σ (b + 1) (B 8 0) d) b (mup B 0 (B 8 0) d) := by
    have := hB.put (t := 0) (i := B 8 0) (v := d) (by decide) (by decide)
    rwa [Int.add_zero] at this
  have k2 := k1.put (t := 1) (i := B 8 0) (v := s) (by decide) (by decide)
  rw [show b + 1 + 1 = b + 2 by omega] at k2
  have k3 := k2.put (t := 2) (i := B 8 0) (v := l) (by decide) (by decide)
  rw [show b + 1 + 2 = b + 3 by omega] at k3
  have k4 := k3.putn (i := 0) (v := B 8 0 + 1)
  rw [Int.add_zero] at k4
  refine ⟨_, ?_, k4, fun x hx => by rw [mup_row (by omega), mup_row (by omega), mup_row (by omega), mup_row (by omega)]⟩
  have n0 := hB.nP
  have m1 : ∀ (τ : Mem) (t i v : Int), 1 ≤ t → mup τ (b + t) i v b 8 = τ b 8 := fun τ t i v ht => mup_miss (by omega)
  unfold f_X0_addPaper
  rw [n0, if_pos h12, chk_pos (by omega)]
  simp only [Option.bind_some]
  rw [m1 _ 1 _ _ (by decide), n0, chk_pos (by omega)]
  rw [m1 _ 2 _ _ (by decide), m1 _ 1 _ _ (by decide), n0, chk_pos (by omega)]
  rw [m1 _ 3 _ _ (by decide), m1 _ 2 _ _ (by decide), m1 _ 1 _ _ (by decide), n0, jadd_ok (by omega) (by omega)]
  rw [mup_hit rfl rfl, jsub_ok (by omega) (by omega), show B 8 0 + 1 - 1 = B 8 0 by omega]
theorem X0_addCand {σ : Mem} {b : Int} {B : Bk} (hB : isBk σ b B) (h0 : 0 ≤ B 8 1) (h10 : B 8 1 < 10) (k a : Int) : ∃ τ, f_X0_addCand σ b k a = some (B 8 1, τ) ∧ isBk τ b (addC B k a) ∧ ∀ x, ¬ (b ≤ x ∧ x ≤ b + 8) → τ x = σ x := by
  have k1 : isBk (mup σ (b + 4) (B 8 1) k) b (mup B 3 (B 8 1) k) := by
    have := hB.put (t := 3) (i := B 8 1) (v := k) (by decide) (by decide)
    rwa [show b + 1 + 3 = b + 4 by omega] at this
  have k2 := k1.put (t := 4) (i := B 8 1) (v := a) (by decide) (by decide)
  rw [show b + 1 + 4 = b + 5 by omega] at k2
  have k3 := k2.put (t := 5) (i := B 8 1) (v := 0) (by decide) (by decide)
  rw [show b + 1 + 5 = b + 6 by omega] at k3
  have k4 := k3.put (t := 6) (i := B 8 1) (v := 0) (by decide) (by decide)
  rw [show b + 1 + 6 = b + 7 by omega] at k4
  have k5 := k4.putn (i := 1) (v := B 8 1 + 1)
  rw [show (8 : Int) + 1 = 9 from rfl] at k5
  refine ⟨_, ?_, k5, fun x hx => by rw [mup_row (by omega), mup_row (by omega), mup_row (by omega), mup_row (by omega), mup_row (by omega)]⟩
  have n0 := hB.nC
  have m1 : ∀ (τ : Mem) (t i v : Int), 1 ≤ t → mup τ (b + t) i v b 9 = τ b 9 := fun τ t i v ht => mup_miss (by omega)
  unfold f_X0_addCand
  rw [n0, if_pos h10, chk_pos (by omega)]
  simp only [Option.bind_some]
  rw [m1 _ 4 _ _ (by decide), n0, chk_pos (by omega)]
  rw [m1 _ 5 _ _ (by decide), m1 _ 4 _ _ (by decide), n0, chk_pos (by omega)]
  rw [m1 _ 6 _ _ (by decide), m1 _ 5 _ _ (by decide), m1 _ 4 _ _ (by decide), n0, chk_pos (by omega)]
  rw [m1 _ 7 _ _ (by decide), m1 _ 6 _ _ (by decide), m1 _ 5 _ _ (by decide), m1 _ 4 _ _ (by decide), n0, jadd_ok (by omega) (by omega)]
  rw [mup_hit rfl rfl, jsub_ok (by omega) (by omega), show B 8 1 + 1 - 1 = B 8 1 by omega]
theorem X0_addRoom {σ : Mem} {b : Int} {B : Bk} (hB : isBk σ b B) (h0 : 0 ≤ B 8 2) (h6 : B 8 2 < 6) (s : Int) : ∃ τ, f_X0_addRoom σ b s = some (B 8 2, τ) ∧ isBk τ b (addR B s) ∧ ∀ x, ¬ (b ≤ x ∧ x ≤ b + 8) → τ x = σ x := by
  have k1 : isBk (mup σ (b + 8) (B 8 2) s) b (mup B 7 (B 8 2) s) := by
    have := hB.put (t := 7) (i := B 8 2) (v := s) (by decide) (by decide)
    rwa [show b + 1 + 7 = b + 8 by omega] at this
  have k5 := k1.putn (i := 2) (v := B 8 2 + 1)
  rw [show (8 : Int) + 2 = 10 from rfl] at k5
  refine ⟨_, ?_, k5, fun x hx => by rw [mup_row (by omega), mup_row (by omega)]⟩
  have n0 := hB.nR
  have m1 : ∀ (τ : Mem) (t i v : Int), 1 ≤ t → mup τ (b + t) i v b 10 = τ b 10 := fun τ t i v ht => mup_miss (by omega)
  unfold f_X0_addRoom
  rw [n0, if_pos h6, chk_pos (by omega)]
  simp only [Option.bind_some]
  rw [m1 _ 8 _ _ (by decide), n0, jadd_ok (by omega) (by omega)]
  rw [mup_hit rfl rfl, jsub_ok (by omega) (by omega), show B 8 2 + 1 - 1 = B 8 2 by omega]
theorem X11_paper_ok {σ : Mem} {B : Bk} (hR : isRk σ 182 B) (w : WF B) (h12 : B 8 0 < 12) {d s l : Int} (hd : 0 ≤ d ∧ d < 5) (hs : 0 ≤ s ∧ s < 48) (hl : 1 ≤ l ∧ l ≤ 12) : ∃ τ, f_X11_paper σ d s l = some (B 8 0, τ) ∧ isRk τ 182 (addP B d s l) ∧ ∀ x, x ≠ 182 → τ x = σ x := by
  have hn := w.1
  unfold WFn at hn
  have k1 := hR.put3 (t := 0) (i := B 8 0) (v := d) (by decide) (by omega)
  have k2 := k1.put3 (t := 1) (i := B 8 0) (v := s) (by decide) (by omega)
  have k3 := k2.put3 (t := 2) (i := B 8 0) (v := l) (by decide) (by omega)
  have k4 := k3.putn (i := 0) (v := B 8 0 + 1) (by decide)
  rw [Int.add_zero] at k4
  rw [show (82 : Int) + 0 = 82 from rfl] at k4
  refine ⟨_, ?_, k4, fun x hx => by rw [mup_row hx, mup_row hx, mup_row hx, mup_row hx]⟩
  have n0 := hR.nP
  have m1 : ∀ (τ : Mem) (i v : Int), i ≠ 82 → mup τ 182 i v 182 82 = τ 182 82 := fun τ i v hi => mup_miss (by omega)
  unfold f_X11_paper
  rw [bind_some' (X11_isDay d), if0, if_pos hd, bind_some' (X11_isSlot s), if0, if_pos hs, bind_some' (X11_isIn l 1 12), if1, if_pos hl, chk_pos (by decide), n0, if_pos (by omega), chk_pos (by decide)]
  simp only [Option.bind_some]
  rw [j3 (by omega), jadd_ok (by omega) (by omega), jadd_ok (by omega) (by omega), chk_pos (by omega), chk_pos (by omega), chk_pos (by omega), chk_pos (by decide), chk_pos (by decide)]
  rw [m1 _ _ _ (by omega), m1 _ _ _ (by omega), m1 _ _ _ (by omega), n0, jadd_ok (by omega) (by omega)]
theorem X11_cand_ok {σ : Mem} {B : Bk} (hR : isRk σ 182 B) (w : WF B) (h10 : B 8 1 < 10) {k a : Int} (hk : 0 ≤ k ∧ k ≤ 5) (ha : 0 ≤ a ∧ a ≤ 9) : ∃ τ, f_X11_cand σ k a = some (B 8 1, τ) ∧ isRk τ 182 (addC B k a) ∧ ∀ x, x ≠ 182 → τ x = σ x := by
  have hn := w.1
  unfold WFn at hn
  have k1 := hR.put4 (t := 0) (i := B 8 1) (v := k) (by decide) (by omega)
  have k2 := k1.put4 (t := 1) (i := B 8 1) (v := a) (by decide) (by omega)
  have k3 := k2.put4 (t := 2) (i := B 8 1) (v := 0) (by decide) (by omega)
  have k3' := k3.put4 (t := 3) (i := B 8 1) (v := 0) (by decide) (by omega)
  have k4 := k3'.putn (i := 1) (v := B 8 1 + 1) (by decide)
  rw [Int.add_zero] at k4
  rw [show (82 : Int) + 1 = 83 from rfl] at k4
  refine ⟨_, ?_, k4, fun x hx => by rw [mup_row hx, mup_row hx, mup_row hx, mup_row hx, mup_row hx]⟩
  have n0 := hR.nC
  have m1 : ∀ (τ : Mem) (i v : Int), i ≠ 83 → mup τ 182 i v 182 83 = τ 182 83 := fun τ i v hi => mup_miss (by omega)
  have e0 : jadd 36 (jmul 4 (B 8 1)) = 36 + 4 * B 8 1 := by rw [jmul_ok (by omega) (by omega), jadd_ok (by omega) (by omega)]
  unfold f_X11_cand
  rw [bind_some' (X11_isIn k 0 5), if0, if_pos hk, bind_some' (X11_isIn a 0 9), if1, if_pos ha, chk_pos (by decide), n0, if_pos (by omega), chk_pos (by decide)]
  simp only [Option.bind_some]
  rw [e0, jadd_ok (by omega) (by omega), jadd_ok (by omega) (by omega), jadd_ok (by omega) (by omega), chk_pos (by omega), chk_pos (by omega), chk_pos (by omega), chk_pos (by omega), chk_pos (by decide), chk_pos (by decide)]
  rw [m1 _ _ _ (by omega), m1 _ _ _ (by omega), m1 _ _ _ (by omega), m1 _ _ _ (by omega), n0, jadd_ok (by omega) (by omega)]

theorem isRk_refd' {σ : Mem} {x : Int} {B : Bk} (h : isRk σ 182 B) : isRk (refd σ x) 182 B := isRk_refd h
/-- paper -/
theorem k_paper {n : Nat} {σ : Mem} {B : Bk} (h : INV0 n σ B) (hl : n < 1000) (d s l : Int) : CALL0 n σ B (f_X10_paper σ d s l) (fun ρ => f_X11_paper ρ d s l) := by
  have hst := h.1
  obtain ⟨hB, hR, w, hW⟩ := h.1
  have hn := w.1
  unfold WFn at hn
  have hR' : isRk (refd σ (-52)) 182 B := isRk_refd hR
  by_cases h1 : 0 ≤ d ∧ d < 5
  rotate_left
  · refine same.call h (same.no (x := -52) (by omega) (by decide) ?_ CFr.rfl hW ?_ RFr.rfl)
    · unfold f_X10_paper
      rw [bind_some' (X10_isDay d), if0, if_neg h1]
      exact c_no (by decide)
    · show f_X11_paper _ d s l = _
      unfold f_X11_paper
      rw [bind_some' (X11_isDay d), if0, if_neg h1]
      exact r_no (by decide)
  by_cases h2 : 0 ≤ s ∧ s < 48
  rotate_left
  · refine same.call h (same.no (x := -52) (by omega) (by decide) ?_ CFr.rfl hW ?_ RFr.rfl)
    · unfold f_X10_paper
      rw [bind_some' (X10_isDay d), if0, if_pos h1, bind_some' (X10_isSlot s), if0, if_neg h2]
      exact c_no (by decide)
    · show f_X11_paper _ d s l = _
      unfold f_X11_paper
      rw [bind_some' (X11_isDay d), if0, if_pos h1, bind_some' (X11_isSlot s), if0, if_neg h2]
      exact r_no (by decide)
  by_cases h3 : 1 ≤ l ∧ l ≤ 12
  rotate_left
  · refine same.call h (same.no (x := -52) (by omega) (by decide) ?_ CFr.rfl hW ?_ RFr.rfl)
    · unfold f_X10_paper
      rw [bind_some' (X10_isDay d), if0, if_pos h1, bind_some' (X10_isSlot s), if0, if_pos h2]
      by_cases hz : l < 1
      · rw [if_pos hz]
        exact c_no (by decide)
      · rw [if_neg hz, if_neg (show ¬ l ≤ 12 by omega)]
        exact c_no (by decide)
    · show f_X11_paper _ d s l = _
      unfold f_X11_paper
      rw [bind_some' (X11_isDay d), if0, if_pos h1, bind_some' (X11_isSlot s), if0, if_pos h2, bind_some' (X11_isIn l 1 12), if1, if_neg h3]
      exact r_no (by decide)
  by_cases hf : B 8 0 < 12
  rotate_left
  · refine same.call h (same.no (x := -56) (by omega) (by decide) ?_ CFr.rfl hW ?_ RFr.rfl)
    · unfold f_X10_paper
      rw [bind_some' (X10_isDay d), if0, if_pos h1, bind_some' (X10_isSlot s), if0, if_pos h2, if_neg (show ¬ l < 1 by omega), if_pos (show l ≤ 12 by omega)]
      rw [hB.nP, if_neg hf]
      exact c_no (by decide)
    · have hR2 : isRk (refd σ (-56)) 182 B := isRk_refd hR
      show f_X11_paper _ d s l = _
      unfold f_X11_paper
      rw [bind_some' (X11_isDay d), if0, if_pos h1, bind_some' (X11_isSlot s), if0, if_pos h2, bind_some' (X11_isIn l 1 12), if1, if_pos h3]
      rw [chk_pos (by decide), hR2.nP, if_neg (by omega)]
      exact r_no (by decide)
  obtain ⟨ρ, f1, f2, f3⟩ := X0_addPaper hB hn.1.1 hf d s l
  have hRr : isRk ρ 182 B := hR.row (f3 182 (by decide))
  obtain ⟨τ, g1, g2, g3⟩ := X11_paper_ok hRr w hf h1 h2 h3
  have w' := WF_addP w hf h1 h2 h3
  have e8 := addP_8 (B := B) (d := d) (s := s) (l := l)
  have kk : ∀ x, ¬ (1 ≤ x ∧ x ≤ 9) → x ≠ 182 → τ x = σ x := fun x x1 x2 => by rw [g3 x x2, f3 x (by omega)]
  refine call_edit (ρ := ρ) (τ := τ) (v := B 8 0) h w' ?_ g1 (fun x i x1 x2 x3 x4 x5 => by rw [kk x (by omega) x4]) (f2.pt fun x i x1 x2 => by rw [g3 x (by omega)]) g2 (by rw [e8.2 1 (by decide)]; exact Int.le_refl _) (fun q q1 q2 q3 => ?_) (Or.inr ⟨by rw [kk 43 (by decide) (by decide)], e8.2 1 (by decide), e8.2 2 (by decide), e8.2 4 (by decide), fun r _ _ => by rw [addP_r (by decide) (by decide)], fun c e c1 c2 => addP_agr w c1 c2 e⟩)
  · unfold f_X10_paper
    rw [bind_some' (X10_isDay d), if0, if_pos h1, bind_some' (X10_isSlot s), if0, if_pos h2, if_neg (show ¬ l < 1 by omega), if_pos (show l ≤ 12 by omega)]
    rw [hB.nP, if_pos hf, bind_some' f1]
  · rw [kk 53 (by decide) (by decide)] at q3
    rw [e8.2 1 (by decide)] at q2
    exact ⟨q3, q2, fun e => addP_agr w q1 q2 e⟩
/-- cand -/
theorem k_cand {n : Nat} {σ : Mem} {B : Bk} (h : INV0 n σ B) (hl : n < 1000) (k a : Int) : CALL0 n σ B (f_X10_cand σ k a) (fun ρ => f_X11_cand ρ k a) := by
  have hst := h.1
  obtain ⟨hB, hR, w, hW⟩ := h.1
  have hn := w.1
  unfold WFn at hn
  have hR' : isRk (refd σ (-52)) 182 B := isRk_refd hR
  by_cases h1 : 0 ≤ k ∧ k ≤ 5
  rotate_left
  · refine same.call h (same.no (x := -52) (by omega) (by decide) ?_ CFr.rfl hW ?_ RFr.rfl)
    · unfold f_X10_cand
      rw [bind_some' (X2_isKind k), if0, if_neg h1]
      exact c_no (by decide)
    · show f_X11_cand _ k a = _
      unfold f_X11_cand
      rw [bind_some' (X11_isIn k 0 5), if0, if_neg h1]
      exact r_no (by decide)
  by_cases h2 : 0 ≤ a ∧ a ≤ 9
  rotate_left
  · refine same.call h (same.no (x := -52) (by omega) (by decide) ?_ CFr.rfl hW ?_ RFr.rfl)
    · unfold f_X10_cand
      rw [bind_some' (X2_isKind k), if0, if_pos h1]
      by_cases hz : a < 0
      · rw [if_pos hz]
        exact c_no (by decide)
      · rw [if_neg hz, if_neg (show ¬ a ≤ 9 by omega)]
        exact c_no (by decide)
    · show f_X11_cand _ k a = _
      unfold f_X11_cand
      rw [bind_some' (X11_isIn k 0 5), if0, if_pos h1, bind_some' (X11_isIn a 0 9), if1, if_neg h2]
      exact r_no (by decide)
  obtain ⟨hd1, hd2⟩ := h.2.2.2.2.2.2.2
  by_cases hf : B 8 1 < 10
  rotate_left
  · refine same.call h (same.no (x := -56) (by omega) (by decide) ?_ CFr.rfl hW ?_ RFr.rfl)
    · unfold f_X10_cand
      rw [bind_some' (X2_isKind k), if0, if_pos h1, if_neg (show ¬ a < 0 by omega), if_pos (show a ≤ 9 by omega)]
      rw [hB.nC, if_neg hf]
      exact c_no (by decide)
    · have hR2 : isRk (refd σ (-56)) 182 B := isRk_refd hR
      show f_X11_cand _ k a = _
      unfold f_X11_cand
      rw [bind_some' (X11_isIn k 0 5), if0, if_pos h1, bind_some' (X11_isIn a 0 9), if1, if_pos h2]
      rw [chk_pos (by decide), hR2.nC, if_neg (by omega)]
      exact r_no (by decide)
  obtain ⟨ρ0, f1, f2, f3⟩ := X0_addCand hB hn.2.1.1 hf k a
  have f4 := X9_forget (σ := ρ0) (c := B 8 1) (by omega) (by rw [f3 43 (by decide)]; omega)
  obtain ⟨ρ, hρ⟩ : ∃ ρ, ρ = mup (mup ρ0 53 (B 8 1) 0) 43 3 (ρ0 43 3 + 1) := ⟨_, rfl⟩
  rw [← hρ] at f4
  have f5 : ∀ x i, (x = 43 → i ≠ 3) → x ≠ 53 → ρ x i = ρ0 x i := fun x i g1 g2 => by rw [hρ, mup_miss (by omega), mup_miss (by omega)]
  have hRr : isRk ρ 182 B := hR.pt fun i => by rw [f5 182 i (by omega) (by omega), f3 182 (by decide)]
  obtain ⟨τ, g1, g2, g3⟩ := X11_cand_ok hRr w hf h1 h2
  have w' := WF_addC w hf h1 h2
  have e8 := addC_8 (B := B) (k := k) (a := a)
  refine call_edit (ρ := ρ) (τ := τ) (v := B 8 1) h w' ?_ g1 (fun x i x1 x2 x3 x4 x5 => by rw [g3 x x4, f5 x i x2 x3, f3 x (by omega)]) (f2.pt fun x i x1 x2 => by rw [g3 x (by omega), f5 x i (by omega) (by omega)]) g2 (by rw [e8.1]; omega) (fun q q1 q2 q3 => ?_) (Or.inl (by rw [g3 43 (by decide), hρ, mup_hit rfl rfl, f3 43 (by decide)]))
  · unfold f_X10_cand
    rw [bind_some' (X2_isKind k), if0, if_pos h1, if_neg (show ¬ a < 0 by omega), if_pos (show a ≤ 9 by omega)]
    rw [hB.nC, if_pos hf, bind_some' f1]
    simp only [Option.bind_some]
    rw [f4]
    rfl
  · rw [g3 53 (by decide)] at q3
    rw [e8.1] at q2
    have hq : q ≠ B 8 1 := fun e => q3 (by rw [hρ, mup_miss (by omega), mup_hit rfl e])
    refine ⟨fun e => q3 ?_, by omega, fun d => addC_agr hq⟩
    rw [hρ, mup_miss (by omega), mup_miss (fun z => hq z.2), f3 53 (by decide), e]
/-- room -/
theorem k_room {n : Nat} {σ : Mem} {B : Bk} (h : INV0 n σ B) (hl : n < 1000) (s : Int) : CALL0 n σ B (f_X10_room σ s) (fun ρ => f_X11_room ρ s) := by
  have hst := h.1
  obtain ⟨hB, hR, w, hW⟩ := h.1
  have hn := w.1
  unfold WFn at hn
  have hR' : isRk (refd σ (-52)) 182 B := isRk_refd hR
  by_cases h1 : 1 ≤ s ∧ s ≤ 9
  rotate_left
  · refine same.call h (same.no (x := -52) (by omega) (by decide) ?_ CFr.rfl hW ?_ RFr.rfl)
    · unfold f_X10_room
      by_cases hz : s < 1
      · rw [if_pos hz]
        exact c_no (by decide)
      · rw [if_neg hz, if_neg (show ¬ s ≤ 9 by omega)]
        exact c_no (by decide)
    · show f_X11_room _ s = _
      unfold f_X11_room
      rw [bind_some' (X11_isIn s 1 9), if1, if_neg h1]
      exact r_no (by decide)
  obtain ⟨hd1, hd2⟩ := h.2.2.2.2.2.2.2
  by_cases hf : B 8 2 < 6
  rotate_left
  · refine same.call h (same.no (x := -56) (by omega) (by decide) ?_ CFr.rfl hW ?_ RFr.rfl)
    · unfold f_X10_room
      rw [if_neg (show ¬ s < 1 by omega), if_pos (show s ≤ 9 by omega)]
      rw [hB.nR, if_neg hf]
      exact c_no (by decide)
    · have hR2 : isRk (refd σ (-56)) 182 B := isRk_refd hR
      show f_X11_room _ s = _
      unfold f_X11_room
      rw [bind_some' (X11_isIn s 1 9), if1, if_pos h1]
      rw [chk_pos (by decide), hR2.nR, if_neg (by omega)]
      exact r_no (by decide)
  have f4 := X9_forgetOthers (σ := σ) (by omega)
  have hB1 : isBk (mup σ 43 3 (σ 43 3 + 1)) 1 B := hB.pt fun x i x1 x2 => mup_miss (by omega)
  obtain ⟨ρ, f1, f2, f3⟩ := X0_addRoom hB1 hn.2.2.1.1 hf s
  have hRr : isRk ρ 182 B := hR.pt fun i => by rw [f3 182 (by decide), mup_miss (by omega)]
  have k1 := hRr.put7 (i := B 8 2) (v := s) (by omega)
  have k2 := k1.putn (i := 2) (v := B 8 2 + 1) (by decide)
  rw [show (82 : Int) + 2 = 84 from rfl] at k2
  have w' := WF_addR w hf h1
  have e8 := addR_8 (B := B) (s := s)
  refine call_edit (ρ := ρ) (τ := mup (mup ρ 182 (76 + B 8 2) s) 182 84 (B 8 2 + 1)) (v := B 8 2) h w' ?_ ?_ (fun x i x1 x2 x3 x4 x5 => by rw [mup_miss (by omega), mup_miss (by omega), f3 x (by omega), mup_miss (by omega)]) (f2.pt fun x i x1 x2 => by rw [mup_miss (by omega), mup_miss (by omega)]) k2 (by rw [e8.2 1 (by decide)]; exact Int.le_refl _) (fun q q1 q2 q3 => ?_) (Or.inl (by rw [mup_miss (by omega), mup_miss (by omega), f3 43 (by decide), mup_hit rfl rfl]))
  · unfold f_X10_room
    rw [if_neg (show ¬ s < 1 by omega), if_pos (show s ≤ 9 by omega)]
    rw [hB.nR, if_pos hf, bind_some' f4, bind_some' f1]
  · show f_X11_room _ s = _
    unfold f_X11_room
    rw [bind_some' (X11_isIn s 1 9), if1, if_pos h1]
    rw [chk_pos (by decide), hRr.nR, if_pos (by omega), chk_pos (by decide)]
    simp only [Option.bind_some]
    rw [jadd_ok (by omega) (by omega), chk_pos (by omega), chk_pos (by decide), chk_pos (by decide), chk_pos (by decide), mup_miss (i := 76 + B 8 2) (by omega), hRr.nR, jadd_ok (by omega) (by omega), mup_hit rfl rfl, jsub_ok (by omega) (by omega), show B 8 2 + 1 - 1 = B 8 2 by omega]
  · rw [mup_miss (by omega), mup_miss (by omega), f3 53 (by decide), mup_miss (by omega)] at q3
    rw [e8.2 1 (by decide)] at q2
    exact ⟨q3, q2, fun d => addR_agr⟩
/-- takes -/
theorem k_takes {n : Nat} {σ : Mem} {B : Bk} (h : INV0 n σ B) (hl : n < 1000) (c p t : Int) : CALL0 n σ B (f_X10_takes σ c p t) (fun ρ => f_X11_takes ρ c p t) := by
  have hst := h.1
  obtain ⟨hB, hR, w, hW⟩ := h.1
  have hn := w.1
  unfold WFn at hn
  have hR' : isRk (refd σ (-52)) 182 B := isRk_refd hR
  by_cases h1 : 0 ≤ c ∧ c < B 8 1
  rotate_left
  · refine same.call h (same.no (x := -52) (by omega) (by decide) ?_ CFr.rfl hW ?_ RFr.rfl)
    · unfold f_X10_takes
      rw [bind_some' (X0_hasCand hB c), if0, if_neg h1]
      exact c_no (by decide)
    · show f_X11_takes _ c p t = _
      unfold f_X11_takes
      rw [bind_some' (X11_isCand hR' w c), if0, if_neg h1]
      exact r_no (by decide)
  by_cases h2 : 0 ≤ p ∧ p < B 8 0
  rotate_left
  · refine same.call h (same.no (x := -52) (by omega) (by decide) ?_ CFr.rfl hW ?_ RFr.rfl)
    · unfold f_X10_takes
      rw [bind_some' (X0_hasCand hB c), if0, if_pos h1, bind_some' (X0_hasPaper hB p), if0, if_neg h2]
      exact c_no (by decide)
    · show f_X11_takes _ c p t = _
      unfold f_X11_takes
      rw [bind_some' (X11_isCand hR' w c), if0, if_pos h1, bind_some' (X11_isPaper hR' w p), if0, if_neg h2]
      exact r_no (by decide)
  by_cases h3 : 0 ≤ t ∧ t ≤ 1
  rotate_left
  · refine same.call h (same.no (x := -52) (by omega) (by decide) ?_ CFr.rfl hW ?_ RFr.rfl)
    · unfold f_X10_takes
      rw [bind_some' (X0_hasCand hB c), if0, if_pos h1, bind_some' (X0_hasPaper hB p), if0, if_pos h2, bind_some' (X10_isYesOrNo t), if1, if_neg h3]
      exact c_no (by decide)
    · show f_X11_takes _ c p t = _
      unfold f_X11_takes
      rw [bind_some' (X11_isCand hR' w c), if0, if_pos h1, bind_some' (X11_isPaper hR' w p), if0, if_pos h2, bind_some' (X11_isIn t 0 1), if1, if_neg h3]
      exact r_no (by decide)
  obtain ⟨hd1, hd2⟩ := h.2.2.2.2.2.2.2
  obtain ⟨p, rfl⟩ := n_of h2.1
  have ecl : f_X10_takes σ c p t = if tk B c p then f_X10_takes_54 σ c p t 1 else f_X10_takes_54 σ c p t 0 := by
    unfold f_X10_takes
    rw [bind_some' (X0_hasCand hB c), if0, if_pos h1, bind_some' (X0_hasPaper hB p), if0, if_pos h2, bind_some' (X10_isYesOrNo t), if1, if_pos h3]
    rw [bind_some' (X0_doesTake hB w h1.1 h1.2 (by omega))]
    cases tk B c p <;> rfl
  have erf : ∀ ρ, isRk ρ 182 B → f_X11_takes ρ c p t = if tk B c p then f_X11_takes_47 ρ c p t 1 else f_X11_takes_47 ρ c p t 0 := fun ρ hRr => by
    show f_X11_takes _ c p t = _
    unfold f_X11_takes
    rw [bind_some' (X11_isCand hRr w c), if0, if_pos h1, bind_some' (X11_isPaper hRr w p), if0, if_pos h2, bind_some' (X11_isIn t 0 1), if1, if_pos h3]
    rw [bind_some' (X11_has hRr w h1.1 h1.2 (by omega))]
    cases tk B c p <;> rfl
  have flip : ∀ s0 : Int, fifth B c p = false → t ≠ s0 → f_X10_takes σ c p t = f_X10_takes_54 σ c p t s0 → (∀ ρ, isRk ρ 182 B → f_X11_takes ρ c p t = (f_X11_toggles ρ c p).bind fun σ15 => some (s0, σ15)) → CALL0 n σ B (f_X10_takes σ c p t) (fun ρ => f_X11_takes ρ c p t) := fun s0 hf hs a1 a2 => by
    have f0 := X0_flip hB w h1.1 h1.2 (p := p) (by omega)
    have eB : isBk (mup σ 8 c (((B 6 c).toNat ^^^ 2 ^ p : Nat) : Int)) 1 (flp B c p) := hB.put (t := 6) (by decide) (by decide)
    have f1 := X9_forget (σ := mup σ 8 c (((B 6 c).toNat ^^^ 2 ^ p : Nat) : Int)) (c := c) (by omega) (by rw [mup_miss (by omega)]; omega)
    rw [mup_miss (by omega)] at f1
    obtain ⟨ρ, hρ⟩ : ∃ ρ, ρ = mup (mup (mup σ 8 c (((B 6 c).toNat ^^^ 2 ^ p : Nat) : Int)) 53 c 0) 43 3 (σ 43 3 + 1) := ⟨_, rfl⟩
    rw [← hρ] at f1
    have f2 : ∀ x i, x ≠ 8 → (x = 43 → i ≠ 3) → x ≠ 53 → ρ x i = σ x i := fun x i g1 g2 g3 => by rw [hρ, mup_miss (by omega), mup_miss (by omega), mup_miss (by omega)]
    have hRr : isRk ρ 182 B := hR.pt fun i => f2 182 i (by omega) (by omega) (by omega)
    have eR : isRk (mup ρ 182 (36 + 4 * c + 3) (((B 6 c).toNat ^^^ 2 ^ p : Nat) : Int)) 182 (flp B c p) := hRr.put4 (t := 3) (by decide) (by omega)
    have e8 : flp B c p 8 = B 8 := flp_r (by decide)
    refine call_edit (ρ := ρ) (v := s0) h (WF_flp w h1.1 h1.2 h2.2 hf) ?_ ?_ (fun x i x1 x2 x3 x4 x5 => ?_) ?_ eR (by rw [e8]; exact Int.le_refl _) (fun q q1 q2 q3 => ?_) (Or.inl ?_)
    · rw [a1]
      unfold f_X10_takes_54
      rw [if_neg hs, bind_some' (X0_mayFlip hB w h1.1 h1.2 h2.2), hf, bf, if_pos (by decide), bind_some' f0]
      show (f_X9_forget (mup σ 8 c _) c).bind _ = _
      rw [f1]
      rfl
    · show f_X11_takes ρ c p t = _
      rw [a2 ρ hRr, X11_toggles hRr w h1.1 h1.2 (by omega)]
      rfl
    · rw [mup_miss (by omega), f2 x i (by omega) x2 x3]
    · exact eB.pt fun x i x1 x2 => by rw [mup_miss (by omega), hρ, mup_miss (by omega), mup_miss (by omega)]
    · rw [mup_miss (by omega)] at q3
      rw [e8] at q2
      have hq : q ≠ c := fun e => q3 (by rw [hρ, mup_miss (by omega), mup_hit rfl e])
      refine ⟨fun e => q3 ?_, q2, fun d => agr_flp2 hq⟩
      rw [hρ, mup_miss (by omega), mup_miss (fun z => hq z.2), mup_miss (by omega), e]
    · rw [mup_miss (by omega), hρ, mup_hit rfl rfl]
  cases ht : tk B c p with
  | true =>
    have hf : fifth B c p = false := by unfold fifth; rw [ht]; rfl
    rw [ht, bt] at ecl
    by_cases hs : t = 1
    · refine same.call h (same.ok (v := 1) (by omega) ?_ CFr.rfl hW ?_ RFr.rfl)
      · rw [ecl]
        unfold f_X10_takes_54
        rw [if_pos hs]
      · show f_X11_takes σ c p t = _
        rw [erf σ hR, ht, bt]
        unfold f_X11_takes_47
        rw [if_neg (by omega), bind_some' (X11_isFifth hR w h1.1 h1.2 h2.2), hf, bf, if_pos rfl]
        unfold f_X11_takes_70
        rw [if_pos hs.symm]
    · refine flip 1 hf hs ecl fun ρ hRr => ?_
      rw [erf ρ hRr, ht, bt]
      unfold f_X11_takes_47
      rw [if_pos hs]
      unfold f_X11_takes_70
      rw [if_neg (fun e => hs e.symm)]
  | false =>
    rw [ht, bf] at ecl
    by_cases hs : t = 0
    · refine same.call h (same.ok (v := 0) (by omega) ?_ CFr.rfl hW ?_ RFr.rfl)
      · rw [ecl]
        unfold f_X10_takes_54
        rw [if_pos hs]
      · show f_X11_takes σ c p t = _
        rw [erf σ hR, ht, if_neg (by decide)]
        unfold f_X11_takes_47
        rw [if_pos (by omega)]
        unfold f_X11_takes_70
        rw [if_pos hs.symm]
    · have h1t : t = 1 := by omega
      cases hf : fifth B c p with
      | true =>
        refine same.call h (same.no (x := -55) (by omega) (by decide) ?_ CFr.rfl hW ?_ RFr.rfl)
        · rw [ecl]
          unfold f_X10_takes_54
          rw [if_neg hs, bind_some' (X0_mayFlip hB w h1.1 h1.2 h2.2), hf, bt, if_neg (by decide)]
          exact c_no (by decide)
        · have hR2 : isRk (refd σ (-55)) 182 B := isRk_refd hR
          show f_X11_takes _ c p t = _
          rw [erf _ hR2, ht, if_neg (by decide)]
          unfold f_X11_takes_47
          rw [if_neg (by omega), bind_some' (X11_isFifth hR2 w h1.1 h1.2 h2.2), hf, bt, if_neg (by decide)]
          exact r_no (by decide)
      | false =>
        refine flip 0 hf hs ecl fun ρ hRr => ?_
        rw [erf ρ hRr, ht, if_neg (by decide)]
        unfold f_X11_takes_47
        rw [if_neg (by omega), bind_some' (X11_isFifth hRr w h1.1 h1.2 h2.2), hf, bf, if_pos rfl]
        unfold f_X11_takes_70
        rw [if_neg (fun e => hs e.symm)]
