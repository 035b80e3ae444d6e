/-! NEW PAPERS, CANDIDATES, ROOMS; what one takes (by mk63.py) -/
def addP (B : Bk) (d s l : Int) : Bk := mup (mup (mup (mup B 0 (B 8 0) d) 1 (B 8 0) s) 2 (B 8 0) l) 8 0 (B 8 0 + 1)
def addC (B : Bk) (k a : Int) : Bk := mup (mup (mup (mup (mup B 3 (B 8 1) k) 4 (B 8 1) a) 5 (B 8 1) 0) 6 (B 8 1) 0) 8 1 (B 8 1 + 1)
def addR (B : Bk) (s : Int) : Bk := mup (mup B 7 (B 8 2) s) 8 2 (B 8 2 + 1)
theorem addP_r {B : Bk} {d s l x : Int} (h : 3 ≤ x) (h2 : x ≠ 8) : addP B d s l x = B x := by
  unfold addP
  rw [mup_row (by omega), mup_row (by omega), mup_row (by omega), mup_row (by omega)]
theorem addP_o {B : Bk} {d s l x i : Int} (h : x < 3) (h2 : i ≠ B 8 0) : addP B d s l x i = B x i := by
  unfold addP
  rw [mup_miss (by omega), mup_miss (by omega), mup_miss (by omega), mup_miss (by omega)]
theorem addP_n {B : Bk} {d s l : Int} : addP B d s l 0 (B 8 0) = d ∧ addP B d s l 1 (B 8 0) = s ∧ addP B d s l 2 (B 8 0) = l := by
  unfold addP
  refine ⟨?_, ?_, ?_⟩
  · rw [mup_miss (by omega), mup_miss (by omega), mup_miss (by omega), mup_hit rfl rfl]
  · rw [mup_miss (by omega), mup_miss (by omega), mup_hit rfl rfl]
  · rw [mup_miss (by omega), mup_hit rfl rfl]
theorem addP_8 {B : Bk} {d s l : Int} : addP B d s l 8 0 = B 8 0 + 1 ∧ ∀ i, i ≠ 0 → addP B d s l 8 i = B 8 i := by
  unfold addP
  refine ⟨mup_hit rfl rfl, fun i hi => ?_⟩
  rw [mup_miss (by omega), mup_miss (by omega), mup_miss (by omega), mup_miss (by omega)]
theorem addP_od {B : Bk} (w : WF B) {d s l : Int} {c : Int} (hc : 0 ≤ c) (hc2 : c < B 8 1) (e : Int) : od (addP B d s l) c e = od B c e := by
  have hn := w.1
  unfold WFn at hn
  unfold od tk
  rw [show addP B d s l 6 = B 6 from addP_r (by decide) (by decide), addP_8.1]
  refine mset_congr fun i hi => ?_
  by_cases q : (i : Int) = B 8 0
  · have : (B 6 c).toNat.testBit i = false := by
      cases ht : (B 6 c).toNat.testBit i with
      | false => rfl
      | true => exact absurd ((w.2.2.1 c hc hc2).2.2.2.2.1 i ht) (by omega)
    rw [this]; simp
  · rw [addP_o (by decide) q, show decide ((i : Int) < B 8 0 + 1) = decide ((i : Int) < B 8 0) from decide_eq_decide.2 (by omega)]
theorem addP_agr {B : Bk} (w : WF B) {d s l : Int} {c : Int} (hc : 0 ≤ c) (hc2 : c < B 8 1) (e : Int) : agr B (addP B d s l) c e := by
  refine ⟨addP_8.2 3 (by decide), by rw [addP_r (by decide) (by decide)], by rw [addP_r (by decide) (by decide)], by rw [addP_r (by decide) (by decide)], fun p h1 h2 => addP_o (by decide) (by omega), addP_od w hc hc2 e, fun p hp => addP_o (by decide) ?_⟩
  rw [od_tb] at hp
  simp at hp
  omega
theorem WF_addP {B : Bk} (w : WF B) (h12 : B 8 0 < 12) {d s l : Int} (hd : 0 ≤ d ∧ d < 5) (hs : 0 ≤ s ∧ s < 48) (hl : 1 ≤ l ∧ l ≤ 12) : WF (addP B d s l) := by
  have hn := w.1
  unfold WFn at hn
  have e8 := addP_8 (B := B) (d := d) (s := s) (l := l)
  refine ⟨?_, fun q q1 q2 => ?_, fun c c1 c2 => ?_, w.2.2.2.of (addP_r (by decide) (by decide)) (e8.2 2 (by decide))⟩
  · unfold WFn
    rw [e8.1, e8.2 1 (by decide), e8.2 2 (by decide), e8.2 3 (by decide), e8.2 4 (by decide), e8.2 5 (by decide)]
    exact ⟨⟨by omega, by omega⟩, hn.2⟩
  · rw [e8.1] at q2
    by_cases e : q = B 8 0
    · subst e
      obtain ⟨g1, g2, g3⟩ := addP_n (B := B) (d := d) (s := s) (l := l)
      rw [g1, g2, g3]
      exact ⟨hd, hs, hl⟩
    · rw [addP_o (by decide) e, addP_o (by decide) e, addP_o (by decide) e]
      exact w.2.1 q q1 (by omega)
  · rw [e8.2 1 (by decide)] at c2
    obtain ⟨g1, g2, g3, g4, g5, g6⟩ := w.2.2.1 c c1 c2
    rw [addP_r (show (3 : Int) ≤ 3 by decide) (by decide), addP_r (show (3 : Int) ≤ 4 by decide) (by decide), addP_r (show (3 : Int) ≤ 5 by decide) (by decide), addP_r (show (3 : Int) ≤ 6 by decide) (by decide)]
    refine ⟨g1, g2, g3, g4, fun p hp => ?_, fun e => by rw [addP_od w c1 c2]; exact g6 e⟩
    unfold tk at hp
    rw [addP_r (by decide) (by decide)] at hp
    have := g5 p hp
    rw [e8.1]
    omega
theorem addC_r {B : Bk} {k a x : Int} (h : x < 3 ∨ x = 7) : addC B k a x = B x := by
  unfold addC
  rw [mup_row (by omega), mup_row (by omega), mup_row (by omega), mup_row (by omega), mup_row (by omega)]
theorem addC_o {B : Bk} {k a x i : Int} (h : x < 8) (h2 : i ≠ B 8 1) : addC B k a x i = B x i := by
  unfold addC
  rw [mup_miss (by omega), mup_miss (by omega), mup_miss (by omega), mup_miss (by omega), mup_miss (by omega)]
theorem addC_n {B : Bk} {k a : Int} : addC B k a 3 (B 8 1) = k ∧ addC B k a 4 (B 8 1) = a ∧ addC B k a 5 (B 8 1) = 0 ∧ addC B k a 6 (B 8 1) = 0 := by
  unfold addC
  refine ⟨?_, ?_, ?_, ?_⟩
  · rw [mup_miss (by omega), mup_miss (by omega), mup_miss (by omega), mup_miss (by omega), mup_hit rfl rfl]
  · rw [mup_miss (by omega), mup_miss (by omega), mup_miss (by omega), mup_hit rfl rfl]
  · rw [mup_miss (by omega), mup_miss (by omega), mup_hit rfl rfl]
  · rw [mup_miss (by omega), mup_hit rfl rfl]
theorem addC_8 {B : Bk} {k a : Int} : addC B k a 8 1 = B 8 1 + 1 ∧ ∀ i, i ≠ 1 → addC B k a 8 i = B 8 i := by
  unfold addC
  refine ⟨mup_hit rfl rfl, fun i hi => ?_⟩
  rw [mup_miss (by omega), mup_miss (by omega), mup_miss (by omega), mup_miss (by omega), mup_miss (by omega)]
theorem addC_od {B : Bk} {k a c d : Int} (h : c ≠ B 8 1) : od (addC B k a) c d = od B c d := od_congr (addC_8.2 0 (by decide)) (addC_r (by decide)) (addC_o (by decide) h)
theorem addC_agr {B : Bk} {k a c d : Int} (h : c ≠ B 8 1) : agr B (addC B k a) c d := ⟨addC_8.2 3 (by decide), addC_o (by decide) h, addC_o (by decide) h, addC_o (by decide) h, fun p _ _ => by rw [addC_r (by decide)], addC_od h, fun p _ => by rw [addC_r (by decide)]⟩
theorem WF_addC {B : Bk} (w : WF B) (h10 : B 8 1 < 10) {k a : Int} (hk : 0 ≤ k ∧ k ≤ 5) (ha : 0 ≤ a ∧ a ≤ 9) : WF (addC B k a) := by
  have hn := w.1
  unfold WFn at hn
  have e8 := addC_8 (B := B) (k := k) (a := a)
  refine ⟨?_, w.2.1.of (addC_r (by decide)) (addC_r (by decide)) (addC_r (by decide)) (e8.2 0 (by decide)), fun c c1 c2 => ?_, w.2.2.2.of (addC_r (by decide)) (e8.2 2 (by decide))⟩
  · unfold WFn
    rw [e8.1, e8.2 0 (by decide), e8.2 2 (by decide), e8.2 3 (by decide), e8.2 4 (by decide), e8.2 5 (by decide)]
    exact ⟨hn.1, ⟨by omega, by omega⟩, hn.2.2⟩
  · rw [e8.1] at c2
    by_cases e : c = B 8 1
    · subst e
      obtain ⟨g1, g2, g3, g4⟩ := addC_n (B := B) (k := k) (a := a)
      rw [g1, g2, g3, g4]
      have ht : ∀ p : Nat, tk (addC B k a) (B 8 1) p = false := fun p => by unfold tk; rw [g4]; simp
      refine ⟨hk, ha, Or.inl rfl, ⟨by decide, by decide⟩, fun p hp => ?_, fun d => ?_⟩
      · rw [ht] at hp; cases hp
      · refine Nat.le_trans (cnt_sub (g := fun _ => false) (fun i hi => ?_) 12) (by decide)
        rw [od_tb, ht] at hi
        simp at hi
    · obtain ⟨g1, g2, g3, g4, g5, g6⟩ := w.2.2.1 c c1 (by omega)
      rw [addC_o (show (3 : Int) < 8 by decide) e, addC_o (show (4 : Int) < 8 by decide) e, addC_o (show (5 : Int) < 8 by decide) e, addC_o (show (6 : Int) < 8 by decide) e]
      refine ⟨g1, g2, g3, g4, fun p hp => ?_, fun d => by rw [addC_od e]; exact g6 d⟩
      unfold tk at hp
      rw [addC_o (by decide) e] at hp
      rw [e8.2 0 (by decide)]
      exact g5 p hp
theorem addR_r {B : Bk} {s x : Int} (h : x < 7) : addR B s x = B x := by
  unfold addR
  rw [mup_row (by omega), mup_row (by omega)]
theorem addR_8 {B : Bk} {s : Int} : addR B s 8 2 = B 8 2 + 1 ∧ ∀ i, i ≠ 2 → addR B s 8 i = B 8 i := by
  unfold addR
  refine ⟨mup_hit rfl rfl, fun i hi => ?_⟩
  rw [mup_miss (by omega), mup_miss (by omega)]
theorem addR_agr {B : Bk} {s c d : Int} : agr B (addR B s) c d := ⟨addR_8.2 3 (by decide), by rw [addR_r (by decide)], by rw [addR_r (by decide)], by rw [addR_r (by decide)], fun p _ _ => by rw [addR_r (by decide)], od_congr (addR_8.2 0 (by decide)) (addR_r (by decide)) (by rw [addR_r (by decide)]), fun p _ => by rw [addR_r (by decide)]⟩
theorem WF_addR {B : Bk} (w : WF B) (h6 : B 8 2 < 6) {s : Int} (hs : 1 ≤ s ∧ s ≤ 9) : WF (addR B s) := by
  have hn := w.1
  unfold WFn at hn
  have e8 := addR_8 (B := B) (s := s)
  refine ⟨?_, w.2.1.of (addR_r (by decide)) (addR_r (by decide)) (addR_r (by decide)) (e8.2 0 (by decide)), w.2.2.1.of (addR_r (by decide)) (addR_r (by decide)) (addR_r (by decide)) (addR_r (by decide)) (addR_r (by decide)) (e8.2 0 (by decide)) (e8.2 1 (by decide)), fun r r1 r2 => ?_⟩
  · unfold WFn
    rw [e8.1, e8.2 0 (by decide), e8.2 1 (by decide), e8.2 3 (by decide), e8.2 4 (by decide), e8.2 5 (by decide)]
    exact ⟨hn.1, hn.2.1, ⟨by omega, by omega⟩, hn.2.2.2⟩
  · rw [e8.1] at r2
    unfold addR
    by_cases e : r = B 8 2
    · rw [mup_miss (by omega), mup_hit rfl e]; exact hs
    · rw [mup_miss (by omega), mup_miss (by omega)]
      exact w.2.2.2 r r1 (by omega)
theorem X0_addPaper {σ : Mem} {b : Int} {B : Bk} (hB : isBk σ b B) (h0 : 0 ≤ B 8 0) (h12 : B 8 0 < 12) (d s l : Int) : ∃ τ, f_X0_addPaper σ b d s l = some (B 8 0, τ) ∧ isBk τ b (addP B d s l) ∧ ∀ x, ¬ (b ≤ x ∧ x ≤ b + 8) → τ x = σ x := by
  have k1 : isBk (mup σ (b + 1) (B 8 0) d) b (mup B 0 (B 8 0) d) := by
    have := hB.put (t := 0) (i := B 8 0) (v := d) (by decide) (by decide)
    rwa [Int.add_zero] at this
  have k2 := k1.put (t := 1) (i := B 8 0) (v := s) (by decide) (by decide)
  rw [show b + 1 + 1 = b + 2 by omega] at k2
  have k3 := k2.put (t := 2) (i := B 8 0) (v := l) (by decide) (by decide)
  rw [show b + 1 + 2 = b + 3 by omega] at k3
  have k4 := k3.putn (i := 0) (v := B 8 0 + 1)
  rw [Int.add_zero] at k4
  refine ⟨_, ?_, k4, fun x hx => by rw [mup_row (by omega), mup_row (by omega), mup_row (by omega), mup_row (by omega)]⟩
  have n0 := hB.nP
  have m1 : ∀ (τ : Mem) (t i v : Int), 1 ≤ t → mup τ (b + t) i v b 8 = τ b 8 := fun τ t i v ht => mup_miss (by omega)
  unfold f_X0_addPaper
  rw [n0, if_pos h12, chk_pos (by omega)]
  simp only [Option.bind_some]
  rw [m1 _ 1 _ _ (by decide), n0, chk_pos (by omega)]
  rw [m1 _ 2 _ _ (by decide), m1 _ 1 _ _ (by decide), n0, chk_pos (by omega)]
  rw [m1 _ 3 _ _ (by decide), m1 _ 2 _ _ (by decide), m1 _ 1 _ _ (by decide), n0, jadd_ok (by omega) (by omega)]
  rw [mup_hit rfl rfl, jsub_ok (by omega) (by omega), show B 8 0 + 1 - 1 = B 8 0 by omega]
theorem X0_addCand {σ : Mem} {b : Int} {B : Bk} (hB : isBk σ b B) (h0 : 0 ≤ B 8 1) (h10 : B 8 1 < 10) (k a : Int) : ∃ τ, f_X0_addCand σ b k a = some (B 8 1, τ) ∧ isBk τ b (addC B k a) ∧ ∀ x, ¬ (b ≤ x ∧ x ≤ b + 8) → τ x = σ x := by
  have k1 : isBk (mup σ (b + 4) (B 8 1) k) b (mup B 3 (B 8 1) k) := by
    have := hB.put (t := 3) (i := B 8 1) (v := k) (by decide) (by decide)
    rwa [show b + 1 + 3 = b + 4 by omega] at this
  have k2 := k1.put (t := 4) (i := B 8 1) (v := a) (by decide) (by decide)
  rw [show b + 1 + 4 = b + 5 by omega] at k2
  have k3 := k2.put (t := 5) (i := B 8 1) (v := 0) (by decide) (by decide)
  rw [show b + 1 + 5 = b + 6 by omega] at k3
  have k4 := k3.put (t := 6) (i := B 8 1) (v := 0) (by decide) (by decide)
  rw [show b + 1 + 6 = b + 7 by omega] at k4
  have k5 := k4.putn (i := 1) (v := B 8 1 + 1)
  rw [show (8 : Int) + 1 = 9 from rfl] at k5
  refine ⟨_, ?_, k5, fun x hx => by rw [mup_row (by omega), mup_row (by omega), mup_row (by omega), mup_row (by omega), mup_row (by omega)]⟩
  have n0 := hB.nC
  have m1 : ∀ (τ : Mem) (t i v : Int), 1 ≤ t → mup τ (b + t) i v b 9 = τ b 9 := fun τ t i v ht => mup_miss (by omega)
  unfold f_X0_addCand
  rw [n0, if_pos h10, chk_pos (by omega)]
  simp only [Option.bind_some]
  rw [m1 _ 4 _ _ (by decide), n0, chk_pos (by omega)]
  rw [m1 _ 5 _ _ (by decide), m1 _ 4 _ _ (by decide), n0, chk_pos (by omega)]
  rw [m1 _ 6 _ _ (by decide), m1 _ 5 _ _ (by decide), m1 _ 4 _ _ (by decide), n0, chk_pos (by omega)]
  rw [m1 _ 7 _ _ (by decide), m1 _ 6 _ _ (by decide), m1 _ 5 _ _ (by decide), m1 _ 4 _ _ (by decide), n0, jadd_ok (by omega) (by omega)]
  rw [mup_hit rfl rfl, jsub_ok (by omega) (by omega), show B 8 1 + 1 - 1 = B 8 1 by omega]
theorem X0_addRoom {σ : Mem} {b : Int} {B : Bk} (hB : isBk σ b B) (h0 : 0 ≤ B 8 2) (h6 : B 8 2 < 6) (s : Int) : ∃ τ, f_X0_addRoom σ b s = some (B 8 2, τ) ∧ isBk τ b (addR B s) ∧ ∀ x, ¬ (b ≤ x ∧ x ≤ b + 8) → τ x = σ x := by
  have k1 : isBk (mup σ (b + 8) (B 8 2) s) b (mup B 7 (B 8 2) s) := by
    have := hB.put (t := 7) (i := B 8 2) (v := s) (by decide) (by decide)
    rwa [show b + 1 + 7 = b + 8 by omega] at this
  have k5 := k1.putn (i := 2) (v := B 8 2 + 1)
  rw [show (8 : Int) + 2 = 10 from rfl] at k5
  refine ⟨_, ?_, k5, fun x hx => by rw [mup_row (by omega), mup_row (by omega)]⟩
  have n0 := hB.nR
  have m1 : ∀ (τ : Mem) (t i v : Int), 1 ≤ t → mup τ (b + t) i v b 10 = τ b 10 := fun τ t i v ht => mup_miss (by omega)
  unfold f_X0_addRoom
  rw [n0, if_pos h6, chk_pos (by omega)]
  simp only [Option.bind_some]
  rw [m1 _ 8 _ _ (by decide), n0, jadd_ok (by omega) (by omega)]
  rw [mup_hit rfl rfl, jsub_ok (by omega) (by omega), show B 8 2 + 1 - 1 = B 8 2 by omega]
theorem isRk_refd' {σ : Mem} {x : Int} {B : Bk} (h : isRk σ 182 B) : isRk (refd σ x) 182 B := isRk_refd h