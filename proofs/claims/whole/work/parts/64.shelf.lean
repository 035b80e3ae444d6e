/-! SHELVES AND TAPE (by mk64.py) -/
theorem X6_isShelf {σ : Mem} (s : Int) : f_X6_isShelf σ s = some (if 0 ≤ s ∧ s < 8 then 1 else 0) := by
  unfold f_X6_isShelf
  by_cases h : s < 0
  · rw [if_pos h, if_neg (by omega)]
  · rw [if_neg h]
    by_cases h2 : 8 ≤ s
    · rw [if_pos h2, if_neg (by omega)]
    · rw [if_neg h2, if_pos (by omega)]
theorem X6_isSort {σ : Mem} (s : Int) : f_X6_isSort σ s = some (if 0 ≤ s ∧ s ≤ 4 then 1 else 0) := by
  unfold f_X6_isSort
  by_cases h : s < 0
  · rw [if_pos h, if_neg (by omega)]
  · rw [if_neg h]
    by_cases h2 : 4 < s
    · rw [if_pos h2, if_neg (by omega)]
    · rw [if_neg h2, if_pos (by omega)]
theorem X10_isTold {σ : Mem} (s : Int) : f_X10_isTold σ s = some (if 0 ≤ s ∧ s ≤ 12 then 1 else 0) := by
  unfold f_X10_isTold
  by_cases h : s < 0
  · rw [if_pos h, if_neg (by omega)]
  · rw [if_neg h]
    by_cases h2 : 12 < s
    · rw [if_pos h2, if_neg (by omega)]
    · rw [if_neg h2, if_pos (by omega)]
theorem X6_holding {σ : Mem} {s : Int} (h : 0 ≤ s ∧ s < 8) : f_X6_holding σ s = some (σ 31 s) := by
  unfold f_X6_holding
  rw [bind_some' (X6_isShelf s), if0, if_pos h, chk_pos (by omega)]
def trb (v : Int) : Int := if v = -1 then -54 else if v < 10 then 0 else -53
theorem X6_rowTrouble {σ : Mem} {s : Int} (h : 0 ≤ s ∧ s < 8) : f_X6_rowTrouble σ s = some (trb (σ 31 s)) := by
  unfold f_X6_rowTrouble trb
  rw [bind_some' (X6_holding h)]
  by_cases e : σ 31 s = -1
  · rw [if_neg (by omega), if_pos e]
  · rw [if_pos e, if_neg e]
    by_cases e2 : σ 31 s < 10
    · rw [if_pos e2, if_pos e2]
    · rw [if_neg e2, if_neg e2]
theorem X6_candOn {σ : Mem} {s : Int} (h : 0 ≤ s ∧ s < 8) (hb : σ 31 s ≤ 100) : f_X6_candOn σ s = some (if σ 31 s < 10 then -1 else σ 31 s - 10) := by
  unfold f_X6_candOn
  rw [bind_some' (X6_holding h)]
  by_cases e : σ 31 s < 10
  · rw [if_pos e, if_pos e]
  · rw [if_neg e, if_neg e, jsub_ok (by omega) (by omega)]
theorem X6_hasElement {σ : Mem} {s : Int} (h : 0 ≤ s ∧ s < 8) (i : Int) : f_X6_hasElement σ s i = some (if 0 ≤ i ∧ i < σ 32 s then 1 else 0) := by
  unfold f_X6_hasElement
  rw [bind_some' (X6_isShelf s), if0, if_pos h]
  by_cases e : i < 0
  · rw [if_pos e, if_neg (by omega)]
  · rw [if_neg e, chk_pos (by omega)]
    by_cases e2 : σ 32 s ≤ i
    · rw [if_pos e2, if_neg (by omega)]
    · rw [if_neg e2, if_pos (by omega)]
theorem X6_hasElements {σ : Mem} {s : Int} (h : 0 ≤ s ∧ s < 8) (hz : 0 ≤ σ 32 s ∧ σ 32 s ≤ 40) (i n : Int) : f_X6_hasElements σ s i n = some (if 0 ≤ i ∧ 0 ≤ n ∧ i + n ≤ σ 32 s then 1 else 0) := by
  unfold f_X6_hasElements
  rw [bind_some' (X6_isShelf s), if0, if_pos h]
  by_cases e : i < 0
  · rw [if_pos e, if_neg (by omega)]
  · rw [if_neg e]
    by_cases e1 : n < 0
    · rw [if_pos e1, if_neg (by omega)]
    · rw [if_neg e1, chk_pos (by omega)]
      by_cases e2 : σ 32 s < i
      · rw [if_pos e2, if_neg (by omega)]
      · rw [if_neg e2, chk_pos (by omega), jsub_ok (by omega) (by omega)]
        by_cases e3 : σ 32 s - i < n
        · rw [if_pos e3, if_neg (by omega)]
        · rw [if_neg e3, if_pos (by omega)]
theorem sh40 {s i : Int} (h : 0 ≤ s ∧ s < 8) (hi : 0 ≤ i ∧ i < 40) : jadd (jmul s 40) i = 40 * s + i ∧ jadd (jmul 40 s) i = 40 * s + i ∧ 0 ≤ 40 * s + i ∧ 40 * s + i < 320 := by
  rw [jmul_ok (by omega) (by omega), jmul_ok (by omega) (by omega), jadd_ok (by omega) (by omega), jadd_ok (by omega) (by omega)]
  omega
theorem X6_elementAt {σ : Mem} {s : Int} (h : 0 ≤ s ∧ s < 8) (hz : σ 32 s ≤ 40) (i : Int) : f_X6_elementAt σ s i = some (if 0 ≤ i ∧ i < σ 32 s then σ 33 (40 * s + i) else 0) := by
  unfold f_X6_elementAt
  rw [bind_some' (X6_hasElement h i), if0]
  by_cases e : 0 ≤ i ∧ i < σ 32 s
  · obtain ⟨g1, g2, g3, g4⟩ := sh40 h (i := i) (by omega)
    rw [if_pos e, if_pos e, g1, chk_pos (by omega)]
  · rw [if_neg e, if_neg e]
theorem X6_putRow {σ : Mem} {s k m : Int} (h : 0 ≤ s ∧ s < 8) : ∃ τ, f_X6_putRow σ s k m = some τ ∧ keepS σ τ [31, 32, 33] ∧ (∀ i, τ 31 i = if i = s then k else σ 31 i) ∧ (∀ i, τ 32 i = if i = s then m else σ 32 i) ∧ ∀ i, τ 33 i = if 40 * s ≤ i ∧ i < 40 * s + 40 then 0 else σ 33 i := by
  unfold f_X6_putRow
  rw [chk_pos (by omega)]
  simp only [Option.bind_some]
  rw [chk_pos (by omega)]
  unfold f_X6_putRow_17
  obtain ⟨e, e1, e2, e3⟩ := loop_ex (f := f_X6_putRow_17B s) (fun q => ∃ i : Nat, q.1 = (i : Int) ∧ i ≤ 40 ∧ (∀ x, x ≠ 33 → q.2 x = mup (mup σ 31 s k) 32 s m x) ∧ ∀ j, q.2 33 j = if 40 * s ≤ j ∧ j < 40 * s + i then 0 else σ 33 j) (fun q => (40 - q.1).toNat) (fun e => (∀ x, x ≠ 33 → e x = mup (mup σ 31 s k) 32 s m x) ∧ ∀ j, e 33 j = if 40 * s ≤ j ∧ j < 40 * s + 40 then 0 else σ 33 j) (a := (0, mup (mup σ 31 s k) 32 s m)) ⟨0, rfl, Nat.zero_le _, fun _ _ => rfl, fun j => by show mup (mup σ 31 s k) 32 s m 33 j = _; rw [mup_miss (by omega), mup_miss (by omega), if_neg (by omega)]⟩ (Nat.le_of_ble_eq_true rfl) (by
    rintro ⟨_, τ⟩ ⟨i, rfl, hi, k1, k2⟩
    have k1 : ∀ x, x ≠ 33 → τ x = mup (mup σ 31 s k) 32 s m x := k1
    have k2 : ∀ j, τ 33 j = if 40 * s ≤ j ∧ j < 40 * s + (i : Int) then 0 else σ 33 j := k2
    show (∃ a', f_X6_putRow_17C s (i : Int) τ = _ ∧ _) ∨ ∃ a', f_X6_putRow_17C s (i : Int) τ = _ ∧ _
    unfold f_X6_putRow_17C
    by_cases hend : (40 : Int) ≤ i
    · right
      rw [if_pos hend]
      have : i = 40 := by omega
      subst this
      exact ⟨_, rfl, k1, k2⟩
    · left
      obtain ⟨g1, g2, g3, g4⟩ := sh40 h (i := i) (by omega)
      rw [if_neg hend, g1, chk_pos (by omega)]
      simp only [Option.bind_some]
      rw [jadd_ok (by omega) (by omega)]
      refine ⟨_, rfl, ⟨i + 1, by show (i : Int) + 1 = _; omega, by omega, fun x hx => ?_, fun j => ?_⟩, by show (40 - ((i : Int) + 1)).toNat < (40 - (i : Int)).toNat; omega⟩
      · show mup τ 33 _ 0 x = _
        rw [mup_row hx, k1 x hx]
      · show mup τ 33 (40 * s + i) 0 33 j = _
        by_cases e : j = 40 * s + i
        · rw [mup_hit rfl e, if_pos (by omega)]
        · rw [mup_miss (fun q => e q.2), k2 j]
          by_cases e2 : 40 * s ≤ j ∧ j < 40 * s + (i : Int)
          · rw [if_pos e2, if_pos (by omega)]
          · rw [if_neg e2, if_neg (by omega)])
  rw [e1]
  refine ⟨e, rfl, fun x i hx => ?_, fun i => ?_, fun i => ?_, e3⟩
  · simp only [List.mem_cons, List.not_mem_nil, or_false] at hx
    rw [e2 x (by omega), mup_miss (by omega), mup_miss (by omega)]
  · rw [e2 31 (by decide), mup_miss (by omega)]
    unfold mup
    simp
  · rw [e2 32 (by decide)]
    by_cases q : i = s
    · rw [mup_hit rfl q, if_pos q]
    · rw [mup_miss (fun z => q z.2), mup_miss (by omega), if_neg q]
theorem X11_row_ok {σ : Mem} {s k m : Int} (h : 0 ≤ s ∧ s < 8) (hk : 0 ≤ k ∧ k ≤ 4) (hm : 0 ≤ m ∧ m ≤ 40) : ∃ τ, f_X11_row σ s k m = some (1, τ) ∧ keepS σ τ [185, 186, 187] ∧ (∀ i, τ 185 i = if i = s then k else σ 185 i) ∧ (∀ i, τ 186 i = if i = s then m else σ 186 i) ∧ ∀ i, τ 187 i = if 40 * s ≤ i ∧ i < 40 * s + 40 then 0 else σ 187 i := by
  unfold f_X11_row
  rw [bind_some' (X11_isShelf s), if0, if_pos h, bind_some' (X11_isIn k 0 4), if0, if_pos hk, bind_some' (X11_isIn m 0 40), if1, if_pos hm, chk_pos (by omega)]
  simp only [Option.bind_some]
  rw [chk_pos (by omega)]
  unfold f_X11_row_55
  obtain ⟨e, e1, e2, e3⟩ := loop_ex (f := f_X11_row_55B s) (fun q => ∃ i : Nat, q.1 = (i : Int) ∧ i ≤ 40 ∧ (∀ x, x ≠ 187 → q.2 x = mup (mup σ 185 s k) 186 s m x) ∧ ∀ j, q.2 187 j = if 40 * s ≤ j ∧ j < 40 * s + i then 0 else σ 187 j) (fun q => (40 - q.1).toNat) (fun e => (∀ x, x ≠ 187 → e x = mup (mup σ 185 s k) 186 s m x) ∧ ∀ j, e 187 j = if 40 * s ≤ j ∧ j < 40 * s + 40 then 0 else σ 187 j) (a := (0, mup (mup σ 185 s k) 186 s m)) ⟨0, rfl, Nat.zero_le _, fun _ _ => rfl, fun j => by show mup (mup σ 185 s k) 186 s m 187 j = _; rw [mup_miss (by omega), mup_miss (by omega), if_neg (by omega)]⟩ (Nat.le_of_ble_eq_true rfl) (by
    rintro ⟨_, τ⟩ ⟨i, rfl, hi, k1, k2⟩
    have k1 : ∀ x, x ≠ 187 → τ x = mup (mup σ 185 s k) 186 s m x := k1
    have k2 : ∀ j, τ 187 j = if 40 * s ≤ j ∧ j < 40 * s + (i : Int) then 0 else σ 187 j := k2
    show (∃ a', f_X11_row_55C s (i : Int) τ = _ ∧ _) ∨ ∃ a', f_X11_row_55C s (i : Int) τ = _ ∧ _
    unfold f_X11_row_55C
    by_cases hend : (40 : Int) ≤ i
    · right
      rw [if_pos hend]
      have : i = 40 := by omega
      subst this
      exact ⟨_, rfl, k1, k2⟩
    · left
      obtain ⟨g1, g2, g3, g4⟩ := sh40 h (i := i) (by omega)
      rw [if_neg hend, g2, chk_pos (by omega)]
      simp only [Option.bind_some]
      rw [jadd_ok (by omega) (by omega)]
      refine ⟨_, rfl, ⟨i + 1, by show (i : Int) + 1 = _; omega, by omega, fun x hx => ?_, fun j => ?_⟩, by show (40 - ((i : Int) + 1)).toNat < (40 - (i : Int)).toNat; omega⟩
      · show mup τ 187 _ 0 x = _
        rw [mup_row hx, k1 x hx]
      · show mup τ 187 (40 * s + i) 0 187 j = _
        by_cases e : j = 40 * s + i
        · rw [mup_hit rfl e, if_pos (by omega)]
        · rw [mup_miss (fun q => e q.2), k2 j]
          by_cases e2 : 40 * s ≤ j ∧ j < 40 * s + (i : Int)
          · rw [if_pos e2, if_pos (by omega)]
          · rw [if_neg e2, if_neg (by omega)])
  rw [e1]
  refine ⟨e, rfl, fun x i hx => ?_, fun i => ?_, fun i => ?_, e3⟩
  · simp only [List.mem_cons, List.not_mem_nil, or_false] at hx
    rw [e2 x (by omega), mup_miss (by omega), mup_miss (by omega)]
  · rw [e2 185 (by decide), mup_miss (by omega)]
    unfold mup
    simp
  · rw [e2 186 (by decide)]
    by_cases q : i = s
    · rw [mup_hit rfl q, if_pos q]
    · rw [mup_miss (fun z => q z.2), mup_miss (by omega), if_neg q]
/-- row -/
theorem k_row {n : Nat} {σ : Mem} {B : Bk} (h : INV0 n σ B) (hl : n < 1000) (s k m : Int) : CALL0 n σ B (f_X10_row σ s k m) (fun ρ => f_X11_row ρ s k m) := by
  have hst := h.1
  obtain ⟨hB, hR, w, hW⟩ := h.1
  have hn := w.1
  unfold WFn at hn
  have hR' : isRk (refd σ (-52)) 182 B := isRk_refd hR
  by_cases h1 : 0 ≤ s ∧ s < 8
  rotate_left
  · refine same.call h (same.no (x := -52) (by omega) (by decide) ?_ CFr.rfl hW ?_ RFr.rfl)
    · unfold f_X10_row
      rw [bind_some' (X6_isShelf s), if0, if_neg h1]
      exact c_no (by decide)
    · show f_X11_row _ s k m = _
      unfold f_X11_row
      rw [bind_some' (X11_isShelf s), if0, if_neg h1]
      exact r_no (by decide)
  by_cases h2 : 0 ≤ k ∧ k ≤ 4
  rotate_left
  · refine same.call h (same.no (x := -52) (by omega) (by decide) ?_ CFr.rfl hW ?_ RFr.rfl)
    · unfold f_X10_row
      rw [bind_some' (X6_isShelf s), if0, if_pos h1, bind_some' (X6_isSort k), if0, if_neg h2]
      exact c_no (by decide)
    · show f_X11_row _ s k m = _
      unfold f_X11_row
      rw [bind_some' (X11_isShelf s), if0, if_pos h1, bind_some' (X11_isIn k 0 4), if0, if_neg h2]
      exact r_no (by decide)
  by_cases h3 : 0 ≤ m ∧ m ≤ 40
  rotate_left
  · refine same.call h (same.no (x := -52) (by omega) (by decide) ?_ CFr.rfl hW ?_ RFr.rfl)
    · unfold f_X10_row
      rw [bind_some' (X6_isShelf s), if0, if_pos h1, bind_some' (X6_isSort k), if0, if_pos h2]
      by_cases hz : m < 0
      · rw [if_pos hz]
        exact c_no (by decide)
      · rw [if_neg hz, if_neg (show ¬ m ≤ 40 by omega)]
        exact c_no (by decide)
    · show f_X11_row _ s k m = _
      unfold f_X11_row
      rw [bind_some' (X11_isShelf s), if0, if_pos h1, bind_some' (X11_isIn k 0 4), if0, if_pos h2, bind_some' (X11_isIn m 0 40), if1, if_neg h3]
      exact r_no (by decide)
  obtain ⟨ρ, f1, f2, f3, f4, f5⟩ := X6_putRow (σ := σ) (k := k) (m := m) h1
  obtain ⟨τ, g1, g2, g3, g4, g5⟩ := X11_row_ok (σ := ρ) h1 h2 h3
  have nm : ∀ x : Int, 31 ≤ x → x ≤ 33 → x ∉ [185, 186, 187] := fun x x1 x2 => by simp only [List.mem_cons, List.not_mem_nil, or_false]; omega
  have nm2 : ∀ x : Int, 185 ≤ x → x ≤ 187 → x ∉ [31, 32, 33] := fun x x1 x2 => by simp only [List.mem_cons, List.not_mem_nil, or_false]; omega
  refine call_shelf (ρ := ρ) (τ := τ) (v := 1) h ?_ g1 ((f2.sub (fun x hx => by simp only [List.mem_cons, List.not_mem_nil, or_false] at hx ⊢; omega)).trans (g2.sub (fun x hx => by simp only [List.mem_cons, List.not_mem_nil, or_false] at hx ⊢; omega))) (fun i i1 i2 => ?_) (fun i i1 i2 => ?_)
  · unfold f_X10_row
    rw [bind_some' (X6_isShelf s), if0, if_pos h1, bind_some' (X6_isSort k), if0, if_pos h2, if_neg (show ¬ m < 0 by omega), if_pos (show m ≤ 40 by omega)]
    rw [f1]
    rfl
  · have hs := h.2.2.1 i i1 i2
    rw [g3, g2 31 i (nm _ (by decide) (by decide)), g2 32 i (nm _ (by decide) (by decide)), g4, f3, f4, f2 185 i (nm2 _ (by decide) (by decide)), f2 186 i (nm2 _ (by decide) (by decide))]
    by_cases e : i = s
    · rw [if_pos e, if_pos e, if_pos e, if_pos e]; omega
    · rw [if_neg e, if_neg e, if_neg e, if_neg e]; exact hs
  · rw [g5, g2 33 i (nm _ (by decide) (by decide)), f5, f2 187 i (nm2 _ (by decide) (by decide)), h.2.2.2.1 i i1 i2]
/-- set -/
theorem k_set {n : Nat} {σ : Mem} {B : Bk} (h : INV0 n σ B) (hl : n < 1000) (s i v : Int) : CALL0 n σ B (f_X10_set σ s i v) (fun ρ => f_X11_set ρ s i v) := by
  have hst := h.1
  obtain ⟨hB, hR, w, hW⟩ := h.1
  have hn := w.1
  unfold WFn at hn
  have hR' : isRk (refd σ (-52)) 182 B := isRk_refd hR
  by_cases h1 : 0 ≤ s ∧ s < 8
  rotate_left
  · refine same.call h (same.no (x := -52) (by omega) (by decide) ?_ CFr.rfl hW ?_ RFr.rfl)
    · unfold f_X10_set
      rw [bind_some' (X6_isShelf s), if1, if_neg h1]
      exact c_no (by decide)
    · show f_X11_set _ s i v = _
      unfold f_X11_set
      rw [bind_some' (X11_isShelf s), if1, if_neg h1]
      exact r_no (by decide)
  obtain ⟨e177, hc⟩ := h.2.2.1 s h1.1 h1.2
  have rr : ∀ x y : Int, y ≠ 34 → refd σ x y = σ y := fun x y hy => refd_row hy
  rcases hc with ⟨c1, c2⟩ | ⟨c1, c2, c3, c4, c5⟩ | ⟨c1, c2, c3⟩
  · refine same.call h (same.no (x := -54) (by omega) (by decide) ?_ CFr.rfl hW ?_ RFr.rfl)
    · unfold f_X10_set
      rw [bind_some' (X6_isShelf s), if1, if_pos h1]
      rw [bind_some' (X6_rowTrouble h1), c1, if_neg (by decide)]
      exact c_no (by decide)
    · show f_X11_set _ s i v = _
      unfold f_X11_set
      rw [bind_some' (X11_isShelf s), if1, if_pos h1]
      rw [chk_pos (by omega), rr _ _ (by decide), e177, c1, if_pos (by decide), chk_pos (by omega), if_neg (by decide)]
      exact r_no (by decide)
  · have ht : trb (σ 31 s) = 0 := by unfold trb; rw [if_neg (by omega), if_pos (by omega)]
    by_cases hi : 0 ≤ i ∧ i < σ 32 s
    rotate_left
    · refine same.call h (same.no (x := -52) (by omega) (by decide) ?_ CFr.rfl hW ?_ RFr.rfl)
      · unfold f_X10_set
        rw [bind_some' (X6_isShelf s), if1, if_pos h1]
        rw [bind_some' (X6_rowTrouble h1), ht, if_pos rfl, bind_some' (X6_hasElement h1 i), if1, if_neg hi]
        exact c_no (by decide)
      · show f_X11_set _ s i v = _
        unfold f_X11_set
        rw [bind_some' (X11_isShelf s), if1, if_pos h1]
        rw [chk_pos (by omega), rr _ _ (by decide), rr _ _ (by decide), e177, if_pos (by omega), chk_pos (by omega), if_pos (by omega), chk_pos (by omega), c5, jsub_ok (by omega) (by omega), bind_some' (X11_isIn _ _ _), if1, if_neg (by omega)]
        exact r_no (by decide)
    obtain ⟨j1, j2, j3, j4⟩ := sh40 h1 (i := i) (by omega)
    have low : ∃ z, f_X6_lowest σ (σ 31 s) v = some z ∧ f_X11_set (mup σ 33 (40 * s + i) z) s i v = some (1, mup (mup σ 33 (40 * s + i) z) 187 (40 * s + i) z) := by
      have ref : ∀ (z : Int) (ρ : Mem), ρ = mup σ 33 (40 * s + i) z → f_X11_set_149 ρ z (jadd (jmul 40 s) i) = some (1, mup ρ 187 (40 * s + i) z) := fun z ρ _ => by
        unfold f_X11_set_149
        rw [j2, chk_pos (by omega)]
        rfl
      have pre : ∀ z, f_X11_set (mup σ 33 (40 * s + i) z) s i v = (if σ 31 s ≠ 0 then (if σ 31 s ≠ (1 : Int) then (if σ 31 s ≠ (2 : Int) then (if σ 31 s ≠ (3 : Int) then (if v = (0 : Int) then (f_X11_set_149 (mup σ 33 (40 * s + i) z) (0 : Int) (jadd (jmul (40 : Int) s) i)) else (f_X11_set_149 (mup σ 33 (40 * s + i) z) (1 : Int) (jadd (jmul (40 : Int) s) i))) else (f_X11_set_149 (mup σ 33 (40 * s + i) z) v (jadd (jmul (40 : Int) s) i))) else (f_X11_set_149 (mup σ 33 (40 * s + i) z) (lj v) (jadd (jmul (40 : Int) s) i))) else (f_X11_set_149 (mup σ 33 (40 * s + i) z) (js (lj v)) (jadd (jmul (40 : Int) s) i))) else (f_X11_set_149 (mup σ 33 (40 * s + i) z) (jb (lj v)) (jadd (jmul (40 : Int) s) i))) := fun z => by
        have m1 : ∀ k j, k ≠ 33 → mup σ 33 (40 * s + i) z k j = σ k j := fun k j hk => mup_miss (fun q => hk q.1)
        show f_X11_set _ s i v = _
        unfold f_X11_set
        rw [bind_some' (X11_isShelf s), if1, if_pos h1]
        rw [chk_pos (by omega), m1 _ _ (by decide), m1 _ _ (by decide), e177, if_pos (by omega), chk_pos (by omega), if_pos (by omega), chk_pos (by omega), c5, jsub_ok (by omega) (by omega), bind_some' (X11_isIn _ _ _), if1, if_pos (by omega), chk_pos (by omega)]
        simp only [Option.bind_some]
      unfold f_X6_lowest
      rcases (show σ 31 s = 0 ∨ σ 31 s = 1 ∨ σ 31 s = 2 ∨ σ 31 s = 3 ∨ σ 31 s = 4 by omega) with e | e | e | e | e
      · exact ⟨jb (lj v), by rw [e, if_pos rfl], by rw [pre, e, if_neg (by decide)]; exact ref _ _ rfl⟩
      · exact ⟨js (lj v), by rw [e, if_neg (by decide), if_pos rfl], by rw [pre, e, if_pos (by decide), if_neg (by decide)]; exact ref _ _ rfl⟩
      · exact ⟨lj v, by rw [e, if_neg (by decide), if_neg (by decide), if_pos rfl], by rw [pre, e, if_pos (by decide), if_pos (by decide), if_neg (by decide)]; exact ref _ _ rfl⟩
      · exact ⟨v, by rw [e, if_neg (by decide), if_neg (by decide), if_neg (by decide), if_pos rfl], by rw [pre, e, if_pos (by decide), if_pos (by decide), if_pos (by decide), if_neg (by decide)]; exact ref _ _ rfl⟩
      · by_cases hv : v = 0
        · exact ⟨0, by rw [e, if_neg (by decide), if_neg (by decide), if_neg (by decide), if_neg (by decide), if_pos hv], by rw [pre, e, if_pos (by decide), if_pos (by decide), if_pos (by decide), if_pos (by decide), if_pos hv]; exact ref _ _ rfl⟩
        · exact ⟨1, by rw [e, if_neg (by decide), if_neg (by decide), if_neg (by decide), if_neg (by decide), if_neg hv], by rw [pre, e, if_pos (by decide), if_pos (by decide), if_pos (by decide), if_pos (by decide), if_neg hv]; exact ref _ _ rfl⟩
    obtain ⟨z, z1, z2⟩ := low
    refine call_shelf (ρ := mup σ 33 (40 * s + i) z) (v := 1) h ?_ z2 ((keepS.rfl.mup (by decide)).mup (by decide)) (h.2.2.1.pt (fun j => by rw [mup_miss (by omega), mup_miss (by omega)]) (fun j => by rw [mup_miss (by omega), mup_miss (by omega)]) (fun j => by rw [mup_miss (by omega), mup_miss (by omega)]) (fun j => by rw [mup_miss (by omega), mup_miss (by omega)]) (Int.le_refl _)) (fun j q1 q2 => ?_)
    · unfold f_X10_set
      rw [bind_some' (X6_isShelf s), if1, if_pos h1]
      rw [bind_some' (X6_rowTrouble h1), ht, if_pos rfl, bind_some' (X6_hasElement h1 i), if1, if_pos hi]
      unfold f_X6_putElement
      rw [bind_some' (X6_hasElement h1 i), if0, if_pos hi, chk_pos (by omega), bind_some' z1, j1, chk_pos (by omega)]
      rfl
    · by_cases e : j = 40 * s + i
      · rw [mup_hit rfl e, mup_miss (by omega), mup_hit rfl e]
      · rw [mup_miss (fun z => e z.2), mup_miss (by omega), mup_miss (by omega), mup_miss (fun z => e z.2)]
        exact h.2.2.2.1 j q1 q2
  · have ht : trb (σ 31 s) = -53 := by unfold trb; rw [if_neg (by omega), if_neg (by omega)]
    refine same.call h (same.no (x := -53) (by omega) (by decide) ?_ CFr.rfl hW ?_ RFr.rfl)
    · unfold f_X10_set
      rw [bind_some' (X6_isShelf s), if1, if_pos h1]
      rw [bind_some' (X6_rowTrouble h1), ht, if_neg (by decide)]
      exact c_no (by decide)
    · show f_X11_set _ s i v = _
      unfold f_X11_set
      rw [bind_some' (X11_isShelf s), if1, if_pos h1]
      rw [chk_pos (by omega), rr _ _ (by decide), e177, if_neg (by omega)]
      exact r_no (by decide)
/-- element, holds: nothing is changed -/
theorem k_element {n : Nat} {σ : Mem} {B : Bk} (h : INV0 n σ B) (s i : Int) : ∃ v, f_X10_element σ s i = some v ∧ f_X11_element σ s i = some v := by
  unfold f_X10_element f_X11_element
  rw [bind_some' (X11_isShelf s), if0]
  by_cases h1 : 0 ≤ s ∧ s < 8
  · obtain ⟨e177, hc⟩ := h.2.2.1 s h1.1 h1.2
    rw [if_pos h1, bind_some' (X6_elementAt h1 (by omega) i)]
    refine ⟨_, rfl, ?_⟩
    unfold f_X11_isRow
    rw [chk_pos (by omega), chk_pos (by omega), e177]
    rcases hc with ⟨c1, c2⟩ | ⟨c1, c2, c3, c4, c5⟩ | ⟨c1, c2, c3⟩
    · rw [if_neg (show ¬ (0 ≤ i ∧ i < σ 32 s) by omega), if_pos (by omega)]
      rfl
    · rw [if_neg (show ¬ σ 31 s < 0 by omega), if_neg (show ¬ 10 ≤ σ 31 s by omega)]
      simp only [Option.bind_some]
      rw [if_neg (by decide), chk_pos (by omega), c5, jsub_ok (by omega) (by omega), bind_some' (X11_isIn _ _ _), if0]
      by_cases hi : 0 ≤ i ∧ i < σ 32 s
      · obtain ⟨j1, j2, j3, j4⟩ := sh40 h1 (i := i) (by omega)
        rw [if_pos hi, if_pos (by omega), j2, chk_pos (by omega), h.2.2.2.1 _ j3 j4]
      · rw [if_neg hi, if_neg (by omega)]
    · rw [if_neg (show ¬ (0 ≤ i ∧ i < σ 32 s) by omega), if_neg (show ¬ σ 31 s < 0 by omega), if_pos (by omega)]
      rfl
  · refine ⟨0, ?_, by rw [if_neg h1]⟩
    unfold f_X6_elementAt f_X6_hasElement
    rw [X6_isShelf s]
    simp only [Option.bind_some]
    rw [if0, if_neg h1]
    rfl
theorem k_holds {n : Nat} {σ : Mem} {B : Bk} (h : INV0 n σ B) (s : Int) : ∃ v, f_X10_holds σ s = some v ∧ f_X11_holds σ s = some v := by
  unfold f_X10_holds f_X11_holds
  rw [bind_some' (X11_isShelf s), if0]
  by_cases h1 : 0 ≤ s ∧ s < 8
  · obtain ⟨e177, hc⟩ := h.2.2.1 s h1.1 h1.2
    rw [if_pos h1, chk_pos (by omega), bind_some' (X6_holding h1), e177]
    exact ⟨_, rfl, rfl⟩
  · rw [if_neg h1]
    unfold f_X6_holding
    rw [bind_some' (X6_isShelf s), if0, if_neg h1]
    exact ⟨_, rfl, rfl⟩
/-- show -/
theorem k_show {n : Nat} {σ : Mem} {B : Bk} (h : INV0 n σ B) (hl : n < 1000) (s c : Int) : CALL0 n σ B (f_X10_show σ s c) (fun ρ => f_X11_show ρ s c) := by
  have hst := h.1
  obtain ⟨hB, hR, w, hW⟩ := h.1
  have hn := w.1
  unfold WFn at hn
  have hR' : isRk (refd σ (-52)) 182 B := isRk_refd hR
  by_cases h1 : 0 ≤ s ∧ s < 8
  rotate_left
  · refine same.call h (same.no (x := -52) (by omega) (by decide) ?_ CFr.rfl hW ?_ RFr.rfl)
    · unfold f_X10_show
      rw [bind_some' (X6_isShelf s), if0, if_neg h1]
      exact c_no (by decide)
    · show f_X11_show _ s c = _
      unfold f_X11_show
      rw [bind_some' (X11_isShelf s), if0, if_neg h1]
      exact r_no (by decide)
  have rr : ∀ x y : Int, y ≠ 34 → refd σ x y = σ y := fun x y hy => refd_row hy
  have hok : ∀ v : Int, v = (if c = -1 then -1 else 10 + c) → (c = -1 ∨ (0 ≤ c ∧ c < B 8 1)) → f_X10_show σ s c = f_X10_show_30 σ s c → (∀ ρ, isRk ρ 182 B → f_X11_show ρ s c = f_X11_show_27 ρ s c) → CALL0 n σ B (f_X10_show σ s c) (fun ρ => f_X11_show ρ s c) := fun v hv hc a1 a2 => by
    have hR2 : isRk (mup (mup σ 31 s v) 32 s 0) 182 B := hR.pt fun i => by rw [mup_miss (by omega), mup_miss (by omega)]
    refine call_shelf (ρ := mup (mup σ 31 s v) 32 s 0) (τ := mup (mup (mup σ 31 s v) 32 s 0) 185 s v) (v := 1) h ?_ ?_ (((keepS.rfl.mup (by decide)).mup (by decide)).mup (by decide)) (fun i i1 i2 => ?_) (fun i i1 i2 => ?_)
    · rw [a1]
      unfold f_X10_show_30 f_X6_putCand f_X6_putCand_18
      rw [chk_pos (by omega), chk_pos (by omega)]
      by_cases e : c = -1
      · rw [if_neg (by omega), hv, if_pos e]
        simp only [Option.bind_some]
        rw [chk_pos (by omega)]
        rfl
      · rw [if_pos e, hv, if_neg e, jadd_ok (by omega) (by omega)]
        simp only [Option.bind_some]
        rw [chk_pos (by omega)]
        rfl
    · show f_X11_show _ s c = _
      rw [a2 _ hR2]
      unfold f_X11_show_27 f_X11_show_45
      by_cases e : c = -1
      · rw [if_neg (by omega), hv, if_pos e, chk_pos (by omega)]
        simp only [Option.bind_some]
      · rw [if_pos e, hv, if_neg e, jadd_ok (by omega) (by omega), chk_pos (by omega)]
        simp only [Option.bind_some]
    · have hs := h.2.2.1 i i1 i2
      rw [mup_miss (k := 185) (a := 31) (by omega), mup_miss (k := 32) (a := 31) (by omega), mup_miss (k := 185) (a := 32) (by omega), mup_miss (k := 185) (a := 186) (by omega), mup_miss (k := 32) (a := 186) (by omega), mup_miss (k := 31) (a := 186) (by omega)]
      by_cases e : i = s
      · rw [mup_hit rfl e, mup_hit rfl e, mup_hit rfl e, hv]
        refine ⟨rfl, ?_⟩
        by_cases e2 : c = -1
        · rw [if_pos e2]; omega
        · rw [if_neg e2]; omega
      · rw [mup_miss (fun z => e z.2), mup_miss (k := 32) (a := 185) (by omega), mup_miss (k := 31) (a := 185) (by omega), mup_miss (fun z => e z.2), mup_miss (fun z => e z.2), mup_miss (k := 31) (a := 32) (by omega)]
        exact hs
    · rw [mup_miss (by omega), mup_miss (by omega), mup_miss (by omega), mup_miss (by omega), mup_miss (by omega), mup_miss (by omega)]
      exact h.2.2.2.1 i i1 i2
  by_cases hc : c = -1
  · refine hok _ rfl (Or.inl hc) ?_ fun ρ hRr => ?_
    · unfold f_X10_show
      rw [bind_some' (X6_isShelf s), if0, if_pos h1]
      rw [if_pos hc]
    · show f_X11_show _ s c = _
      unfold f_X11_show
      rw [bind_some' (X11_isShelf s), if0, if_pos h1]
      rw [if_pos hc]
  by_cases hc2 : 0 ≤ c ∧ c < B 8 1
  · refine hok _ rfl (Or.inr hc2) ?_ fun ρ hRr => ?_
    · unfold f_X10_show
      rw [bind_some' (X6_isShelf s), if0, if_pos h1]
      rw [if_neg hc, bind_some' (X0_hasCand hB c), if1, if_pos hc2]
    · show f_X11_show _ s c = _
      unfold f_X11_show
      rw [bind_some' (X11_isShelf s), if0, if_pos h1]
      rw [if_neg hc, bind_some' (X11_isCand hRr w c), if1, if_pos hc2]
  · refine same.call h (same.no (x := -52) (by omega) (by decide) ?_ CFr.rfl hW ?_ RFr.rfl)
    · unfold f_X10_show
      rw [bind_some' (X6_isShelf s), if0, if_pos h1]
      rw [if_neg hc, bind_some' (X0_hasCand hB c), if1, if_neg hc2]
      exact c_no (by decide)
    · show f_X11_show _ s c = _
      unfold f_X11_show
      rw [bind_some' (X11_isShelf s), if0, if_pos h1]
      rw [if_neg hc, bind_some' (X11_isCand hR' w c), if1, if_neg hc2]
      exact r_no (by decide)
/-- feed -/
theorem k_feed {n : Nat} {σ : Mem} {B : Bk} (h : INV0 n σ B) (hl : n < 1000) (v : Int) : CALL0 n σ B (f_X10_feed σ v) (fun ρ => f_X11_feed ρ v) := by
  have hst := h.1
  obtain ⟨hB, hR, w, hW⟩ := h.1
  have hn := w.1
  unfold WFn at hn
  have hR' : isRk (refd σ (-52)) 182 B := isRk_refd hR
  by_cases h1 : 0 ≤ v ∧ v ≤ 255
  rotate_left
  · refine same.call h (same.no (x := -52) (by omega) (by decide) ?_ CFr.rfl hW ?_ RFr.rfl)
    · unfold f_X10_feed
      by_cases hz : v < 0
      · rw [if_pos hz]
        exact c_no (by decide)
      · rw [if_neg hz, if_neg (show ¬ v ≤ 255 by omega)]
        exact c_no (by decide)
    · show f_X11_feed _ v = _
      unfold f_X11_feed
      rw [bind_some' (X11_isIn v 0 255), if1, if_neg h1]
      exact r_no (by decide)
  obtain ⟨t1, t2, t3, t4⟩ := h.2.2.2.2.1
  by_cases hf : σ 28 1 < 250
  rotate_left
  · refine same.call h (same.no (x := -56) (by omega) (by decide) ?_ CFr.rfl hW ?_ RFr.rfl)
    · unfold f_X10_feed
      rw [if_neg (show ¬ v < 0 by omega), if_pos (show v ≤ 255 by omega)]
      unfold f_X7_isFull
      rw [if_neg hf]
      simp only [Option.bind_some]
      rw [if_neg (by decide)]
      exact c_no (by decide)
    · have hR2 : isRk (refd σ (-56)) 182 B := isRk_refd hR
      show f_X11_feed _ v = _
      unfold f_X11_feed
      rw [bind_some' (X11_isIn v 0 255), if1, if_pos h1]
      rw [refd_row (by decide), t1, if_neg (by omega)]
      exact r_no (by decide)
  have e1 : jadd (σ 28 1) 1 = σ 28 1 + 1 := jadd_ok (by omega) (by omega)
  obtain ⟨ρ, hρ⟩ : ∃ ρ, ρ = mup (mup σ 29 (σ 28 1) v) 28 1 (σ 28 1 + 1) := ⟨_, rfl⟩
  have f2 : ∀ x i, ¬ (28 ≤ x ∧ x ≤ 29) → ρ x i = σ x i := fun x i g => by rw [hρ, mup_miss (by omega), mup_miss (by omega)]
  have hRr : isRk ρ 182 B := hR.pt fun i => f2 182 i (by omega)
  refine call_tape (ρ := ρ) (τ := mup (mup ρ 189 (σ 28 1) v) 181 9 (σ 28 1 + 1)) (v := σ 28 1 + 1) h ?_ ?_ (fun x i g1 g2 g3 => by rw [mup_miss (by omega), mup_miss (by omega), f2 x i g1]) ⟨?_, ?_, ?_, fun i i1 i2 => ?_⟩
  · unfold f_X10_feed
    rw [if_neg (show ¬ v < 0 by omega), if_pos (show v ≤ 255 by omega)]
    unfold f_X7_isFull
    rw [if_pos hf, bsm, if_pos rfl]
    unfold f_X7_append
    rw [if_neg (by omega), chk_pos (by omega)]
    simp only [Option.bind_some]
    unfold f_X7_append_30
    rw [mup_miss (k := 29) (by omega), e1, mup_hit rfl rfl, hρ]
    rfl
  · show f_X11_feed _ v = _
    unfold f_X11_feed
    rw [bind_some' (X11_isIn v 0 255), if1, if_pos h1]
    rw [f2 181 9 (by omega), t1, if_pos (by omega), chk_pos (by omega)]
    simp only [Option.bind_some]
    rw [mup_miss (k := 189) (by omega), f2 181 9 (by omega), t1, e1, mup_hit rfl rfl]
  · rw [mup_hit rfl rfl, mup_miss (by omega), mup_miss (by omega), hρ, mup_hit rfl rfl]
  · rw [mup_miss (by omega), mup_miss (by omega), hρ, mup_hit rfl rfl]; omega
  · rw [mup_miss (by omega), mup_miss (by omega), hρ, mup_hit rfl rfl]; omega
  · have ti := t4 i i1 i2
    rw [mup_miss (k := 181) (a := 189) (by omega), mup_miss (k := 181) (a := 29) (by omega), mup_miss (k := 189) (a := 29) (by omega), hρ, mup_miss (k := 28) (a := 29) (by omega)]
    by_cases e : i = σ 28 1
    · rw [mup_hit rfl e, mup_hit rfl e]; omega
    · rw [mup_miss (fun z => e z.2), mup_miss (k := 28) (a := 189) (by omega), mup_miss (k := 29) (a := 189) (by omega), mup_miss (fun z => e z.2)]
      exact ti
theorem k_wipe {n : Nat} {σ : Mem} {B : Bk} (h : INV0 n σ B) : CALL0 n σ B (f_X10_wipe σ) (fun ρ => f_X11_wipe ρ) := by
  obtain ⟨t1, t2, t3, t4⟩ := h.2.2.2.2.1
  refine call_tape (ρ := mup σ 28 1 0) (τ := mup (mup σ 28 1 0) 181 9 0) (v := σ 28 1) h rfl ?_ (fun x i g1 g2 g3 => by rw [mup_miss (by omega), mup_miss (by omega)]) ⟨?_, ?_, ?_, fun i i1 i2 => ?_⟩
  · show f_X11_wipe _ = _
    unfold f_X11_wipe
    simp only [Option.bind_some]
    rw [mup_miss (by omega), t1]
  · rw [mup_hit rfl rfl, mup_miss (by omega), mup_hit rfl rfl]
  · rw [mup_miss (by omega), mup_hit rfl rfl]; decide
  · rw [mup_miss (by omega), mup_hit rfl rfl]; decide
  · rw [mup_miss (by omega), mup_miss (by omega), mup_miss (by omega), mup_miss (by omega)]
    exact t4 i i1 i2
