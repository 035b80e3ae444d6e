/-! A DAY'S CLASH: papers taken away, and given back -/
/-- the book, with another mask for one candidate -/
def bm (B : Bk) (c : Int) (M : Nat) : Bk := mup B 6 c (M : Int)
section
variable {B B' : Bk} {c : Int} {M : Nat}
theorem bm_r {x : Int} (h : x ≠ 6) : bm B c M x = B x := mup_row h
theorem bm_6 : bm B c M 6 c = (M : Int) := mup_hit rfl rfl
theorem bm_tk {p : Nat} : tk (bm B c M) c p = M.testBit p := by
  unfold tk
  rw [bm_6, Int.toNat_natCast]
theorem bm_flp {p : Nat} : flp (bm B c M) c p = bm B c (M ^^^ 2 ^ p) := by
  unfold flp
  rw [bm_6, Int.toNat_natCast]
  funext x i
  unfold bm
  by_cases e : x = 6 ∧ i = c
  · rw [mup_hit e.1 e.2, mup_hit e.1 e.2]
  · rw [mup_miss e, mup_miss e, mup_miss e]
theorem bm_id (h : B 6 c = (M : Int)) : bm B c M = B := by
  funext x i
  unfold bm
  by_cases e : x = 6 ∧ i = c
  · rw [mup_hit e.1 e.2, e.1, e.2, h]
  · rw [mup_miss e]
theorem bm_od {d : Int} {i : Nat} : (od (bm B c M) c d).testBit i = (decide (i < 12) && (decide ((i : Int) < B 8 0) && decide (B 0 i = d) && M.testBit i)) := by
  rw [od_tb, bm_tk, bm_r (by decide), bm_r (by decide)]
theorem tm_row (h : ∀ x, x ≠ 6 → B' x = B x) (p : Int) : tm B' c p = tm B c p := by
  unfold tm
  rw [h 3 (by decide), h 4 (by decide), h 2 (by decide)]
theorem rs_row (h : ∀ x, x ≠ 6 → B' x = B x) : rs B' c = rs B c := by
  unfold rs
  rw [h 3 (by decide), h 4 (by decide)]
theorem nx_row (h : ∀ x, x ≠ 6 → B' x = B x) (f : Int) (q : Nat → Nat) : ∀ k, nx B' c f q k = nx B c f q k
  | 0 => rfl
  | k + 1 => by
    show max (B' 1 (q k)) (nx B' c f q k) + tm B' c (q k) + rs B' c = max (B 1 (q k)) (nx B c f q k) + tm B c (q k) + rs B c
    rw [nx_row h f q k, tm_row h, rs_row h, h 1 (by decide)]
theorem fitN_row (h : ∀ x, x ≠ 6 → B' x = B x) (f : Int) (q : Nat → Nat) : ∀ n, fitN B' c f q n = fitN B c f q n
  | 0 => rfl
  | n + 1 => by
    show (fitN B' c f q n && decide (max (B' 1 (q n)) (nx B' c f q n) + tm B' c (q n) ≤ 48)) = (fitN B c f q n && decide (max (B 1 (q n)) (nx B c f q n) + tm B c (q n) ≤ 48))
    rw [fitN_row h f q n, nx_row h, tm_row h, h 1 (by decide)]
theorem smt_row (h : ∀ x, x ≠ 6 → B' x = B x) (m : Nat) : ∀ k, smt B' c m k = smt B c m k
  | 0 => rfl
  | k + 1 => by
    show smt B' c m k + tm B' c (nth m k) = smt B c m k + tm B c (nth m k)
    rw [smt_row h m k, tm_row h]
theorem lwS_row (h : ∀ x, x ≠ 6 → B' x = B x) (m : Nat) (f : Int) (a : Nat) : lwS B' c m f a = lwS B c m f a := by
  funext l
  unfold lwS
  rw [smt_row h, fitN_row h, h 8 (by decide)]
theorem fre_row (h : ∀ x, x ≠ 6 → B' x = B x) (o : Int) : fre B' c o = fre B c o ∧ ahd B' c o = ahd B c o := by
  unfold fre ahd
  rw [tm_row h, rs_row h]
  exact ⟨rfl, rfl⟩
theorem ovr_upto (w : WF B) (hc : 0 ≤ c) (hc2 : c < B 8 1) : ∀ d : Nat, (∀ e : Nat, e < d → agr B B' c e) → ovr B' c d = ovr B c d
  | 0, _ => rfl
  | d + 1, h => by
    show ov (dpl B' c d (ovr B' c d)) = ov (dpl B c d (ovr B c d))
    rw [ovr_upto w hc hc2 d fun e he => h e (by omega), dpl_agr w hc hc2 (h d (by omega)) (ovr_b w hc hc2 d).2]
/-- masks that are the same on a day -/
theorem agr_bm {d : Int} {T : Nat} (hT : B 6 c = (T : Int)) (h : ∀ i : Nat, (i : Int) < B 8 0 → B 0 i = d → M.testBit i = T.testBit i) : agr B (bm B c M) c d := by
  refine ⟨by rw [bm_r (by decide)], by rw [bm_r (by decide)], by rw [bm_r (by decide)], by rw [bm_r (by decide)], fun p _ _ => by rw [bm_r (by decide)], ?_, fun p _ => by rw [bm_r (by decide)]⟩
  refine Nat.eq_of_testBit_eq fun i => ?_
  rw [bm_od, od_tb]
  have ht : tk B c i = T.testBit i := by unfold tk; rw [hT, Int.toNat_natCast]
  rw [ht]
  by_cases g : (i : Int) < B 8 0 ∧ B 0 i = d
  · rw [h i g.1 g.2]
  · by_cases g1 : (i : Int) < B 8 0
    · have g2 : ¬ B 0 i = d := fun z => g ⟨g1, z⟩
      simp [g2]
    · simp [g1]
theorem bm_law (w : WF B) (hc : 0 ≤ c) (hc2 : c < B 8 1) {D : Nat} {T S : Nat} (hT : B 6 c = (T : Int)) (h : ∀ i : Nat, (i : Int) < B 8 0 → B 0 i ≠ (D : Int) → M.testBit i = T.testBit i) (hS : od (bm B c M) c D = S) : laV (bm B c M) c D = ((nlw (lwS B c S (fre B c (ovr B c D)) (ahd B c (ovr B c D))) (PT (nof S)) : Nat) : Int) := by
  have hr : ∀ x, x ≠ 6 → bm B c M x = B x := fun x hx => bm_r hx
  unfold laV
  rw [hS, lwS_row hr, (fre_row hr _).1, (fre_row hr _).2, ovr_upto w hc hc2 D fun e he => agr_bm hT fun i i1 i2 => h i i1 (by rw [i2]; omega)]
theorem nlw_none (h : 0 ≤ B 8 3) {f : Int} {a : Nat} (ha : (a : Int) ≤ B 8 3) : 0 < nlw (lwS B c 0 f a) (PT (nof 0)) := by
  have e : nof 0 = 0 := by decide
  have h3 : lwS B c 0 f a [] = true := by
    unfold lwS
    rw [e]
    show (decide ((a : Int) + 0 ≤ B 8 3) && true) = true
    simp
    omega
  rw [e]
  show 0 < (if lwS B c 0 f a [] then 1 else 0) + 0
  rw [h3]
  decide
end
/-- the mask behind the first p papers: those of the day that are no part of the clash are taken away -/
def clM (B : Bk) (D : Nat) (T r p : Nat) : Nat := mset (fun i => T.testBit i && !(decide (i < p) && decide (B 0 i = (D : Int)) && !r.testBit i)) 12
theorem clM_tb {B : Bk} {D T r p i : Nat} (hT : T < 4096) : (clM B D T r p).testBit i = (T.testBit i && !(decide (i < p) && decide (B 0 i = (D : Int)) && !r.testBit i)) := by
  unfold clM
  rw [mset_tb]
  by_cases h : i < 12
  · simp [h]
  · have : T.testBit i = false := Nat.testBit_lt_two_pow (Nat.lt_of_lt_of_le (show T < 2 ^ 12 from hT) (Nat.pow_le_pow_right (by decide) (by omega)))
    simp [h, this]
theorem clM_0 {B : Bk} {D T r : Nat} (hT : T < 4096) : clM B D T r 0 = T := Nat.eq_of_testBit_eq fun i => by
  rw [clM_tb hT]
  simp
theorem clM_s {B : Bk} {D T r p : Nat} (hT : T < 4096) : clM B D T r (p + 1) = if T.testBit p = true ∧ B 0 p = (D : Int) ∧ r.testBit p = false then clM B D T r p ^^^ 2 ^ p else clM B D T r p := by
  refine Nat.eq_of_testBit_eq fun i => ?_
  by_cases g : T.testBit p = true ∧ B 0 p = (D : Int) ∧ r.testBit p = false
  · rw [if_pos g, Nat.testBit_xor, Nat.testBit_two_pow, clM_tb hT, clM_tb hT]
    by_cases e : i = p
    · subst e
      rw [g.1, g.2.1, g.2.2]
      simp
    · have e2 : ¬ p = i := fun z => e z.symm
      have e3 : decide (i < p + 1) = decide (i < p) := by
        by_cases q : i < p
        · rw [decide_eq_true q, decide_eq_true (by omega)]
        · rw [decide_eq_false q, decide_eq_false (by omega)]
      rw [e3, decide_eq_false e2]
      cases (T.testBit i && !(decide (i < p) && decide (B 0 i = (D : Int)) && !r.testBit i)) <;> rfl
  · rw [if_neg g, clM_tb hT, clM_tb hT]
    by_cases e : i = p
    · subst e
      cases h1 : T.testBit i with
      | false => rfl
      | true =>
        cases h2 : r.testBit i with
        | true => simp
        | false =>
          have h3 : ¬ B 0 i = (D : Int) := fun z => g ⟨h1, z, h2⟩
          simp [h3]
    · have e3 : decide (i < p + 1) = decide (i < p) := by
        by_cases q : i < p
        · rw [decide_eq_true q, decide_eq_true (by omega)]
        · rw [decide_eq_false q, decide_eq_false (by omega)]
      rw [e3]
