/-! TOGETHER, both sides -/
def DD (B : Bk) (c : Int) (d t : Nat) : Int := dd B c (ovr B c d) (fre B c (ovr B c d)) (ahd B c (ovr B c d)) (dpl B c d (ovr B c d)) t
def tgm (B : Bk) (p : Int) (d t : Nat) : Nat → Nat := mset fun i => decide (DD B i d t = p)
theorem tgm_s {B : Bk} {p : Int} {d t n : Nat} (hn : n < 10) : jor ((tgm B p d t n : Nat) : Int) (if DD B n d t = p then jshl 1 (n : Int) else 0) = ((tgm B p d t (n + 1) : Nat) : Int) := by
  have h1 := mset_lt (fun i => decide (DD B i d t = p)) n
  have h2 : 2 ^ n ≤ 2 ^ 10 := Nat.pow_le_pow_right (by decide) (by omega)
  have h3 : (2 : Nat) ^ 10 = 1024 := by decide
  have h4 : tgm B p d t n < 1024 := by unfold tgm; omega
  have hl : tgm B p d t n < 2 ^ (n + 1) := by unfold tgm; rw [Nat.pow_succ]; omega
  by_cases h : DD B n d t = p
  · rw [if_pos h, jshl_n (by omega), jor_n (by omega) (by omega)]
    congr 1
    refine tb_ext (n := n + 1) (Nat.or_lt_two_pow hl (by rw [Nat.pow_succ]; omega)) (mset_lt _ _) fun i hi => ?_
    unfold tgm
    rw [Nat.testBit_or, mset_tb, mset_tb, Nat.testBit_two_pow]
    by_cases e : n = i
    · subst e; simp [h]
    · simp [e, show i < n by omega, hi]
  · rw [if_neg h, show (0 : Int) = ((0 : Nat) : Int) from rfl, jor_n (by omega) (by omega), Nat.or_zero]
    congr 1
    refine tb_ext (n := n + 1) hl (mset_lt _ _) fun i hi => ?_
    unfold tgm
    rw [mset_tb, mset_tb]
    by_cases e : n = i
    · subst e; simp [h]
    · simp [show i < n by omega, hi]
theorem tgm_0 {B : Bk} {p : Int} {d t n : Nat} (hn : n < 10) (h : DD B n d t ≠ p) : tgm B p d t (n + 1) = tgm B p d t n := by
  have := tgm_s (B := B) (p := p) (d := d) (t := t) hn
  have h1 := mset_lt (fun i => decide (DD B i d t = p)) n
  have h2 : 2 ^ n ≤ 2 ^ 10 := Nat.pow_le_pow_right (by decide) (by omega)
  have h3 : (2 : Nat) ^ 10 = 1024 := by decide
  have h4 : tgm B p d t n < 1024 := by unfold tgm; omega
  rw [if_neg h, show (0 : Int) = ((0 : Nat) : Int) from rfl, jor_n (by omega) (by omega), Nat.or_zero] at this
  omega