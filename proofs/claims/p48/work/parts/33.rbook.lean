/-! THE BOOK, the reference's side -/
section
variable {σ : Mem} {B : Bk}
theorem b01 {c : Prop} [Decidable c] : (if c then (1 : Int) else 0) = 0 ∨ (if c then (1 : Int) else 0) = 1 := by split <;> simp
theorem X10_isDay (d : Int) : f_X10_isDay σ d = some (if 0 ≤ d ∧ d < 5 then 1 else 0) := by
  unfold f_X10_isDay
  by_cases h1 : d < 0
  · rw [if_pos h1, if_neg (by omega)]
  · rw [if_neg h1]
    by_cases h2 : 5 ≤ d
    · rw [if_pos h2, if_neg (by omega)]
    · rw [if_neg h2, if_pos (by omega)]
theorem X10_isSlot (d : Int) : f_X10_isSlot σ d = some (if 0 ≤ d ∧ d < 48 then 1 else 0) := by
  unfold f_X10_isSlot
  by_cases h1 : d < 0
  · rw [if_pos h1, if_neg (by omega)]
  · rw [if_neg h1]
    by_cases h2 : 48 ≤ d
    · rw [if_pos h2, if_neg (by omega)]
    · rw [if_neg h2, if_pos (by omega)]
theorem X0_hasPaper {b : Int} (hB : isBk σ b B) (p : Int) : f_X0_hasPaper σ b p = some (if 0 ≤ p ∧ p < B 8 0 then 1 else 0) := by
  unfold f_X0_hasPaper
  rw [hB.nP]
  by_cases h1 : p < 0
  · rw [if_pos h1, if_neg (by omega)]
  · rw [if_neg h1]
    by_cases h2 : B 8 0 ≤ p
    · rw [if_pos h2, if_neg (by omega)]
    · rw [if_neg h2, if_pos (by omega)]
theorem X0_hasCand {b : Int} (hB : isBk σ b B) (p : Int) : f_X0_hasCand σ b p = some (if 0 ≤ p ∧ p < B 8 1 then 1 else 0) := by
  unfold f_X0_hasCand
  rw [hB.nC]
  by_cases h1 : p < 0
  · rw [if_pos h1, if_neg (by omega)]
  · rw [if_neg h1]
    by_cases h2 : B 8 1 ≤ p
    · rw [if_pos h2, if_neg (by omega)]
    · rw [if_neg h2, if_pos (by omega)]
theorem X0_hasRoom {b : Int} (hB : isBk σ b B) (p : Int) : f_X0_hasRoom σ b p = some (if 0 ≤ p ∧ p < B 8 2 then 1 else 0) := by
  unfold f_X0_hasRoom
  rw [hB.nR]
  by_cases h1 : p < 0
  · rw [if_pos h1, if_neg (by omega)]
  · rw [if_neg h1]
    by_cases h2 : B 8 2 ≤ p
    · rw [if_pos h2, if_neg (by omega)]
    · rw [if_neg h2, if_pos (by omega)]
theorem j3 {p : Int} (h : 0 ≤ p ∧ p < 12) : jadd 0 (jmul 3 p) = 3 * p := by rw [jmul_ok (by omega) (by omega), jadd_ok (by omega) (by omega), Int.zero_add]
theorem j4 {c t : Int} (h : 0 ≤ c ∧ c < 10) (ht : 0 ≤ t ∧ t < 4) : jadd (jadd 36 (jmul 4 c)) t = 36 + 4 * c + t := by rw [jmul_ok (by omega) (by omega), jadd_ok (a := 36) (by omega) (by omega), jadd_ok (by omega) (by omega)]
theorem jbit {a p : Nat} (ha : a < 2 ^ 31) (hp : p < 31) : jand (jshr (a : Int) (p : Int)) 1 = if a.testBit p then 1 else 0 := by
  have h1 : a >>> p < 2 ^ 31 := Nat.lt_of_le_of_lt (by rw [Nat.shiftRight_eq_div_pow]; exact Nat.div_le_self _ _) ha
  rw [jshr_n ha hp, show (1 : Int) = ((1 : Nat) : Int) from rfl, jand_n h1 (by decide)]
  rw [Nat.testBit_eq_decide_div_mod_eq, Nat.and_one_is_mod, Nat.shiftRight_eq_div_pow]
  have h2 : a / 2 ^ p % 2 = 0 ∨ a / 2 ^ p % 2 = 1 := by omega
  rcases h2 with h | h <;> rw [h] <;> rfl
end
/-- refusals: both count alike -/
theorem X10_refuse {σ : Mem} {x : Int} (h : -56 ≤ x ∧ x ≤ -52) : f_X10_refuse σ x = some (x, mup σ 34 (-52 - x) (jadd (σ 34 (-52 - x)) 1)) := by
  unfold f_X10_refuse
  rw [jsub_ok (by omega) (by omega)]
  show (if -52 - x < 0 then _ else _) = _
  rw [if_neg (by omega), if_neg (by omega), chk_pos (by omega), chk_pos (by omega)]
  rfl