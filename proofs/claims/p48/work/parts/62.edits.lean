/-! EDITS, one by one (by mk62.py) -/
theorem X10_isYesOrNo {σ : Mem} (x : Int) : f_X10_isYesOrNo σ x = some (if 0 ≤ x ∧ x ≤ 1 then 1 else 0) := by
  unfold f_X10_isYesOrNo
  by_cases h : x = 0
  · rw [if_pos h, if_pos (by omega)]; rfl
  · rw [if_neg h]
    by_cases h2 : x = 1
    · rw [if_neg (by omega), if_pos (by omega)]; rfl
    · rw [if_pos h2, if_neg (by omega)]
theorem X2_isKind {σ : Mem} (x : Int) : f_X2_isKind σ x = some (if 0 ≤ x ∧ x ≤ 5 then 1 else 0) := by
  unfold f_X2_isKind
  by_cases h : x < 0
  · rw [if_pos h, if_neg (by omega)]
  · rw [if_neg h]
    by_cases h2 : 6 ≤ x
    · rw [if_pos h2, if_neg (by omega)]
    · rw [if_neg h2, if_pos (by omega)]