/-! THE SHELVES, as far as the book goes back -/
theorem X6_isShelf {σ : Mem} (s : Int) : f_X6_isShelf σ s = some (if 0 ≤ s ∧ s < 8 then 1 else 0) := by
  unfold f_X6_isShelf
  by_cases h : s < 0
  · rw [if_pos h, if_neg (by omega)]
  · rw [if_neg h]
    by_cases h2 : 8 ≤ s
    · rw [if_pos h2, if_neg (by omega)]
    · rw [if_neg h2, if_pos (by omega)]
theorem X6_holding {σ : Mem} {s : Int} (h : 0 ≤ s ∧ s < 8) : f_X6_holding σ s = some (σ 31 s) := by
  unfold f_X6_holding
  rw [bind_some' (X6_isShelf s), if0, if_pos h, chk_pos (by omega)]
theorem X6_candOn {σ : Mem} {s : Int} (h : 0 ≤ s ∧ s < 8) (hb : σ 31 s ≤ 100) : f_X6_candOn σ s = some (if σ 31 s < 10 then -1 else σ 31 s - 10) := by
  unfold f_X6_candOn
  rw [bind_some' (X6_holding h)]
  by_cases e : σ 31 s < 10
  · rw [if_pos e, if_pos e]
  · rw [if_neg e, if_neg e, jsub_ok (by omega) (by omega)]
theorem anyN_f {p : Nat → Bool} : ∀ {n : Nat}, anyN p n = false → ∀ i, i < n → p i = false
  | 0, _, i, hi => absurd hi (Nat.not_lt_zero _)
  | n + 1, h, i, hi => by
    rw [anyN_s] at h
    cases h1 : anyN p n with
    | true => rw [h1] at h; simp at h
    | false =>
      rw [h1, Bool.false_or] at h
      by_cases e : i = n
      · rw [e]; exact h
      · exact anyN_f h1 i (by omega)
theorem anyN_t {p : Nat → Bool} {i n : Nat} (hi : i < n) (h : p i = true) : anyN p n = true := by
  cases h1 : anyN p n with
  | true => rfl
  | false => rw [anyN_f h1 i hi] at h; cases h
