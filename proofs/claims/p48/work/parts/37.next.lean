/-! THE NEXT ORDER: rows by rows, for both sides (by program: mk37.py) -/
theorem bsm {α β : Type} (a : α) (f : α → Option β) : (some a).bind f = f a := bind_some' rfl
def PT : Nat → List (List Nat)
  | 0 => [[]]
  | 1 => [[0]]
  | 2 => [[0, 1], [1, 0]]
  | 3 => [[0, 1, 2], [0, 2, 1], [1, 0, 2], [1, 2, 0], [2, 0, 1], [2, 1, 0]]
  | 4 => [[0, 1, 2, 3], [0, 1, 3, 2], [0, 2, 1, 3], [0, 2, 3, 1], [0, 3, 1, 2], [0, 3, 2, 1], [1, 0, 2, 3], [1, 0, 3, 2], [1, 2, 0, 3], [1, 2, 3, 0], [1, 3, 0, 2], [1, 3, 2, 0], [2, 0, 1, 3], [2, 0, 3, 1], [2, 1, 0, 3], [2, 1, 3, 0], [2, 3, 0, 1], [2, 3, 1, 0], [3, 0, 1, 2], [3, 0, 2, 1], [3, 1, 0, 2], [3, 1, 2, 0], [3, 2, 0, 1], [3, 2, 1, 0]]
  | _ => []
theorem jl_0_p : jadd (-1 : Int) (1) = 0 := by decide +kernel
theorem jl_0_m : jadd (-1 : Int) (-1) = -2 := by decide +kernel
theorem jl_1_p : jadd (0 : Int) (1) = 1 := by decide +kernel
theorem jl_1_m : jadd (0 : Int) (-1) = -1 := by decide +kernel
theorem jl_2_p : jadd (1 : Int) (1) = 2 := by decide +kernel
theorem jl_2_m : jadd (1 : Int) (-1) = 0 := by decide +kernel
theorem jl_3_p : jadd (2 : Int) (1) = 3 := by decide +kernel
theorem jl_3_m : jadd (2 : Int) (-1) = 1 := by decide +kernel
theorem jl_4_p : jadd (3 : Int) (1) = 4 := by decide +kernel
theorem jl_4_m : jadd (3 : Int) (-1) = 2 := by decide +kernel
theorem jl_5_p : jadd (4 : Int) (1) = 5 := by decide +kernel
theorem jl_5_m : jadd (4 : Int) (-1) = 3 := by decide +kernel
theorem js_0_1 : jsub (0 : Int) 1 = -1 := by decide +kernel
theorem js_0_2 : jsub (0 : Int) 2 = -2 := by decide +kernel
theorem js_1_1 : jsub (1 : Int) 1 = 0 := by decide +kernel
theorem js_1_2 : jsub (1 : Int) 2 = -1 := by decide +kernel
theorem js_2_1 : jsub (2 : Int) 1 = 1 := by decide +kernel
theorem js_2_2 : jsub (2 : Int) 2 = 0 := by decide +kernel
theorem js_3_1 : jsub (3 : Int) 1 = 2 := by decide +kernel
theorem js_3_2 : jsub (3 : Int) 2 = 1 := by decide +kernel
theorem js_4_1 : jsub (4 : Int) 1 = 3 := by decide +kernel
theorem js_4_2 : jsub (4 : Int) 2 = 2 := by decide +kernel
theorem swapC {σ : Mem} {i j a b : Int} (hi : 0 ≤ i ∧ i < 4) (hj : 0 ≤ j ∧ j < 4) (ha : σ 40 i = a) (hb : σ 40 j = b) : f_X3_swap σ i j = some (mup (mup σ 40 i b) 40 j a) := by
  unfold f_X3_swap
  rw [chk_pos (by omega)]
  simp only [Option.bind_some]
  rw [chk_pos (by omega), chk_pos (by omega), chk_pos (by omega), ha, hb]
theorem nc0_e {σ : Mem}  (h6 : σ 36 6 = 0)   : f_X3_nextRow σ = some (0, σ) := by
  unfold f_X3_nextRow
  simp only [bsm]
  rw [h6, js_0_2]
  unfold f_X3_nextRow_7
  rw [FU_9, loop_end (b := (-2 : Int)) (by show f_X3_nextRow_7C σ (-2) = _; unfold f_X3_nextRow_7C; simp (disch := omega) only [jl_0_p, jl_0_m, jl_1_p, jl_1_m, jl_2_p, jl_2_m, jl_3_p, jl_3_m, jl_4_p, jl_4_m, jl_5_p, jl_5_m, js_0_1, js_0_2, js_1_1, js_1_2, js_2_1, js_2_2, js_3_1, js_3_2, js_4_1, js_4_2, chk_pos, if_pos, if_neg, bsm])]
  simp only [bsm]
  unfold f_X3_nextRow_34
  rw [if_neg (by decide)]
theorem nc1_e {σ : Mem} {v0 : Int} (h6 : σ 36 6 = 1) (h0 : σ 40 0 = v0)  : f_X3_nextRow σ = some (0, σ) := by
  unfold f_X3_nextRow
  simp only [bsm]
  rw [h6, js_1_2]
  unfold f_X3_nextRow_7
  rw [FU_9, loop_end (b := (-1 : Int)) (by show f_X3_nextRow_7C σ (-1) = _; unfold f_X3_nextRow_7C; simp (disch := omega) only [jl_0_p, jl_0_m, jl_1_p, jl_1_m, jl_2_p, jl_2_m, jl_3_p, jl_3_m, jl_4_p, jl_4_m, jl_5_p, jl_5_m, js_0_1, js_0_2, js_1_1, js_1_2, js_2_1, js_2_2, js_3_1, js_3_2, js_4_1, js_4_2, chk_pos, if_pos, if_neg, bsm, h0])]
  simp only [bsm]
  unfold f_X3_nextRow_34
  rw [if_neg (by decide)]
theorem nc2_e {σ : Mem} {v0 v1 : Int} (h6 : σ 36 6 = 2) (h0 : σ 40 0 = v0) (h1 : σ 40 1 = v1) (d0 : v1 < v0) : f_X3_nextRow σ = some (0, σ) := by
  unfold f_X3_nextRow
  simp only [bsm]
  rw [h6, js_2_2]
  unfold f_X3_nextRow_7
  rw [FU_9, loop_step (a' := (-1 : Int)) (by show f_X3_nextRow_7C σ 0 = _; unfold f_X3_nextRow_7C; simp (disch := omega) only [jl_0_p, jl_0_m, jl_1_p, jl_1_m, jl_2_p, jl_2_m, jl_3_p, jl_3_m, jl_4_p, jl_4_m, jl_5_p, jl_5_m, js_0_1, js_0_2, js_1_1, js_1_2, js_2_1, js_2_2, js_3_1, js_3_2, js_4_1, js_4_2, chk_pos, if_pos, if_neg, bsm, h0, h1]), loop_end (b := (-1 : Int)) (by show f_X3_nextRow_7C σ (-1) = _; unfold f_X3_nextRow_7C; simp (disch := omega) only [jl_0_p, jl_0_m, jl_1_p, jl_1_m, jl_2_p, jl_2_m, jl_3_p, jl_3_m, jl_4_p, jl_4_m, jl_5_p, jl_5_m, js_0_1, js_0_2, js_1_1, js_1_2, js_2_1, js_2_2, js_3_1, js_3_2, js_4_1, js_4_2, chk_pos, if_pos, if_neg, bsm, h0, h1])]
  simp only [bsm]
  unfold f_X3_nextRow_34
  rw [if_neg (by decide)]
theorem nc2_1_1 {σ : Mem} {v0 v1 : Int} (h6 : σ 36 6 = 2) (h0 : σ 40 0 = v0) (h1 : σ 40 1 = v1) (u : v0 < v1) : ∃ τ, f_X3_nextRow σ = some (1, τ) ∧ (∀ x, x ≠ 40 → τ x = σ x) ∧ τ 40 0 = v1 ∧ τ 40 1 = v0 := by
  unfold f_X3_nextRow
  simp only [bsm]
  rw [h6, js_2_2]
  unfold f_X3_nextRow_7
  rw [FU_9, loop_end (b := (0 : Int)) (by show f_X3_nextRow_7C σ (0) = _; unfold f_X3_nextRow_7C; simp (disch := omega) only [jl_0_p, jl_0_m, jl_1_p, jl_1_m, jl_2_p, jl_2_m, jl_3_p, jl_3_m, jl_4_p, jl_4_m, jl_5_p, jl_5_m, js_0_1, js_0_2, js_1_1, js_1_2, js_2_1, js_2_2, js_3_1, js_3_2, js_4_1, js_4_2, chk_pos, if_pos, if_neg, bsm, h0, h1])]
  simp only [bsm]
  unfold f_X3_nextRow_34
  rw [if_pos (by decide)]
  simp only [bsm]
  rw [h6, js_2_1]
  unfold f_X3_nextRow_47
  rw [FU_9, loop_end (b := (1 : Int)) (by show f_X3_nextRow_47C σ 0 1 = _; unfold f_X3_nextRow_47C; simp (disch := omega) only [jl_0_p, jl_0_m, jl_1_p, jl_1_m, jl_2_p, jl_2_m, jl_3_p, jl_3_m, jl_4_p, jl_4_m, jl_5_p, jl_5_m, js_0_1, js_0_2, js_1_1, js_1_2, js_2_1, js_2_2, js_3_1, js_3_2, js_4_1, js_4_2, chk_pos, if_pos, if_neg, bsm, h0, h1])]
  simp only [bsm]
  unfold f_X3_nextRow_75
  rw [bind_some' (swapC (by decide) (by decide) h0 h1)]
  obtain ⟨τ1, hτ1⟩ : ∃ z, z = (mup (mup σ 40 0 v1) 40 1 v0) := ⟨_, rfl⟩
  rw [← hτ1]
  simp only [bsm]
  rw [show τ1 36 6 = 2 by rw [hτ1, mup_miss (by omega), mup_miss (by omega), h6], jl_1_p, js_2_1]
  unfold f_X3_nextRow_93
  have a0 : τ1 40 0 = v1 := by rw [hτ1]; simp (disch := omega) only [mup_hit, mup_miss, h0, h1]
  have a1 : τ1 40 1 = v0 := by rw [hτ1]; simp (disch := omega) only [mup_hit, mup_miss, h0, h1]
  rw [FU_9, loop_end (b := τ1) (by show f_X3_nextRow_93C 1 1 τ1 = _; unfold f_X3_nextRow_93C; rw [if_pos (by decide)])]
  exact ⟨τ1, rfl, fun x hx => by rw [hτ1, mup_row hx, mup_row hx], a0, a1⟩
theorem nc3_e {σ : Mem} {v0 v1 v2 : Int} (h6 : σ 36 6 = 3) (h0 : σ 40 0 = v0) (h1 : σ 40 1 = v1) (h2 : σ 40 2 = v2) (d0 : v1 < v0) (d1 : v2 < v1) : f_X3_nextRow σ = some (0, σ) := by
  unfold f_X3_nextRow
  simp only [bsm]
  rw [h6, js_3_2]
  unfold f_X3_nextRow_7
  rw [FU_9, loop_step (a' := (0 : Int)) (by show f_X3_nextRow_7C σ 1 = _; unfold f_X3_nextRow_7C; simp (disch := omega) only [jl_0_p, jl_0_m, jl_1_p, jl_1_m, jl_2_p, jl_2_m, jl_3_p, jl_3_m, jl_4_p, jl_4_m, jl_5_p, jl_5_m, js_0_1, js_0_2, js_1_1, js_1_2, js_2_1, js_2_2, js_3_1, js_3_2, js_4_1, js_4_2, chk_pos, if_pos, if_neg, bsm, h0, h1, h2]), loop_step (a' := (-1 : Int)) (by show f_X3_nextRow_7C σ 0 = _; unfold f_X3_nextRow_7C; simp (disch := omega) only [jl_0_p, jl_0_m, jl_1_p, jl_1_m, jl_2_p, jl_2_m, jl_3_p, jl_3_m, jl_4_p, jl_4_m, jl_5_p, jl_5_m, js_0_1, js_0_2, js_1_1, js_1_2, js_2_1, js_2_2, js_3_1, js_3_2, js_4_1, js_4_2, chk_pos, if_pos, if_neg, bsm, h0, h1, h2]), loop_end (b := (-1 : Int)) (by show f_X3_nextRow_7C σ (-1) = _; unfold f_X3_nextRow_7C; simp (disch := omega) only [jl_0_p, jl_0_m, jl_1_p, jl_1_m, jl_2_p, jl_2_m, jl_3_p, jl_3_m, jl_4_p, jl_4_m, jl_5_p, jl_5_m, js_0_1, js_0_2, js_1_1, js_1_2, js_2_1, js_2_2, js_3_1, js_3_2, js_4_1, js_4_2, chk_pos, if_pos, if_neg, bsm, h0, h1, h2])]
  simp only [bsm]
  unfold f_X3_nextRow_34
  rw [if_neg (by decide)]
theorem nc3_1_1 {σ : Mem} {v0 v1 v2 : Int} (h6 : σ 36 6 = 3) (h0 : σ 40 0 = v0) (h1 : σ 40 1 = v1) (h2 : σ 40 2 = v2) (d1 : v2 < v1) (u : v0 < v1) (e2 : v2 < v0) : ∃ τ, f_X3_nextRow σ = some (1, τ) ∧ (∀ x, x ≠ 40 → τ x = σ x) ∧ τ 40 0 = v1 ∧ τ 40 1 = v2 ∧ τ 40 2 = v0 := by
  unfold f_X3_nextRow
  simp only [bsm]
  rw [h6, js_3_2]
  unfold f_X3_nextRow_7
  rw [FU_9, loop_step (a' := (0 : Int)) (by show f_X3_nextRow_7C σ 1 = _; unfold f_X3_nextRow_7C; simp (disch := omega) only [jl_0_p, jl_0_m, jl_1_p, jl_1_m, jl_2_p, jl_2_m, jl_3_p, jl_3_m, jl_4_p, jl_4_m, jl_5_p, jl_5_m, js_0_1, js_0_2, js_1_1, js_1_2, js_2_1, js_2_2, js_3_1, js_3_2, js_4_1, js_4_2, chk_pos, if_pos, if_neg, bsm, h0, h1, h2]), loop_end (b := (0 : Int)) (by show f_X3_nextRow_7C σ (0) = _; unfold f_X3_nextRow_7C; simp (disch := omega) only [jl_0_p, jl_0_m, jl_1_p, jl_1_m, jl_2_p, jl_2_m, jl_3_p, jl_3_m, jl_4_p, jl_4_m, jl_5_p, jl_5_m, js_0_1, js_0_2, js_1_1, js_1_2, js_2_1, js_2_2, js_3_1, js_3_2, js_4_1, js_4_2, chk_pos, if_pos, if_neg, bsm, h0, h1, h2])]
  simp only [bsm]
  unfold f_X3_nextRow_34
  rw [if_pos (by decide)]
  simp only [bsm]
  rw [h6, js_3_1]
  unfold f_X3_nextRow_47
  rw [FU_9, loop_step (a' := (1 : Int)) (by show f_X3_nextRow_47C σ 0 2 = _; unfold f_X3_nextRow_47C; simp (disch := omega) only [jl_0_p, jl_0_m, jl_1_p, jl_1_m, jl_2_p, jl_2_m, jl_3_p, jl_3_m, jl_4_p, jl_4_m, jl_5_p, jl_5_m, js_0_1, js_0_2, js_1_1, js_1_2, js_2_1, js_2_2, js_3_1, js_3_2, js_4_1, js_4_2, chk_pos, if_pos, if_neg, bsm, h0, h1, h2]), loop_end (b := (1 : Int)) (by show f_X3_nextRow_47C σ 0 1 = _; unfold f_X3_nextRow_47C; simp (disch := omega) only [jl_0_p, jl_0_m, jl_1_p, jl_1_m, jl_2_p, jl_2_m, jl_3_p, jl_3_m, jl_4_p, jl_4_m, jl_5_p, jl_5_m, js_0_1, js_0_2, js_1_1, js_1_2, js_2_1, js_2_2, js_3_1, js_3_2, js_4_1, js_4_2, chk_pos, if_pos, if_neg, bsm, h0, h1, h2])]
  simp only [bsm]
  unfold f_X3_nextRow_75
  rw [bind_some' (swapC (by decide) (by decide) h0 h1)]
  obtain ⟨τ1, hτ1⟩ : ∃ z, z = (mup (mup σ 40 0 v1) 40 1 v0) := ⟨_, rfl⟩
  rw [← hτ1]
  simp only [bsm]
  rw [show τ1 36 6 = 3 by rw [hτ1, mup_miss (by omega), mup_miss (by omega), h6], jl_1_p, js_3_1]
  unfold f_X3_nextRow_93
  have a0 : τ1 40 0 = v1 := by rw [hτ1]; simp (disch := omega) only [mup_hit, mup_miss, h0, h1, h2]
  have a1 : τ1 40 1 = v0 := by rw [hτ1]; simp (disch := omega) only [mup_hit, mup_miss, h0, h1, h2]
  have a2 : τ1 40 2 = v2 := by rw [hτ1]; simp (disch := omega) only [mup_hit, mup_miss, h0, h1, h2]
  obtain ⟨τ2, hτ2⟩ : ∃ z, z = mup (mup τ1 40 1 v2) 40 2 v0 := ⟨_, rfl⟩
  have b2_0 : τ2 40 0 = v1 := by rw [hτ2]; simp (disch := omega) only [mup_hit, mup_miss, a0]
  have b2_1 : τ2 40 1 = v2 := by rw [hτ2]; simp (disch := omega) only [mup_hit, mup_miss, a1]
  have b2_2 : τ2 40 2 = v0 := by rw [hτ2]; simp (disch := omega) only [mup_hit, mup_miss, a2]
  rw [FU_9, loop_step (a' := ((2 : Int), (1 : Int), τ2)) (by show f_X3_nextRow_93C 1 2 τ1 = _; unfold f_X3_nextRow_93C; rw [if_neg (by decide), bind_some' (swapC (by decide) (by decide) a1 a2), jl_2_p, jl_3_m, hτ2]; rfl), loop_end (b := τ2) (by show f_X3_nextRow_93C 2 1 τ2 = _; unfold f_X3_nextRow_93C; rw [if_pos (by decide)])]
  exact ⟨τ2, rfl, fun x hx => by rw [hτ2, mup_row hx, mup_row hx, hτ1, mup_row hx, mup_row hx], b2_0, b2_1, b2_2⟩
theorem nc3_1_2 {σ : Mem} {v0 v1 v2 : Int} (h6 : σ 36 6 = 3) (h0 : σ 40 0 = v0) (h1 : σ 40 1 = v1) (h2 : σ 40 2 = v2) (d1 : v2 < v1) (u : v0 < v1) (g : v0 < v2) : ∃ τ, f_X3_nextRow σ = some (1, τ) ∧ (∀ x, x ≠ 40 → τ x = σ x) ∧ τ 40 0 = v2 ∧ τ 40 1 = v0 ∧ τ 40 2 = v1 := by
  unfold f_X3_nextRow
  simp only [bsm]
  rw [h6, js_3_2]
  unfold f_X3_nextRow_7
  rw [FU_9, loop_step (a' := (0 : Int)) (by show f_X3_nextRow_7C σ 1 = _; unfold f_X3_nextRow_7C; simp (disch := omega) only [jl_0_p, jl_0_m, jl_1_p, jl_1_m, jl_2_p, jl_2_m, jl_3_p, jl_3_m, jl_4_p, jl_4_m, jl_5_p, jl_5_m, js_0_1, js_0_2, js_1_1, js_1_2, js_2_1, js_2_2, js_3_1, js_3_2, js_4_1, js_4_2, chk_pos, if_pos, if_neg, bsm, h0, h1, h2]), loop_end (b := (0 : Int)) (by show f_X3_nextRow_7C σ (0) = _; unfold f_X3_nextRow_7C; simp (disch := omega) only [jl_0_p, jl_0_m, jl_1_p, jl_1_m, jl_2_p, jl_2_m, jl_3_p, jl_3_m, jl_4_p, jl_4_m, jl_5_p, jl_5_m, js_0_1, js_0_2, js_1_1, js_1_2, js_2_1, js_2_2, js_3_1, js_3_2, js_4_1, js_4_2, chk_pos, if_pos, if_neg, bsm, h0, h1, h2])]
  simp only [bsm]
  unfold f_X3_nextRow_34
  rw [if_pos (by decide)]
  simp only [bsm]
  rw [h6, js_3_1]
  unfold f_X3_nextRow_47
  rw [FU_9, loop_end (b := (2 : Int)) (by show f_X3_nextRow_47C σ 0 2 = _; unfold f_X3_nextRow_47C; simp (disch := omega) only [jl_0_p, jl_0_m, jl_1_p, jl_1_m, jl_2_p, jl_2_m, jl_3_p, jl_3_m, jl_4_p, jl_4_m, jl_5_p, jl_5_m, js_0_1, js_0_2, js_1_1, js_1_2, js_2_1, js_2_2, js_3_1, js_3_2, js_4_1, js_4_2, chk_pos, if_pos, if_neg, bsm, h0, h1, h2])]
  simp only [bsm]
  unfold f_X3_nextRow_75
  rw [bind_some' (swapC (by decide) (by decide) h0 h2)]
  obtain ⟨τ1, hτ1⟩ : ∃ z, z = (mup (mup σ 40 0 v2) 40 2 v0) := ⟨_, rfl⟩
  rw [← hτ1]
  simp only [bsm]
  rw [show τ1 36 6 = 3 by rw [hτ1, mup_miss (by omega), mup_miss (by omega), h6], jl_1_p, js_3_1]
  unfold f_X3_nextRow_93
  have a0 : τ1 40 0 = v2 := by rw [hτ1]; simp (disch := omega) only [mup_hit, mup_miss, h0, h1, h2]
  have a1 : τ1 40 1 = v1 := by rw [hτ1]; simp (disch := omega) only [mup_hit, mup_miss, h0, h1, h2]
  have a2 : τ1 40 2 = v0 := by rw [hτ1]; simp (disch := omega) only [mup_hit, mup_miss, h0, h1, h2]
  obtain ⟨τ2, hτ2⟩ : ∃ z, z = mup (mup τ1 40 1 v0) 40 2 v1 := ⟨_, rfl⟩
  have b2_0 : τ2 40 0 = v2 := by rw [hτ2]; simp (disch := omega) only [mup_hit, mup_miss, a0]
  have b2_1 : τ2 40 1 = v0 := by rw [hτ2]; simp (disch := omega) only [mup_hit, mup_miss, a1]
  have b2_2 : τ2 40 2 = v1 := by rw [hτ2]; simp (disch := omega) only [mup_hit, mup_miss, a2]
  rw [FU_9, loop_step (a' := ((2 : Int), (1 : Int), τ2)) (by show f_X3_nextRow_93C 1 2 τ1 = _; unfold f_X3_nextRow_93C; rw [if_neg (by decide), bind_some' (swapC (by decide) (by decide) a1 a2), jl_2_p, jl_3_m, hτ2]; rfl), loop_end (b := τ2) (by show f_X3_nextRow_93C 2 1 τ2 = _; unfold f_X3_nextRow_93C; rw [if_pos (by decide)])]
  exact ⟨τ2, rfl, fun x hx => by rw [hτ2, mup_row hx, mup_row hx, hτ1, mup_row hx, mup_row hx], b2_0, b2_1, b2_2⟩
theorem nc3_2_2 {σ : Mem} {v0 v1 v2 : Int} (h6 : σ 36 6 = 3) (h0 : σ 40 0 = v0) (h1 : σ 40 1 = v1) (h2 : σ 40 2 = v2) (u : v1 < v2) : ∃ τ, f_X3_nextRow σ = some (1, τ) ∧ (∀ x, x ≠ 40 → τ x = σ x) ∧ τ 40 0 = v0 ∧ τ 40 1 = v2 ∧ τ 40 2 = v1 := by
  unfold f_X3_nextRow
  simp only [bsm]
  rw [h6, js_3_2]
  unfold f_X3_nextRow_7
  rw [FU_9, loop_end (b := (1 : Int)) (by show f_X3_nextRow_7C σ (1) = _; unfold f_X3_nextRow_7C; simp (disch := omega) only [jl_0_p, jl_0_m, jl_1_p, jl_1_m, jl_2_p, jl_2_m, jl_3_p, jl_3_m, jl_4_p, jl_4_m, jl_5_p, jl_5_m, js_0_1, js_0_2, js_1_1, js_1_2, js_2_1, js_2_2, js_3_1, js_3_2, js_4_1, js_4_2, chk_pos, if_pos, if_neg, bsm, h0, h1, h2])]
  simp only [bsm]
  unfold f_X3_nextRow_34
  rw [if_pos (by decide)]
  simp only [bsm]
  rw [h6, js_3_1]
  unfold f_X3_nextRow_47
  rw [FU_9, loop_end (b := (2 : Int)) (by show f_X3_nextRow_47C σ 1 2 = _; unfold f_X3_nextRow_47C; simp (disch := omega) only [jl_0_p, jl_0_m, jl_1_p, jl_1_m, jl_2_p, jl_2_m, jl_3_p, jl_3_m, jl_4_p, jl_4_m, jl_5_p, jl_5_m, js_0_1, js_0_2, js_1_1, js_1_2, js_2_1, js_2_2, js_3_1, js_3_2, js_4_1, js_4_2, chk_pos, if_pos, if_neg, bsm, h0, h1, h2])]
  simp only [bsm]
  unfold f_X3_nextRow_75
  rw [bind_some' (swapC (by decide) (by decide) h1 h2)]
  obtain ⟨τ1, hτ1⟩ : ∃ z, z = (mup (mup σ 40 1 v2) 40 2 v1) := ⟨_, rfl⟩
  rw [← hτ1]
  simp only [bsm]
  rw [show τ1 36 6 = 3 by rw [hτ1, mup_miss (by omega), mup_miss (by omega), h6], jl_2_p, js_3_1]
  unfold f_X3_nextRow_93
  have a0 : τ1 40 0 = v0 := by rw [hτ1]; simp (disch := omega) only [mup_hit, mup_miss, h0, h1, h2]
  have a1 : τ1 40 1 = v2 := by rw [hτ1]; simp (disch := omega) only [mup_hit, mup_miss, h0, h1, h2]
  have a2 : τ1 40 2 = v1 := by rw [hτ1]; simp (disch := omega) only [mup_hit, mup_miss, h0, h1, h2]
  rw [FU_9, loop_end (b := τ1) (by show f_X3_nextRow_93C 2 2 τ1 = _; unfold f_X3_nextRow_93C; rw [if_pos (by decide)])]
  exact ⟨τ1, rfl, fun x hx => by rw [hτ1, mup_row hx, mup_row hx], a0, a1, a2⟩
theorem nc4_e {σ : Mem} {v0 v1 v2 v3 : Int} (h6 : σ 36 6 = 4) (h0 : σ 40 0 = v0) (h1 : σ 40 1 = v1) (h2 : σ 40 2 = v2) (h3 : σ 40 3 = v3) (d0 : v1 < v0) (d1 : v2 < v1) (d2 : v3 < v2) : f_X3_nextRow σ = some (0, σ) := by
  unfold f_X3_nextRow
  simp only [bsm]
  rw [h6, js_4_2]
  unfold f_X3_nextRow_7
  rw [FU_9, loop_step (a' := (1 : Int)) (by show f_X3_nextRow_7C σ 2 = _; unfold f_X3_nextRow_7C; simp (disch := omega) only [jl_0_p, jl_0_m, jl_1_p, jl_1_m, jl_2_p, jl_2_m, jl_3_p, jl_3_m, jl_4_p, jl_4_m, jl_5_p, jl_5_m, js_0_1, js_0_2, js_1_1, js_1_2, js_2_1, js_2_2, js_3_1, js_3_2, js_4_1, js_4_2, chk_pos, if_pos, if_neg, bsm, h0, h1, h2, h3]), loop_step (a' := (0 : Int)) (by show f_X3_nextRow_7C σ 1 = _; unfold f_X3_nextRow_7C; simp (disch := omega) only [jl_0_p, jl_0_m, jl_1_p, jl_1_m, jl_2_p, jl_2_m, jl_3_p, jl_3_m, jl_4_p, jl_4_m, jl_5_p, jl_5_m, js_0_1, js_0_2, js_1_1, js_1_2, js_2_1, js_2_2, js_3_1, js_3_2, js_4_1, js_4_2, chk_pos, if_pos, if_neg, bsm, h0, h1, h2, h3]), loop_step (a' := (-1 : Int)) (by show f_X3_nextRow_7C σ 0 = _; unfold f_X3_nextRow_7C; simp (disch := omega) only [jl_0_p, jl_0_m, jl_1_p, jl_1_m, jl_2_p, jl_2_m, jl_3_p, jl_3_m, jl_4_p, jl_4_m, jl_5_p, jl_5_m, js_0_1, js_0_2, js_1_1, js_1_2, js_2_1, js_2_2, js_3_1, js_3_2, js_4_1, js_4_2, chk_pos, if_pos, if_neg, bsm, h0, h1, h2, h3]), loop_end (b := (-1 : Int)) (by show f_X3_nextRow_7C σ (-1) = _; unfold f_X3_nextRow_7C; simp (disch := omega) only [jl_0_p, jl_0_m, jl_1_p, jl_1_m, jl_2_p, jl_2_m, jl_3_p, jl_3_m, jl_4_p, jl_4_m, jl_5_p, jl_5_m, js_0_1, js_0_2, js_1_1, js_1_2, js_2_1, js_2_2, js_3_1, js_3_2, js_4_1, js_4_2, chk_pos, if_pos, if_neg, bsm, h0, h1, h2, h3])]
  simp only [bsm]
  unfold f_X3_nextRow_34
  rw [if_neg (by decide)]
theorem nc4_1_1 {σ : Mem} {v0 v1 v2 v3 : Int} (h6 : σ 36 6 = 4) (h0 : σ 40 0 = v0) (h1 : σ 40 1 = v1) (h2 : σ 40 2 = v2) (h3 : σ 40 3 = v3) (d1 : v2 < v1) (d2 : v3 < v2) (u : v0 < v1) (e3 : v3 < v0) (e2 : v2 < v0) : ∃ τ, f_X3_nextRow σ = some (1, τ) ∧ (∀ x, x ≠ 40 → τ x = σ x) ∧ τ 40 0 = v1 ∧ τ 40 1 = v3 ∧ τ 40 2 = v2 ∧ τ 40 3 = v0 := by
  unfold f_X3_nextRow
  simp only [bsm]
  rw [h6, js_4_2]
  unfold f_X3_nextRow_7
  rw [FU_9, loop_step (a' := (1 : Int)) (by show f_X3_nextRow_7C σ 2 = _; unfold f_X3_nextRow_7C; simp (disch := omega) only [jl_0_p, jl_0_m, jl_1_p, jl_1_m, jl_2_p, jl_2_m, jl_3_p, jl_3_m, jl_4_p, jl_4_m, jl_5_p, jl_5_m, js_0_1, js_0_2, js_1_1, js_1_2, js_2_1, js_2_2, js_3_1, js_3_2, js_4_1, js_4_2, chk_pos, if_pos, if_neg, bsm, h0, h1, h2, h3]), loop_step (a' := (0 : Int)) (by show f_X3_nextRow_7C σ 1 = _; unfold f_X3_nextRow_7C; simp (disch := omega) only [jl_0_p, jl_0_m, jl_1_p, jl_1_m, jl_2_p, jl_2_m, jl_3_p, jl_3_m, jl_4_p, jl_4_m, jl_5_p, jl_5_m, js_0_1, js_0_2, js_1_1, js_1_2, js_2_1, js_2_2, js_3_1, js_3_2, js_4_1, js_4_2, chk_pos, if_pos, if_neg, bsm, h0, h1, h2, h3]), loop_end (b := (0 : Int)) (by show f_X3_nextRow_7C σ (0) = _; unfold f_X3_nextRow_7C; simp (disch := omega) only [jl_0_p, jl_0_m, jl_1_p, jl_1_m, jl_2_p, jl_2_m, jl_3_p, jl_3_m, jl_4_p, jl_4_m, jl_5_p, jl_5_m, js_0_1, js_0_2, js_1_1, js_1_2, js_2_1, js_2_2, js_3_1, js_3_2, js_4_1, js_4_2, chk_pos, if_pos, if_neg, bsm, h0, h1, h2, h3])]
  simp only [bsm]
  unfold f_X3_nextRow_34
  rw [if_pos (by decide)]
  simp only [bsm]
  rw [h6, js_4_1]
  unfold f_X3_nextRow_47
  rw [FU_9, loop_step (a' := (2 : Int)) (by show f_X3_nextRow_47C σ 0 3 = _; unfold f_X3_nextRow_47C; simp (disch := omega) only [jl_0_p, jl_0_m, jl_1_p, jl_1_m, jl_2_p, jl_2_m, jl_3_p, jl_3_m, jl_4_p, jl_4_m, jl_5_p, jl_5_m, js_0_1, js_0_2, js_1_1, js_1_2, js_2_1, js_2_2, js_3_1, js_3_2, js_4_1, js_4_2, chk_pos, if_pos, if_neg, bsm, h0, h1, h2, h3]), loop_step (a' := (1 : Int)) (by show f_X3_nextRow_47C σ 0 2 = _; unfold f_X3_nextRow_47C; simp (disch := omega) only [jl_0_p, jl_0_m, jl_1_p, jl_1_m, jl_2_p, jl_2_m, jl_3_p, jl_3_m, jl_4_p, jl_4_m, jl_5_p, jl_5_m, js_0_1, js_0_2, js_1_1, js_1_2, js_2_1, js_2_2, js_3_1, js_3_2, js_4_1, js_4_2, chk_pos, if_pos, if_neg, bsm, h0, h1, h2, h3]), loop_end (b := (1 : Int)) (by show f_X3_nextRow_47C σ 0 1 = _; unfold f_X3_nextRow_47C; simp (disch := omega) only [jl_0_p, jl_0_m, jl_1_p, jl_1_m, jl_2_p, jl_2_m, jl_3_p, jl_3_m, jl_4_p, jl_4_m, jl_5_p, jl_5_m, js_0_1, js_0_2, js_1_1, js_1_2, js_2_1, js_2_2, js_3_1, js_3_2, js_4_1, js_4_2, chk_pos, if_pos, if_neg, bsm, h0, h1, h2, h3])]
  simp only [bsm]
  unfold f_X3_nextRow_75
  rw [bind_some' (swapC (by decide) (by decide) h0 h1)]
  obtain ⟨τ1, hτ1⟩ : ∃ z, z = (mup (mup σ 40 0 v1) 40 1 v0) := ⟨_, rfl⟩
  rw [← hτ1]
  simp only [bsm]
  rw [show τ1 36 6 = 4 by rw [hτ1, mup_miss (by omega), mup_miss (by omega), h6], jl_1_p, js_4_1]
  unfold f_X3_nextRow_93
  have a0 : τ1 40 0 = v1 := by rw [hτ1]; simp (disch := omega) only [mup_hit, mup_miss, h0, h1, h2, h3]
  have a1 : τ1 40 1 = v0 := by rw [hτ1]; simp (disch := omega) only [mup_hit, mup_miss, h0, h1, h2, h3]
  have a2 : τ1 40 2 = v2 := by rw [hτ1]; simp (disch := omega) only [mup_hit, mup_miss, h0, h1, h2, h3]
  have a3 : τ1 40 3 = v3 := by rw [hτ1]; simp (disch := omega) only [mup_hit, mup_miss, h0, h1, h2, h3]
  obtain ⟨τ2, hτ2⟩ : ∃ z, z = mup (mup τ1 40 1 v3) 40 3 v0 := ⟨_, rfl⟩
  have b2_0 : τ2 40 0 = v1 := by rw [hτ2]; simp (disch := omega) only [mup_hit, mup_miss, a0]
  have b2_1 : τ2 40 1 = v3 := by rw [hτ2]; simp (disch := omega) only [mup_hit, mup_miss, a1]
  have b2_2 : τ2 40 2 = v2 := by rw [hτ2]; simp (disch := omega) only [mup_hit, mup_miss, a2]
  have b2_3 : τ2 40 3 = v0 := by rw [hτ2]; simp (disch := omega) only [mup_hit, mup_miss, a3]
  rw [FU_9, loop_step (a' := ((2 : Int), (2 : Int), τ2)) (by show f_X3_nextRow_93C 1 3 τ1 = _; unfold f_X3_nextRow_93C; rw [if_neg (by decide), bind_some' (swapC (by decide) (by decide) a1 a3), jl_2_p, jl_4_m, hτ2]; rfl), loop_end (b := τ2) (by show f_X3_nextRow_93C 2 2 τ2 = _; unfold f_X3_nextRow_93C; rw [if_pos (by decide)])]
  exact ⟨τ2, rfl, fun x hx => by rw [hτ2, mup_row hx, mup_row hx, hτ1, mup_row hx, mup_row hx], b2_0, b2_1, b2_2, b2_3⟩
theorem nc4_1_2 {σ : Mem} {v0 v1 v2 v3 : Int} (h6 : σ 36 6 = 4) (h0 : σ 40 0 = v0) (h1 : σ 40 1 = v1) (h2 : σ 40 2 = v2) (h3 : σ 40 3 = v3) (d1 : v2 < v1) (d2 : v3 < v2) (u : v0 < v1) (e3 : v3 < v0) (g : v0 < v2) : ∃ τ, f_X3_nextRow σ = some (1, τ) ∧ (∀ x, x ≠ 40 → τ x = σ x) ∧ τ 40 0 = v2 ∧ τ 40 1 = v3 ∧ τ 40 2 = v0 ∧ τ 40 3 = v1 := by
  unfold f_X3_nextRow
  simp only [bsm]
  rw [h6, js_4_2]
  unfold f_X3_nextRow_7
  rw [FU_9, loop_step (a' := (1 : Int)) (by show f_X3_nextRow_7C σ 2 = _; unfold f_X3_nextRow_7C; simp (disch := omega) only [jl_0_p, jl_0_m, jl_1_p, jl_1_m, jl_2_p, jl_2_m, jl_3_p, jl_3_m, jl_4_p, jl_4_m, jl_5_p, jl_5_m, js_0_1, js_0_2, js_1_1, js_1_2, js_2_1, js_2_2, js_3_1, js_3_2, js_4_1, js_4_2, chk_pos, if_pos, if_neg, bsm, h0, h1, h2, h3]), loop_step (a' := (0 : Int)) (by show f_X3_nextRow_7C σ 1 = _; unfold f_X3_nextRow_7C; simp (disch := omega) only [jl_0_p, jl_0_m, jl_1_p, jl_1_m, jl_2_p, jl_2_m, jl_3_p, jl_3_m, jl_4_p, jl_4_m, jl_5_p, jl_5_m, js_0_1, js_0_2, js_1_1, js_1_2, js_2_1, js_2_2, js_3_1, js_3_2, js_4_1, js_4_2, chk_pos, if_pos, if_neg, bsm, h0, h1, h2, h3]), loop_end (b := (0 : Int)) (by show f_X3_nextRow_7C σ (0) = _; unfold f_X3_nextRow_7C; simp (disch := omega) only [jl_0_p, jl_0_m, jl_1_p, jl_1_m, jl_2_p, jl_2_m, jl_3_p, jl_3_m, jl_4_p, jl_4_m, jl_5_p, jl_5_m, js_0_1, js_0_2, js_1_1, js_1_2, js_2_1, js_2_2, js_3_1, js_3_2, js_4_1, js_4_2, chk_pos, if_pos, if_neg, bsm, h0, h1, h2, h3])]
  simp only [bsm]
  unfold f_X3_nextRow_34
  rw [if_pos (by decide)]
  simp only [bsm]
  rw [h6, js_4_1]
  unfold f_X3_nextRow_47
  rw [FU_9, loop_step (a' := (2 : Int)) (by show f_X3_nextRow_47C σ 0 3 = _; unfold f_X3_nextRow_47C; simp (disch := omega) only [jl_0_p, jl_0_m, jl_1_p, jl_1_m, jl_2_p, jl_2_m, jl_3_p, jl_3_m, jl_4_p, jl_4_m, jl_5_p, jl_5_m, js_0_1, js_0_2, js_1_1, js_1_2, js_2_1, js_2_2, js_3_1, js_3_2, js_4_1, js_4_2, chk_pos, if_pos, if_neg, bsm, h0, h1, h2, h3]), loop_end (b := (2 : Int)) (by show f_X3_nextRow_47C σ 0 2 = _; unfold f_X3_nextRow_47C; simp (disch := omega) only [jl_0_p, jl_0_m, jl_1_p, jl_1_m, jl_2_p, jl_2_m, jl_3_p, jl_3_m, jl_4_p, jl_4_m, jl_5_p, jl_5_m, js_0_1, js_0_2, js_1_1, js_1_2, js_2_1, js_2_2, js_3_1, js_3_2, js_4_1, js_4_2, chk_pos, if_pos, if_neg, bsm, h0, h1, h2, h3])]
  simp only [bsm]
  unfold f_X3_nextRow_75
  rw [bind_some' (swapC (by decide) (by decide) h0 h2)]
  obtain ⟨τ1, hτ1⟩ : ∃ z, z = (mup (mup σ 40 0 v2) 40 2 v0) := ⟨_, rfl⟩
  rw [← hτ1]
  simp only [bsm]
  rw [show τ1 36 6 = 4 by rw [hτ1, mup_miss (by omega), mup_miss (by omega), h6], jl_1_p, js_4_1]
  unfold f_X3_nextRow_93
  have a0 : τ1 40 0 = v2 := by rw [hτ1]; simp (disch := omega) only [mup_hit, mup_miss, h0, h1, h2, h3]
  have a1 : τ1 40 1 = v1 := by rw [hτ1]; simp (disch := omega) only [mup_hit, mup_miss, h0, h1, h2, h3]
  have a2 : τ1 40 2 = v0 := by rw [hτ1]; simp (disch := omega) only [mup_hit, mup_miss, h0, h1, h2, h3]
  have a3 : τ1 40 3 = v3 := by rw [hτ1]; simp (disch := omega) only [mup_hit, mup_miss, h0, h1, h2, h3]
  obtain ⟨τ2, hτ2⟩ : ∃ z, z = mup (mup τ1 40 1 v3) 40 3 v1 := ⟨_, rfl⟩
  have b2_0 : τ2 40 0 = v2 := by rw [hτ2]; simp (disch := omega) only [mup_hit, mup_miss, a0]
  have b2_1 : τ2 40 1 = v3 := by rw [hτ2]; simp (disch := omega) only [mup_hit, mup_miss, a1]
  have b2_2 : τ2 40 2 = v0 := by rw [hτ2]; simp (disch := omega) only [mup_hit, mup_miss, a2]
  have b2_3 : τ2 40 3 = v1 := by rw [hτ2]; simp (disch := omega) only [mup_hit, mup_miss, a3]
  rw [FU_9, loop_step (a' := ((2 : Int), (2 : Int), τ2)) (by show f_X3_nextRow_93C 1 3 τ1 = _; unfold f_X3_nextRow_93C; rw [if_neg (by decide), bind_some' (swapC (by decide) (by decide) a1 a3), jl_2_p, jl_4_m, hτ2]; rfl), loop_end (b := τ2) (by show f_X3_nextRow_93C 2 2 τ2 = _; unfold f_X3_nextRow_93C; rw [if_pos (by decide)])]
  exact ⟨τ2, rfl, fun x hx => by rw [hτ2, mup_row hx, mup_row hx, hτ1, mup_row hx, mup_row hx], b2_0, b2_1, b2_2, b2_3⟩
theorem nc4_1_3 {σ : Mem} {v0 v1 v2 v3 : Int} (h6 : σ 36 6 = 4) (h0 : σ 40 0 = v0) (h1 : σ 40 1 = v1) (h2 : σ 40 2 = v2) (h3 : σ 40 3 = v3) (d1 : v2 < v1) (d2 : v3 < v2) (u : v0 < v1) (g : v0 < v3) : ∃ τ, f_X3_nextRow σ = some (1, τ) ∧ (∀ x, x ≠ 40 → τ x = σ x) ∧ τ 40 0 = v3 ∧ τ 40 1 = v0 ∧ τ 40 2 = v2 ∧ τ 40 3 = v1 := by
  unfold f_X3_nextRow
  simp only [bsm]
  rw [h6, js_4_2]
  unfold f_X3_nextRow_7
  rw [FU_9, loop_step (a' := (1 : Int)) (by show f_X3_nextRow_7C σ 2 = _; unfold f_X3_nextRow_7C; simp (disch := omega) only [jl_0_p, jl_0_m, jl_1_p, jl_1_m, jl_2_p, jl_2_m, jl_3_p, jl_3_m, jl_4_p, jl_4_m, jl_5_p, jl_5_m, js_0_1, js_0_2, js_1_1, js_1_2, js_2_1, js_2_2, js_3_1, js_3_2, js_4_1, js_4_2, chk_pos, if_pos, if_neg, bsm, h0, h1, h2, h3]), loop_step (a' := (0 : Int)) (by show f_X3_nextRow_7C σ 1 = _; unfold f_X3_nextRow_7C; simp (disch := omega) only [jl_0_p, jl_0_m, jl_1_p, jl_1_m, jl_2_p, jl_2_m, jl_3_p, jl_3_m, jl_4_p, jl_4_m, jl_5_p, jl_5_m, js_0_1, js_0_2, js_1_1, js_1_2, js_2_1, js_2_2, js_3_1, js_3_2, js_4_1, js_4_2, chk_pos, if_pos, if_neg, bsm, h0, h1, h2, h3]), loop_end (b := (0 : Int)) (by show f_X3_nextRow_7C σ (0) = _; unfold f_X3_nextRow_7C; simp (disch := omega) only [jl_0_p, jl_0_m, jl_1_p, jl_1_m, jl_2_p, jl_2_m, jl_3_p, jl_3_m, jl_4_p, jl_4_m, jl_5_p, jl_5_m, js_0_1, js_0_2, js_1_1, js_1_2, js_2_1, js_2_2, js_3_1, js_3_2, js_4_1, js_4_2, chk_pos, if_pos, if_neg, bsm, h0, h1, h2, h3])]
  simp only [bsm]
  unfold f_X3_nextRow_34
  rw [if_pos (by decide)]
  simp only [bsm]
  rw [h6, js_4_1]
  unfold f_X3_nextRow_47
  rw [FU_9, loop_end (b := (3 : Int)) (by show f_X3_nextRow_47C σ 0 3 = _; unfold f_X3_nextRow_47C; simp (disch := omega) only [jl_0_p, jl_0_m, jl_1_p, jl_1_m, jl_2_p, jl_2_m, jl_3_p, jl_3_m, jl_4_p, jl_4_m, jl_5_p, jl_5_m, js_0_1, js_0_2, js_1_1, js_1_2, js_2_1, js_2_2, js_3_1, js_3_2, js_4_1, js_4_2, chk_pos, if_pos, if_neg, bsm, h0, h1, h2, h3])]
  simp only [bsm]
  unfold f_X3_nextRow_75
  rw [bind_some' (swapC (by decide) (by decide) h0 h3)]
  obtain ⟨τ1, hτ1⟩ : ∃ z, z = (mup (mup σ 40 0 v3) 40 3 v0) := ⟨_, rfl⟩
  rw [← hτ1]
  simp only [bsm]
  rw [show τ1 36 6 = 4 by rw [hτ1, mup_miss (by omega), mup_miss (by omega), h6], jl_1_p, js_4_1]
  unfold f_X3_nextRow_93
  have a0 : τ1 40 0 = v3 := by rw [hτ1]; simp (disch := omega) only [mup_hit, mup_miss, h0, h1, h2, h3]
  have a1 : τ1 40 1 = v1 := by rw [hτ1]; simp (disch := omega) only [mup_hit, mup_miss, h0, h1, h2, h3]
  have a2 : τ1 40 2 = v2 := by rw [hτ1]; simp (disch := omega) only [mup_hit, mup_miss, h0, h1, h2, h3]
  have a3 : τ1 40 3 = v0 := by rw [hτ1]; simp (disch := omega) only [mup_hit, mup_miss, h0, h1, h2, h3]
  obtain ⟨τ2, hτ2⟩ : ∃ z, z = mup (mup τ1 40 1 v0) 40 3 v1 := ⟨_, rfl⟩
  have b2_0 : τ2 40 0 = v3 := by rw [hτ2]; simp (disch := omega) only [mup_hit, mup_miss, a0]
  have b2_1 : τ2 40 1 = v0 := by rw [hτ2]; simp (disch := omega) only [mup_hit, mup_miss, a1]
  have b2_2 : τ2 40 2 = v2 := by rw [hτ2]; simp (disch := omega) only [mup_hit, mup_miss, a2]
  have b2_3 : τ2 40 3 = v1 := by rw [hτ2]; simp (disch := omega) only [mup_hit, mup_miss, a3]
  rw [FU_9, loop_step (a' := ((2 : Int), (2 : Int), τ2)) (by show f_X3_nextRow_93C 1 3 τ1 = _; unfold f_X3_nextRow_93C; rw [if_neg (by decide), bind_some' (swapC (by decide) (by decide) a1 a3), jl_2_p, jl_4_m, hτ2]; rfl), loop_end (b := τ2) (by show f_X3_nextRow_93C 2 2 τ2 = _; unfold f_X3_nextRow_93C; rw [if_pos (by decide)])]
  exact ⟨τ2, rfl, fun x hx => by rw [hτ2, mup_row hx, mup_row hx, hτ1, mup_row hx, mup_row hx], b2_0, b2_1, b2_2, b2_3⟩
theorem nc4_2_2 {σ : Mem} {v0 v1 v2 v3 : Int} (h6 : σ 36 6 = 4) (h0 : σ 40 0 = v0) (h1 : σ 40 1 = v1) (h2 : σ 40 2 = v2) (h3 : σ 40 3 = v3) (d2 : v3 < v2) (u : v1 < v2) (e3 : v3 < v1) : ∃ τ, f_X3_nextRow σ = some (1, τ) ∧ (∀ x, x ≠ 40 → τ x = σ x) ∧ τ 40 0 = v0 ∧ τ 40 1 = v2 ∧ τ 40 2 = v3 ∧ τ 40 3 = v1 := by
  unfold f_X3_nextRow
  simp only [bsm]
  rw [h6, js_4_2]
  unfold f_X3_nextRow_7
  rw [FU_9, loop_step (a' := (1 : Int)) (by show f_X3_nextRow_7C σ 2 = _; unfold f_X3_nextRow_7C; simp (disch := omega) only [jl_0_p, jl_0_m, jl_1_p, jl_1_m, jl_2_p, jl_2_m, jl_3_p, jl_3_m, jl_4_p, jl_4_m, jl_5_p, jl_5_m, js_0_1, js_0_2, js_1_1, js_1_2, js_2_1, js_2_2, js_3_1, js_3_2, js_4_1, js_4_2, chk_pos, if_pos, if_neg, bsm, h0, h1, h2, h3]), loop_end (b := (1 : Int)) (by show f_X3_nextRow_7C σ (1) = _; unfold f_X3_nextRow_7C; simp (disch := omega) only [jl_0_p, jl_0_m, jl_1_p, jl_1_m, jl_2_p, jl_2_m, jl_3_p, jl_3_m, jl_4_p, jl_4_m, jl_5_p, jl_5_m, js_0_1, js_0_2, js_1_1, js_1_2, js_2_1, js_2_2, js_3_1, js_3_2, js_4_1, js_4_2, chk_pos, if_pos, if_neg, bsm, h0, h1, h2, h3])]
  simp only [bsm]
  unfold f_X3_nextRow_34
  rw [if_pos (by decide)]
  simp only [bsm]
  rw [h6, js_4_1]
  unfold f_X3_nextRow_47
  rw [FU_9, loop_step (a' := (2 : Int)) (by show f_X3_nextRow_47C σ 1 3 = _; unfold f_X3_nextRow_47C; simp (disch := omega) only [jl_0_p, jl_0_m, jl_1_p, jl_1_m, jl_2_p, jl_2_m, jl_3_p, jl_3_m, jl_4_p, jl_4_m, jl_5_p, jl_5_m, js_0_1, js_0_2, js_1_1, js_1_2, js_2_1, js_2_2, js_3_1, js_3_2, js_4_1, js_4_2, chk_pos, if_pos, if_neg, bsm, h0, h1, h2, h3]), loop_end (b := (2 : Int)) (by show f_X3_nextRow_47C σ 1 2 = _; unfold f_X3_nextRow_47C; simp (disch := omega) only [jl_0_p, jl_0_m, jl_1_p, jl_1_m, jl_2_p, jl_2_m, jl_3_p, jl_3_m, jl_4_p, jl_4_m, jl_5_p, jl_5_m, js_0_1, js_0_2, js_1_1, js_1_2, js_2_1, js_2_2, js_3_1, js_3_2, js_4_1, js_4_2, chk_pos, if_pos, if_neg, bsm, h0, h1, h2, h3])]
  simp only [bsm]
  unfold f_X3_nextRow_75
  rw [bind_some' (swapC (by decide) (by decide) h1 h2)]
  obtain ⟨τ1, hτ1⟩ : ∃ z, z = (mup (mup σ 40 1 v2) 40 2 v1) := ⟨_, rfl⟩
  rw [← hτ1]
  simp only [bsm]
  rw [show τ1 36 6 = 4 by rw [hτ1, mup_miss (by omega), mup_miss (by omega), h6], jl_2_p, js_4_1]
  unfold f_X3_nextRow_93
  have a0 : τ1 40 0 = v0 := by rw [hτ1]; simp (disch := omega) only [mup_hit, mup_miss, h0, h1, h2, h3]
  have a1 : τ1 40 1 = v2 := by rw [hτ1]; simp (disch := omega) only [mup_hit, mup_miss, h0, h1, h2, h3]
  have a2 : τ1 40 2 = v1 := by rw [hτ1]; simp (disch := omega) only [mup_hit, mup_miss, h0, h1, h2, h3]
  have a3 : τ1 40 3 = v3 := by rw [hτ1]; simp (disch := omega) only [mup_hit, mup_miss, h0, h1, h2, h3]
  obtain ⟨τ2, hτ2⟩ : ∃ z, z = mup (mup τ1 40 2 v3) 40 3 v1 := ⟨_, rfl⟩
  have b2_0 : τ2 40 0 = v0 := by rw [hτ2]; simp (disch := omega) only [mup_hit, mup_miss, a0]
  have b2_1 : τ2 40 1 = v2 := by rw [hτ2]; simp (disch := omega) only [mup_hit, mup_miss, a1]
  have b2_2 : τ2 40 2 = v3 := by rw [hτ2]; simp (disch := omega) only [mup_hit, mup_miss, a2]
  have b2_3 : τ2 40 3 = v1 := by rw [hτ2]; simp (disch := omega) only [mup_hit, mup_miss, a3]
  rw [FU_9, loop_step (a' := ((3 : Int), (2 : Int), τ2)) (by show f_X3_nextRow_93C 2 3 τ1 = _; unfold f_X3_nextRow_93C; rw [if_neg (by decide), bind_some' (swapC (by decide) (by decide) a2 a3), jl_3_p, jl_4_m, hτ2]; rfl), loop_end (b := τ2) (by show f_X3_nextRow_93C 3 2 τ2 = _; unfold f_X3_nextRow_93C; rw [if_pos (by decide)])]
  exact ⟨τ2, rfl, fun x hx => by rw [hτ2, mup_row hx, mup_row hx, hτ1, mup_row hx, mup_row hx], b2_0, b2_1, b2_2, b2_3⟩
theorem nc4_2_3 {σ : Mem} {v0 v1 v2 v3 : Int} (h6 : σ 36 6 = 4) (h0 : σ 40 0 = v0) (h1 : σ 40 1 = v1) (h2 : σ 40 2 = v2) (h3 : σ 40 3 = v3) (d2 : v3 < v2) (u : v1 < v2) (g : v1 < v3) : ∃ τ, f_X3_nextRow σ = some (1, τ) ∧ (∀ x, x ≠ 40 → τ x = σ x) ∧ τ 40 0 = v0 ∧ τ 40 1 = v3 ∧ τ 40 2 = v1 ∧ τ 40 3 = v2 := by
  unfold f_X3_nextRow
  simp only [bsm]
  rw [h6, js_4_2]
  unfold f_X3_nextRow_7
  rw [FU_9, loop_step (a' := (1 : Int)) (by show f_X3_nextRow_7C σ 2 = _; unfold f_X3_nextRow_7C; simp (disch := omega) only [jl_0_p, jl_0_m, jl_1_p, jl_1_m, jl_2_p, jl_2_m, jl_3_p, jl_3_m, jl_4_p, jl_4_m, jl_5_p, jl_5_m, js_0_1, js_0_2, js_1_1, js_1_2, js_2_1, js_2_2, js_3_1, js_3_2, js_4_1, js_4_2, chk_pos, if_pos, if_neg, bsm, h0, h1, h2, h3]), loop_end (b := (1 : Int)) (by show f_X3_nextRow_7C σ (1) = _; unfold f_X3_nextRow_7C; simp (disch := omega) only [jl_0_p, jl_0_m, jl_1_p, jl_1_m, jl_2_p, jl_2_m, jl_3_p, jl_3_m, jl_4_p, jl_4_m, jl_5_p, jl_5_m, js_0_1, js_0_2, js_1_1, js_1_2, js_2_1, js_2_2, js_3_1, js_3_2, js_4_1, js_4_2, chk_pos, if_pos, if_neg, bsm, h0, h1, h2, h3])]
  simp only [bsm]
  unfold f_X3_nextRow_34
  rw [if_pos (by decide)]
  simp only [bsm]
  rw [h6, js_4_1]
  unfold f_X3_nextRow_47
  rw [FU_9, loop_end (b := (3 : Int)) (by show f_X3_nextRow_47C σ 1 3 = _; unfold f_X3_nextRow_47C; simp (disch := omega) only [jl_0_p, jl_0_m, jl_1_p, jl_1_m, jl_2_p, jl_2_m, jl_3_p, jl_3_m, jl_4_p, jl_4_m, jl_5_p, jl_5_m, js_0_1, js_0_2, js_1_1, js_1_2, js_2_1, js_2_2, js_3_1, js_3_2, js_4_1, js_4_2, chk_pos, if_pos, if_neg, bsm, h0, h1, h2, h3])]
  simp only [bsm]
  unfold f_X3_nextRow_75
  rw [bind_some' (swapC (by decide) (by decide) h1 h3)]
  obtain ⟨τ1, hτ1⟩ : ∃ z, z = (mup (mup σ 40 1 v3) 40 3 v1) := ⟨_, rfl⟩
  rw [← hτ1]
  simp only [bsm]
  rw [show τ1 36 6 = 4 by rw [hτ1, mup_miss (by omega), mup_miss (by omega), h6], jl_2_p, js_4_1]
  unfold f_X3_nextRow_93
  have a0 : τ1 40 0 = v0 := by rw [hτ1]; simp (disch := omega) only [mup_hit, mup_miss, h0, h1, h2, h3]
  have a1 : τ1 40 1 = v3 := by rw [hτ1]; simp (disch := omega) only [mup_hit, mup_miss, h0, h1, h2, h3]
  have a2 : τ1 40 2 = v2 := by rw [hτ1]; simp (disch := omega) only [mup_hit, mup_miss, h0, h1, h2, h3]
  have a3 : τ1 40 3 = v1 := by rw [hτ1]; simp (disch := omega) only [mup_hit, mup_miss, h0, h1, h2, h3]
  obtain ⟨τ2, hτ2⟩ : ∃ z, z = mup (mup τ1 40 2 v1) 40 3 v2 := ⟨_, rfl⟩
  have b2_0 : τ2 40 0 = v0 := by rw [hτ2]; simp (disch := omega) only [mup_hit, mup_miss, a0]
  have b2_1 : τ2 40 1 = v3 := by rw [hτ2]; simp (disch := omega) only [mup_hit, mup_miss, a1]
  have b2_2 : τ2 40 2 = v1 := by rw [hτ2]; simp (disch := omega) only [mup_hit, mup_miss, a2]
  have b2_3 : τ2 40 3 = v2 := by rw [hτ2]; simp (disch := omega) only [mup_hit, mup_miss, a3]
  rw [FU_9, loop_step (a' := ((3 : Int), (2 : Int), τ2)) (by show f_X3_nextRow_93C 2 3 τ1 = _; unfold f_X3_nextRow_93C; rw [if_neg (by decide), bind_some' (swapC (by decide) (by decide) a2 a3), jl_3_p, jl_4_m, hτ2]; rfl), loop_end (b := τ2) (by show f_X3_nextRow_93C 3 2 τ2 = _; unfold f_X3_nextRow_93C; rw [if_pos (by decide)])]
  exact ⟨τ2, rfl, fun x hx => by rw [hτ2, mup_row hx, mup_row hx, hτ1, mup_row hx, mup_row hx], b2_0, b2_1, b2_2, b2_3⟩
theorem nc4_3_3 {σ : Mem} {v0 v1 v2 v3 : Int} (h6 : σ 36 6 = 4) (h0 : σ 40 0 = v0) (h1 : σ 40 1 = v1) (h2 : σ 40 2 = v2) (h3 : σ 40 3 = v3) (u : v2 < v3) : ∃ τ, f_X3_nextRow σ = some (1, τ) ∧ (∀ x, x ≠ 40 → τ x = σ x) ∧ τ 40 0 = v0 ∧ τ 40 1 = v1 ∧ τ 40 2 = v3 ∧ τ 40 3 = v2 := by
  unfold f_X3_nextRow
  simp only [bsm]
  rw [h6, js_4_2]
  unfold f_X3_nextRow_7
  rw [FU_9, loop_end (b := (2 : Int)) (by show f_X3_nextRow_7C σ (2) = _; unfold f_X3_nextRow_7C; simp (disch := omega) only [jl_0_p, jl_0_m, jl_1_p, jl_1_m, jl_2_p, jl_2_m, jl_3_p, jl_3_m, jl_4_p, jl_4_m, jl_5_p, jl_5_m, js_0_1, js_0_2, js_1_1, js_1_2, js_2_1, js_2_2, js_3_1, js_3_2, js_4_1, js_4_2, chk_pos, if_pos, if_neg, bsm, h0, h1, h2, h3])]
  simp only [bsm]
  unfold f_X3_nextRow_34
  rw [if_pos (by decide)]
  simp only [bsm]
  rw [h6, js_4_1]
  unfold f_X3_nextRow_47
  rw [FU_9, loop_end (b := (3 : Int)) (by show f_X3_nextRow_47C σ 2 3 = _; unfold f_X3_nextRow_47C; simp (disch := omega) only [jl_0_p, jl_0_m, jl_1_p, jl_1_m, jl_2_p, jl_2_m, jl_3_p, jl_3_m, jl_4_p, jl_4_m, jl_5_p, jl_5_m, js_0_1, js_0_2, js_1_1, js_1_2, js_2_1, js_2_2, js_3_1, js_3_2, js_4_1, js_4_2, chk_pos, if_pos, if_neg, bsm, h0, h1, h2, h3])]
  simp only [bsm]
  unfold f_X3_nextRow_75
  rw [bind_some' (swapC (by decide) (by decide) h2 h3)]
  obtain ⟨τ1, hτ1⟩ : ∃ z, z = (mup (mup σ 40 2 v3) 40 3 v2) := ⟨_, rfl⟩
  rw [← hτ1]
  simp only [bsm]
  rw [show τ1 36 6 = 4 by rw [hτ1, mup_miss (by omega), mup_miss (by omega), h6], jl_3_p, js_4_1]
  unfold f_X3_nextRow_93
  have a0 : τ1 40 0 = v0 := by rw [hτ1]; simp (disch := omega) only [mup_hit, mup_miss, h0, h1, h2, h3]
  have a1 : τ1 40 1 = v1 := by rw [hτ1]; simp (disch := omega) only [mup_hit, mup_miss, h0, h1, h2, h3]
  have a2 : τ1 40 2 = v3 := by rw [hτ1]; simp (disch := omega) only [mup_hit, mup_miss, h0, h1, h2, h3]
  have a3 : τ1 40 3 = v2 := by rw [hτ1]; simp (disch := omega) only [mup_hit, mup_miss, h0, h1, h2, h3]
  rw [FU_9, loop_end (b := τ1) (by show f_X3_nextRow_93C 3 3 τ1 = _; unfold f_X3_nextRow_93C; rw [if_pos (by decide)])]
  exact ⟨τ1, rfl, fun x hx => by rw [hτ1, mup_row hx, mup_row hx], a0, a1, a2, a3⟩
theorem X3_next {σ : Mem} {n i : Nat} (hn : n ≤ 4) (hi : i < (PT n).length) (h6 : σ 36 6 = (n : Int)) (hl : ∀ k : Nat, k < n → σ 40 k = ((((PT n).getD i []).getD k 0 : Nat) : Int)) : ∃ r τ, f_X3_nextRow σ = some (r, τ) ∧ (∀ x, x ≠ 40 → τ x = σ x) ∧ (i + 1 < (PT n).length → r = 1 ∧ ∀ k : Nat, k < n → τ 40 k = ((((PT n).getD (i + 1) []).getD k 0 : Nat) : Int)) ∧ (¬ i + 1 < (PT n).length → r = 0) := by
  match n, hn, i, hi with
  | 0, _, 0, _ =>
    exact ⟨0, σ, nc0_e h6  , fun _ _ => rfl, fun h => absurd h (by decide), fun _ => rfl⟩
  | 1, _, 0, _ =>
    have h0 : σ 40 0 = 0 := hl 0 (by decide)
    exact ⟨0, σ, nc1_e h6 h0 , fun _ _ => rfl, fun h => absurd h (by decide), fun _ => rfl⟩
  | 2, _, 0, _ =>
    have h0 : σ 40 0 = 0 := hl 0 (by decide)
    have h1 : σ 40 1 = 1 := hl 1 (by decide)
    obtain ⟨τ, z1, z2, e0, e1⟩ := nc2_1_1 h6 h0 h1 (by omega)
    refine ⟨1, τ, z1, z2, fun _ => ⟨rfl, fun k hk => ?_⟩, fun h => absurd (by decide) h⟩
    match k, hk with
    | 0, _ => exact e0
    | 1, _ => exact e1
    | k + 2, hk => omega
  | 2, _, 1, _ =>
    have h0 : σ 40 0 = 1 := hl 0 (by decide)
    have h1 : σ 40 1 = 0 := hl 1 (by decide)
    exact ⟨0, σ, nc2_e h6 h0 h1 (by omega), fun _ _ => rfl, fun h => absurd h (by decide), fun _ => rfl⟩
  | 3, _, 0, _ =>
    have h0 : σ 40 0 = 0 := hl 0 (by decide)
    have h1 : σ 40 1 = 1 := hl 1 (by decide)
    have h2 : σ 40 2 = 2 := hl 2 (by decide)
    obtain ⟨τ, z1, z2, e0, e1, e2⟩ := nc3_2_2 h6 h0 h1 h2 (by omega)
    refine ⟨1, τ, z1, z2, fun _ => ⟨rfl, fun k hk => ?_⟩, fun h => absurd (by decide) h⟩
    match k, hk with
    | 0, _ => exact e0
    | 1, _ => exact e1
    | 2, _ => exact e2
    | k + 3, hk => omega
  | 3, _, 1, _ =>
    have h0 : σ 40 0 = 0 := hl 0 (by decide)
    have h1 : σ 40 1 = 2 := hl 1 (by decide)
    have h2 : σ 40 2 = 1 := hl 2 (by decide)
    obtain ⟨τ, z1, z2, e0, e1, e2⟩ := nc3_1_2 h6 h0 h1 h2 (by omega) (by omega) (by omega)
    refine ⟨1, τ, z1, z2, fun _ => ⟨rfl, fun k hk => ?_⟩, fun h => absurd (by decide) h⟩
    match k, hk with
    | 0, _ => exact e0
    | 1, _ => exact e1
    | 2, _ => exact e2
    | k + 3, hk => omega
  | 3, _, 2, _ =>
    have h0 : σ 40 0 = 1 := hl 0 (by decide)
    have h1 : σ 40 1 = 0 := hl 1 (by decide)
    have h2 : σ 40 2 = 2 := hl 2 (by decide)
    obtain ⟨τ, z1, z2, e0, e1, e2⟩ := nc3_2_2 h6 h0 h1 h2 (by omega)
    refine ⟨1, τ, z1, z2, fun _ => ⟨rfl, fun k hk => ?_⟩, fun h => absurd (by decide) h⟩
    match k, hk with
    | 0, _ => exact e0
    | 1, _ => exact e1
    | 2, _ => exact e2
    | k + 3, hk => omega
  | 3, _, 3, _ =>
    have h0 : σ 40 0 = 1 := hl 0 (by decide)
    have h1 : σ 40 1 = 2 := hl 1 (by decide)
    have h2 : σ 40 2 = 0 := hl 2 (by decide)
    obtain ⟨τ, z1, z2, e0, e1, e2⟩ := nc3_1_1 h6 h0 h1 h2 (by omega) (by omega) (by omega)
    refine ⟨1, τ, z1, z2, fun _ => ⟨rfl, fun k hk => ?_⟩, fun h => absurd (by decide) h⟩
    match k, hk with
    | 0, _ => exact e0
    | 1, _ => exact e1
    | 2, _ => exact e2
    | k + 3, hk => omega
  | 3, _, 4, _ =>
    have h0 : σ 40 0 = 2 := hl 0 (by decide)
    have h1 : σ 40 1 = 0 := hl 1 (by decide)
    have h2 : σ 40 2 = 1 := hl 2 (by decide)
    obtain ⟨τ, z1, z2, e0, e1, e2⟩ := nc3_2_2 h6 h0 h1 h2 (by omega)
    refine ⟨1, τ, z1, z2, fun _ => ⟨rfl, fun k hk => ?_⟩, fun h => absurd (by decide) h⟩
    match k, hk with
    | 0, _ => exact e0
    | 1, _ => exact e1
    | 2, _ => exact e2
    | k + 3, hk => omega
  | 3, _, 5, _ =>
    have h0 : σ 40 0 = 2 := hl 0 (by decide)
    have h1 : σ 40 1 = 1 := hl 1 (by decide)
    have h2 : σ 40 2 = 0 := hl 2 (by decide)
    exact ⟨0, σ, nc3_e h6 h0 h1 h2 (by omega) (by omega), fun _ _ => rfl, fun h => absurd h (by decide), fun _ => rfl⟩
  | 4, _, 0, _ =>
    have h0 : σ 40 0 = 0 := hl 0 (by decide)
    have h1 : σ 40 1 = 1 := hl 1 (by decide)
    have h2 : σ 40 2 = 2 := hl 2 (by decide)
    have h3 : σ 40 3 = 3 := hl 3 (by decide)
    obtain ⟨τ, z1, z2, e0, e1, e2, e3⟩ := nc4_3_3 h6 h0 h1 h2 h3 (by omega)
    refine ⟨1, τ, z1, z2, fun _ => ⟨rfl, fun k hk => ?_⟩, fun h => absurd (by decide) h⟩
    match k, hk with
    | 0, _ => exact e0
    | 1, _ => exact e1
    | 2, _ => exact e2
    | 3, _ => exact e3
    | k + 4, hk => omega
  | 4, _, 1, _ =>
    have h0 : σ 40 0 = 0 := hl 0 (by decide)
    have h1 : σ 40 1 = 1 := hl 1 (by decide)
    have h2 : σ 40 2 = 3 := hl 2 (by decide)
    have h3 : σ 40 3 = 2 := hl 3 (by decide)
    obtain ⟨τ, z1, z2, e0, e1, e2, e3⟩ := nc4_2_3 h6 h0 h1 h2 h3 (by omega) (by omega) (by omega)
    refine ⟨1, τ, z1, z2, fun _ => ⟨rfl, fun k hk => ?_⟩, fun h => absurd (by decide) h⟩
    match k, hk with
    | 0, _ => exact e0
    | 1, _ => exact e1
    | 2, _ => exact e2
    | 3, _ => exact e3
    | k + 4, hk => omega
  | 4, _, 2, _ =>
    have h0 : σ 40 0 = 0 := hl 0 (by decide)
    have h1 : σ 40 1 = 2 := hl 1 (by decide)
    have h2 : σ 40 2 = 1 := hl 2 (by decide)
    have h3 : σ 40 3 = 3 := hl 3 (by decide)
    obtain ⟨τ, z1, z2, e0, e1, e2, e3⟩ := nc4_3_3 h6 h0 h1 h2 h3 (by omega)
    refine ⟨1, τ, z1, z2, fun _ => ⟨rfl, fun k hk => ?_⟩, fun h => absurd (by decide) h⟩
    match k, hk with
    | 0, _ => exact e0
    | 1, _ => exact e1
    | 2, _ => exact e2
    | 3, _ => exact e3
    | k + 4, hk => omega
  | 4, _, 3, _ =>
    have h0 : σ 40 0 = 0 := hl 0 (by decide)
    have h1 : σ 40 1 = 2 := hl 1 (by decide)
    have h2 : σ 40 2 = 3 := hl 2 (by decide)
    have h3 : σ 40 3 = 1 := hl 3 (by decide)
    obtain ⟨τ, z1, z2, e0, e1, e2, e3⟩ := nc4_2_2 h6 h0 h1 h2 h3 (by omega) (by omega) (by omega)
    refine ⟨1, τ, z1, z2, fun _ => ⟨rfl, fun k hk => ?_⟩, fun h => absurd (by decide) h⟩
    match k, hk with
    | 0, _ => exact e0
    | 1, _ => exact e1
    | 2, _ => exact e2
    | 3, _ => exact e3
    | k + 4, hk => omega
  | 4, _, 4, _ =>
    have h0 : σ 40 0 = 0 := hl 0 (by decide)
    have h1 : σ 40 1 = 3 := hl 1 (by decide)
    have h2 : σ 40 2 = 1 := hl 2 (by decide)
    have h3 : σ 40 3 = 2 := hl 3 (by decide)
    obtain ⟨τ, z1, z2, e0, e1, e2, e3⟩ := nc4_3_3 h6 h0 h1 h2 h3 (by omega)
    refine ⟨1, τ, z1, z2, fun _ => ⟨rfl, fun k hk => ?_⟩, fun h => absurd (by decide) h⟩
    match k, hk with
    | 0, _ => exact e0
    | 1, _ => exact e1
    | 2, _ => exact e2
    | 3, _ => exact e3
    | k + 4, hk => omega
  | 4, _, 5, _ =>
    have h0 : σ 40 0 = 0 := hl 0 (by decide)
    have h1 : σ 40 1 = 3 := hl 1 (by decide)
    have h2 : σ 40 2 = 2 := hl 2 (by decide)
    have h3 : σ 40 3 = 1 := hl 3 (by decide)
    obtain ⟨τ, z1, z2, e0, e1, e2, e3⟩ := nc4_1_3 h6 h0 h1 h2 h3 (by omega) (by omega) (by omega) (by omega)
    refine ⟨1, τ, z1, z2, fun _ => ⟨rfl, fun k hk => ?_⟩, fun h => absurd (by decide) h⟩
    match k, hk with
    | 0, _ => exact e0
    | 1, _ => exact e1
    | 2, _ => exact e2
    | 3, _ => exact e3
    | k + 4, hk => omega
  | 4, _, 6, _ =>
    have h0 : σ 40 0 = 1 := hl 0 (by decide)
    have h1 : σ 40 1 = 0 := hl 1 (by decide)
    have h2 : σ 40 2 = 2 := hl 2 (by decide)
    have h3 : σ 40 3 = 3 := hl 3 (by decide)
    obtain ⟨τ, z1, z2, e0, e1, e2, e3⟩ := nc4_3_3 h6 h0 h1 h2 h3 (by omega)
    refine ⟨1, τ, z1, z2, fun _ => ⟨rfl, fun k hk => ?_⟩, fun h => absurd (by decide) h⟩
    match k, hk with
    | 0, _ => exact e0
    | 1, _ => exact e1
    | 2, _ => exact e2
    | 3, _ => exact e3
    | k + 4, hk => omega
  | 4, _, 7, _ =>
    have h0 : σ 40 0 = 1 := hl 0 (by decide)
    have h1 : σ 40 1 = 0 := hl 1 (by decide)
    have h2 : σ 40 2 = 3 := hl 2 (by decide)
    have h3 : σ 40 3 = 2 := hl 3 (by decide)
    obtain ⟨τ, z1, z2, e0, e1, e2, e3⟩ := nc4_2_3 h6 h0 h1 h2 h3 (by omega) (by omega) (by omega)
    refine ⟨1, τ, z1, z2, fun _ => ⟨rfl, fun k hk => ?_⟩, fun h => absurd (by decide) h⟩
    match k, hk with
    | 0, _ => exact e0
    | 1, _ => exact e1
    | 2, _ => exact e2
    | 3, _ => exact e3
    | k + 4, hk => omega
  | 4, _, 8, _ =>
    have h0 : σ 40 0 = 1 := hl 0 (by decide)
    have h1 : σ 40 1 = 2 := hl 1 (by decide)
    have h2 : σ 40 2 = 0 := hl 2 (by decide)
    have h3 : σ 40 3 = 3 := hl 3 (by decide)
    obtain ⟨τ, z1, z2, e0, e1, e2, e3⟩ := nc4_3_3 h6 h0 h1 h2 h3 (by omega)
    refine ⟨1, τ, z1, z2, fun _ => ⟨rfl, fun k hk => ?_⟩, fun h => absurd (by decide) h⟩
    match k, hk with
    | 0, _ => exact e0
    | 1, _ => exact e1
    | 2, _ => exact e2
    | 3, _ => exact e3
    | k + 4, hk => omega
  | 4, _, 9, _ =>
    have h0 : σ 40 0 = 1 := hl 0 (by decide)
    have h1 : σ 40 1 = 2 := hl 1 (by decide)
    have h2 : σ 40 2 = 3 := hl 2 (by decide)
    have h3 : σ 40 3 = 0 := hl 3 (by decide)
    obtain ⟨τ, z1, z2, e0, e1, e2, e3⟩ := nc4_2_2 h6 h0 h1 h2 h3 (by omega) (by omega) (by omega)
    refine ⟨1, τ, z1, z2, fun _ => ⟨rfl, fun k hk => ?_⟩, fun h => absurd (by decide) h⟩
    match k, hk with
    | 0, _ => exact e0
    | 1, _ => exact e1
    | 2, _ => exact e2
    | 3, _ => exact e3
    | k + 4, hk => omega
  | 4, _, 10, _ =>
    have h0 : σ 40 0 = 1 := hl 0 (by decide)
    have h1 : σ 40 1 = 3 := hl 1 (by decide)
    have h2 : σ 40 2 = 0 := hl 2 (by decide)
    have h3 : σ 40 3 = 2 := hl 3 (by decide)
    obtain ⟨τ, z1, z2, e0, e1, e2, e3⟩ := nc4_3_3 h6 h0 h1 h2 h3 (by omega)
    refine ⟨1, τ, z1, z2, fun _ => ⟨rfl, fun k hk => ?_⟩, fun h => absurd (by decide) h⟩
    match k, hk with
    | 0, _ => exact e0
    | 1, _ => exact e1
    | 2, _ => exact e2
    | 3, _ => exact e3
    | k + 4, hk => omega
  | 4, _, 11, _ =>
    have h0 : σ 40 0 = 1 := hl 0 (by decide)
    have h1 : σ 40 1 = 3 := hl 1 (by decide)
    have h2 : σ 40 2 = 2 := hl 2 (by decide)
    have h3 : σ 40 3 = 0 := hl 3 (by decide)
    obtain ⟨τ, z1, z2, e0, e1, e2, e3⟩ := nc4_1_2 h6 h0 h1 h2 h3 (by omega) (by omega) (by omega) (by omega) (by omega)
    refine ⟨1, τ, z1, z2, fun _ => ⟨rfl, fun k hk => ?_⟩, fun h => absurd (by decide) h⟩
    match k, hk with
    | 0, _ => exact e0
    | 1, _ => exact e1
    | 2, _ => exact e2
    | 3, _ => exact e3
    | k + 4, hk => omega
  | 4, _, 12, _ =>
    have h0 : σ 40 0 = 2 := hl 0 (by decide)
    have h1 : σ 40 1 = 0 := hl 1 (by decide)
    have h2 : σ 40 2 = 1 := hl 2 (by decide)
    have h3 : σ 40 3 = 3 := hl 3 (by decide)
    obtain ⟨τ, z1, z2, e0, e1, e2, e3⟩ := nc4_3_3 h6 h0 h1 h2 h3 (by omega)
    refine ⟨1, τ, z1, z2, fun _ => ⟨rfl, fun k hk => ?_⟩, fun h => absurd (by decide) h⟩
    match k, hk with
    | 0, _ => exact e0
    | 1, _ => exact e1
    | 2, _ => exact e2
    | 3, _ => exact e3
    | k + 4, hk => omega
  | 4, _, 13, _ =>
    have h0 : σ 40 0 = 2 := hl 0 (by decide)
    have h1 : σ 40 1 = 0 := hl 1 (by decide)
    have h2 : σ 40 2 = 3 := hl 2 (by decide)
    have h3 : σ 40 3 = 1 := hl 3 (by decide)
    obtain ⟨τ, z1, z2, e0, e1, e2, e3⟩ := nc4_2_3 h6 h0 h1 h2 h3 (by omega) (by omega) (by omega)
    refine ⟨1, τ, z1, z2, fun _ => ⟨rfl, fun k hk => ?_⟩, fun h => absurd (by decide) h⟩
    match k, hk with
    | 0, _ => exact e0
    | 1, _ => exact e1
    | 2, _ => exact e2
    | 3, _ => exact e3
    | k + 4, hk => omega
  | 4, _, 14, _ =>
    have h0 : σ 40 0 = 2 := hl 0 (by decide)
    have h1 : σ 40 1 = 1 := hl 1 (by decide)
    have h2 : σ 40 2 = 0 := hl 2 (by decide)
    have h3 : σ 40 3 = 3 := hl 3 (by decide)
    obtain ⟨τ, z1, z2, e0, e1, e2, e3⟩ := nc4_3_3 h6 h0 h1 h2 h3 (by omega)
    refine ⟨1, τ, z1, z2, fun _ => ⟨rfl, fun k hk => ?_⟩, fun h => absurd (by decide) h⟩
    match k, hk with
    | 0, _ => exact e0
    | 1, _ => exact e1
    | 2, _ => exact e2
    | 3, _ => exact e3
    | k + 4, hk => omega
  | 4, _, 15, _ =>
    have h0 : σ 40 0 = 2 := hl 0 (by decide)
    have h1 : σ 40 1 = 1 := hl 1 (by decide)
    have h2 : σ 40 2 = 3 := hl 2 (by decide)
    have h3 : σ 40 3 = 0 := hl 3 (by decide)
    obtain ⟨τ, z1, z2, e0, e1, e2, e3⟩ := nc4_2_2 h6 h0 h1 h2 h3 (by omega) (by omega) (by omega)
    refine ⟨1, τ, z1, z2, fun _ => ⟨rfl, fun k hk => ?_⟩, fun h => absurd (by decide) h⟩
    match k, hk with
    | 0, _ => exact e0
    | 1, _ => exact e1
    | 2, _ => exact e2
    | 3, _ => exact e3
    | k + 4, hk => omega
  | 4, _, 16, _ =>
    have h0 : σ 40 0 = 2 := hl 0 (by decide)
    have h1 : σ 40 1 = 3 := hl 1 (by decide)
    have h2 : σ 40 2 = 0 := hl 2 (by decide)
    have h3 : σ 40 3 = 1 := hl 3 (by decide)
    obtain ⟨τ, z1, z2, e0, e1, e2, e3⟩ := nc4_3_3 h6 h0 h1 h2 h3 (by omega)
    refine ⟨1, τ, z1, z2, fun _ => ⟨rfl, fun k hk => ?_⟩, fun h => absurd (by decide) h⟩
    match k, hk with
    | 0, _ => exact e0
    | 1, _ => exact e1
    | 2, _ => exact e2
    | 3, _ => exact e3
    | k + 4, hk => omega
  | 4, _, 17, _ =>
    have h0 : σ 40 0 = 2 := hl 0 (by decide)
    have h1 : σ 40 1 = 3 := hl 1 (by decide)
    have h2 : σ 40 2 = 1 := hl 2 (by decide)
    have h3 : σ 40 3 = 0 := hl 3 (by decide)
    obtain ⟨τ, z1, z2, e0, e1, e2, e3⟩ := nc4_1_1 h6 h0 h1 h2 h3 (by omega) (by omega) (by omega) (by omega) (by omega)
    refine ⟨1, τ, z1, z2, fun _ => ⟨rfl, fun k hk => ?_⟩, fun h => absurd (by decide) h⟩
    match k, hk with
    | 0, _ => exact e0
    | 1, _ => exact e1
    | 2, _ => exact e2
    | 3, _ => exact e3
    | k + 4, hk => omega
  | 4, _, 18, _ =>
    have h0 : σ 40 0 = 3 := hl 0 (by decide)
    have h1 : σ 40 1 = 0 := hl 1 (by decide)
    have h2 : σ 40 2 = 1 := hl 2 (by decide)
    have h3 : σ 40 3 = 2 := hl 3 (by decide)
    obtain ⟨τ, z1, z2, e0, e1, e2, e3⟩ := nc4_3_3 h6 h0 h1 h2 h3 (by omega)
    refine ⟨1, τ, z1, z2, fun _ => ⟨rfl, fun k hk => ?_⟩, fun h => absurd (by decide) h⟩
    match k, hk with
    | 0, _ => exact e0
    | 1, _ => exact e1
    | 2, _ => exact e2
    | 3, _ => exact e3
    | k + 4, hk => omega
  | 4, _, 19, _ =>
    have h0 : σ 40 0 = 3 := hl 0 (by decide)
    have h1 : σ 40 1 = 0 := hl 1 (by decide)
    have h2 : σ 40 2 = 2 := hl 2 (by decide)
    have h3 : σ 40 3 = 1 := hl 3 (by decide)
    obtain ⟨τ, z1, z2, e0, e1, e2, e3⟩ := nc4_2_3 h6 h0 h1 h2 h3 (by omega) (by omega) (by omega)
    refine ⟨1, τ, z1, z2, fun _ => ⟨rfl, fun k hk => ?_⟩, fun h => absurd (by decide) h⟩
    match k, hk with
    | 0, _ => exact e0
    | 1, _ => exact e1
    | 2, _ => exact e2
    | 3, _ => exact e3
    | k + 4, hk => omega
  | 4, _, 20, _ =>
    have h0 : σ 40 0 = 3 := hl 0 (by decide)
    have h1 : σ 40 1 = 1 := hl 1 (by decide)
    have h2 : σ 40 2 = 0 := hl 2 (by decide)
    have h3 : σ 40 3 = 2 := hl 3 (by decide)
    obtain ⟨τ, z1, z2, e0, e1, e2, e3⟩ := nc4_3_3 h6 h0 h1 h2 h3 (by omega)
    refine ⟨1, τ, z1, z2, fun _ => ⟨rfl, fun k hk => ?_⟩, fun h => absurd (by decide) h⟩
    match k, hk with
    | 0, _ => exact e0
    | 1, _ => exact e1
    | 2, _ => exact e2
    | 3, _ => exact e3
    | k + 4, hk => omega
  | 4, _, 21, _ =>
    have h0 : σ 40 0 = 3 := hl 0 (by decide)
    have h1 : σ 40 1 = 1 := hl 1 (by decide)
    have h2 : σ 40 2 = 2 := hl 2 (by decide)
    have h3 : σ 40 3 = 0 := hl 3 (by decide)
    obtain ⟨τ, z1, z2, e0, e1, e2, e3⟩ := nc4_2_2 h6 h0 h1 h2 h3 (by omega) (by omega) (by omega)
    refine ⟨1, τ, z1, z2, fun _ => ⟨rfl, fun k hk => ?_⟩, fun h => absurd (by decide) h⟩
    match k, hk with
    | 0, _ => exact e0
    | 1, _ => exact e1
    | 2, _ => exact e2
    | 3, _ => exact e3
    | k + 4, hk => omega
  | 4, _, 22, _ =>
    have h0 : σ 40 0 = 3 := hl 0 (by decide)
    have h1 : σ 40 1 = 2 := hl 1 (by decide)
    have h2 : σ 40 2 = 0 := hl 2 (by decide)
    have h3 : σ 40 3 = 1 := hl 3 (by decide)
    obtain ⟨τ, z1, z2, e0, e1, e2, e3⟩ := nc4_3_3 h6 h0 h1 h2 h3 (by omega)
    refine ⟨1, τ, z1, z2, fun _ => ⟨rfl, fun k hk => ?_⟩, fun h => absurd (by decide) h⟩
    match k, hk with
    | 0, _ => exact e0
    | 1, _ => exact e1
    | 2, _ => exact e2
    | 3, _ => exact e3
    | k + 4, hk => omega
  | 4, _, 23, _ =>
    have h0 : σ 40 0 = 3 := hl 0 (by decide)
    have h1 : σ 40 1 = 2 := hl 1 (by decide)
    have h2 : σ 40 2 = 1 := hl 2 (by decide)
    have h3 : σ 40 3 = 0 := hl 3 (by decide)
    exact ⟨0, σ, nc4_e h6 h0 h1 h2 h3 (by omega) (by omega) (by omega), fun _ _ => rfl, fun h => absurd h (by decide), fun _ => rfl⟩
  | 0, _, i + 1, hi => exact absurd hi (by simp [PT])
  | 1, _, i + 1, hi => exact absurd hi (by simp [PT])
  | 2, _, i + 2, hi => exact absurd hi (by simp [PT])
  | 3, _, i + 6, hi => exact absurd hi (by simp [PT])
  | 4, _, i + 24, hi => exact absurd hi (by simp [PT])
  | n + 5, hn, _, _ => omega