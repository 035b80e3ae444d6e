/-! A DAY'S PLAN, as the law reads it -/
theorem PT_all : ∀ n, n ≤ 4 → ∀ l ∈ PT n, ∀ i, i < n → ∃ k, k < n ∧ l.getD k 0 = i := by decide +kernel
/-- the sum over an order is the sum over the papers -/
def lsq (B : Bk) (c : Int) (q : Nat → Nat) : Nat → Int
  | 0 => 0
  | k + 1 => lsq B c q k + tm B c (q k)
def smg (g : Nat → Int) : Nat → Int
  | 0 => 0
  | k + 1 => smg g k + g k
theorem smg_perm (g : Nat → Int) : ∀ n, n ≤ 4 → ∀ l ∈ PT n, smg (fun k => g (l.getD k 0)) n = smg g n := by
  intro n hn l hl
  have h5 : n = 0 ∨ n = 1 ∨ n = 2 ∨ n = 3 ∨ n = 4 := by omega
  rcases h5 with rfl | rfl | rfl | rfl | rfl
  · rfl
  · simp only [PT, List.mem_cons, List.not_mem_nil, or_false] at hl
    subst hl
    rfl
  · simp only [PT, List.mem_cons, List.not_mem_nil, or_false] at hl
    rcases hl with rfl | rfl <;> simp [smg, List.getD] <;> omega
  · simp only [PT, List.mem_cons, List.not_mem_nil, or_false] at hl
    rcases hl with rfl | rfl | rfl | rfl | rfl | rfl <;> simp [smg, List.getD] <;> omega
  · simp only [PT, List.mem_cons, List.not_mem_nil, or_false] at hl
    rcases hl with rfl | rfl | rfl | rfl | rfl | rfl | rfl | rfl | rfl | rfl | rfl | rfl | rfl | rfl | rfl | rfl | rfl | rfl | rfl | rfl | rfl | rfl | rfl | rfl <;> simp [smg, List.getD] <;> omega
theorem lsq_g (B : Bk) (c : Int) (q : Nat → Nat) : ∀ n, lsq B c q n = smg (fun k => tm B c (q k)) n
  | 0 => rfl
  | n + 1 => by show lsq B c q n + _ = smg _ n + _; rw [lsq_g B c q n]
theorem smt_g (B : Bk) (c : Int) (m : Nat) : ∀ n, smt B c m n = smg (fun k => tm B c (nth m k)) n
  | 0 => rfl
  | n + 1 => by show smt B c m n + _ = smg _ n + _; rw [smt_g B c m n]
theorem lsq_smt {B : Bk} {c : Int} {m : Nat} (h4 : nof m ≤ 4) {l : List Nat} (hl : l ∈ PT (nof m)) : lsq B c (lq m l) (nof m) = smt B c m (nof m) := by
  rw [lsq_g, smt_g]
  exact smg_perm (fun k => tm B c (nth m k)) _ h4 l hl
theorem lq_all {m : Nat} (hm : m < 4096) (h4 : nof m ≤ 4) {l : List Nat} (hl : l ∈ PT (nof m)) {p : Nat} (h : m.testBit p = true) : ∃ k, k < nof m ∧ lq m l k = p := by
  have hp : p < 12 := by
    refine Nat.not_le.mp fun q => ?_
    have := Nat.testBit_lt_two_pow (x := m) (i := p) (Nat.lt_of_lt_of_le (show m < 2 ^ 12 from hm) (Nat.pow_le_pow_right (by decide) q))
    rw [this] at h
    cases h
  have h1 := nth_at hp h
  have h2 : cnt (fun i => m.testBit i) p < nof m := cnt_lt hp h
  obtain ⟨k, k1, k2⟩ := PT_all _ h4 l hl _ h2
  refine ⟨k, k1, ?_⟩
  unfold lq
  rw [k2, h1]
/-- what is left of a day's papers behind the first k -/
def lfM (a : Nat) (q : Nat → Nat) : Nat → Nat
  | 0 => a
  | k + 1 => clr (lfM a q k) (q k)
theorem lfM_lt {a : Nat} (h : a < 4096) (q : Nat → Nat) : ∀ k, lfM a q k < 4096
  | 0 => h
  | k + 1 => clr_lt (k := 12) (lfM_lt h q k)
theorem lfM_tb (a : Nat) (q : Nat → Nat) (i : Nat) : ∀ k, (lfM a q k).testBit i = (a.testBit i && !anyN (fun j => decide (i = q j)) k)
  | 0 => by show a.testBit i = _; simp [anyN]
  | k + 1 => by
    show (clr (lfM a q k) (q k)).testBit i = _
    rw [clr_tb, lfM_tb a q i k, anyN_s]
    cases a.testBit i <;> cases anyN (fun j => decide (i = q j)) k <;> simp
theorem ovf_tm {B : Bk} {c f : Int} {a m : Nat} : ∀ {n : Nat} {v o : Int} {m' : Nat} {l : List Nat}, ovf B c f a m none n = some (v, (o, m', l)) → tm B c o ≤ B 8 3
  | 0, v, o, m', l, h => by cases h
  | n + 1, v, o, m', l, h => by
    have h : (if m.testBit n && decide (tm B c n ≤ B 8 3) then bst (lwD B c f a) (msD B c f a) (its n (clr m n)) (ovf B c f a m none n) else ovf B c f a m none n) = some (v, (o, m', l)) := h
    split at h
    · rename_i hc
      rcases bst_in h with h1 | ⟨h1, -, -⟩
      · exact ovf_tm h1
      · unfold its at h1
        obtain ⟨x, -, hx⟩ := List.mem_map.mp h1
        cases hx
        simp at hc
        exact hc.2
    · exact ovf_tm h
section
variable {B : Bk} {c : Int} {d : Nat} {v o' : Int} {m : Nat} {l : List Nat}
theorem ov_tm (w : WF B) (hc : 0 ≤ c) (hc2 : c < B 8 1) : ∀ d, 0 ≤ ovr B c d → tm B c (ovr B c d) ≤ B 8 3
  | 0, h => absurd h (by show ¬ (0 : Int) ≤ -1; decide)
  | d + 1, h => by
    have e : ovr B c (d + 1) = ov (dpl B c d (ovr B c d)) := rfl
    rw [e] at h ⊢
    cases hx : dpl B c d (ovr B c d) with
    | none => rw [hx] at h; exact absurd h (by show ¬ (0 : Int) ≤ -1; decide)
    | some y =>
      obtain ⟨v, o', m, l⟩ := y
      rw [hx] at h
      have h : 0 ≤ o' := h
      show tm B c o' ≤ B 8 3
      unfold dpl at hx
      split at hx
      · rename_i x hb
        cases hx
        rw [bst_its] at hb
        cases hb2 : bst (lwS B c (od B c d) (fre B c (ovr B c d)) (ahd B c (ovr B c d))) (msS B c (od B c d) (fre B c (ovr B c d)) (ahd B c (ovr B c d)) 0 (woB B (-1))) (PT (nof (od B c d))) none with
        | none => rw [hb2] at hb; cases hb
        | some z => rw [hb2] at hb; cases hb; omega
      · split at hx
        · exact ovf_tm hx
        · cases hx
theorem ahd_h (w : WF B) (hc : 0 ≤ c) (hc2 : c < B 8 1) (d : Nat) : (ahd B c (ovr B c d) : Int) ≤ B 8 3 := by
  have hn := w.1
  unfold WFn at hn
  unfold ahd
  split
  · omega
  · have := ov_tm w hc hc2 d (by omega)
    omega
theorem no_od (w : WF B) (hc : 0 ≤ c) (hc2 : c < B 8 1) (hx : dpl B c d (ovr B c d) = none) : nlw (lwS B c (od B c d) (fre B c (ovr B c d)) (ahd B c (ovr B c d))) (PT (nof (od B c d))) = 0 := by
  unfold dpl at hx
  cases hb : bst (lwD B c (fre B c (ovr B c d)) (ahd B c (ovr B c d))) (msD B c (fre B c (ovr B c d)) (ahd B c (ovr B c d))) (its (-1) (od B c d)) none with
  | some z => rw [hb] at hx; cases hx
  | none =>
    rw [bst_its] at hb
    cases hb2 : bst (lwS B c (od B c d) (fre B c (ovr B c d)) (ahd B c (ovr B c d))) (msS B c (od B c d) (fre B c (ovr B c d)) (ahd B c (ovr B c d)) 0 (woB B (-1))) (PT (nof (od B c d))) none with
    | some z => rw [hb2] at hb; cases hb
    | none => exact (bst_nlw.mp hb2).2
theorem pos_od (w : WF B) (hc : 0 ≤ c) (hc2 : c < B 8 1) (hx : dpl B c d (ovr B c d) = none) : 0 < od B c d := by
  refine Nat.pos_of_ne_zero fun h => ?_
  have h1 := no_od w hc hc2 hx
  have h2 := ahd_h w hc hc2 d
  rw [h] at h1
  have e : nof 0 = 0 := by decide
  rw [e] at h1
  have h3 : lwS B c 0 (fre B c (ovr B c d)) (ahd B c (ovr B c d)) [] = true := by
    unfold lwS
    rw [e]
    show (decide ((ahd B c (ovr B c d) : Int) + 0 ≤ B 8 3) && true) = true
    simp
    omega
  have h1 : (if lwS B c 0 (fre B c (ovr B c d)) (ahd B c (ovr B c d)) [] then 1 else 0) + 0 = 0 := h1
  rw [h3] at h1
  cases h1
/-- a plan with none over is the best of all -/
theorem best_od (hx : dpl B c d (ovr B c d) = some (v, o', m, l)) (ho : o' < 0) : m = od B c d ∧ o' = -1 ∧ bst (lwS B c (od B c d) (fre B c (ovr B c d)) (ahd B c (ovr B c d))) (msS B c (od B c d) (fre B c (ovr B c d)) (ahd B c (ovr B c d)) 0 (woB B (-1))) (PT (nof (od B c d))) none = some (v, l) := by
  unfold dpl at hx
  split at hx
  · rename_i x hb
    cases hx
    rw [bst_its] at hb
    cases hb2 : bst (lwS B c (od B c d) (fre B c (ovr B c d)) (ahd B c (ovr B c d))) (msS B c (od B c d) (fre B c (ovr B c d)) (ahd B c (ovr B c d)) 0 (woB B (-1))) (PT (nof (od B c d))) none with
    | none => rw [hb2] at hb; cases hb
    | some z =>
      rw [hb2] at hb
      obtain ⟨z1, z2⟩ := z
      cases hb
      exact ⟨rfl, rfl, rfl⟩
  · split at hx
    · obtain ⟨p, -, hp, -⟩ := ovf_in hx
      omega
    · cases hx
/-- a plan with one over: all can't be sat -/
theorem over_od (hx : dpl B c d (ovr B c d) = some (v, o', m, l)) (ho : 0 ≤ o') : nlw (lwS B c (od B c d) (fre B c (ovr B c d)) (ahd B c (ovr B c d))) (PT (nof (od B c d))) = 0 := by
  unfold dpl at hx
  split at hx
  · rename_i x hb
    cases hx
    rw [bst_its] at hb
    cases hb2 : bst (lwS B c (od B c d) (fre B c (ovr B c d)) (ahd B c (ovr B c d))) (msS B c (od B c d) (fre B c (ovr B c d)) (ahd B c (ovr B c d)) 0 (woB B (-1))) (PT (nof (od B c d))) none with
    | none => rw [hb2] at hb; cases hb
    | some z => rw [hb2] at hb; cases hb; omega
  · rename_i hb
    rw [bst_its] at hb
    cases hb2 : bst (lwS B c (od B c d) (fre B c (ovr B c d)) (ahd B c (ovr B c d))) (msS B c (od B c d) (fre B c (ovr B c d)) (ahd B c (ovr B c d)) 0 (woB B (-1))) (PT (nof (od B c d))) none with
    | some z => rw [hb2] at hb; cases hb
    | none => exact (bst_nlw.mp hb2).2
theorem some_od (hx : dpl B c d (ovr B c d) = some (v, o', m, l)) (ho : o' < 0) : 0 < nlw (lwS B c (od B c d) (fre B c (ovr B c d)) (ahd B c (ovr B c d))) (PT (nof (od B c d))) := by
  refine Nat.pos_of_ne_zero fun h => ?_
  have h1 := (best_od hx ho).2.2
  rw [bst_nlw.mpr ⟨rfl, h⟩] at h1
  cases h1
/-- what is left in the end -/
theorem left_end (w : WF B) (hc : 0 ≤ c) (hc2 : c < B 8 1) (hx : dpl B c d (ovr B c d) = some (v, o', m, l)) : ((lfM (od B c d) (lq m l) (nof m) : Nat) : Int) = if 0 ≤ o' then ((2 ^ o'.toNat : Nat) : Int) else 0 := by
  obtain ⟨d1, d2, d3, d4, d5, d6, d7⟩ := dpl_some w hc hc2 hx
  have key : ∀ i, (lfM (od B c d) (lq m l) (nof m)).testBit i = ((od B c d).testBit i && !m.testBit i) := fun i => by
    rw [lfM_tb]
    congr 2
    cases hb : m.testBit i with
    | true =>
      obtain ⟨k, k1, k2⟩ := lq_all d1.1 d1.2.1 d4 hb
      exact anyN_t k1 (by simp [k2])
    | false =>
      cases ha : anyN (fun j => decide (i = lq m l j)) (nof m) with
      | false => rfl
      | true =>
        obtain ⟨j, j1, j2⟩ := anyN_ex ha
        have := (lq_in d1.2.1 d4 j1).2
        simp at j2
        rw [← j2, hb] at this
        cases this
  rcases d7 with ⟨e1, e2⟩ | ⟨p, e1, e2, e3⟩
  · rw [if_neg (by omega)]
    have : lfM (od B c d) (lq m l) (nof m) = 0 := Nat.eq_of_testBit_eq fun i => by
      rw [key, e2, Nat.zero_testBit]
      cases (od B c d).testBit i <;> rfl
    rw [this]
    rfl
  · rw [if_pos (by omega)]
    have : lfM (od B c d) (lq m l) (nof m) = 2 ^ o'.toNat := Nat.eq_of_testBit_eq fun i => by
      rw [key, e3, clr_tb, Nat.testBit_two_pow, e1, Int.toNat_natCast]
      by_cases q : i = p
      · rw [q, e2]; simp
      · have q2 : ¬ p = i := fun z => q z.symm
        simp [q, q2]
    rw [this]
theorem left_in (w : WF B) (hc : 0 ≤ c) (hc2 : c < B 8 1) (hx : dpl B c d (ovr B c d) = some (v, o', m, l)) {k : Nat} (hk : k < nof m) : (lfM (od B c d) (lq m l) k).testBit (lq m l k) = true := by
  obtain ⟨d1, d2, d3, d4, d5, d6, d7⟩ := dpl_some w hc hc2 hx
  have hin := (lq_in d1.2.1 d4 hk).2
  have hod : (od B c d).testBit (lq m l k) = true := by
    rcases d7 with ⟨e1, e2⟩ | ⟨p, e1, e2, e3⟩
    · rw [← e2]; exact hin
    · have h9 : (clr (od B c d) p).testBit (lq m l k) = true := by rw [← e3]; exact hin
      rw [clr_tb] at h9
      simp at h9
      exact h9.1
  rw [lfM_tb, hod]
  cases ha : anyN (fun j => decide (lq m l k = lq m l j)) k with
  | false => rfl
  | true =>
    obtain ⟨j, j1, j2⟩ := anyN_ex ha
    have := lq_inj d1.2.1 d4 (j := j) (k := k) (by omega) hk (of_decide_eq_true j2).symm
    omega
/-- a slot's doing -/
theorem dd_wait (t : Nat) (hx : dpl B c d (ovr B c d) = some (v, o', m, l)) (h1 : ¬ t < ahd B c (ovr B c d)) (h2 : ∀ j, j < nof m → ¬ (bg B c (fre B c (ovr B c d)) (lq m l) j ≤ t ∧ (t : Int) < en B c (fre B c (ovr B c d)) (lq m l) j)) : dd B c (ovr B c d) (fre B c (ovr B c d)) (ahd B c (ovr B c d)) (dpl B c d (ovr B c d)) t = if wtB (woB B o') B c (fre B c (ovr B c d)) (lq m l) (nof m) t then 20 else -1 := by
  unfold dd
  rw [if_neg h1, hx]
  show (match fstN (sitN B c (fre B c (ovr B c d)) (lq m l) t) (nof m) with
    | some k => (lq m l k : Int)
    | none => if wtB (woB B o') B c (fre B c (ovr B c d)) (lq m l) (nof m) t then 20 else -1) = _
  rw [fstN_none fun k hk => ?_]
  unfold sitN
  have := h2 k hk
  simp
  omega
end
