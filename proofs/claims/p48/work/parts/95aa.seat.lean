/-! NO ROOM IS OVER-FULL -/
theorem rl_in {p : Nat → Bool} : ∀ (f t u : Nat), t ≤ u → u < t + rl p f t → p u = true
  | 0, t, u, h1, h2 => by
    have : rl p 0 t = 0 := rfl
    omega
  | f + 1, t, u, h1, h2 => by
    have e : rl p (f + 1) t = if p t then rl p f (t + 1) + 1 else 0 := rfl
    cases hp : p t with
    | false => rw [hp, bf] at e; omega
    | true =>
      rw [hp, bt] at e
      by_cases q : u = t
      · rw [q]; exact hp
      · exact rl_in f (t + 1) u (by omega) (by omega)
theorem nw_sep {q : Nat → Int} {t t' : Nat} (h : t < t') (h2 : nwP q t' = true) : t + rvn q t ≤ t' := by
  refine Nat.not_lt.mp fun hlt => ?_
  have h3 := rl_in (p := fun u => decide (q u = q t)) (48 - t) t t' (by omega) hlt
  have h4 := rl_in (p := fun u => decide (q u = q t)) (48 - t) t (t' - 1) (by omega) (Nat.lt_of_le_of_lt (by omega) hlt)
  unfold nwP at h2
  simp at h2 h3 h4
  omega
theorem pcs_in {q : Nat → Int} : ∀ {T : Nat} {x : Nat × Nat}, x ∈ pcs q T → x.1 < T ∧ nwP q x.1 = true ∧ x.2 = rvn q x.1
  | 0, x, h => by cases h
  | T + 1, x, h => by
    rw [pcs_s] at h
    cases hw : nwP q T with
    | false =>
      rw [hw, bf] at h
      have := pcs_in h
      exact ⟨by omega, this.2⟩
    | true =>
      rw [hw, bt] at h
      rcases List.mem_append.mp h with h | h
      · have := pcs_in h
        exact ⟨by omega, this.2⟩
      · rw [List.mem_singleton.mp h]
        exact ⟨by show T < T + 1; omega, hw, rfl⟩
def srt (ps : Pc) : Prop := ps.Pairwise fun x y => x.1 + x.2 ≤ y.1
theorem srt_pcs (q : Nat → Int) : ∀ T, srt (pcs q T)
  | 0 => List.Pairwise.nil
  | T + 1 => by
    rw [pcs_s]
    cases hw : nwP q T with
    | false => rw [bf]; exact srt_pcs q T
    | true =>
      rw [bt]
      refine List.pairwise_append.mpr ⟨srt_pcs q T, List.pairwise_singleton _ _, fun x hx y hy => ?_⟩
      rw [List.mem_singleton.mp hy]
      obtain ⟨g1, g2, g3⟩ := pcs_in hx
      rw [g3]
      exact nw_sep g1 hw
theorem srt_at {ps : Pc} (h : srt ps) {i j : Nat} (hij : i < j) (hj : j < ps.length) : (ps.getD i (0, 0)).1 + (ps.getD i (0, 0)).2 ≤ (ps.getD j (0, 0)).1 := by
  have := List.pairwise_iff_getElem.mp h i j (by omega) hj hij
  rw [List.getD_eq_getElem?_getD, List.getD_eq_getElem?_getD, List.getElem?_eq_getElem (by omega), List.getElem?_eq_getElem hj]
  exact this
theorem anyN_no {p : Nat → Bool} {n : Nat} (h : anyN p n = false) {i : Nat} (hi : i < n) : p i = false := anyN_f h i hi
theorem ct_se {lf : Lf} {R : Nat} {p : Nat × Nat} {ps : Pc} {r k : Nat} (h : ct lf R (p :: ps) r = some k) : seB lf p r = true := by
  rw [ct_c] at h
  cases hs : seB lf p r with
  | true => rfl
  | false => rw [hs, bf] at h; cases h
theorem rmF_se {lf : Lf} {R : Nat} {ps : Pc} {i b : Nat} (hi : i < ps.length) (h : rmF lf R ps i = some b) : seB lf (ps.getD i (0, 0)) b = true ∧ b < R := by
  have key : ∃ w, (fa (ct lf R (ps.drop i)) w R).map (·.1) = some b := by
    cases i with
    | zero => exact ⟨none, h⟩
    | succ i =>
      have h : (match rmF lf R ps i with | none => none | some b => (fa (ct lf R (ps.drop (i + 1))) (some b) R).map (·.1)) = some b := h
      cases hr : rmF lf R ps i with
      | none => rw [hr] at h; cases h
      | some b' => rw [hr] at h; exact ⟨some b', h⟩
  obtain ⟨w, h⟩ := key
  cases hf : fa (ct lf R (ps.drop i)) w R with
  | none => rw [hf] at h; cases h
  | some y =>
    obtain ⟨b', c'⟩ := y
    rw [hf] at h
    obtain rfl : b' = b := Option.some.inj h
    obtain ⟨h1, k, hk, -⟩ := fa_in hf
    rw [drop_c hi] at hk
    exact ⟨ct_se hk, h1⟩
theorem lfF_0 {lf : Lf} {R : Nat} {ps : Pc} (hs : srt ps) (h0 : ∀ r t, r < R → 0 ≤ lf r t) : ∀ i, i ≤ ps.length → (∀ r t, r < R → 0 ≤ lfF lf R ps i r t) ∧ ∀ r t, (∀ j, j < i → ¬ ((ps.getD j (0, 0)).1 ≤ t ∧ t < (ps.getD j (0, 0)).1 + (ps.getD j (0, 0)).2)) → lfF lf R ps i r t = lf r t
  | 0, _ => ⟨fun r t hr => h0 r t hr, fun r t _ => rfl⟩
  | i + 1, hi => by
    obtain ⟨g1, g2⟩ := lfF_0 hs h0 i (by omega)
    have e : lfF lf R ps (i + 1) = match rmF lf R ps i with | none => lfF lf R ps i | some b => udL (lfF lf R ps i) (ps.getD i (0, 0)) b := rfl
    rw [e]
    cases hr : rmF lf R ps i with
    | none => exact ⟨g1, fun r t h => g2 r t fun j hj => h j (by omega)⟩
    | some b =>
      obtain ⟨s1, s2⟩ := rmF_se (by omega) hr
      refine ⟨fun r t hrR => ?_, fun r t h => ?_⟩
      · show 0 ≤ (if r = b ∧ (ps.getD i (0, 0)).1 ≤ t ∧ t < (ps.getD i (0, 0)).1 + (ps.getD i (0, 0)).2 then lfF lf R ps i r t - 1 else lfF lf R ps i r t)
        by_cases q : r = b ∧ (ps.getD i (0, 0)).1 ≤ t ∧ t < (ps.getD i (0, 0)).1 + (ps.getD i (0, 0)).2
        · rw [if_pos q, g2 r t fun j hj z => ?_]
          · unfold seB at s1
            have hn : anyN (fun j => decide (lf b ((ps.getD i (0, 0)).1 + j) ≤ 0)) (ps.getD i (0, 0)).2 = false := by simpa using s1
            have := anyN_no hn (i := t - (ps.getD i (0, 0)).1) (by omega)
            rw [show (ps.getD i (0, 0)).1 + (t - (ps.getD i (0, 0)).1) = t by omega, ← q.1] at this
            simp at this
            omega
          · have := srt_at hs hj (by omega)
            omega
        · rw [if_neg q]
          exact g1 r t hrR
      · show (if r = b ∧ (ps.getD i (0, 0)).1 ≤ t ∧ t < (ps.getD i (0, 0)).1 + (ps.getD i (0, 0)).2 then lfF lf R ps i r t - 1 else lfF lf R ps i r t) = _
        rw [if_neg fun q => h i (by omega) q.2]
        exact g2 r t fun j hj => h j (by omega)
theorem lfC_0 (B : Bk) (R d : Nat) (h : ∀ r : Nat, r < R → 1 ≤ B 7 r) : ∀ c r t, r < R → 0 ≤ lfC B R d c r t
  | 0, r, t, hr => by
    show 0 ≤ B 7 r
    have := h r hr
    omega
  | c + 1, r, t, hr => (lfF_0 (srt_pcs _ _) (fun r t hr => lfC_0 B R d h c r t hr) _ (Nat.le_refl _)).1 r t hr
