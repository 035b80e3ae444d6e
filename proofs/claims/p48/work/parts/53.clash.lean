/-! CLASH, both sides: the same mask -/
def bad (B : Bk) (c f : Int) (a m s : Nat) : Prop := 0 < s ∧ sub s m ∧ nlw (lwS B c s f a) (PT (nof s)) = 0
/-- the best of the bad ones ahead of (behind) a bound -/
def bestB (B : Bk) (c f : Int) (a m y : Nat) (R : Nat → Prop) : Prop := bad B c f a m y ∧ ∀ t, bad B c f a m t → R t → nof y < nof t ∨ (nof y = nof t ∧ y ≤ t)
theorem bestB_one {B : Bk} {c f : Int} {a m x y : Nat} (h : bestB B c f a m x fun _ => True) (g : bestB B c f a m y fun _ => True) : x = y := by
  have h1 := h.2 y g.1 trivial
  have h2 := g.2 x h.1 trivial
  omega
theorem bad_ok {B : Bk} {c f : Int} {a m s : Nat} (hm : okm B m) (h : sub s m) : okm B s := hm.sub h (Nat.lt_of_le_of_lt (sub_le h) hm.1)
theorem X4_clash {ρ : Mem} {B : Bk} (hB : isBk ρ 1 B) (w : WF B) {c : Int} (hc : 0 ≤ c) (hc2 : c < B 8 1) {k : Int} (hk : isK k) {d : Nat} (hd : d < 5) {f : Int} (hf : 0 ≤ f ∧ f ≤ 60) {a : Nat} (ha : a ≤ 48) {x : Option (Int × Tr)} (h : isWd ρ k B c d f a x) :
    ∃ (r : Nat) (τ : Mem), f_X4_clash ρ 1 c d k = some ((r : Int), τ) ∧ (∀ x, ¬ (36 ≤ x ∧ x ≤ 42) → τ x = ρ x) ∧ ((r = 0 ∧ ∀ t, ¬ bad B c f a (od B c d) t) ∨ bestB B c f a (od B c d) r fun _ => True) := by
  have hn := w.1
  unfold WFn at hn
  have hkk := hk
  unfold isK at hkk
  have hm := okm_od w hc hc2 (d : Int)
  obtain ⟨m, em⟩ : ∃ m, m = od B c d := ⟨_, rfl⟩
  unfold f_X4_clash
  rw [chk_pos (by omega), bind_some' (X0_papersOf hB w d)]
  simp only [Option.bind_some]
  rw [takes_od hB w hc hc2]
  rw [← em] at hm ⊢
  have hm1 := hm.1
  unfold f_X4_clash_23
  obtain ⟨e, e1, r, e2, e3, e4⟩ := loop_ex (f := f_X4_clash_23B 1 c d k m) (fun s => ∃ i : Nat, s.2.2.1 = (i : Int) ∧ 1 ≤ i ∧ i ≤ m + 1 ∧ (∀ x, ¬ (36 ≤ x ∧ x ≤ 42) → s.2.2.2 x = ρ x) ∧ ((s.1 = 0 ∧ s.2.1 = 5 ∧ ∀ t, bad B c f a m t → ¬ t < i) ∨ ∃ y : Nat, s.1 = (y : Int) ∧ s.2.1 = (nof y : Int) ∧ y < i ∧ bestB B c f a m y fun t => t < i)) (fun s => ((m : Int) + 1 - s.2.2.1).toNat) (fun e => ∃ r : Nat, e.1 = (r : Int) ∧ (∀ x, ¬ (36 ≤ x ∧ x ≤ 42) → e.2 x = ρ x) ∧ ((r = 0 ∧ ∀ t, ¬ bad B c f a m t) ∨ bestB B c f a m r fun _ => True)) (a := (0, 5, 1, ρ)) ⟨1, rfl, by omega, by omega, fun _ _ => rfl, Or.inl ⟨rfl, rfl, fun t ht h => by have := ht.1; omega⟩⟩ (by show ((m : Int) + 1 - 1).toNat < 1000000; omega) (by
    rintro ⟨x6, x7, _, τ⟩ ⟨i, rfl, hi1, hi, k1, k2⟩
    have k1 : ∀ x, ¬ (36 ≤ x ∧ x ≤ 42) → τ x = ρ x := k1
    have k2 : (x6 = 0 ∧ x7 = 5 ∧ ∀ t, bad B c f a m t → ¬ t < i) ∨ ∃ y : Nat, x6 = (y : Int) ∧ x7 = (nof y : Int) ∧ y < i ∧ bestB B c f a m y fun t => t < i := k2
    show (∃ a', f_X4_clash_23C 1 c d k m x6 x7 (i : Int) τ = _ ∧ _) ∨ ∃ a', f_X4_clash_23C 1 c d k m x6 x7 (i : Int) τ = _ ∧ _
    unfold f_X4_clash_23C
    by_cases hend : (m : Int) < i
    · right
      rw [if_pos hend]
      rcases k2 with ⟨q1, q2, q3⟩ | ⟨y, q1, q2, q3, q4⟩
      · exact ⟨_, rfl, 0, q1, k1, Or.inl ⟨rfl, fun t ht => q3 t ht (by have := sub_le ht.2.1; omega)⟩⟩
      · exact ⟨_, rfl, y, q1, k1, Or.inr ⟨q4.1, fun t ht _ => q4.2 t ht (by have := sub_le ht.2.1; omega)⟩⟩
    · left
      have next : ∀ (x6 x7 : Int) (τ : Mem), (∀ x, ¬ (36 ≤ x ∧ x ≤ 42) → τ x = ρ x) → ((x6 = 0 ∧ x7 = 5 ∧ ∀ t, bad B c f a m t → ¬ t < i + 1) ∨ ∃ y : Nat, x6 = (y : Int) ∧ x7 = (nof y : Int) ∧ y < i + 1 ∧ bestB B c f a m y fun t => t < i + 1) → ∃ a', f_X4_clash_98 τ 1 c d k m x6 x7 (i : Int) = some (.inl a') ∧ (∃ i : Nat, a'.2.2.1 = (i : Int) ∧ 1 ≤ i ∧ i ≤ m + 1 ∧ (∀ x, ¬ (36 ≤ x ∧ x ≤ 42) → a'.2.2.2 x = ρ x) ∧ ((a'.1 = 0 ∧ a'.2.1 = 5 ∧ ∀ t, bad B c f a m t → ¬ t < i) ∨ ∃ y : Nat, a'.1 = (y : Int) ∧ a'.2.1 = (nof y : Int) ∧ y < i ∧ bestB B c f a m y fun t => t < i)) ∧ ((m : Int) + 1 - a'.2.2.1).toNat < ((m : Int) + 1 - (i : Int)).toNat := fun x6 x7 τ h1 h2 => by
        unfold f_X4_clash_98
        simp only [Option.bind_some]
        rw [jadd_ok (by omega) (by omega)]
        exact ⟨_, rfl, ⟨i + 1, by show (i : Int) + 1 = _; omega, by omega, by omega, h1, h2⟩, by show ((m : Int) + 1 - ((i : Int) + 1)).toNat < ((m : Int) + 1 - (i : Int)).toNat; omega⟩
      -- one that is not bad
      have keep : ¬ bad B c f a m i → (x6 = 0 ∧ x7 = 5 ∧ ∀ t, bad B c f a m t → ¬ t < i + 1) ∨ ∃ y : Nat, x6 = (y : Int) ∧ x7 = (nof y : Int) ∧ y < i + 1 ∧ bestB B c f a m y fun t => t < i + 1 := fun hb => by
        rcases k2 with ⟨q1, q2, q3⟩ | ⟨y, q1, q2, q3, q4⟩
        · refine Or.inl ⟨q1, q2, fun t ht hlt => ?_⟩
          by_cases e : t = i
          · subst e; exact hb ht
          · exact q3 t ht (by omega)
        · refine Or.inr ⟨y, q1, q2, by omega, q4.1, fun t ht hlt => ?_⟩
          by_cases e : t = i
          · subst e; exact absurd ht hb
          · exact q4.2 t ht (by have : t < i + 1 := hlt; omega)
      rw [if_neg hend, jandn_n (by omega) (by omega)]
      by_cases hsub : andn i m = 0
      rotate_left
      · rw [if_pos (by omega)]
        exact next x6 x7 τ k1 (keep fun hb => hsub (sub_andn.mpr hb.2.1))
      have hs := sub_andn.mp hsub
      have hok := bad_ok (c := c) (f := f) (a := a) hm hs
      have h4 := hok.2.1
      rw [if_neg (by omega), bind_some' (bitCount32_n hok.1)]
      show ∃ a', (if x7 ≤ (nof i : Int) then _ else _) = _ ∧ _
      by_cases hle : x7 ≤ (nof i : Int)
      · rw [if_pos hle]
        refine next x6 x7 τ k1 ?_
        rcases k2 with ⟨q1, q2, q3⟩ | ⟨y, q1, q2, q3, q4⟩
        · omega
        · refine Or.inr ⟨y, q1, q2, by omega, q4.1, fun t ht hlt => ?_⟩
          by_cases e : t = i
          · subst e; omega
          · exact q4.2 t ht (by have : t < i + 1 := hlt; omega)
      · have hBt : isBk τ 1 B := hB.rows fun x h1 h2 => k1 x (by omega)
        rw [if_neg hle, chk_pos (by omega), chk_pos (by omega), k1 (k + 3) (by omega), k1 (k + 4) (by omega), h.1, h.2.1]
        obtain ⟨τ2, s1, s2, s3⟩ := X3_gather (Or.inl rfl) hBt w hc hc2 hok f ha
        rw [bind_some' s1]
        obtain ⟨r, τ3, t1, t2, -, -, t5, t6⟩ := X3_search s2 hok w hc hc2 hf ha (by_ := 0) (by omega) (woB B (-1))
        rw [woB_no] at t1
        rw [bind_some' t1]
        have kk : ∀ x, ¬ (36 ≤ x ∧ x ≤ 42) → τ3 x = ρ x := fun x hx => by rw [t2 x (by omega) (by omega) (by omega) (by omega), s3 x (by omega), k1 x hx]
        cases hbst : bst (lwS B c i f a) (msS B c i f a 0 (woB B (-1))) (PT (nof i)) none with
        | some z =>
          rw [(t6 z.1 z.2 hbst).1]
          show ∃ a', (if (1 : Int) ≠ 0 then _ else _) = _ ∧ _
          rw [if_pos (by decide)]
          refine next x6 x7 τ3 kk (keep fun hb => ?_)
          have := (bst_nlw (ms := msS B c i f a 0 (woB B (-1)))).mpr ⟨rfl, hb.2.2⟩
          rw [hbst] at this
          cases this
        | none =>
          rw [t5 hbst]
          show ∃ a', (if (0 : Int) ≠ 0 then _ else _) = _ ∧ _
          rw [if_neg (by decide), bind_some' (bitCount32_n hok.1)]
          have hbad : bad B c f a m i := ⟨by omega, hs, (bst_nlw.mp hbst).2⟩
          refine next (i : Int) _ τ3 kk (Or.inr ⟨i, rfl, rfl, by omega, hbad, fun t ht hlt => ?_⟩)
          by_cases e : t = i
          · subst e; omega
          · have hlt : t < i := by have : t < i + 1 := hlt; omega
            rcases k2 with ⟨q1, q2, q3⟩ | ⟨y, q1, q2, q3, q4⟩
            · exact absurd hlt (q3 t ht)
            · have := q4.2 t ht hlt
              omega)
  rw [e1]
  exact ⟨r, e.2, by show some (e.1, e.2) = _; rw [e2], e3, e4⟩