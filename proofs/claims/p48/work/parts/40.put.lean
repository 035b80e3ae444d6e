/-! A DAY'S PLAN: what it is, and how the class puts it down -/
def isK (k : Int) : Prop := 54 ≤ k ∧ k ≤ 154
/-- what a day's planning changes in a week's rows -/
def wfr (σ τ : Mem) (k d : Int) : Prop := (∀ x, ¬ (36 ≤ x ∧ x ≤ 42) → ¬ (k + 1 ≤ x ∧ x ≤ k + 9) → τ x = σ x) ∧ (∀ x e, k + 1 ≤ x → x ≤ k + 6 → e ≠ d → τ x e = σ x e) ∧ ∀ x i, k + 7 ≤ x → x ≤ k + 9 → ¬ (4 * d ≤ i ∧ i < 4 * d + 4) → τ x i = σ x i
theorem wfr.rfl {σ : Mem} {k d : Int} : wfr σ σ k d := ⟨fun _ _ _ => Eq.refl _, fun _ _ _ _ _ => Eq.refl _, fun _ _ _ _ _ => Eq.refl _⟩
theorem wfr.trans {σ τ ρ : Mem} {k d : Int} (h : wfr σ τ k d) (g : wfr τ ρ k d) : wfr σ ρ k d :=
  ⟨fun x h1 h2 => by rw [g.1 x h1 h2, h.1 x h1 h2], fun x e h1 h2 h3 => by rw [g.2.1 x e h1 h2 h3, h.2.1 x e h1 h2 h3], fun x i h1 h2 h3 => by rw [g.2.2 x i h1 h2 h3, h.2.2 x i h1 h2 h3]⟩
theorem wfr.of {σ τ : Mem} {k d : Int} (hk : isK k) (h : ∀ x, ¬ (36 ≤ x ∧ x ≤ 42) → τ x = σ x) : wfr σ τ k d := by
  unfold isK at hk
  exact ⟨fun x h1 _ => h x h1, fun x e h1 h2 _ => by rw [h x (by omega)], fun x i h1 h2 _ => by rw [h x (by omega)]⟩
theorem wfr.mupd {σ : Mem} {k d x v : Int} (h1 : k + 1 ≤ x) (h2 : x ≤ k + 6) : wfr σ (mup σ x d v) k d :=
  ⟨fun y _ g => mup_row (by omega), fun y e _ _ g => mup_miss (fun q => g q.2), fun y i _ _ _ => mup_miss (by omega)⟩
theorem wfr.mupi {σ : Mem} {k d x v i : Int} (h1 : k + 7 ≤ x) (h2 : x ≤ k + 9) (hi : 4 * d ≤ i ∧ i < 4 * d + 4) : wfr σ (mup σ x i v) k d :=
  ⟨fun y _ g => mup_row (by omega), fun y e _ _ g => mup_miss (by omega), fun y j _ _ g => mup_miss (by omega)⟩
theorem X3_paperAt {σ : Mem} {B : Bk} {c f : Int} {m a : Nat} (hO : isOr σ B c m f a) (h4 : nof m ≤ 4) {j l : Nat} (hj : j < nof m) (hl : l < nof m) (h41 : σ 41 j = (l : Int)) : f_X3_paperAt σ (j : Int) = some (nth m l : Int) := by
  unfold f_X3_paperAt
  rw [if_neg (by omega), hO.1, if_neg (by omega), chk_pos (by omega), h41, chk_pos (by omega), (hO.2.2.2.2.2 l hl).1]
theorem X3_beginAt {σ : Mem} {B : Bk} {c f : Int} {m a : Nat} (hO : isOr σ B c m f a) (h4 : nof m ≤ 4) {j : Nat} (hj : j < nof m) : f_X3_beginAt σ (j : Int) = some (σ 42 j) := by
  unfold f_X3_beginAt
  rw [if_neg (by omega), hO.1, if_neg (by omega), chk_pos (by omega)]
theorem X3_endAt {σ : Mem} {B : Bk} {c f : Int} {m a : Nat} (hO : isOr σ B c m f a) (h4 : nof m ≤ 4) {j l : Nat} (hj : j < nof m) (hl : l < nof m) (h41 : σ 41 j = (l : Int)) : f_X3_endAt σ (j : Int) = some (jadd (σ 42 j) (tm B c (nth m l))) := by
  unfold f_X3_endAt
  rw [if_neg (by omega), hO.1, if_neg (by omega), chk_pos (by omega), chk_pos (by omega), h41, chk_pos (by omega), (hO.2.2.2.2.2 l hl).2.2]
theorem X8_put {σ : Mem} {B : Bk} {c f : Int} {m a : Nat} (hO : isOr σ B c m f a) (hm : okm B m) (w : WF B) (hc : 0 ≤ c) (hc2 : c < B 8 1) (hf : 0 ≤ f ∧ f ≤ 60) {k d o : Int} (hk : isK k) (hd : 0 ≤ d ∧ d < 5) {l : List Nat} (hl : ∀ j, j < nof m → l.getD j 0 < nof m) (h41 : ∀ j : Nat, j < nof m → σ 41 j = (l.getD j 0 : Int) ∧ σ 42 j = bg B c f (lq m l) j) :
    ∃ τ, f_X8_put σ k d o = some τ ∧ wfr σ τ k d ∧ (∀ x, ¬ (k + 1 ≤ x ∧ x ≤ k + 9) → τ x = σ x) ∧ τ (k + 1) d = 1 ∧ τ (k + 2) d = o ∧ τ (k + 3) d = σ (k + 3) d ∧ τ (k + 4) d = σ (k + 4) d ∧ τ (k + 5) d = (nof m : Int) ∧ τ (k + 6) d = σ 36 11 ∧ ∀ j : Nat, j < nof m → τ (k + 7) (4 * d + j) = (lq m l j : Int) ∧ τ (k + 8) (4 * d + j) = bg B c f (lq m l) j ∧ τ (k + 9) (4 * d + j) = en B c f (lq m l) j := by
  have h4 := hm.2.1
  have hkk := hk
  unfold isK at hkk
  unfold f_X8_put f_X3_count f_X3_keptSlots
  rw [chk_pos (by omega)]
  simp only [Option.bind_some]
  rw [chk_pos (by omega), chk_pos (by omega), chk_pos (by omega)]
  rw [show mup (mup σ (k + 1) d 1) (k + 2) d o 36 6 = (nof m : Int) by rw [mup_miss (by omega), mup_miss (by omega)]; exact hO.1]
  rw [show mup (mup (mup σ (k + 1) d 1) (k + 2) d o) (k + 5) d (nof m : Int) 36 11 = σ 36 11 by rw [mup_miss (by omega), mup_miss (by omega), mup_miss (by omega)]]
  obtain ⟨σ1, hσ1⟩ : ∃ z, z = mup (mup (mup (mup σ (k + 1) d 1) (k + 2) d o) (k + 5) d (nof m : Int)) (k + 6) d (σ 36 11) := ⟨_, rfl⟩
  rw [← hσ1]
  have r1 : ∀ x, ¬ (k + 1 ≤ x ∧ x ≤ k + 6) → σ1 x = σ x := fun x hx => by rw [hσ1, mup_row (by omega), mup_row (by omega), mup_row (by omega), mup_row (by omega)]
  have w1 : wfr σ σ1 k d := by
    rw [hσ1]
    exact ((wfr.mupd (by omega) (by omega)).trans (wfr.mupd (by omega) (by omega))).trans ((wfr.mupd (by omega) (by omega)).trans (wfr.mupd (by omega) (by omega)))
  unfold f_X8_put_37
  obtain ⟨τ, g1, g2, g3, g4⟩ := loop_ex (f := f_X8_put_37B k d) (fun s => ∃ j : Nat, s.1 = (j : Int) ∧ j ≤ nof m ∧ wfr σ1 s.2 k d ∧ (∀ x, ¬ (k + 7 ≤ x ∧ x ≤ k + 9) → s.2 x = σ1 x) ∧ ∀ i : Nat, i < j → s.2 (k + 7) (4 * d + i) = (lq m l i : Int) ∧ s.2 (k + 8) (4 * d + i) = bg B c f (lq m l) i ∧ s.2 (k + 9) (4 * d + i) = en B c f (lq m l) i) (fun s => (4 - s.1).toNat) (fun τ => wfr σ1 τ k d ∧ (∀ x, ¬ (k + 7 ≤ x ∧ x ≤ k + 9) → τ x = σ1 x) ∧ ∀ i : Nat, i < nof m → τ (k + 7) (4 * d + i) = (lq m l i : Int) ∧ τ (k + 8) (4 * d + i) = bg B c f (lq m l) i ∧ τ (k + 9) (4 * d + i) = en B c f (lq m l) i) (a := (0, σ1)) ⟨0, rfl, Nat.zero_le _, wfr.rfl, fun _ _ => rfl, fun i hi => absurd hi (Nat.not_lt_zero _)⟩ (Nat.le_of_ble_eq_true rfl) (by
    rintro ⟨_, τ⟩ ⟨j, rfl, hj, k1, k2, k3⟩
    have k1 : wfr σ1 τ k d := k1
    have k2 : ∀ x, ¬ (k + 7 ≤ x ∧ x ≤ k + 9) → τ x = σ1 x := k2
    have k3 : ∀ i : Nat, i < j → τ (k + 7) (4 * d + i) = (lq m l i : Int) ∧ τ (k + 8) (4 * d + i) = bg B c f (lq m l) i ∧ τ (k + 9) (4 * d + i) = en B c f (lq m l) i := k3
    show (∃ a', f_X8_put_37C k d (j : Int) τ = _ ∧ _) ∨ ∃ a', f_X8_put_37C k d (j : Int) τ = _ ∧ _
    have keepO : ∀ ρ : Mem, (∀ x, 36 ≤ x → x ≤ 42 → ρ x = σ x) → isOr ρ B c m f a := fun ρ h => by
      unfold isOr
      rw [h 36 (by decide) (by decide), h 37 (by decide) (by decide), h 38 (by decide) (by decide), h 39 (by decide) (by decide)]
      exact hO
    have hτ : ∀ x, 36 ≤ x → x ≤ 42 → τ x = σ x := fun x _ _ => by rw [k2 x (by omega), r1 x (by omega)]
    unfold f_X8_put_37C f_X3_count
    simp only [Option.bind_some]
    rw [hτ 36 (by decide) (by decide), hO.1]
    by_cases hkn : (nof m : Int) ≤ j
    · right
      rw [if_pos hkn]
      have : j = nof m := by omega
      subst this
      exact ⟨_, rfl, k1, k2, k3⟩
    · left
      have hjl := hl j (by omega)
      obtain ⟨v41, v42⟩ := h41 j (by omega)
      have ej : jadd (jmul d 4) (j : Int) = 4 * d + j := by rw [jmul_ok (by omega) (by omega), jadd_ok (by omega) (by omega)]; omega
      have hbg := bg_b w hc hc2 hf (q := lq m l) (n := nof m) (fun i hi => hm.2.2 _ (nth_in (hl i hi)).2.1) (k := j) (by omega)
      rw [if_neg hkn, if_neg (by omega), ej, bind_some' (X3_paperAt (keepO τ hτ) h4 (by omega) hjl (by rw [hτ 41 (by decide) (by decide)]; exact v41)), chk_pos (by omega)]
      obtain ⟨τ2, hτ2⟩ : ∃ z, z = mup τ (k + 7) (4 * d + j) (nth m (l.getD j 0) : Int) := ⟨_, rfl⟩
      have h2 : ∀ x, 36 ≤ x → x ≤ 42 → τ2 x = σ x := fun x a b => by rw [hτ2, mup_row (by omega), hτ x a b]
      rw [← hτ2, bind_some' (X3_beginAt (keepO τ2 h2) h4 (by omega)), chk_pos (by omega), h2 42 (by decide) (by decide), v42]
      obtain ⟨τ3, hτ3⟩ : ∃ z, z = mup τ2 (k + 8) (4 * d + j) (bg B c f (lq m l) j) := ⟨_, rfl⟩
      have h3 : ∀ x, 36 ≤ x → x ≤ 42 → τ3 x = σ x := fun x a b => by rw [hτ3, mup_row (by omega), h2 x a b]
      rw [← hτ3, bind_some' (X3_endAt (keepO τ3 h3) h4 (by omega) hjl (by rw [h3 41 (by decide) (by decide)]; exact v41)), chk_pos (by omega), h3 42 (by decide) (by decide), v42]
      have een : en B c f (lq m l) j = bg B c f (lq m l) j + tm B c (nth m (l.getD j 0)) := rfl
      rw [jadd_ok (a := bg B c f (lq m l) j) (by omega) (by omega), ← een, jadd_ok (a := (j : Int)) (by omega) (by omega)]
      refine ⟨_, rfl, ⟨j + 1, by show (j : Int) + 1 = _; omega, by omega, ?_, fun x hx => ?_, fun i hi => ?_⟩, by show (4 - ((j : Int) + 1)).toNat < (4 - (j : Int)).toNat; omega⟩
      · dsimp only
        rw [hτ3, hτ2]
        exact k1.trans (((wfr.mupi (by omega) (by omega) (by omega)).trans (wfr.mupi (by omega) (by omega) (by omega))).trans (wfr.mupi (by omega) (by omega) (by omega)))
      · dsimp only
        rw [mup_row (by omega), hτ3, mup_row (by omega), hτ2, mup_row (by omega), k2 x hx]
      · dsimp only
        by_cases e : i = j
        · subst e
          refine ⟨?_, ?_, ?_⟩
          · rw [mup_miss (by omega), hτ3, mup_miss (by omega), hτ2, mup_hit rfl rfl]; rfl
          · rw [mup_miss (by omega), hτ3, mup_hit rfl rfl]
          · rw [mup_hit rfl rfl]
        · obtain ⟨q1, q2, q3⟩ := k3 i (by omega)
          refine ⟨?_, ?_, ?_⟩
          · rw [mup_miss (by omega), hτ3, mup_miss (by omega), hτ2, mup_miss (by omega), q1]
          · rw [mup_miss (by omega), hτ3, mup_miss (by omega), hτ2, mup_miss (by omega), q2]
          · rw [mup_miss (by omega), hτ3, mup_miss (by omega), hτ2, mup_miss (by omega), q3])
  refine ⟨τ, by rw [g1]; rfl, w1.trans g2, fun x hx => by rw [g3 x (by omega), r1 x (by omega)], ?_, ?_, ?_, ?_, ?_, ?_, g4⟩
  · rw [g3 _ (by omega), hσ1, mup_miss (by omega), mup_miss (by omega), mup_miss (by omega), mup_hit rfl rfl]
  · rw [g3 _ (by omega), hσ1, mup_miss (by omega), mup_miss (by omega), mup_hit rfl rfl]
  · rw [g3 _ (by omega), hσ1, mup_miss (by omega), mup_miss (by omega), mup_miss (by omega), mup_miss (by omega)]
  · rw [g3 _ (by omega), hσ1, mup_miss (by omega), mup_miss (by omega), mup_miss (by omega), mup_miss (by omega)]
  · rw [g3 _ (by omega), hσ1, mup_miss (by omega), mup_hit rfl rfl]
  · rw [g3 _ (by omega), hσ1, mup_hit rfl rfl]
theorem X8_open {σ : Mem} {k d f a : Int} (hk : isK k) (hd : 0 ≤ d ∧ d < 5) : ∃ τ, f_X8_open σ k d f a = some τ ∧ wfr σ τ k d ∧ (∀ x, ¬ (k + 1 ≤ x ∧ x ≤ k + 9) → τ x = σ x) ∧ τ (k + 1) d = 0 ∧ τ (k + 2) d = -1 ∧ τ (k + 3) d = f ∧ τ (k + 4) d = a ∧ τ (k + 5) d = 0 ∧ τ (k + 6) d = 0 := by
  unfold isK at hk
  unfold f_X8_open
  rw [chk_pos (by omega)]
  simp only [Option.bind_some]
  rw [chk_pos (by omega), chk_pos (by omega), chk_pos (by omega), chk_pos (by omega), chk_pos (by omega)]
  refine ⟨_, rfl, ?_, fun x hx => ?_, ?_, ?_, ?_, ?_, ?_, ?_⟩
  · exact ((((wfr.mupd (by omega) (by omega)).trans (wfr.mupd (by omega) (by omega))).trans ((wfr.mupd (by omega) (by omega)).trans (wfr.mupd (by omega) (by omega)))).trans (wfr.mupd (by omega) (by omega))).trans (wfr.mupd (by omega) (by omega))
  · rw [mup_row (by omega), mup_row (by omega), mup_row (by omega), mup_row (by omega), mup_row (by omega), mup_row (by omega)]
  · rw [mup_miss (by omega), mup_miss (by omega), mup_miss (by omega), mup_miss (by omega), mup_miss (by omega), mup_hit rfl rfl]
  · rw [mup_miss (by omega), mup_miss (by omega), mup_miss (by omega), mup_miss (by omega), mup_hit rfl rfl]
  · rw [mup_miss (by omega), mup_miss (by omega), mup_miss (by omega), mup_hit rfl rfl]
  · rw [mup_miss (by omega), mup_miss (by omega), mup_hit rfl rfl]
  · rw [mup_miss (by omega), mup_hit rfl rfl]
  · rw [mup_hit rfl rfl]
