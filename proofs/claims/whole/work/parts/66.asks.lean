/-! QUESTIONS: judge, paperOf (by mk66.py) -/
theorem loop_congr {α β : Type} {f g : α → Option (α ⊕ β)} {P : α → Prop} (h : ∀ a, P a → f a = g a ∧ ∀ a', f a = some (.inl a') → P a') : ∀ (n : Nat) (a : α), P a → loop f n a = loop g n a
  | 0, _, _ => rfl
  | n + 1, a, ha => by
    obtain ⟨h1, h2⟩ := h a ha
    unfold loop
    rw [← h1]
    cases hf : f a with
    | none => rfl
    | some x =>
      cases x with
      | inl a' => exact loop_congr h n a' (h2 a' hf)
      | inr b => rfl
theorem mx_comm (x y : Int) : mx x y = mx y x := by rw [mx_eq, mx_eq, Int.max_comm]
theorem ljp {p : Int} (h : 0 ≤ p ∧ p < 4096) : lj p = p := lj_ok (by omega) (by omega)
/-- one told paper: what comes of it -/
def jst (B : Bk) (c : Int) (v bits at_ sum k : Int) : Option ((Int × Int × Int × Int) ⊕ ((Int) ⊕ (Int) ⊕ (Unit))) := if 0 ≤ v ∧ v < B 8 0 ∧ bits.toNat.testBit v.toNat = true then (if (48 : Int) < jadd (mx at_ (B 1 v)) (tm B c v) then some (.inr (.inr (.inl k))) else (if jadd sum (tm B c v) ≤ B 8 3 then some (.inl (((clr bits.toNat v.toNat : Nat) : Int), jadd (jadd (mx at_ (B 1 v)) (tm B c v)) (rs B c), jadd sum (tm B c v), jadd k 1)) else some (.inr (.inr (.inl k))))) else some (.inr (.inl k))
theorem X10_fw51 {σ : Mem} {B : Bk} (hB : isBk σ 1 B) (w : WF B) {c s : Int} (hc : 0 ≤ c) (hc2 : c < B 8 1) (hs : 0 ≤ s ∧ s < 8) {m : Int} (hz : m ≤ σ 32 s) (hz2 : σ 32 s ≤ 40) {bits : Nat} (hb : bits < 4096) {at_ sum k : Int} (hk : 0 ≤ k) : f_X10_firstWrong_55C σ c s m bits at_ sum k = if m ≤ k then some (.inr (.inr (.inr ()))) else jst B c (σ 33 (40 * s + k)) bits at_ sum k := by
  have hn := w.1
  unfold WFn at hn
  unfold f_X10_firstWrong_55C
  by_cases hend : m ≤ k
  · rw [if_pos hend, if_pos hend]
  rw [if_neg hend, if_neg hend, bind_some' (X6_elementAt hs hz2 k), if_pos (by omega), bind_some' (X0_hasPaper hB _), if0]
  unfold jst
  obtain ⟨v, hv⟩ : ∃ v, v = σ 33 (40 * s + k) := ⟨_, rfl⟩
  rw [← hv]
  by_cases hp : 0 ≤ v ∧ v < B 8 0
  rotate_left
  · rw [if_neg hp, if_neg (fun e => hp ⟨e.1, e.2.1⟩)]
  obtain ⟨p, rfl⟩ := n_of hp.1
  rw [if_pos hp, ljp (by omega), bind_some' (hasBit_n (by omega) (by omega)), Int.toNat_natCast, Int.toNat_natCast]
  cases ht : bits.testBit p with
  | false =>
    rw [if_neg (by simp), if_neg (by simp)]
  | true =>
    rw [if_pos (by simp), if_pos ⟨hp.1, hp.2, rfl⟩]
    simp only [Option.bind_some]
    rw [jclr_n hb (by omega), bind_some' (X0_timeFor hB w hc hc2 hp.1 hp.2), chk_pos (by omega)]
    rw [show σ 3 (p : Int) = B 1 p from hB.start hp.1 (by omega), mx_comm, hB.hours, bind_some' (X0_restFor hB w hc hc2)]
theorem X11_jd95 {σ : Mem} {B : Bk} (hR : isRk σ 182 B) (w : WF B) {c s : Int} (hc : 0 ≤ c) (hc2 : c < B 8 1) (hs : 0 ≤ s ∧ s < 8) {m : Int} (hz : m ≤ 40) {bits : Nat} (hb : bits < 4096) (hb2 : ∀ p, bits.testBit p = true → (p : Int) < B 8 0) {at_ sum k : Int} (hk : 0 ≤ k) : f_X11_judge_95C σ c s m bits at_ sum k = if m ≤ k then some (.inr (.inr (.inr ()))) else jst B c (σ 187 (40 * s + k)) bits at_ sum k := by
  have hn := w.1
  unfold WFn at hn
  unfold f_X11_judge_95C
  by_cases hend : m ≤ k
  · rw [if_pos hend, if_pos hend]
  obtain ⟨g1, g2, g3, g4⟩ := sh40 hs (i := k) (by omega)
  rw [if_neg hend, if_neg hend, g2, chk_pos (by omega)]
  unfold jst
  obtain ⟨v, hv⟩ : ∃ v, v = σ 187 (40 * s + k) := ⟨_, rfl⟩
  rw [← hv]
  simp only [Option.bind_some]
  rw [bind_some' (X11_isIn v 0 11), if0]
  by_cases hp : 0 ≤ v ∧ v ≤ 11
  rotate_left
  · rw [if_neg hp, if_neg (fun e => hp (by omega))]
  obtain ⟨p, rfl⟩ := n_of hp.1
  rw [if_pos hp, ljp (by omega), jbit (by omega) (by omega), Int.toNat_natCast, Int.toNat_natCast]
  cases ht : bits.testBit p with
  | false =>
    rw [if_neg (by simp), if_neg (by simp)]
  | true =>
    have hpb := hb2 p ht
    rw [if_pos (by simp), if_pos ⟨hp.1, hpb, rfl⟩, jclr_n hb (by omega)]
    rw [bind_some' (X11_start hR (by omega)), bind_some' (X11_timed hR w hc hc2 hp.1 hpb), bind_some' (X11_timed hR w hc hc2 hp.1 hpb), chk_pos (by decide), hR.hours, bind_some' (X11_rest hR w hc hc2)]
theorem jst_in {B : Bk} {c v at_ sum k : Int} {bits : Nat} {x : Int × Int × Int × Int} (h : jst B c v bits at_ sum k = some (.inl x)) : ∃ p : Nat, x = (((clr bits p : Nat) : Int), jadd (jadd (mx at_ (B 1 v)) (tm B c v)) (rs B c), jadd sum (tm B c v), jadd k 1) := by
  unfold jst at h
  split at h
  · split at h
    · cases h
    · split at h
      · cases h
        exact ⟨v.toNat, rfl⟩
      · cases h
  · cases h
/-- the two loops of a told order come to the same -/
theorem jd_both {ρ τ : Mem} {B : Bk} (hB : isBk ρ 1 B) (hR : isRk τ 182 B) (w : WF B) {c s : Int} (hc : 0 ≤ c) (hc2 : c < B 8 1) (hs : 0 ≤ s ∧ s < 8) {m : Int} (hm : m ≤ 12) (hz : m ≤ ρ 32 s) (hz2 : ρ 32 s ≤ 40) (he : ∀ i, 0 ≤ i → i < 320 → τ 187 i = ρ 33 i) {bits : Nat} (hb : bits < 4096) (hb2 : ∀ p, bits.testBit p = true → (p : Int) < B 8 0) (at_ sum : Int) : ∃ v, f_X10_firstWrong_55 ρ c s m bits at_ sum 0 = some (v, ρ) ∧ f_X11_judge_95 τ c s m bits at_ sum 0 = some (v, τ) := by
  unfold f_X10_firstWrong_55 f_X11_judge_95
  obtain ⟨P, hP⟩ : ∃ P : Int × Int × Int × Int → Prop, P = fun a => ∃ b : Nat, ∃ k : Nat, a.1 = (b : Int) ∧ a.2.2.2 = (k : Int) ∧ b < 4096 ∧ (∀ p, b.testBit p = true → (p : Int) < B 8 0) ∧ (k : Int) ≤ 100 := ⟨_, rfl⟩
  have hstep : ∀ a, P a → ∀ a', (f_X10_firstWrong_55B ρ c s m a = some (.inl a') → P a' ∧ (40 - a'.2.2.2).toNat < (40 - a.2.2.2).toNat) ∧ f_X10_firstWrong_55B ρ c s m a = f_X11_judge_95B τ c s m a := fun a ha a' => by
    rw [hP] at ha
    obtain ⟨x6, x7, x8, x9⟩ := a
    obtain ⟨b, k, e1, e2, g1, g2, g3⟩ := ha
    have e1 : x6 = (b : Int) := e1
    have e2 : x9 = (k : Int) := e2
    subst e1; subst e2
    have q1 := X10_fw51 hB w hc hc2 hs hz hz2 g1 (at_ := x7) (sum := x8) (k := k) (by omega)
    have q2 := X11_jd95 hR w hc hc2 hs (m := m) (by omega) g1 g2 (at_ := x7) (sum := x8) (k := k) (by omega)
    refine ⟨fun hf => ?_, ?_⟩
    · have hf : f_X10_firstWrong_55C ρ c s m b x7 x8 k = some (.inl a') := hf
      rw [q1] at hf
      by_cases hend : m ≤ k
      · rw [if_pos hend] at hf; cases hf
      · rw [if_neg hend] at hf
        obtain ⟨p, hx⟩ := jst_in hf
        rw [hP, hx]
        have ek : jadd (k : Int) 1 = ((k + 1 : Nat) : Int) := by rw [jadd_ok (by omega) (by omega)]; omega
        refine ⟨⟨clr b p, k + 1, rfl, ek, Nat.lt_of_le_of_lt (clr_le b p) g1, fun i hi => g2 i ?_, by omega⟩, ?_⟩
        · rw [clr_tb] at hi
          simp at hi
          exact hi.1
        · show (40 - jadd (k : Int) 1).toNat < (40 - (k : Int)).toNat
          rw [ek]; omega
    · show f_X10_firstWrong_55C ρ c s m b x7 x8 k = f_X11_judge_95C τ c s m b x7 x8 k
      rw [q1, q2]
      by_cases hend : m ≤ k
      · rw [if_pos hend, if_pos hend]
      · obtain ⟨y1, y2, y3, y4⟩ := sh40 hs (i := k) (by omega)
        rw [if_neg hend, if_neg hend, he _ y3 y4]
  have h0 : P ((bits : Int), at_, sum, 0) := by rw [hP]; exact ⟨bits, 0, rfl, rfl, hb, hb2, by decide⟩
  have hex : ∃ x, loop (f_X10_firstWrong_55B ρ c s m) FU ((bits : Int), at_, sum, 0) = some x := by
    obtain ⟨x, hx, -⟩ := loop_ex (f := f_X10_firstWrong_55B ρ c s m) P (fun a => (40 - a.2.2.2).toNat) (fun _ => True) h0 (Nat.le_of_ble_eq_true rfl) (fun a ha => by
      cases hf : f_X10_firstWrong_55B ρ c s m a with
      | none =>
        exfalso
        rw [hP] at ha
        obtain ⟨x6, x7, x8, x9⟩ := a
        obtain ⟨b, k, e1, e2, g1, g2, g3⟩ := ha
        have e1 : x6 = (b : Int) := e1
        have e2 : x9 = (k : Int) := e2
        subst e1; subst e2
        have hf : f_X10_firstWrong_55C ρ c s m b x7 x8 k = none := hf
        rw [X10_fw51 hB w hc hc2 hs hz hz2 g1 (by omega)] at hf
        split at hf
        · cases hf
        · unfold jst at hf
          split at hf
          · split at hf
            · cases hf
            · split at hf <;> cases hf
          · cases hf
      | some x =>
        cases x with
        | inl a' =>
          obtain ⟨p1, p2⟩ := (hstep a ha a').1 hf
          exact Or.inl ⟨a', rfl, p1, p2⟩
        | inr b => exact Or.inr ⟨b, rfl, trivial⟩)
    exact ⟨x, hx⟩
  obtain ⟨x, hx⟩ := hex
  have hx2 := loop_congr (f := f_X10_firstWrong_55B ρ c s m) (g := f_X11_judge_95B τ c s m) (P := P) (fun a ha => ⟨(hstep a ha a).2, fun a' hf => ((hstep a ha a').1 hf).1⟩) FU _ h0
  rw [← hx2, hx]
  rcases x with v | v | v
  · exact ⟨v, rfl, rfl⟩
  · exact ⟨v, rfl, rfl⟩
  · exact ⟨-1, rfl, rfl⟩
/-- a shelf with too few elements, or none, both sides -/
theorem X11_wrongShelf {n : Nat} {σ ρ : Mem} {B : Bk} (h : INV0 n σ B) {s : Int} (hs : 0 ≤ s ∧ s < 8) (r1 : ρ 185 = σ 185) (r2 : ρ 186 = σ 186) {m : Int} (hm : 0 ≤ m) : f_X11_wrongShelf ρ s m = some (if trb (σ 31 s) = 0 then (if m ≤ σ 32 s then 0 else -52) else trb (σ 31 s)) := by
  obtain ⟨e177, hc⟩ := h.2.2.1 s hs.1 hs.2
  unfold f_X11_wrongShelf trb
  rw [r1, r2, chk_pos (by omega), e177, chk_pos (by omega), chk_pos (by omega)]
  rcases hc with ⟨c1, c2⟩ | ⟨c1, c2, c3, c4, c5⟩ | ⟨c1, c2, c3⟩
  · rw [c1]; rfl
  · rw [if_pos (by omega), if_pos (by omega), if_neg (show ¬ σ 31 s = -1 by omega), if_pos (show σ 31 s < 10 by omega), if_pos rfl, c5]
    by_cases e : m ≤ σ 32 s
    · rw [if_pos e, if_pos e]
    · rw [if_neg e, if_neg e]
  · rw [if_neg (by omega), if_neg (show ¬ σ 31 s = -1 by omega), if_neg (show ¬ σ 31 s < 10 by omega), if_neg (by decide)]
/-- judge -/
theorem k_judge {n : Nat} {σ : Mem} {B : Bk} (h : INV0 n σ B) (hl : n < 1000) (c d s m : Int) : CALL0 n σ B (f_X10_judge σ c d s m) (fun ρ => f_X11_judge ρ c d s m) := by
  have hst := h.1
  obtain ⟨hB, hR, w, hW⟩ := h.1
  have hn := w.1
  unfold WFn at hn
  have hR' : isRk (refd σ (-52)) 182 B := isRk_refd hR
  by_cases h1 : 0 ≤ c ∧ c < B 8 1
  rotate_left
  · refine same.call h (same.no (x := -52) (by omega) (by decide) ?_ CFr.rfl hW ?_ RFr.rfl)
    · unfold f_X10_judge
      rw [bind_some' (X0_hasCand hB c), if0, if_neg h1]
      exact c_no (by decide)
    · show f_X11_judge _ c d s m = _
      unfold f_X11_judge
      rw [bind_some' (X11_isCand hR' w c), if0, if_neg h1]
      exact r_no (by decide)
  by_cases h2 : 0 ≤ d ∧ d < 5
  rotate_left
  · refine same.call h (same.no (x := -52) (by omega) (by decide) ?_ CFr.rfl hW ?_ RFr.rfl)
    · unfold f_X10_judge
      rw [bind_some' (X0_hasCand hB c), if0, if_pos h1, bind_some' (X10_isDay d), if0, if_neg h2]
      exact c_no (by decide)
    · show f_X11_judge _ c d s m = _
      unfold f_X11_judge
      rw [bind_some' (X11_isCand hR' w c), if0, if_pos h1, bind_some' (X11_isDay d), if0, if_neg h2]
      exact r_no (by decide)
  by_cases h3 : 0 ≤ s ∧ s < 8
  rotate_left
  · refine same.call h (same.no (x := -52) (by omega) (by decide) ?_ CFr.rfl hW ?_ RFr.rfl)
    · unfold f_X10_judge
      rw [bind_some' (X0_hasCand hB c), if0, if_pos h1, bind_some' (X10_isDay d), if0, if_pos h2, bind_some' (X6_isShelf s), if0, if_neg h3]
      exact c_no (by decide)
    · show f_X11_judge _ c d s m = _
      unfold f_X11_judge
      rw [bind_some' (X11_isCand hR' w c), if0, if_pos h1, bind_some' (X11_isDay d), if0, if_pos h2, bind_some' (X11_isShelf s), if0, if_neg h3]
      exact r_no (by decide)
  by_cases h4 : 0 ≤ m ∧ m ≤ 12
  rotate_left
  · refine same.call h (same.no (x := -52) (by omega) (by decide) ?_ CFr.rfl hW ?_ RFr.rfl)
    · unfold f_X10_judge
      rw [bind_some' (X0_hasCand hB c), if0, if_pos h1, bind_some' (X10_isDay d), if0, if_pos h2, bind_some' (X6_isShelf s), if0, if_pos h3, bind_some' (X10_isTold m), if1, if_neg h4]
      exact c_no (by decide)
    · show f_X11_judge _ c d s m = _
      unfold f_X11_judge
      rw [bind_some' (X11_isCand hR' w c), if0, if_pos h1, bind_some' (X11_isDay d), if0, if_pos h2, bind_some' (X11_isShelf s), if0, if_pos h3, bind_some' (X11_isIn m 0 12), if1, if_neg h4]
      exact r_no (by decide)
  obtain ⟨e177, hc⟩ := h.2.2.1 s h3.1 h3.2
  have rr : ∀ x y : Int, y ≠ 34 → refd σ x y = σ y := fun x y hy => refd_row hy
  by_cases ht : trb (σ 31 s) = 0
  rotate_left
  · have hx : -56 ≤ trb (σ 31 s) ∧ trb (σ 31 s) ≤ -52 := by unfold trb at ht ⊢; split <;> omega
    refine same.call h (same.no (x := trb (σ 31 s)) (by omega) hx ?_ CFr.rfl hW ?_ RFr.rfl)
    · unfold f_X10_judge
      rw [bind_some' (X0_hasCand hB _), if0, if_pos h1, bind_some' (X10_isDay _), if0, if_pos h2, bind_some' (X6_isShelf _), if0, if_pos h3, bind_some' (X10_isTold _), if1, if_pos h4]
      rw [bind_some' (X6_rowTrouble h3), if_neg ht]
      exact c_no hx
    · have hR2 : isRk (refd σ (trb (σ 31 s))) 182 B := isRk_refd hR
      show f_X11_judge _ _ _ _ _ = _
      unfold f_X11_judge
      rw [bind_some' (X11_isCand hR2 w _), if0, if_pos h1, bind_some' (X11_isDay _), if0, if_pos h2, bind_some' (X11_isShelf _), if0, if_pos h3, bind_some' (X11_isIn _ 0 12), if1, if_pos h4]
      rw [bind_some' (X11_wrongShelf h h3 (rr _ _ (by decide)) (rr _ _ (by decide)) h4.1), if_neg ht, if_neg ht]
      exact r_no hx
  have hz : 0 ≤ σ 32 s ∧ σ 32 s ≤ 40 := by omega
  by_cases hm : m ≤ σ 32 s
  rotate_left
  · refine same.call h (same.no (x := -52) (by omega) (by decide) ?_ CFr.rfl hW ?_ RFr.rfl)
    · unfold f_X10_judge
      rw [bind_some' (X0_hasCand hB _), if0, if_pos h1, bind_some' (X10_isDay _), if0, if_pos h2, bind_some' (X6_isShelf _), if0, if_pos h3, bind_some' (X10_isTold _), if1, if_pos h4]
      rw [bind_some' (X6_rowTrouble h3), if_pos ht, bind_some' (X6_hasElements h3 hz 0 m), if1, if_neg (by omega)]
      exact c_no (by decide)
    · show f_X11_judge _ _ _ _ _ = _
      unfold f_X11_judge
      rw [bind_some' (X11_isCand hR' w _), if0, if_pos h1, bind_some' (X11_isDay _), if0, if_pos h2, bind_some' (X11_isShelf _), if0, if_pos h3, bind_some' (X11_isIn _ 0 12), if1, if_pos h4]
      rw [bind_some' (X11_wrongShelf h h3 (rr _ _ (by decide)) (rr _ _ (by decide)) h4.1), if_pos ht, if_neg hm, if_neg (by decide)]
      exact r_no (by decide)
  obtain ⟨D, rfl⟩ := n_of h2.1
  obtain ⟨ρ, a1, a2, a3, a4, a5⟩ := ask hst h1.1 h1.2
  obtain ⟨hBr, hRr, -, hWr⟩ := a4
  have p1 : ((54 + 10 * c, ρ) : Int × Mem).1 = 54 + 10 * c := rfl
  have p2 : ((54 + 10 * c, ρ) : Int × Mem).2 = ρ := rfl
  have hwd := a5 D (by omega)
  obtain ⟨τ, t1, t2, t3⟩ := X11_plans hRr w h1.1 h1.2
  have hRt : isRk τ 182 B := hRr.row (t2 182 (by decide))
  obtain ⟨-, u190, u191⟩ := t3 D (by omega)
  have c0 : ∀ x, ¬ (10 ≤ x ∧ x ≤ 18) → ¬ (35 ≤ x ∧ x ≤ 42) → ¬ (45 ≤ x ∧ x ≤ 163) → x ≠ 179 → x ≠ 180 → ρ x = σ x := a2
  have e32 : ρ 32 = σ 32 := c0 32 (by decide) (by decide) (by decide) (by decide) (by decide)
  have hm2 := okm_od w h1.1 h1.2 (D : Int)
  obtain ⟨v, v1, v2⟩ := jd_both (ρ := ρ) (τ := τ) hBr hRt w h1.1 h1.2 h3 (m := m) h4.2 (by rw [e32]; exact hm) (by rw [e32]; exact hz.2) (fun i i1 i2 => by rw [t2 187 (by decide), c0 187 (by decide) (by decide) (by decide) (by decide) (by decide), c0 33 (by decide) (by decide) (by decide) (by decide) (by decide)]; exact h.2.2.2.1 i i1 i2) hm2.1 hm2.2.2 (fre B c (ovr B c D)) ((ahd B c (ovr B c D) : Nat) : Int)
  refine same.call h (same.ok (τ := τ) (v := v) (by omega) ?_ a2 hWr ?_ (rf_of t2))
  · unfold f_X10_judge
    rw [bind_some' (X0_hasCand hB _), if0, if_pos h1, bind_some' (X10_isDay _), if0, if_pos h2, bind_some' (X6_isShelf _), if0, if_pos h3, bind_some' (X10_isTold _), if1, if_pos h4]
    rw [bind_some' (X6_rowTrouble h3), if_pos ht, bind_some' (X6_hasElements h3 hz 0 m), if1, if_pos (by omega)]
    unfold f_X10_firstWrong
    rw [bind_some' a1, p1, p2, chk_pos (by omega), bind_some' (X0_papersOf hBr w _)]
    simp only [Option.bind_some]
    rw [show jand (ρ 8 c) ((ppl B D : Nat) : Int) = ((od B c D : Nat) : Int) from takes_od hBr w h1.1 h1.2, chk_pos (by omega), chk_pos (by omega), hwd.1, hwd.2.1, v1]
    rfl
  · show f_X11_judge _ _ _ _ _ = _
    unfold f_X11_judge
    rw [bind_some' (X11_isCand hRr w _), if0, if_pos h1, bind_some' (X11_isDay _), if0, if_pos h2, bind_some' (X11_isShelf _), if0, if_pos h3, bind_some' (X11_isIn _ 0 12), if1, if_pos h4]
    have e177' : ρ 185 = σ 185 := c0 185 (by decide) (by decide) (by decide) (by decide) (by decide)
    have e178' : ρ 186 = σ 186 := c0 186 (by decide) (by decide) (by decide) (by decide) (by decide)
    rw [bind_some' (X11_wrongShelf h h3 e177' e178' h4.1), if_pos ht, if_pos hm, if_pos rfl, bind_some' t1, bind_some' (X11_ofDay hRt w h1.1 h1.2 _), chk_pos (by omega)]
    simp only [Option.bind_some]
    rw [chk_pos (by omega), u190, u191, v2]
