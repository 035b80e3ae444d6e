/-! PIECES, both sides: the same list -/
theorem spn_e (t : Nat) : spn t t = 0 := by
  unfold spn
  exact mset_none fun i hi => decide_eq_false (by omega)
theorem spn_pos {t k : Nat} (hk : 0 < k) : spn t (t + k) ≠ 0 := fun h => by
  have := spn_tb t (t + k) t
  rw [h, decide_eq_true (Nat.le_refl t), decide_eq_true (show t < t + k by omega)] at this
  simp at this
theorem rvn_b (q : Nat → Int) {t : Nat} (ht : t < 48) : 0 < rvn q t ∧ t + rvn q t ≤ 48 := by
  have h1 := rl_le (fun u => decide (q u = q t)) (48 - t) t
  unfold rvn
  refine ⟨?_, by omega⟩
  rw [rl_s ht, show decide (q t = q t) = true from decide_eq_true rfl, bt]
  omega
theorem pcs_s (q : Nat → Int) (t : Nat) : pcs q (t + 1) = if nwP q t then pcs q t ++ [(t, rvn q t)] else pcs q t := rfl
/-- what a week's rows say of a day -/
theorem wk_day2 {σ : Mem} {k : Int} {B : Bk} (w : WF B) {c : Int} (hc : 0 ≤ c) (hc2 : c < B 8 1) (h : isWk σ k B c) {d : Nat} (hd : d < 5) : ∃ (n : Nat) (b e p : Nat → Int), dayQ (DD B c d) (ahd B c (ovr B c d)) n (ovr B c d) b e p ∧ n ≤ 4 ∧ σ (k + 4) d = (ahd B c (ovr B c d) : Int) ∧ σ (k + 5) d = (n : Int) ∧ ∀ j : Nat, j < n → σ (k + 8) (4 * (d : Int) + j) = b j ∧ σ (k + 9) (4 * (d : Int) + j) = e j := by
  have hw := h d hd
  cases hx : dpl B c d (ovr B c d) with
  | none =>
    rw [hx] at hw
    obtain ⟨h1, h2, h3, h4⟩ := hw.2.2.1 rfl
    have ho := ovr_b w hc hc2 d
    have hn := w.1
    unfold WFn at hn
    refine ⟨0, fun _ => 0, fun _ => 0, fun _ => 0, ⟨ahd_b w hc hc2 ho.2, fun ha => ?_, fun j hj => absurd hj (Nat.not_lt_zero _), fun i j _ hj => absurd hj (Nat.not_lt_zero _), fun t ht => by rw [DD_none hx, if_pos ht], fun t j hj => absurd hj (Nat.not_lt_zero _), fun t ht _ => Or.inr (by rw [DD_none hx, if_neg ht])⟩, by omega, hw.2.1, h3, fun j hj => absurd hj (Nat.not_lt_zero _)⟩
    unfold ahd at ha
    by_cases e : ovr B c d < 0
    · rw [if_pos e] at ha; omega
    · omega
  | some y =>
    obtain ⟨v, o', m, l⟩ := y
    rw [hx] at hw
    obtain ⟨hm, -, -, -, -, -, -⟩ := dpl_some w hc hc2 hx
    obtain ⟨h1, h2, h3, h4, h5⟩ := hw.2.2.2 v o' m l rfl
    exact ⟨nof m, _, _, _, dayQ_DD w hc hc2 hx, hm.2.1, hw.2.1, h3, fun j hj => (h5 j hj).2⟩
theorem pcs_9 {B : Bk} (w : WF B) {c : Int} (hc : 0 ≤ c) (hc2 : c < B 8 1) {σ : Mem} {k : Int} (h : isWk σ k B c) {d : Nat} (hd : d < 5) {t : Nat} (ht : t ≤ 48) : (pcs (DD B c d) t).length ≤ 9 := by
  obtain ⟨n, b, e, p, h1, h2, -⟩ := wk_day2 w hc hc2 h hd
  have := dq_9 h1 h2 (st_4 w hc hc2 hd)
  have h3 := cnt_mono (nwP (DD B c d)) (a := t) 48 ht
  rw [len_pcs]
  omega
theorem X8_pieceFrom {σ : Mem} {k : Int} {B : Bk} (w : WF B) {c : Int} (hc : 0 ≤ c) (hc2 : c < B 8 1) (h : isWk σ k B c) {d : Nat} (hd : d < 5) {t : Nat} (ht : t < 48) : f_X8_pieceFrom σ k d t = some ((if nwP (DD B c d) t then spn t (t + rvn (DD B c d) t) else 0 : Nat) : Int) := by
  obtain ⟨n, b, e, p, hq, hn4, ha, hcnt, hrow⟩ := wk_day2 w hc hc2 h hd
  have ha48 := hq.1
  obtain ⟨a, had⟩ : ∃ a, a = ahd B c (ovr B c d) := ⟨_, rfl⟩
  rw [← had] at hq ha ha48
  obtain ⟨q, hqd⟩ : ∃ q, q = DD B c d := ⟨_, rfl⟩
  rw [← hqd] at hq ⊢
  have hr := rvn_b q ht
  unfold f_X8_pieceFrom
  by_cases h0 : t = 0 ∧ 0 < a
  · obtain ⟨h0, h1⟩ := h0
    subst h0
    obtain ⟨g1, g2⟩ := dq_rv_o hq h1
    rw [if_neg (by decide), chk_pos (by omega), ha, if_neg (by omega), chk_pos (by omega), show (0 : Int) = ((0 : Nat) : Int) from rfl, bind_some' (span_n (by omega) ha48), g1, bt, g2, Nat.zero_add]
  · have e24 : (if ((t : Nat) : Int) ≠ 0 then (f_X8_pieceFrom_24 σ k d t) else (chk (0 ≤ (d : Int) ∧ (d : Int) < ((5 : Nat) : Int)) (if (σ (k + 4) d) ≤ 0 then (f_X8_pieceFrom_24 σ k d t) else (chk (0 ≤ (d : Int) ∧ (d : Int) < ((5 : Nat) : Int)) ((f_X10_span σ (0 : Int) (σ (k + 4) d)).bind fun v1 => (some v1)))))) = f_X8_pieceFrom_24 σ k d t := by
      by_cases e0 : t = 0
      · subst e0
        rw [if_neg (by decide), chk_pos (by omega), ha, if_pos (by omega)]
      · rw [if_pos (by omega)]
    rw [e24]
    unfold f_X8_pieceFrom_24 f_X8_pieceFrom_26
    obtain ⟨x, x1, x2⟩ := loop_ex (f := f_X8_pieceFrom_26B σ k d t) (fun s => ∃ i : Nat, s = (i : Int) ∧ i ≤ n ∧ ∀ j, j < i → b j ≠ (t : Int)) (fun s => (10 - s).toNat) (fun x => (∃ j : Nat, j < n ∧ x = .inl (4 * (d : Int) + j) ∧ b j = (t : Int)) ∨ (x = .inr () ∧ ∀ j, j < n → b j ≠ (t : Int))) (a := 0) ⟨0, rfl, Nat.zero_le _, fun j hj => absurd hj (Nat.not_lt_zero _)⟩ (Nat.le_of_ble_eq_true rfl) (by
      rintro _ ⟨i, rfl, hi, k1⟩
      show (∃ a', f_X8_pieceFrom_26C σ k d t (i : Int) = _ ∧ _) ∨ ∃ a', f_X8_pieceFrom_26C σ k d t (i : Int) = _ ∧ _
      unfold f_X8_pieceFrom_26C
      rw [chk_pos (by omega), hcnt]
      by_cases hend : (n : Int) ≤ i
      · right
        rw [if_pos hend]
        have : i = n := by omega
        subst this
        exact ⟨_, rfl, Or.inr ⟨rfl, k1⟩⟩
      · have e4 : jadd (jmul (d : Int) 4) (i : Int) = 4 * (d : Int) + i := by rw [jmul_ok (by omega) (by omega), jadd_ok (by omega) (by omega)]; omega
        rw [if_neg hend]
        simp only [Option.bind_some]
        rw [e4, chk_pos (by omega), (hrow i (by omega)).1]
        by_cases hb : b i = (t : Int)
        · right
          rw [if_neg (by omega)]
          exact ⟨_, rfl, Or.inl ⟨i, by omega, rfl, hb⟩⟩
        · left
          rw [if_pos hb, jadd_ok (by omega) (by omega)]
          refine ⟨_, rfl, ⟨i + 1, by omega, by omega, fun j hj => ?_⟩, by omega⟩
          by_cases g : j = i
          · rw [g]; exact hb
          · exact k1 j (by omega))
    rw [x1, bsm]
    rcases x2 with ⟨j, j1, j2, j3⟩ | ⟨j2, j3⟩
    · rw [j2]
      show f_X8_pieceFrom_54 σ k t (4 * (d : Int) + j) = _
      obtain ⟨g1, g2, g3⟩ := dq_rv_s hq j1 j3
      unfold f_X8_pieceFrom_54
      rw [chk_pos (by omega), (hrow j j1).2, ← g2, bind_some' (span_n (by omega) hr.2), g1, bt]
    · rw [j2]
      show f_X8_pieceFrom_72 σ k d t = _
      obtain ⟨g1, g2⟩ := dq_rv_k hq ht h0 j3
      have hk : (fun u => decide (q u = 20)) = kp B c d := by rw [hqd]; rfl
      rw [hk] at g1 g2
      have hrl := rl_le (kp B c d) (48 - t) t
      unfold f_X8_pieceFrom_72
      rw [bind_some' (X8_dutyFrom hd (wk_kept w hc hc2 h hd) ht), g1]
      cases hst : stB (kp B c d) t with
      | true =>
        rw [bt, bt, ← g2 hst, jadd_ok (by omega) (by omega), show (t : Int) + ((rvn q t : Nat) : Int) = ((t + rvn q t : Nat) : Int) by omega, bind_some' (span_n (by omega) hr.2)]
      | false =>
        rw [bf, bf, jadd_ok (by omega) (by omega), show (t : Int) + ((0 : Nat) : Int) = (t : Int) by omega, bind_some' (span_n (by omega) (by omega)), spn_e]
/-- the class' pieces -/
def isPc (σ : Mem) (ps : List (Nat × Nat)) : Prop := ∀ i : Nat, i < ps.length → σ 174 i = ((spn (ps.getD i (0, 0)).1 ((ps.getD i (0, 0)).1 + (ps.getD i (0, 0)).2) : Nat) : Int)
theorem X8_piecesOf {σ : Mem} {k : Int} (hk : 54 ≤ k ∧ k ≤ 144) {B : Bk} (w : WF B) {c : Int} (hc : 0 ≤ c) (hc2 : c < B 8 1) (h : isWk σ k B c) {d : Nat} (hd : d < 5) : ∃ τ, f_X8_piecesOf σ k d = some (((pcs (DD B c d) 48).length : Int), τ) ∧ (∀ x, x ≠ 174 → τ x = σ x) ∧ isPc τ (pcs (DD B c d) 48) := by
  obtain ⟨q, hqd⟩ : ∃ q, q = DD B c d := ⟨_, rfl⟩
  unfold f_X8_piecesOf f_X8_piecesOf_5
  obtain ⟨e, e1, e2, e3, e4⟩ := loop_ex (f := f_X8_piecesOf_5B k d) (fun s => ∃ t : Nat, s.2.1 = (t : Int) ∧ t ≤ 48 ∧ s.1 = ((pcs q t).length : Int) ∧ (∀ x, x ≠ 174 → s.2.2 x = σ x) ∧ isPc s.2.2 (pcs q t)) (fun s => (60 - s.2.1).toNat) (fun e => e.1 = ((pcs q 48).length : Int) ∧ (∀ x, x ≠ 174 → e.2 x = σ x) ∧ isPc e.2 (pcs q 48)) (a := (0, 0, σ)) ⟨0, rfl, Nat.zero_le _, rfl, fun _ _ => rfl, fun i hi => absurd hi (Nat.not_lt_zero _)⟩ (Nat.le_of_ble_eq_true rfl) (by
    rintro ⟨x3, _, τ⟩ ⟨t, rfl, ht, g4, k1, k2⟩
    have g4 : x3 = ((pcs q t).length : Int) := g4
    have k1 : ∀ x, x ≠ 174 → τ x = σ x := k1
    have k2 : isPc τ (pcs q t) := k2
    show (∃ a', f_X8_piecesOf_5C k d x3 (t : Int) τ = _ ∧ _) ∨ ∃ a', f_X8_piecesOf_5C k d x3 (t : Int) τ = _ ∧ _
    unfold f_X8_piecesOf_5C
    by_cases hend : (48 : Int) ≤ t
    · right
      rw [if_pos hend]
      have : t = 48 := by omega
      subst this
      exact ⟨_, rfl, g4, k1, k2⟩
    · left
      have hw : isWk τ k B c := h.keep fun x x1 x2 => k1 x (by omega)
      have hpf := X8_pieceFrom w hc hc2 hw hd (t := t) (by omega)
      rw [← hqd] at hpf
      have hr := rvn_b q (t := t) (by omega)
      have h9 := pcs_9 w hc hc2 hw hd (t := t + 1) (by omega)
      rw [← hqd] at h9
      have es := pcs_s q t
      rw [if_neg hend, bind_some' hpf]
      have fin : ∀ (ρ : Mem) (z : Int), z = ((pcs q (t + 1)).length : Int) → (∀ x, x ≠ 174 → ρ x = σ x) → isPc ρ (pcs q (t + 1)) → ∃ a', f_X8_piecesOf_42 ρ k d z (t : Int) = some (.inl a') ∧ (∃ t : Nat, a'.2.1 = (t : Int) ∧ t ≤ 48 ∧ a'.1 = ((pcs q t).length : Int) ∧ (∀ x, x ≠ 174 → a'.2.2 x = σ x) ∧ isPc a'.2.2 (pcs q t)) ∧ (60 - a'.2.1).toNat < (60 - (t : Int)).toNat := fun ρ z z1 z2 z3 => by
        unfold f_X8_piecesOf_42
        simp only [Option.bind_some]
        rw [jadd_ok (by omega) (by omega)]
        exact ⟨_, rfl, ⟨t + 1, by show (t : Int) + 1 = _; omega, by omega, z1, z2, z3⟩, by show (60 - ((t : Int) + 1)).toNat < (60 - (t : Int)).toNat; omega⟩
      cases hn : nwP q t with
      | false =>
        rw [hn, bf] at es
        rw [bf, if_pos (by decide)]
        exact fin τ x3 (by rw [es]; exact g4) k1 (by rw [es]; exact k2)
      | true =>
        rw [hn, bt] at es
        rw [es, List.length_append] at h9
        have h9 : (pcs q t).length + 1 ≤ 9 := h9
        have hne := spn_pos (t := t) hr.1
        rw [bt, if_neg (by omega), if_neg (by omega), chk_pos (by omega)]
        simp only [Option.bind_some]
        rw [jadd_ok (by omega) (by omega)]
        refine fin _ _ (by rw [es, List.length_append, g4]; rfl) (fun x hx => by rw [mup_row hx, k1 x hx]) fun i hi => ?_
        rw [es] at hi ⊢
        rw [List.length_append] at hi
        have hi : i < (pcs q t).length + 1 := hi
        by_cases e : i = (pcs q t).length
        · rw [e, gd2, mup_hit rfl (by omega)]
        · rw [gd1 (by omega), mup_miss (by omega)]
          exact k2 i (by omega))
  rw [e1, ← hqd]
  exact ⟨e.2, by show some (e.1, e.2) = _; rw [e2], e3, e4⟩
/-- the reference's pieces -/
def isRp (σ : Mem) (ps : List (Nat × Nat)) : Prop := σ 181 37 = (ps.length : Int) ∧ ∀ i : Nat, i < ps.length → σ 211 i = ((ps.getD i (0, 0)).1 : Int) ∧ σ 212 i = ((ps.getD i (0, 0)).2 : Int)