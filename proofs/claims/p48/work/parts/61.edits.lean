/-! EDITS: what a change of the book does -/
theorem ovr_agr {B B' : Bk} (w : WF B) {c : Int} (hc : 0 ≤ c) (hc2 : c < B 8 1) (h : ∀ d : Nat, agr B B' c d) : ∀ d : Nat, ovr B' c d = ovr B c d
  | 0 => rfl
  | d + 1 => by
    show ov (dpl B' c d (ovr B' c d)) = ov (dpl B c d (ovr B c d))
    rw [ovr_agr w hc hc2 h d, dpl_agr w hc hc2 (h d) (ovr_b w hc hc2 d).2]
theorem isWk_agr {B B' : Bk} (w : WF B) {c : Int} (hc : 0 ≤ c) (hc2 : c < B 8 1) (h : ∀ d : Nat, agr B B' c d) {σ : Mem} {k : Int} (g : isWk σ k B c) : isWk σ k B' c := fun d hd => by
  rw [ovr_agr w hc hc2 h d]
  exact isWd_agr w hc hc2 (h d) (ovr_b w hc hc2 d).2 (g d hd)
theorem call_gen {n : Nat} {σ ρ τ : Mem} {B B' : Bk} {v : Int} {a : Option (Int × Mem)} {r : Mem → Option (Int × Mem)} (h : INV0 n σ B) (w' : WF B') (a1 : a = some (v, ρ)) (a2 : r ρ = some (v, τ)) (k : ∀ x i, ¬ (1 ≤ x ∧ x ≤ 18) → x ≠ 28 → x ≠ 31 → x ≠ 34 → (x = 43 → i ≠ 3) → x ≠ 53 → (x = 181 → i = 2) → x ≠ 182 → x ≠ 184 → x ≠ 185 → x ≠ 191 → τ x i = σ x i) (hB : isBk τ 1 B') (hR : isRk τ 182 B') (hW : ∀ c, 0 ≤ c → c < B' 8 1 → τ 53 c ≠ 0 → σ 53 c ≠ 0 ∧ c < B 8 1 ∧ ∀ d : Nat, agr B B' c d) (he : τ 43 3 = σ 43 3 + 1 ∨ (τ 43 3 = σ 43 3 ∧ SAMEB B B')) (h3 : SHF τ B') (h5 : TAP τ) (h6 : RFS τ) : CALL0 n σ B a r := by
  obtain ⟨⟨-, -, w, hW0⟩, h2, -, h4, -, -, h7, h8⟩ := h
  have hn := w.1
  have hn' := w'.1
  unfold WFn at hn hn'
  have q : ∀ x i, ¬ (1 ≤ x ∧ x ≤ 18) → x ≠ 28 → x ≠ 31 → x ≠ 34 → x ≠ 43 → x ≠ 53 → ¬ (181 ≤ x ∧ x ≤ 182) → x ≠ 184 → x ≠ 185 → x ≠ 191 → τ x i = σ x i := fun x i g1 g2 g3 g4 g5 g6 g7 g8 g9 g10 => k x i g1 g2 g3 g4 (fun e => absurd e g5) g6 (fun e => absurd e (by omega)) (by omega) g8 g9 g10
  refine ⟨v, ρ, τ, B', a1, a2, ⟨⟨hB, hR, w', fun c c1 c2 c3 => ?_⟩, h2.pt (k _ _ (by decide) (by decide) (by decide) (by decide) (by decide) (by decide) (fun _ => rfl) (by decide) (by decide) (by decide) (by decide)) (q _ _ (by decide) (by decide) (by decide) (by decide) (by decide) (by decide) (by decide) (by decide) (by decide) (by decide)) (fun x i g1 g2 => q x i (by omega) (by omega) (by omega) (by omega) (by omega) (by omega) (by omega) (by omega) (by omega) (by omega)) (fun i => q _ _ (by decide) (by decide) (by decide) (by decide) (by decide) (by decide) (by decide) (by decide) (by decide) (by decide)), h3, h4.pt (fun i => q _ _ (by decide) (by decide) (by decide) (by decide) (by decide) (by decide) (by decide) (by decide) (by decide) (by decide)) (fun i => q _ _ (by decide) (by decide) (by decide) (by decide) (by decide) (by decide) (by decide) (by decide) (by decide) (by decide)), h5, h6, h7.pt (fun i => q _ _ (by decide) (by decide) (by decide) (by decide) (by decide) (by decide) (by decide) (by decide) (by decide) (by decide)), h8.s ?_⟩, fun x i g1 g2 => q x i (by omega) (by omega) (by omega) (by omega) (by omega) (by omega) (by omega) (by omega) (by omega) (by omega), he⟩
  · obtain ⟨g1, g2, g3⟩ := hW c c1 c2 c3
    have := isWk_agr w c1 g2 g3 (hW0 c c1 g2 g1)
    exact this.keep fun x y1 y2 => funext fun i => q x i (by omega) (by omega) (by omega) (by omega) (by omega) (by omega) (by omega) (by omega) (by omega) (by omega)
  · exact he.symm.imp_left fun e => e.1
theorem call_edit {n : Nat} {σ ρ τ : Mem} {B B' : Bk} {v : Int} {a : Option (Int × Mem)} {r : Mem → Option (Int × Mem)} (h : INV0 n σ B) (w' : WF B') (a1 : a = some (v, ρ)) (a2 : r ρ = some (v, τ)) (k : ∀ x i, ¬ (1 ≤ x ∧ x ≤ 18) → (x = 43 → i ≠ 3) → x ≠ 53 → x ≠ 182 → x ≠ 191 → τ x i = σ x i) (hB : isBk τ 1 B') (hR : isRk τ 182 B') (hC : B 8 1 ≤ B' 8 1) (hW : ∀ c, 0 ≤ c → c < B' 8 1 → τ 53 c ≠ 0 → σ 53 c ≠ 0 ∧ c < B 8 1 ∧ ∀ d : Nat, agr B B' c d) (he : τ 43 3 = σ 43 3 + 1 ∨ (τ 43 3 = σ 43 3 ∧ SAMEB B B')) : CALL0 n σ B a r := by
  have q : ∀ x i, ¬ (1 ≤ x ∧ x ≤ 18) → x ≠ 43 → x ≠ 53 → x ≠ 182 → x ≠ 191 → τ x i = σ x i := fun x i g1 g2 g3 g4 g5 => k x i g1 (fun e => absurd e g2) g3 g4 g5
  exact call_gen h w' a1 a2 (fun x i g1 _ _ _ g5 g6 _ g8 _ _ g11 => k x i g1 g5 g6 g8 g11) hB hR hW he (h.2.2.1.pt (fun i => q _ _ (by decide) (by decide) (by decide) (by decide) (by decide)) (fun i => q _ _ (by decide) (by decide) (by decide) (by decide) (by decide)) (fun i => q _ _ (by decide) (by decide) (by decide) (by decide) (by decide)) (fun i => q _ _ (by decide) (by decide) (by decide) (by decide) (by decide)) hC) (h.2.2.2.2.1.pt (q _ _ (by decide) (by decide) (by decide) (by decide) (by decide)) (q _ _ (by decide) (by decide) (by decide) (by decide) (by decide)) (fun i => q _ _ (by decide) (by decide) (by decide) (by decide) (by decide)) (fun i => q _ _ (by decide) (by decide) (by decide) (by decide) (by decide))) (h.2.2.2.2.2.1.pt (fun i => q _ _ (by decide) (by decide) (by decide) (by decide) (by decide)) (fun i => q _ _ (by decide) (by decide) (by decide) (by decide) (by decide)))
/-- what is forgotten -/
theorem X9_forgetOthers {σ : Mem} (h : 0 ≤ σ 43 3 ∧ σ 43 3 ≤ 100000) : f_X9_forgetOthers σ = some (mup σ 43 3 (σ 43 3 + 1)) := by
  unfold f_X9_forgetOthers
  simp only [Option.bind_some]
  rw [jadd_ok (by omega) (by omega)]
theorem X9_forget {σ : Mem} {c : Int} (hc : 0 ≤ c ∧ c < 10) (h : 0 ≤ σ 43 3 ∧ σ 43 3 ≤ 100000) : f_X9_forget σ c = some (mup (mup σ 53 c 0) 43 3 (σ 43 3 + 1)) := by
  unfold f_X9_forget
  rw [chk_pos ⟨hc.1, by omega, Or.inl rfl⟩]
  simp only [Option.bind_some]
  rw [mup_miss (by omega), jadd_ok (by omega) (by omega)]
theorem X9_forgetAll {σ : Mem} (h : 0 ≤ σ 43 3 ∧ σ 43 3 ≤ 100000) : ∃ τ, f_X9_forgetAll σ = some τ ∧ (∀ x i, (x = 43 → i ≠ 3) → x ≠ 53 → τ x i = σ x i) ∧ τ 43 3 = σ 43 3 + 1 ∧ ∀ c, 0 ≤ c → c < 10 → τ 53 c = 0 := by
  unfold f_X9_forgetAll f_X9_forgetAll_2
  obtain ⟨e, e1, e2, e3⟩ := loop_ex (f := f_X9_forgetAll_2B) (fun s => ∃ i : Nat, s.1 = (i : Int) ∧ i ≤ 10 ∧ (∀ x, x ≠ 53 → s.2 x = σ x) ∧ ∀ c, 0 ≤ c → c < (i : Int) → s.2 53 c = 0) (fun s => (10 - s.1).toNat) (fun e => (∀ x, x ≠ 53 → e x = σ x) ∧ ∀ c, 0 ≤ c → c < 10 → e 53 c = 0) (a := (0, σ)) ⟨0, rfl, Nat.zero_le _, fun _ _ => rfl, fun c h1 h2 => absurd h2 (by omega)⟩ (Nat.le_of_ble_eq_true rfl) (by
    rintro ⟨_, τ⟩ ⟨i, rfl, hi, k1, k2⟩
    have k1 : ∀ x, x ≠ 53 → τ x = σ x := k1
    have k2 : ∀ c, 0 ≤ c → c < (i : Int) → τ 53 c = 0 := k2
    show (∃ a', f_X9_forgetAll_2C (i : Int) τ = _ ∧ _) ∨ ∃ a', f_X9_forgetAll_2C (i : Int) τ = _ ∧ _
    unfold f_X9_forgetAll_2C
    by_cases hend : (10 : Int) ≤ i
    · right
      rw [if_pos hend]
      exact ⟨_, rfl, k1, fun c h1 h2 => k2 c h1 (by omega)⟩
    · left
      rw [if_neg hend, chk_pos ⟨by omega, by omega, Or.inl rfl⟩]
      simp only [Option.bind_some]
      rw [jadd_ok (by omega) (by omega)]
      refine ⟨_, rfl, ⟨i + 1, by show (i : Int) + 1 = _; omega, by omega, fun x hx => ?_, fun c h1 h2 => ?_⟩, by show (10 - ((i : Int) + 1)).toNat < (10 - (i : Int)).toNat; omega⟩
      · show mup τ 53 i 0 x = _
        rw [mup_row hx, k1 x hx]
      · show mup τ 53 i 0 53 c = 0
        by_cases e : c = i
        · rw [mup_hit rfl e]
        · rw [mup_miss (fun q => e q.2), k2 c h1 (by omega)])
  rw [e1]
  have e43 : e 43 3 = σ 43 3 := by rw [e2 43 (by decide)]
  refine ⟨mup e 43 3 (σ 43 3 + 1), ?_, fun x i g1 g2 => ?_, mup_hit rfl rfl, fun c h1 h2 => ?_⟩
  · show f_X9_forgetAll_21 e = _
    unfold f_X9_forgetAll_21
    simp only [Option.bind_some]
    rw [e43, jadd_ok (by omega) (by omega)]
  · rw [mup_miss (by omega), e2 x g2]
  · rw [mup_miss (by omega), e3 c h1 h2]
/-- books that differ in one place -/
theorem od_congr {B B' : Bk} {c d : Int} (h8 : B' 8 0 = B 8 0) (h0 : B' 0 = B 0) (h6 : B' 6 c = B 6 c) : od B' c d = od B c d := by
  unfold od tk
  rw [h8, h0, h6]
theorem WFc.of {B B' : Bk} (h : WFc B) (e0 : B' 0 = B 0) (e3 : B' 3 = B 3) (e4 : B' 4 = B 4) (e5 : B' 5 = B 5) (e6 : B' 6 = B 6) (e80 : B' 8 0 = B 8 0) (e81 : B' 8 1 = B 8 1) : WFc B' := by
  unfold WFc at h ⊢
  intro c h1 h2
  rw [e81] at h2
  obtain ⟨g1, g2, g3, g4, g5, g6⟩ := h c h1 h2
  refine ⟨by rw [e3]; exact g1, by rw [e4]; exact g2, by rw [e5]; exact g3, by rw [e6]; exact g4, fun p hp => ?_, fun d => ?_⟩
  · rw [e80]; refine g5 p ?_
    unfold tk at hp ⊢
    rw [e6] at hp
    exact hp
  · rw [od_congr e80 e0 (by rw [e6])]
    exact g6 d
theorem WFp.of {B B' : Bk} (h : WFp B) (e0 : B' 0 = B 0) (e1 : B' 1 = B 1) (e2 : B' 2 = B 2) (e80 : B' 8 0 = B 8 0) : WFp B' := by
  unfold WFp at h ⊢
  rw [e0, e1, e2, e80]
  exact h
theorem WFr.of {B B' : Bk} (h : WFr B) (e7 : B' 7 = B 7) (e82 : B' 8 2 = B 8 2) : WFr B' := by
  unfold WFr at h ⊢
  rw [e7, e82]
  exact h
theorem cnt_ins {f g : Nat → Bool} {p : Nat} (hf : f p = false) (h : ∀ i, g i = (f i || decide (i = p))) : ∀ n, cnt g n = cnt f n + if p < n then 1 else 0
  | 0 => rfl
  | n + 1 => by
    rw [cnt_s, cnt_s, cnt_ins hf h n, h n]
    by_cases e : n = p
    · subst e
      simp [hf]
    · by_cases e2 : p < n
      · have e3 : p < n + 1 := by omega
        cases f n <;> simp [e, e2, e3] <;> omega
      · have e3 : ¬ p < n + 1 := by omega
        cases f n <;> simp [e, e2, e3]
theorem flp_6 {B : Bk} {c : Int} {p : Nat} : flp B c p 6 c = (((B 6 c).toNat ^^^ 2 ^ p : Nat) : Int) := mup_hit rfl rfl
theorem flp_o {B : Bk} {c : Int} {p : Nat} {x i : Int} (h : ¬ (x = 6 ∧ i = c)) : flp B c p x i = B x i := mup_miss h
theorem flp_r {B : Bk} {c : Int} {p : Nat} {x : Int} (h : x ≠ 6) : flp B c p x = B x := mup_row h
theorem flp_tk {B : Bk} {c : Int} {p i : Nat} : tk (flp B c p) c i = (tk B c i ^^ decide (i = p)) := by
  unfold tk
  rw [flp_6, Int.toNat_natCast, Nat.testBit_xor, Nat.testBit_two_pow]
  by_cases e : p = i
  · subst e; rfl
  · rw [decide_eq_false e, decide_eq_false (fun q => e q.symm)]
theorem flp_od {B : Bk} {c d : Int} {p : Nat} (h : d ≠ B 0 p) : od (flp B c p) c d = od B c d := by
  unfold od
  refine mset_congr fun i hi => ?_
  rw [flp_tk, flp_r (by decide), flp_r (by decide)]
  by_cases e : i = p
  · subst e
    rw [decide_eq_false (show ¬ B 0 (i : Int) = d from fun q => h q.symm)]
    simp
  · simp [e]
theorem WF_flp {B : Bk} (w : WF B) {c : Int} (hc : 0 ≤ c) (hc2 : c < B 8 1) {p : Nat} (hp : (p : Int) < B 8 0) (hf : fifth B c p = false) : WF (flp B c p) := by
  obtain ⟨w1, w2, w3, w4⟩ := w
  have e8 : flp B c p 8 = B 8 := flp_r (by decide)
  have hn := w1
  unfold WFn at hn
  refine ⟨by unfold WFn; rw [e8]; exact w1, WFp.of w2 (flp_r (by decide)) (flp_r (by decide)) (flp_r (by decide)) (by rw [e8]), fun c' h1 h2 => ?_, WFr.of w4 (flp_r (by decide)) (by rw [e8])⟩
  rw [e8] at h2
  obtain ⟨g1, g2, g3, g4, g5, g6⟩ := w3 c' h1 h2
  rw [flp_r (show (3 : Int) ≠ 6 by decide), flp_r (show (4 : Int) ≠ 6 by decide), flp_r (show (5 : Int) ≠ 6 by decide), e8]
  refine ⟨g1, g2, g3, ?_⟩
  by_cases e : c' = c
  rotate_left
  · have et : ∀ q : Nat, tk (flp B c p) c' q = tk B c' q := fun q => by unfold tk; rw [flp_o (fun z => e z.2)]
    rw [flp_o (fun z => e z.2)]
    refine ⟨g4, fun q hq => g5 q (by rw [← et q]; exact hq), fun d => ?_⟩
    rw [od_congr (by rw [e8]) (flp_r (by decide)) (flp_o (fun z => e z.2))]
    exact g6 d
  · subst e
    have hpp : (2 : Nat) ^ p < 2 ^ 12 := Nat.pow_lt_pow_right (by decide) (by omega)
    refine ⟨?_, fun q hq => ?_, fun d => ?_⟩
    · rw [flp_6]
      have := Nat.xor_lt_two_pow (n := 12) (x := (B 6 c').toNat) (y := 2 ^ p) (by omega) hpp
      omega
    · rw [flp_tk] at hq
      by_cases e : q = p
      · subst e; exact hp
      · exact g5 q (by simpa [e] using hq)
    · by_cases hd : d = B 0 p
      rotate_left
      · rw [flp_od hd]; exact g6 d
      · have hb : ∀ i, (od (flp B c' p) c' d).testBit i = (decide (i < 12) && (decide ((i : Int) < B 8 0) && decide (B 0 i = d) && (tk B c' i ^^ decide (i = p)))) := fun i => by
          rw [od_tb, flp_tk, e8, flp_r (show (0 : Int) ≠ 6 by decide)]
        cases ht : tk B c' p with
        | true =>
          refine Nat.le_trans (cnt_sub (fun i hi => ?_) 12) (g6 d)
          rw [hb] at hi
          rw [od_tb]
          by_cases e : i = p
          · subst e; simp [ht] at hi
          · simpa [e] using hi
        | false =>
          have h4 : cnt (fun i => (od B c' d).testBit i) 12 ≠ 4 := by
            intro h4
            unfold fifth at hf
            rw [ht, ← hd, h4] at hf
            simp at hf
          have h5 := g6 d
          have := cnt_ins (f := fun i => (od B c' d).testBit i) (g := fun i => (od (flp B c' p) c' d).testBit i) (p := p) (by rw [od_tb]; simp [ht]) (fun i => by
            rw [hb, od_tb]
            by_cases e : i = p
            · subst e
              have : i < 12 := by omega
              simp [ht, hp, hd, this]
            · simp [e]) 12
          rw [this]
          split <;> omega
theorem agr_flp {B : Bk} {c d : Int} {p : Nat} (h : d ≠ B 0 p) : agr B (flp B c p) c d := ⟨by rw [flp_r (by decide)], by rw [flp_r (by decide)], by rw [flp_r (by decide)], by rw [flp_r (by decide)], fun q _ _ => by rw [flp_r (by decide)], flp_od h, fun q _ => by rw [flp_r (by decide)]⟩
theorem agr_flp2 {B : Bk} {c c' d : Int} {p : Nat} (h : c' ≠ c) : agr B (flp B c p) c' d := ⟨by rw [flp_r (by decide)], by rw [flp_r (by decide)], by rw [flp_r (by decide)], by rw [flp_r (by decide)], fun q _ _ => by rw [flp_r (by decide)], od_congr (by rw [flp_r (by decide)]) (flp_r (by decide)) (flp_o (fun z => h z.2)), fun q _ => by rw [flp_r (by decide)]⟩
theorem bf {α : Type} {a b : α} : (if (false : Bool) = true then a else b) = b := rfl
theorem bt {α : Type} {a b : α} : (if (true : Bool) = true then a else b) = a := rfl
