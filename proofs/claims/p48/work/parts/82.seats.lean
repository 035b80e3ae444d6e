/-! SEATS, the class: a candidate's pieces are seated -/
theorem kshl_n {u : Nat} (h : u < 48) : kshl 1 (u : Int) = ((2 ^ u : Nat) : Int) := (by decide +kernel : ∀ u : Nat, u < 48 → kshl 1 (u : Int) = ((2 ^ u : Nat) : Int)) u h
def isUs (σ : Mem) (B : Bk) (lf : Lf) (R : Nat) : Prop := ∀ r t : Nat, r < R → t < 48 → σ 172 (48 * (r : Int) + t) = B 7 r - lf r t
def lfB (B : Bk) (lf : Lf) (R : Nat) (M : Int) : Prop := ∀ r t : Nat, r < R → t < 48 → 0 ≤ B 7 r - lf r t ∧ B 7 r - lf r t ≤ M
/-- a piece, up to a slot -/
def udT (lf : Lf) (p : Nat × Nat) (b u : Nat) : Lf := fun r t => if r = b ∧ p.1 ≤ t ∧ t < p.1 + p.2 ∧ t < u then lf r t - 1 else lf r t
theorem X5_fill {σ : Mem} {B : Bk} (hB : isBk σ 1 B) {lf : Lf} {R : Nat} (hR : R ≤ 6) {M : Int} (hM : M ≤ 150) (hb : lfB B lf R M) (hU : isUs σ B lf R) (hF : isFu σ lf R) {p : Nat × Nat} (hp : p.1 + p.2 ≤ 48) {b : Nat} (hbR : b < R) : ∃ τ, f_X5_fill σ b ((spn p.1 (p.1 + p.2) : Nat) : Int) = some τ ∧ (∀ x, x ≠ 172 → x ≠ 173 → τ x = σ x) ∧ isUs τ B (udL lf p b) R ∧ isFu τ (udL lf p b) R := by
  have hs := spn_lt (a := p.1) hp
  unfold f_X5_fill f_X5_fill_3
  obtain ⟨e, e1, e2, e3, e4⟩ := loop_ex (f := f_X5_fill_3B b ((spn p.1 (p.1 + p.2) : Nat) : Int)) (fun s => ∃ u : Nat, s.1 = (u : Int) ∧ u ≤ 48 ∧ (∀ x, x ≠ 172 → x ≠ 173 → s.2 x = σ x) ∧ isUs s.2 B (udT lf p b u) R ∧ isFu s.2 (udT lf p b u) R) (fun s => (60 - s.1).toNat) (fun e => (∀ x, x ≠ 172 → x ≠ 173 → e x = σ x) ∧ isUs e B (udT lf p b 48) R ∧ isFu e (udT lf p b 48) R) (a := (0, σ)) ⟨0, rfl, Nat.zero_le _, fun _ _ _ => rfl, fun r t hr ht => by rw [show udT lf p b 0 r t = lf r t from if_neg (by omega)]; exact hU r t hr ht, fun r hr => by rw [show fuM (udT lf p b 0) r = fuM lf r from mset_congr fun t _ => by rw [show udT lf p b 0 r t = lf r t from if_neg (by omega)]]; exact hF r hr⟩ (Nat.le_of_ble_eq_true rfl) (by
    rintro ⟨_, τ⟩ ⟨u, rfl, hu, k1, k2, k3⟩
    have k1 : ∀ x, x ≠ 172 → x ≠ 173 → τ x = σ x := k1
    have k2 : isUs τ B (udT lf p b u) R := k2
    have k3 : isFu τ (udT lf p b u) R := k3
    show (∃ a', f_X5_fill_3C b ((spn p.1 (p.1 + p.2) : Nat) : Int) (u : Int) τ = _ ∧ _) ∨ ∃ a', f_X5_fill_3C b ((spn p.1 (p.1 + p.2) : Nat) : Int) (u : Int) τ = _ ∧ _
    unfold f_X5_fill_3C
    by_cases hend : (48 : Int) ≤ u
    · right
      rw [if_pos hend]
      have : u = 48 := by omega
      subst this
      exact ⟨_, rfl, k1, k2, k3⟩
    · left
      have hu48 : u < 48 := by omega
      have fin : ∀ ρ : Mem, (∀ x, x ≠ 172 → x ≠ 173 → ρ x = σ x) → isUs ρ B (udT lf p b (u + 1)) R → isFu ρ (udT lf p b (u + 1)) R → ∃ a', f_X5_fill_68 ρ b ((spn p.1 (p.1 + p.2) : Nat) : Int) (u : Int) = some (.inl a') ∧ (∃ u : Nat, a'.1 = (u : Int) ∧ u ≤ 48 ∧ (∀ x, x ≠ 172 → x ≠ 173 → a'.2 x = σ x) ∧ isUs a'.2 B (udT lf p b u) R ∧ isFu a'.2 (udT lf p b u) R) ∧ (60 - a'.1).toNat < (60 - (u : Int)).toNat := fun ρ z1 z2 z3 => by
        unfold f_X5_fill_68
        simp only [Option.bind_some]
        rw [jadd_ok (by omega) (by omega)]
        exact ⟨_, rfl, ⟨u + 1, by show (u : Int) + 1 = _; omega, by omega, z1, z2, z3⟩, by show (60 - ((u : Int) + 1)).toNat < (60 - (u : Int)).toNat; omega⟩
      -- in other places nothing changes
      have eo : ∀ r t, ¬ (r = b ∧ t = u ∧ p.1 ≤ u ∧ u < p.1 + p.2) → udT lf p b (u + 1) r t = udT lf p b u r t := fun r t h => by
        unfold udT
        by_cases g : r = b ∧ p.1 ≤ t ∧ t < p.1 + p.2 ∧ t < u
        · rw [if_pos g, if_pos (by omega)]
        · rw [if_neg g, if_neg (by omega)]
      rw [if_neg hend, bind_some' (hasSlot_n hs hu48), spn_tb]
      by_cases hin : p.1 ≤ u ∧ u < p.1 + p.2
      rotate_left
      · rw [show (decide (p.1 ≤ u) && decide (u < p.1 + p.2)) = false by
          by_cases g : p.1 ≤ u
          · rw [decide_eq_false (show ¬ u < p.1 + p.2 from fun z => hin ⟨g, z⟩), Bool.and_false]
          · rw [decide_eq_false g, Bool.false_and], bf, if_pos rfl]
        exact fin τ k1 (fun r t hr ht => by rw [eo r t (fun z => hin z.2.2)]; exact k2 r t hr ht) (fun r hr => by rw [show fuM (udT lf p b (u + 1)) r = fuM (udT lf p b u) r from mset_congr fun t _ => by rw [eo r t (fun z => hin z.2.2)]]; exact k3 r hr)
      · have eu : udT lf p b u b u = lf b u := if_neg (by omega)
        have eu2 : udT lf p b (u + 1) b u = lf b u - 1 := if_pos ⟨rfl, hin.1, hin.2, by omega⟩
        have hbu := hb b u hbR hu48
        have hv : jadd (jmul (b : Int) 48) (u : Int) = 48 * (b : Int) + u := by rw [jmul_ok (by omega) (by omega), jadd_ok (by omega) (by omega)]; omega
        have h164 := k2 b u hbR hu48
        rw [eu] at h164
        have h9 : τ 9 (b : Int) = B 7 b := by rw [k1 9 (by decide) (by decide)]; exact hB.seats (by omega) (by omega)
        rw [decide_eq_true hin.1, decide_eq_true hin.2, show (true && true) = true from rfl, bt, if_neg (by decide), hv]
        simp only [Option.bind_some]
        rw [chk_pos (by omega), chk_pos (by omega), h164, jadd_ok (by omega) (by omega), chk_pos (by omega), chk_pos (by omega), mup_hit rfl rfl, mup_miss (k := 172) (a := 9) (by omega), h9]
        obtain ⟨ρ, hρ⟩ : ∃ ρ, ρ = mup τ 172 (48 * (b : Int) + u) (B 7 b - lf b u + 1) := ⟨_, rfl⟩
        rw [← hρ]
        have z1 : ∀ x, x ≠ 172 → x ≠ 173 → ρ x = σ x := fun x x1 x2 => by rw [hρ, mup_row x1, k1 x x1 x2]
        have z2 : isUs ρ B (udT lf p b (u + 1)) R := fun r t hr ht => by
          rw [hρ]
          by_cases e : r = b ∧ t = u
          · rw [e.1, e.2, mup_hit rfl rfl, eu2]; omega
          · rw [mup_miss (by omega), eo r t (fun z => e ⟨z.1, z.2.1⟩)]
            exact k2 r t hr ht
        have h165 : ρ 173 = τ 173 := by rw [hρ, mup_row (by decide)]
        by_cases hlt : B 7 b - lf b u + 1 < B 7 b
        · rw [if_pos hlt]
          refine fin ρ z1 z2 fun r hr => ?_
          rw [h165, show fuM (udT lf p b (u + 1)) r = fuM (udT lf p b u) r from mset_congr fun t _ => ?_]
          · exact k3 r hr
          · by_cases e : r = b ∧ t = u
            · rw [e.1, e.2, eu, eu2, decide_eq_false (show ¬ lf b u - 1 ≤ 0 by omega), decide_eq_false (show ¬ lf b u ≤ 0 by omega)]
            · rw [eo r t (fun z => e ⟨z.1, z.2.1⟩)]
        · have hfl := mset_lt (fun t => decide (udT lf p b u b t ≤ 0)) 48
          have h2 : 2 ^ u < 2 ^ 48 := Nat.pow_lt_pow_right (by decide) hu48
          have hfb : ρ 173 (b : Int) = ((fuM (udT lf p b u) b : Nat) : Int) := by rw [h165]; exact k3 b hbR
          have hor : fuM (udT lf p b u) b ||| 2 ^ u = fuM (udT lf p b (u + 1)) b := by
            have := tb_or (g := fun t => decide (udT lf p b u b t ≤ 0)) (h := fun t => decide (udT lf p b (u + 1) b t ≤ 0)) (n := 48) (i := u) (b := true) hu48 (fun t ht => by
              by_cases e : t = u
              · rw [e, eu2, decide_eq_true (show lf b u - 1 ≤ 0 by omega)]
                simp
              · rw [eo b t (fun z => e z.2.1)]
                simp [e])
            rw [bt] at this
            exact this
          rw [if_neg hlt, chk_pos (by omega), chk_pos (by omega), hfb, kshl_n hu48, kor_n (by unfold fuM; omega) (by omega), hor]
          refine fin _ (fun x x1 x2 => by rw [mup_row x2, z1 x x1 x2]) (fun r t hr ht => by rw [mup_miss (by omega)]; exact z2 r t hr ht) fun r hr => ?_
          by_cases e : r = b
          · rw [e, mup_hit rfl rfl]
          · rw [mup_miss (by omega), h165, show fuM (udT lf p b (u + 1)) r = fuM (udT lf p b u) r from mset_congr fun t _ => by rw [eo r t (fun z => e z.1)]]
            exact k3 r hr)
  have e48 : ∀ r t, t < 48 → udT lf p b 48 r t = udL lf p b r t := fun r t ht => by
    unfold udT udL
    by_cases g : r = b ∧ p.1 ≤ t ∧ t < p.1 + p.2
    · rw [if_pos g, if_pos (by omega)]
    · rw [if_neg g, if_neg (by omega)]
  rw [e1]
  refine ⟨e, rfl, e2, fun r t hr ht => by rw [← e48 r t ht]; exact e3 r t hr ht, fun r hr => by rw [show fuM (udL lf p b) r = fuM (udT lf p b 48) r from mset_congr fun t ht => by rw [e48 r t ht]]; exact e4 r hr⟩
theorem rmF_nm (lf : Lf) (R : Nat) (ps : Pc) {i : Nat} (h : rmF lf R ps i = none) : ∀ j, i ≤ j → rmF lf R ps j = none ∧ lfF lf R ps j = lfF lf R ps i
  | 0, hj => by
    have e : i = 0 := by omega
    subst e
    exact ⟨h, rfl⟩
  | j + 1, hj => by
    by_cases e : i = j + 1
    · rw [← e]; exact ⟨h, rfl⟩
    · obtain ⟨h1, h2⟩ := rmF_nm lf R ps h j (by omega)
      refine ⟨?_, ?_⟩
      · show (match rmF lf R ps j with | none => none | some b => _) = none
        rw [h1]
      · show (match rmF lf R ps j with | none => lfF lf R ps j | some b => _) = _
        rw [h1]
        exact h2
theorem lfF_s {lf : Lf} {R : Nat} {ps : Pc} {i b : Nat} (h : rmF lf R ps i = some b) : lfF lf R ps (i + 1) = udL (lfF lf R ps i) (ps.getD i (0, 0)) b ∧ rmF lf R ps (i + 1) = (fa (ct lf R (ps.drop (i + 1))) (some b) R).map (·.1) := by
  refine ⟨?_, ?_⟩
  · show (match rmF lf R ps i with | none => lfF lf R ps i | some b => udL (lfF lf R ps i) (ps.getD i (0, 0)) b) = _
    rw [h]
  · show (match rmF lf R ps i with | none => none | some b => (fa (ct lf R (ps.drop (i + 1))) (some b) R).map (fun y : Nat × Nat => y.1)) = _
    rw [h]
theorem rmF_R {lf : Lf} {R : Nat} {ps : Pc} : ∀ {i b : Nat}, rmF lf R ps i = some b → b < R
  | 0, b, h => by
    have h : (fa (ct lf R ps) none R).map (·.1) = some b := h
    cases hf : fa (ct lf R ps) none R with
    | none => rw [hf] at h; cases h
    | some y => rw [hf] at h; cases h; exact (fa_in hf).1
  | i + 1, b, h => by
    cases hr : rmF lf R ps i with
    | none => rw [(rmF_nm lf R ps hr (i + 1) (by omega)).1] at h; cases h
    | some b' =>
      rw [(lfF_s hr).2] at h
      cases hf : fa (ct lf R (ps.drop (i + 1))) (some b') R with
      | none => rw [hf] at h; cases h
      | some y => rw [hf] at h; cases h; exact (fa_in hf).1
theorem isPc.keep {σ τ : Mem} {ps : Pc} (h : isPc σ ps) (e : τ 174 = σ 174) : isPc τ ps := fun i hi => by rw [e]; exact h i hi
theorem isUs.keep {σ τ : Mem} {B : Bk} {lf : Lf} {R : Nat} (h : isUs σ B lf R) (e : τ 172 = σ 172) : isUs τ B lf R := fun r t hr ht => by rw [e]; exact h r t hr ht
theorem isFu.keep {σ τ : Mem} {lf : Lf} {R : Nat} (h : isFu σ lf R) (e : τ 173 = σ 173) : isFu τ lf R := fun r hr => by rw [e]; exact h r hr
theorem ro9 {c i : Nat} (hc : c < 10) (hi : i < 9) : jadd (jmul (c : Int) 9) (i : Int) = 9 * (c : Int) + i ∧ 9 * (c : Int) + i < 90 := by
  rw [jmul_ok (by omega) (by omega), jadd_ok (by omega) (by omega)]
  omega
theorem X5_seat94 {σ : Mem} {B : Bk} (hB : isBk σ 1 B) {lf : Lf} {R : Nat} (hR : R ≤ 6) (hRB : B 8 2 = R) {M : Int} (hM : M ≤ 100) (hb : lfB B lf R M) (hU : isUs σ B lf R) (hF : isFu σ lf R) {ps : Pc} (hps : okP9 ps) (hP : isPc σ ps) (hC : ∀ j, j < ps.length → isCo σ lf R ps j) {c : Nat} (hc : c < 10) (h169 : ∀ j : Nat, j < ps.length → σ 177 (9 * (c : Int) + j) = -1) : ∃ τ, f_X5_seat_94 σ c ps.length (oI (rmF lf R ps 0)) 0 = some τ ∧ (∀ x, x ≠ 172 → x ≠ 173 → x ≠ 177 → τ x = σ x) ∧ isUs τ B (lfF lf R ps ps.length) R ∧ isFu τ (lfF lf R ps ps.length) R ∧ (∀ j : Nat, j < ps.length → τ 177 (9 * (c : Int) + j) = oI (rmF lf R ps j)) ∧ ∀ i, ¬ (9 * (c : Int) ≤ i ∧ i < 9 * (c : Int) + 9) → τ 177 i = σ 177 i := by
  have h9 := hps.1
  unfold f_X5_seat_94
  obtain ⟨e, e1, e2, e3, e4, e5, e6⟩ := loop_ex (f := f_X5_seat_94B c ps.length) (fun s => ∃ i : Nat, s.2.1 = (i : Int) ∧ i ≤ ps.length ∧ s.1 = oI (rmF lf R ps i) ∧ (∀ x, x ≠ 172 → x ≠ 173 → x ≠ 177 → s.2.2 x = σ x) ∧ isUs s.2.2 B (lfF lf R ps i) R ∧ isFu s.2.2 (lfF lf R ps i) R ∧ (∀ j : Nat, j < ps.length → s.2.2 177 (9 * (c : Int) + j) = if j < i then oI (rmF lf R ps j) else -1) ∧ ∀ i, ¬ (9 * (c : Int) ≤ i ∧ i < 9 * (c : Int) + 9) → s.2.2 177 i = σ 177 i) (fun s => (20 - s.2.1).toNat) (fun e => (∀ x, x ≠ 172 → x ≠ 173 → x ≠ 177 → e x = σ x) ∧ isUs e B (lfF lf R ps ps.length) R ∧ isFu e (lfF lf R ps ps.length) R ∧ (∀ j : Nat, j < ps.length → e 177 (9 * (c : Int) + j) = oI (rmF lf R ps j)) ∧ ∀ i, ¬ (9 * (c : Int) ≤ i ∧ i < 9 * (c : Int) + 9) → e 177 i = σ 177 i) (a := (oI (rmF lf R ps 0), 0, σ)) ⟨0, rfl, Nat.zero_le _, rfl, fun _ _ _ _ => rfl, hU, hF, fun j hj => by rw [if_neg (Nat.not_lt_zero j)]; exact h169 j hj, fun _ _ => rfl⟩ (Nat.le_of_ble_eq_true rfl) (by
    rintro ⟨x4, _, τ⟩ ⟨i, rfl, hi, g4, k1, k2, k3, k4, k5⟩
    have g4 : x4 = oI (rmF lf R ps i) := g4
    have k1 : ∀ x, x ≠ 172 → x ≠ 173 → x ≠ 177 → τ x = σ x := k1
    have k2 : isUs τ B (lfF lf R ps i) R := k2
    have k3 : isFu τ (lfF lf R ps i) R := k3
    have k4 : ∀ j : Nat, j < ps.length → τ 177 (9 * (c : Int) + j) = if j < i then oI (rmF lf R ps j) else -1 := k4
    have k5 : ∀ i, ¬ (9 * (c : Int) ≤ i ∧ i < 9 * (c : Int) + 9) → τ 177 i = σ 177 i := k5
    show (∃ a', f_X5_seat_94C c ps.length x4 (i : Int) τ = _ ∧ _) ∨ ∃ a', f_X5_seat_94C c ps.length x4 (i : Int) τ = _ ∧ _
    unfold f_X5_seat_94C
    by_cases hend : (ps.length : Int) ≤ i
    · right
      rw [if_pos hend]
      have : i = ps.length := by omega
      subst this
      exact ⟨_, rfl, k1, k2, k3, fun j hj => by rw [k4 j hj, if_pos hj], k5⟩
    rw [if_neg hend]
    have hil : i < ps.length := by omega
    cases hr : rmF lf R ps i with
    | none =>
      right
      rw [hr] at g4
      have g4 : x4 = -1 := g4
      rw [if_pos g4]
      have hnm := rmF_nm lf R ps hr
      rw [← (hnm ps.length hi).2] at k2 k3
      refine ⟨_, rfl, k1, k2, k3, fun j hj => ?_, k5⟩
      rw [k4 j hj]
      by_cases q : j < i
      · rw [if_pos q]
      · rw [if_neg q, (hnm j (by omega)).1]; rfl
    | some b =>
      left
      rw [hr] at g4
      have g4 : x4 = (b : Int) := g4
      have hbR := rmF_R hr
      obtain ⟨es1, es2⟩ := lfF_s hr
      obtain ⟨g1, g2⟩ := ro9 (c := c) (i := i) hc (by omega)
      rw [if_neg (by omega), g1, chk_pos (by omega)]
      simp only [Option.bind_some]
      rw [chk_pos (by omega)]
      obtain ⟨τ1, hτ1⟩ : ∃ τ1, τ1 = mup τ 177 (9 * (c : Int) + i) x4 := ⟨_, rfl⟩
      rw [← hτ1]
      have f1 : ∀ x, x ≠ 177 → τ1 x = τ x := fun x hx => by rw [hτ1]; exact mup_row hx
      have hB1 : isBk τ1 1 B := hB.rows fun x x1 x2 => by rw [f1 x (by omega), k1 x (by omega) (by omega) (by omega)]
      have hP1 : isPc τ1 ps := hP.keep (by rw [f1 174 (by decide), k1 174 (by decide) (by decide) (by decide)])
      have hb1 : lfB B (lfF lf R ps i) R (M + 9) := fun r t hr ht => by
        have h1 := hb r t hr ht
        have h2 := lfF_b lf R ps r t i
        omega
      obtain ⟨ρ, a1, a2, a3, a4⟩ := X5_fill hB1 hR (M := M + 9) (by omega) hb1 (k2.keep (f1 172 (by decide))) (k3.keep (f1 173 (by decide))) (hps.2 i hil) hbR
      rw [g4, hP1 i hil, bind_some' a1]
      have fr : ∀ x, x ≠ 172 → x ≠ 173 → x ≠ 177 → ρ x = σ x := fun x x1 x2 x3 => by rw [a2 x x1 x2, f1 x x3, k1 x x1 x2 x3]
      rw [← es1] at a3 a4
      have fin : ∀ z : Int, z = oI (rmF lf R ps (i + 1)) → ∃ a', f_X5_seat_160 ρ c ps.length (i : Int) z = some (.inl a') ∧ (∃ i : Nat, a'.2.1 = (i : Int) ∧ i ≤ ps.length ∧ a'.1 = oI (rmF lf R ps i) ∧ (∀ x, x ≠ 172 → x ≠ 173 → x ≠ 177 → a'.2.2 x = σ x) ∧ isUs a'.2.2 B (lfF lf R ps i) R ∧ isFu a'.2.2 (lfF lf R ps i) R ∧ (∀ j : Nat, j < ps.length → a'.2.2 177 (9 * (c : Int) + j) = if j < i then oI (rmF lf R ps j) else -1) ∧ ∀ i, ¬ (9 * (c : Int) ≤ i ∧ i < 9 * (c : Int) + 9) → a'.2.2 177 i = σ 177 i) ∧ (20 - a'.2.1).toNat < (20 - (i : Int)).toNat := fun z hz => by
        unfold f_X5_seat_160
        simp only [Option.bind_some]
        rw [jadd_ok (by omega) (by omega)]
        refine ⟨_, rfl, ⟨i + 1, by show (i : Int) + 1 = _; omega, by omega, hz, fr, a3, a4, fun j hj => ?_, fun j hj => ?_⟩, by show (20 - ((i : Int) + 1)).toNat < (20 - (i : Int)).toNat; omega⟩
        · show ρ 177 _ = _
          rw [a2 177 (by decide) (by decide), hτ1]
          by_cases q : j = i
          · rw [q, mup_hit rfl rfl, if_pos (by omega), hr, g4]; rfl
          · rw [mup_miss (by omega), k4 j hj]
            by_cases q2 : j < i
            · rw [if_pos q2, if_pos (by omega)]
            · rw [if_neg q2, if_neg (by omega)]
        · show ρ 177 _ = _
          rw [a2 177 (by decide) (by decide), hτ1, mup_miss (by omega), k5 j hj]
      rw [jadd_ok (a := (i : Int)) (by omega) (by omega)]
      by_cases hl : (ps.length : Int) ≤ (i : Int) + 1
      · rw [if_pos hl]
        exact fin _ (by rw [rmF_end lf R ps (by omega)]; rfl)
      · have hC1 : isCo ρ lf R ps (i + 1) := (hC (i + 1) (by omega)).keep fun r _ => by rw [fr 178 (by decide) (by decide) (by decide)]
        have hBr : isBk ρ 1 B := hB.rows fun x x1 x2 => fr x (by omega) (by omega) (by omega)
        have h10 : ρ 1 10 = (R : Int) := by rw [hBr.nR, hRB]
        rw [if_neg hl, h10, show (i : Int) + 1 = ((i + 1 : Nat) : Int) by omega, show (b : Int) = oI (some b) from rfl, bind_some' (X5_firstRoom hR (i := i + 1) (by omega) h9 hC1 (some b))]
        exact fin _ (by rw [es2]))
  rw [e1]
  exact ⟨e, rfl, e2, e3, e4, e5, e6⟩
theorem X5_seat {σ : Mem} {B : Bk} (hB : isBk σ 1 B) {lf : Lf} {R : Nat} (hR : R ≤ 6) (hRB : B 8 2 = R) {M : Int} (hM : M ≤ 100) (hb : lfB B lf R M) (hU : isUs σ B lf R) (hF : isFu σ lf R) {ps : Pc} (hps : okP9 ps) (hP : isPc σ ps) {c : Nat} (hc : c < 10) (h167 : σ 175 c = (ps.length : Int)) : ∃ τ, f_X5_seat σ c = some τ ∧ (∀ x, ¬ (172 ≤ x ∧ x ≤ 173) → ¬ (176 ≤ x ∧ x ≤ 178) → τ x = σ x) ∧ isUs τ B (lfF lf R ps ps.length) R ∧ isFu τ (lfF lf R ps ps.length) R ∧ τ 176 c = mvF lf R ps ∧ (∀ i, i ≠ (c : Int) → τ 176 i = σ 176 i) ∧ (∀ j : Nat, j < ps.length → τ 177 (9 * (c : Int) + j) = oI (rmF lf R ps j)) ∧ ∀ i, ¬ (9 * (c : Int) ≤ i ∧ i < 9 * (c : Int) + 9) → τ 177 i = σ 177 i := by
  have h9 := hps.1
  unfold f_X5_seat
  rw [chk_pos (by omega), h167]
  simp only [Option.bind_some]
  unfold f_X5_seat_10
  obtain ⟨e, e1, e2, e3, e4⟩ := loop_ex (f := f_X5_seat_10B c ps.length) (fun s => ∃ i : Nat, s.1 = (i : Int) ∧ i ≤ ps.length ∧ (∀ x, x ≠ 177 → s.2 x = σ x) ∧ (∀ j : Nat, j < i → s.2 177 (9 * (c : Int) + j) = -1) ∧ ∀ i, ¬ (9 * (c : Int) ≤ i ∧ i < 9 * (c : Int) + 9) → s.2 177 i = σ 177 i) (fun s => (20 - s.1).toNat) (fun e => (∀ x, x ≠ 177 → e x = σ x) ∧ (∀ j : Nat, j < ps.length → e 177 (9 * (c : Int) + j) = -1) ∧ ∀ i, ¬ (9 * (c : Int) ≤ i ∧ i < 9 * (c : Int) + 9) → e 177 i = σ 177 i) (a := (0, σ)) ⟨0, rfl, Nat.zero_le _, fun _ _ => rfl, fun j hj => absurd hj (Nat.not_lt_zero _), fun _ _ => rfl⟩ (Nat.le_of_ble_eq_true rfl) (by
    rintro ⟨_, τ⟩ ⟨i, rfl, hi, k1, k2, k3⟩
    have k1 : ∀ x, x ≠ 177 → τ x = σ x := k1
    have k2 : ∀ j : Nat, j < i → τ 177 (9 * (c : Int) + j) = -1 := k2
    have k3 : ∀ i, ¬ (9 * (c : Int) ≤ i ∧ i < 9 * (c : Int) + 9) → τ 177 i = σ 177 i := k3
    show (∃ a', f_X5_seat_10C c ps.length (i : Int) τ = _ ∧ _) ∨ ∃ a', f_X5_seat_10C c ps.length (i : Int) τ = _ ∧ _
    unfold f_X5_seat_10C
    by_cases hend : (ps.length : Int) ≤ i
    · right
      rw [if_pos hend]
      exact ⟨_, rfl, k1, fun j hj => k2 j (by omega), k3⟩
    · left
      obtain ⟨g1, g2⟩ := ro9 (c := c) (i := i) hc (by omega)
      rw [if_neg hend, g1, chk_pos (by omega)]
      simp only [Option.bind_some]
      rw [jadd_ok (by omega) (by omega)]
      refine ⟨_, rfl, ⟨i + 1, by show (i : Int) + 1 = _; omega, by omega, fun x hx => ?_, fun j hj => ?_, fun j hj => ?_⟩, by show (20 - ((i : Int) + 1)).toNat < (20 - (i : Int)).toNat; omega⟩
      · show mup τ 177 (9 * (c : Int) + i) (-1) x = _
        rw [mup_row hx, k1 x hx]
      · show mup τ 177 (9 * (c : Int) + i) (-1) 177 _ = _
        by_cases q : j = i
        · rw [q, mup_hit rfl rfl]
        · rw [mup_miss (by omega), k2 j (by omega)]
      · show mup τ 177 (9 * (c : Int) + i) (-1) 177 _ = _
        rw [mup_miss (by omega), k3 j hj])
  rw [e1, bsm]
  unfold f_X5_seat_35
  rw [chk_pos (by omega)]
  simp only [Option.bind_some]
  obtain ⟨τ1, hτ1⟩ : ∃ τ1, τ1 = mup e 176 c 0 := ⟨_, rfl⟩
  rw [← hτ1]
  have f1 : ∀ x, x ≠ 176 → x ≠ 177 → τ1 x = σ x := fun x x1 x2 => by rw [hτ1, mup_row x1, e2 x x2]
  have f169 : τ1 177 = e 177 := by rw [hτ1, mup_row (by decide)]
  by_cases hn : (ps.length : Int) ≠ 0
  rotate_left
  · have hnil : ps = [] := List.eq_nil_of_length_eq_zero (by omega)
    subst hnil
    rw [if_neg hn]
    refine ⟨τ1, rfl, fun x x1 x2 => f1 x (by omega) (by omega), hU.keep (f1 172 (by decide) (by decide)), hF.keep (f1 173 (by decide) (by decide)), by rw [hτ1, mup_hit rfl rfl]; rfl, fun i hi => by rw [hτ1, mup_miss (fun z => hi z.2), e2 176 (by decide)], fun j hj => absurd hj (Nat.not_lt_zero _), fun i hi => by rw [f169, e4 i hi]⟩
  · have hB1 : isBk τ1 1 B := hB.rows fun x x1 x2 => f1 x (by omega) (by omega)
    have h10 : τ1 1 10 = (R : Int) := by rw [hB1.nR, hRB]
    obtain ⟨τ2, a1, a2, a3⟩ := X5_countMoves hR hps (hF.keep (f1 173 (by decide) (by decide))) (hP.keep (f1 174 (by decide) (by decide)))
    have hB2 : isBk τ2 1 B := hB1.rows fun x x1 x2 => a2 x (by omega)
    have h10' : τ2 1 10 = (R : Int) := by rw [hB2.nR, hRB]
    have hfr := X5_firstRoom hR (i := 0) (by omega) h9 (a3 0 (by omega)) none
    rw [show oI none = -1 from rfl, show ((0 : Nat) : Int) = 0 from rfl] at hfr
    have e0 : (fa (ct lf R (ps.drop 0)) none R).map (·.1) = rmF lf R ps 0 := rfl
    rw [e0] at hfr
    rw [if_pos hn, h10, bind_some' a1, h10', bind_some' hfr]
    have hmv : mvF lf R ps = match fa (ct lf R ps) none R with | none => -1 | some y => (y.2 : Int) := by
      unfold mvF
      rw [show ps.isEmpty = false by cases ps with | nil => exact absurd rfl hn | cons x l => rfl, bf]
      cases fa (ct lf R ps) none R with
      | none => rfl
      | some y => rfl
    have fin : ∀ z : Int, z = mvF lf R ps → ∃ τ, f_X5_seat_90 τ2 c ps.length (oI (rmF lf R ps 0)) z c = some τ ∧ (∀ x, ¬ (172 ≤ x ∧ x ≤ 173) → ¬ (176 ≤ x ∧ x ≤ 178) → τ x = σ x) ∧ isUs τ B (lfF lf R ps ps.length) R ∧ isFu τ (lfF lf R ps ps.length) R ∧ τ 176 c = mvF lf R ps ∧ (∀ i, i ≠ (c : Int) → τ 176 i = σ 176 i) ∧ (∀ j : Nat, j < ps.length → τ 177 (9 * (c : Int) + j) = oI (rmF lf R ps j)) ∧ ∀ i, ¬ (9 * (c : Int) ≤ i ∧ i < 9 * (c : Int) + 9) → τ 177 i = σ 177 i := fun z hz => by
      unfold f_X5_seat_90
      rw [chk_pos (by omega)]
      simp only [Option.bind_some]
      obtain ⟨τ3, hτ3⟩ : ∃ τ3, τ3 = mup τ2 176 c z := ⟨_, rfl⟩
      rw [← hτ3]
      have f3 : ∀ x, x ≠ 176 → τ3 x = τ2 x := fun x hx => by rw [hτ3]; exact mup_row hx
      have hB3 : isBk τ3 1 B := hB2.rows fun x x1 x2 => f3 x (by omega)
      obtain ⟨τ, b1, b2, b3, b4, b5, b6⟩ := X5_seat94 hB3 hR hRB hM hb (hU.keep (by rw [f3 172 (by decide), a2 172 (by decide), f1 172 (by decide) (by decide)])) (hF.keep (by rw [f3 173 (by decide), a2 173 (by decide), f1 173 (by decide) (by decide)])) hps (hP.keep (by rw [f3 174 (by decide), a2 174 (by decide), f1 174 (by decide) (by decide)])) (fun j hj => (a3 j hj).keep fun r _ => by rw [f3 178 (by decide)]) hc (fun j hj => by rw [f3 177 (by decide), a2 177 (by decide), f169, e3 j hj])
      refine ⟨τ, b1, fun x x1 x2 => ?_, b3, b4, ?_, fun i hi => ?_, b5, fun i hi => ?_⟩
      · rw [b2 x (by omega) (by omega) (by omega), f3 x (by omega), a2 x (by omega), f1 x (by omega) (by omega)]
      · rw [b2 176 (by decide) (by decide) (by decide), hτ3, mup_hit rfl rfl, hz]
      · rw [b2 176 (by decide) (by decide) (by decide), hτ3, mup_miss (fun z => hi z.2), a2 176 (by decide), hτ1, mup_miss (fun z => hi z.2), e2 176 (by decide)]
      · rw [b6 i hi, f3 177 (by decide), a2 177 (by decide), f169, e4 i hi]
    cases hf : fa (ct lf R ps) none R with
    | none =>
      have h0 : rmF lf R ps 0 = none := by show (fa (ct lf R ps) none R).map (·.1) = none; rw [hf]; rfl
      rw [hf] at hmv
      rw [show oI (rmF lf R ps 0) = -1 by rw [h0]; rfl, if_neg (by decide)]
      have := fin (-1) hmv.symm
      rw [show oI (rmF lf R ps 0) = -1 by rw [h0]; rfl] at this
      exact this
    | some y =>
      obtain ⟨b, cb⟩ := y
      have h0 : rmF lf R ps 0 = some b := by show (fa (ct lf R ps) none R).map (·.1) = some b; rw [hf]; rfl
      obtain ⟨hbR, k', hk', hcb⟩ := fa_in hf
      rw [hf] at hmv
      have e0 : oI (rmF lf R ps 0) = (b : Int) := by rw [h0]; rfl
      have h170 := a3 0 (by omega) b hbR
      rw [show 6 * ((0 : Nat) : Int) + (b : Int) = (b : Int) by omega, show ps.drop 0 = ps from rfl, hk'] at h170
      rw [e0, if_pos (by omega), chk_pos (by omega), h170]
      have := fin (e1k (some k')) (by rw [hmv, hcb]; rfl)
      rw [e0] at this
      exact this
