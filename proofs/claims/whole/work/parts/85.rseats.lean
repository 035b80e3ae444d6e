/-! SEATS, the reference: the rest -/
theorem X11_r18 {σ : Mem} {lf : Lf} {R : Nat} (hR : R ≤ 6) (h84 : σ 182 84 = (R : Int)) (hL : isRl σ lf R) {ps : Pc} (hP : isRp σ ps) (hps : okP9 ps) {i : Nat} (hi : i < ps.length) (hC : ∀ j, i < j → j < ps.length → isRc σ lf R ps j) {x1 : Int} (h1 : x1 = if rdB lf R (ps.drop (i + 1)) then 1 else 0) : ∃ τ, f_X11_isRoomed_18 σ x1 i 0 0 = some (.inl (if rdB lf R (ps.drop i) then 1 else 0, (i : Int) - 1, τ)) ∧ (∀ x, x ≠ 217 → τ x = σ x) ∧ ∀ j, i ≤ j → j < ps.length → isRc τ lf R ps j := by
  have h9 := hps.1
  unfold f_X11_isRoomed_18
  obtain ⟨e, e1, e2, e3, e4, e5⟩ := loop_ex (f := f_X11_isRoomed_18B x1 i) (fun s => ∃ r : Nat, s.2.1 = (r : Int) ∧ r ≤ R ∧ s.1 = (if anyN (fun r => seB lf (ps.getD i (0, 0)) r) r then 1 else 0) ∧ (∀ x, x ≠ 217 → s.2.2 x = σ x) ∧ (∀ j, i < j → j < ps.length → isRc s.2.2 lf R ps j) ∧ ∀ q : Nat, q < r → s.2.2 217 (6 * (i : Int) + q) = e9 (ct lf R (ps.drop i) q)) (fun s => (10 - s.2.1).toNat) (fun e => e.1 = (if anyN (fun r => seB lf (ps.getD i (0, 0)) r) R then 1 else 0) ∧ (∀ x, x ≠ 217 → e.2 x = σ x) ∧ (∀ j, i < j → j < ps.length → isRc e.2 lf R ps j) ∧ isRc e.2 lf R ps i) (a := (0, 0, σ)) ⟨0, rfl, Nat.zero_le _, rfl, fun _ _ => rfl, hC, fun q hq => absurd hq (Nat.not_lt_zero _)⟩ (Nat.le_of_ble_eq_true rfl) (by
    rintro ⟨x3, _, τ⟩ ⟨r, rfl, hr, g, k1, k2, k3⟩
    have g : x3 = (if anyN (fun r => seB lf (ps.getD i (0, 0)) r) r then 1 else 0) := g
    have k1 : ∀ x, x ≠ 217 → τ x = σ x := k1
    have k2 : ∀ j, i < j → j < ps.length → isRc τ lf R ps j := k2
    have k3 : ∀ q : Nat, q < r → τ 217 (6 * (i : Int) + q) = e9 (ct lf R (ps.drop i) q) := k3
    show (∃ a', f_X11_isRoomed_18C x1 i x3 (r : Int) τ = _ ∧ _) ∨ ∃ a', f_X11_isRoomed_18C x1 i x3 (r : Int) τ = _ ∧ _
    by_cases hend : (R : Int) ≤ r
    · right
      have e : r = R := by omega
      subst e
      unfold f_X11_isRoomed_18C
      rw [chk_pos (by decide), k1 182 (by decide), h84, if_pos hend]
      exact ⟨_, rfl, g, k1, k2, k3⟩
    · left
      have hLt : isRl τ lf R := hL.keep (k1 216 (by decide))
      have hPt : isRp τ ps := hP.keep (by rw [k1 181 (by decide)]) (k1 211 (by decide)) (k1 212 (by decide))
      rw [X11_room18 hR (by rw [k1 182 (by decide)]; exact h84) hLt hPt hps hi (fun hn => k2 (i + 1) (by omega) hn) x1 x3 (r := r) (by omega)]
      refine ⟨_, rfl, ⟨r + 1, by show (r : Int) + 1 = _; omega, by omega, ?_, fun x hx => ?_, fun j j1 j2 => (k2 j j1 j2).keep fun q hq => ?_, fun q hq => ?_⟩, by show (10 - ((r : Int) + 1)).toNat < (10 - (r : Int)).toNat; omega⟩
      · show (if x3 ≠ 0 then (1 : Int) else if seB lf (ps.getD i (0, 0)) r then 1 else 0) = if anyN (fun r => seB lf (ps.getD i (0, 0)) r) (r + 1) then 1 else 0
        rw [anyN_s, g]
        cases anyN (fun r => seB lf (ps.getD i (0, 0)) r) r <;> cases seB lf (ps.getD i (0, 0)) r <;> rfl
      · show mup τ 217 _ _ x = _
        rw [mup_row hx, k1 x hx]
      · show mup τ 217 (6 * (i : Int) + r) (e9 (ct lf R (ps.drop i) r)) 217 _ = _
        rw [mup_miss (by omega)]
      · show mup τ 217 (6 * (i : Int) + r) (e9 (ct lf R (ps.drop i) r)) 217 _ = _
        by_cases e : q = r
        · rw [mup_hit rfl (by omega), e]
        · rw [mup_miss (by omega), k3 q (by omega)])
  rw [e1]
  obtain ⟨y3, ρ⟩ := e
  have e2 : y3 = (if anyN (fun r => seB lf (ps.getD i (0, 0)) r) R then 1 else 0) := e2
  have e3 : ∀ x, x ≠ 217 → ρ x = σ x := e3
  have e4 : ∀ j, i < j → j < ps.length → isRc ρ lf R ps j := e4
  have e5 : isRc ρ lf R ps i := e5
  have h183 : ∀ z : Int, f_X11_isRoomed_183 ρ i z = some (.inl (z, (i : Int) - 1, ρ)) := fun z => by
    unfold f_X11_isRoomed_183
    rw [bsm, jadd_ok (by omega) (by omega)]
    rfl
  refine ⟨ρ, ?_, e3, fun j j1 j2 => ?_⟩
  · rw [bsm]
    show f_X11_isRoomed_170 ρ x1 i y3 = _
    unfold f_X11_isRoomed_170 f_X11_isRoomed_182
    rw [drop_c hi]
    show _ = some (Sum.inl (if (anyN (fun r => seB lf (ps.getD i (0, 0)) r) R && rdB lf R (ps.drop (i + 1))) then 1 else 0, _, _))
    rw [h1, e2, h183, h183]
    cases anyN (fun r => seB lf (ps.getD i (0, 0)) r) R <;> cases rdB lf R (ps.drop (i + 1)) <;> rfl
  · by_cases q : j = i
    · rw [q]; exact e5
    · exact e4 j (by omega) j2
theorem X11_isRoomed {σ : Mem} {lf : Lf} {R : Nat} (hR : R ≤ 6) (h84 : σ 182 84 = (R : Int)) (hL : isRl σ lf R) {ps : Pc} (hP : isRp σ ps) (hps : okP9 ps) : ∃ τ, f_X11_isRoomed σ = some (if rdB lf R ps then 1 else 0, τ) ∧ (∀ x, x ≠ 217 → τ x = σ x) ∧ ∀ j, j < ps.length → isRc τ lf R ps j := by
  have h9 := hps.1
  unfold f_X11_isRoomed
  rw [hP.1, bsm, jsub_ok (by omega) (by omega)]
  unfold f_X11_isRoomed_9
  obtain ⟨e, e1, e2, e3, e4⟩ := loop_ex (f := f_X11_isRoomed_9B) (fun s => ∃ i : Nat, s.2.1 = (i : Int) - 1 ∧ i ≤ ps.length ∧ s.1 = (if rdB lf R (ps.drop i) then 1 else 0) ∧ (∀ x, x ≠ 217 → s.2.2 x = σ x) ∧ ∀ j, i ≤ j → j < ps.length → isRc s.2.2 lf R ps j) (fun s => (s.2.1 + 1).toNat) (fun e => e.1 = (if rdB lf R ps then 1 else 0) ∧ (∀ x, x ≠ 217 → e.2 x = σ x) ∧ ∀ j, j < ps.length → isRc e.2 lf R ps j) (a := (1, (ps.length : Int) - 1, σ)) ⟨ps.length, rfl, Nat.le_refl _, by rw [List.drop_length]; rfl, fun _ _ => rfl, fun j j1 j2 => absurd j1 (by omega)⟩ (by show ((ps.length : Int) - 1 + 1).toNat < 1000000; omega) (by
    rintro ⟨x1, _, τ⟩ ⟨i, rfl, hi, g, k1, k2⟩
    have g : x1 = (if rdB lf R (ps.drop i) then 1 else 0) := g
    have k1 : ∀ x, x ≠ 217 → τ x = σ x := k1
    have k2 : ∀ j, i ≤ j → j < ps.length → isRc τ lf R ps j := k2
    show (∃ a', f_X11_isRoomed_9C x1 ((i : Int) - 1) τ = _ ∧ _) ∨ ∃ a', f_X11_isRoomed_9C x1 ((i : Int) - 1) τ = _ ∧ _
    unfold f_X11_isRoomed_9C
    by_cases hend : (i : Int) - 1 < 0
    · right
      rw [if_pos hend]
      have : i = 0 := by omega
      subst this
      exact ⟨_, rfl, g, k1, fun j hj => k2 j (by omega) hj⟩
    · left
      obtain ⟨u, rfl⟩ : ∃ u, i = u + 1 := ⟨i - 1, by omega⟩
      have k1 : ∀ x, x ≠ 217 → τ x = σ x := k1
      have k2 : ∀ j, u + 1 ≤ j → j < ps.length → isRc τ lf R ps j := k2
      have hLt : isRl τ lf R := hL.keep (k1 216 (by decide))
      have hPt : isRp τ ps := hP.keep (by rw [k1 181 (by decide)]) (k1 211 (by decide)) (k1 212 (by decide))
      obtain ⟨ρ, a1, a2, a3⟩ := X11_r18 hR (by rw [k1 182 (by decide)]; exact h84) hLt hPt hps (i := u) (by omega) (fun j j1 j2 => k2 j (by omega) j2) g
      rw [if_neg hend, show ((u + 1 : Nat) : Int) - 1 = (u : Int) by omega, a1]
      exact ⟨_, rfl, ⟨u, rfl, by omega, rfl, fun x hx => by show ρ x = _; rw [a2 x hx, k1 x hx], a3⟩, by show ((u : Int) - 1 + 1).toNat < ((u : Int) + 1).toNat; omega⟩)
  rw [e1]
  obtain ⟨y1, ρ⟩ := e
  have e2 : y1 = (if rdB lf R ps then 1 else 0) := e2
  refine ⟨ρ, ?_, e3, e4⟩
  rw [bsm]
  show chk (y1 = 0 ∨ y1 = 1) (some (y1, ρ)) = _
  rw [chk_pos (by rw [e2]; cases rdB lf R ps <;> simp), e2]
/-- the room before -/
def pwF (lf : Lf) (R : Nat) (ps : Pc) : Nat → Option Nat
  | 0 => none
  | i + 1 => rmF lf R ps i
theorem rmF_pw {lf : Lf} {R : Nat} {ps : Pc} {i : Nat} (h : i = 0 ∨ pwF lf R ps i ≠ none) : rmF lf R ps i = (fa (ct lf R (ps.drop i)) (pwF lf R ps i) R).map (·.1) := by
  cases i with
  | zero => rfl
  | succ i =>
    have h : rmF lf R ps i ≠ none := h.resolve_left (by omega)
    show (match rmF lf R ps i with | none => none | some b => (fa (ct lf R (ps.drop (i + 1))) (some b) R).map (·.1)) = (fa (ct lf R (ps.drop (i + 1))) (rmF lf R ps i) R).map (·.1)
    cases hb : rmF lf R ps i with
    | none => exact absurd hb h
    | some b => rfl
theorem rdB_drop {lf : Lf} {R : Nat} : ∀ {ps : Pc} (i : Nat), rdB lf R ps = true → rdB lf R (ps.drop i) = true
  | ps, 0, h => h
  | [], i + 1, h => h
  | p :: ps, i + 1, h => by
    have h : (anyN (fun r => seB lf p r) R && rdB lf R ps) = true := h
    rw [Bool.and_eq_true] at h
    exact rdB_drop i h.2
theorem rd_fa {lf : Lf} {R : Nat} {ps : Pc} (h : rdB lf R ps = true) {i : Nat} (hi : i < ps.length) (w : Option Nat) : ∃ b c, fa (ct lf R (ps.drop i)) w R = some (b, c) ∧ b < R := by
  have := (rdB_fa (lf := lf) (R := R) (ps := ps.drop i) (by rw [drop_c hi]; exact fun z => by cases z) w).1 (rdB_drop i h)
  cases hf : fa (ct lf R (ps.drop i)) w R with
  | none => exact absurd hf this
  | some y =>
    obtain ⟨b, c⟩ := y
    exact ⟨b, c, rfl, (fa_in hf).1⟩
theorem X11_r43 {σ : Mem} {lf : Lf} {R : Nat} (hR : R ≤ 6) (h84 : σ 182 84 = (R : Int)) {ps : Pc} (hl : ps.length ≤ 9) {i : Nat} (hi : i < ps.length) (hC : isRc σ lf R ps i) (w : Option Nat) (x1 : Int) : f_X11_roomed_43 σ x1 (oI w) i (-1) 999 0 = f_X11_roomed_116 σ x1 i (oI ((fa (ct lf R (ps.drop i)) w R).map (·.1))) (e9y (fa (ct lf R (ps.drop i)) w R)) := by
  unfold f_X11_roomed_43
  rw [show loop (f_X11_roomed_43B σ x1 (oI w) i) FU (-1, 999, 0) = some (oI ((fa (ct lf R (ps.drop i)) w R).map (·.1)), e9y (fa (ct lf R (ps.drop i)) w R)) from loop_is (P := fun s => ∃ q : Nat, s.2.2 = (q : Int) ∧ q ≤ R ∧ s.1 = oI ((fa (ct lf R (ps.drop i)) w q).map (·.1)) ∧ s.2.1 = e9y (fa (ct lf R (ps.drop i)) w q)) (μ := fun s => (10 - s.2.2).toNat) (by
    rintro ⟨x4, x5, _⟩ ⟨q, rfl, hq, g4, g5⟩
    have g4 : x4 = oI ((fa (ct lf R (ps.drop i)) w q).map (·.1)) := g4
    have g5 : x5 = e9y (fa (ct lf R (ps.drop i)) w q) := g5
    show (∃ a', f_X11_roomed_43C σ x1 (oI w) i x4 x5 (q : Int) = _ ∧ _) ∨ f_X11_roomed_43C σ x1 (oI w) i x4 x5 (q : Int) = _
    unfold f_X11_roomed_43C
    rw [chk_pos (by decide), h84]
    by_cases hend : (R : Int) ≤ q
    · right
      have e : q = R := by omega
      rw [if_pos hend, g4, g5, e]
    · left
      obtain ⟨m1, m2⟩ := fa_mn (w := w) (n := q) (ct_9 (lf := lf) (R := R) hl i)
      have es := fa_s (ct lf R (ps.drop i)) w q
      have hc := hC q (by omega)
      have hp := pen_1 w q
      have hv : jadd (jmul 6 (i : Int)) (q : Int) = 6 * (i : Int) + q := by rw [jmul_ok (by omega) (by omega), jadd_ok (by omega) (by omega)]
      have hb : 0 ≤ e9 (ct lf R (ps.drop i) q) ∧ e9 (ct lf R (ps.drop i) q) ≤ 999 := by
        cases hk : ct lf R (ps.drop i) q with
        | none => exact ⟨by show (0 : Int) ≤ 999; decide, Int.le_refl _⟩
        | some k =>
          have := ct_9 hl i q k hk
          exact ⟨by show 0 ≤ (k : Int); omega, by show (k : Int) ≤ 999; omega⟩
      have fin : ∀ z : Int, z = ((pen w q : Nat) : Int) → ∃ a', f_X11_roomed_82 σ x1 (oI w) i x4 x5 (q : Int) z (e9 (ct lf R (ps.drop i) q)) = some (.inl a') ∧ (∃ q : Nat, a'.2.2 = (q : Int) ∧ q ≤ R ∧ a'.1 = oI ((fa (ct lf R (ps.drop i)) w q).map (·.1)) ∧ a'.2.1 = e9y (fa (ct lf R (ps.drop i)) w q)) ∧ (10 - a'.2.2).toNat < (10 - (q : Int)).toNat := fun z hz => by
        have fin2 : ∀ y : Int, y = oI ((fa (ct lf R (ps.drop i)) w (q + 1)).map (·.1)) → ∃ a', f_X11_roomed_99 σ x1 (oI w) i x5 (q : Int) (e9 (ct lf R (ps.drop i) q) + z) y = some (.inl a') ∧ (∃ q : Nat, a'.2.2 = (q : Int) ∧ q ≤ R ∧ a'.1 = oI ((fa (ct lf R (ps.drop i)) w q).map (·.1)) ∧ a'.2.1 = e9y (fa (ct lf R (ps.drop i)) w q)) ∧ (10 - a'.2.2).toNat < (10 - (q : Int)).toNat := fun y hy => by
          unfold f_X11_roomed_99
          rw [bsm, bsm, jadd_ok (by omega) (by omega), mn_eq]
          exact ⟨_, rfl, ⟨q + 1, by show (q : Int) + 1 = _; omega, by omega, hy, by show min x5 _ = _; rw [m2, g5, hz]⟩, by show (10 - ((q : Int) + 1)).toNat < (10 - (q : Int)).toNat; omega⟩
        unfold f_X11_roomed_82
        rw [bsm, jadd_ok (by omega) (by omega)]
        cases hk : ct lf R (ps.drop i) q with
        | none =>
          rw [hk] at es fin2
          have es : fa (ct lf R (ps.drop i)) w (q + 1) = fa (ct lf R (ps.drop i)) w q := es
          rw [if_pos (by show x5 ≤ (999 : Int) + z; omega)]
          exact fin2 _ (by rw [es]; exact g4)
        | some k =>
          have hk9 := ct_9 hl i q k hk
          rw [hk] at es fin2
          cases hf : fa (ct lf R (ps.drop i)) w q with
          | none =>
            rw [hf] at es g4 g5
            have es : fa (ct lf R (ps.drop i)) w (q + 1) = some (q, k + pen w q) := es
            have g5 : x5 = 999 := g5
            rw [if_neg (by show ¬ x5 ≤ (k : Int) + z; omega)]
            exact fin2 _ (by rw [es]; rfl)
          | some y =>
            obtain ⟨b, c⟩ := y
            rw [hf] at es g4 g5
            have es : fa (ct lf R (ps.drop i)) w (q + 1) = if k + pen w q < c then some (q, k + pen w q) else some (b, c) := es
            have g5 : x5 = (c : Int) := g5
            by_cases e : k + pen w q < c
            · rw [if_pos e] at es
              rw [if_neg (by show ¬ x5 ≤ (k : Int) + z; omega)]
              exact fin2 _ (by rw [es]; rfl)
            · rw [if_neg e] at es
              rw [if_pos (by show x5 ≤ (k : Int) + z; omega)]
              exact fin2 _ (by rw [es]; exact g4)
      have h81 : f_X11_roomed_81 σ x1 (oI w) i x4 x5 (q : Int) (e9 (ct lf R (ps.drop i) q)) = f_X11_roomed_82 σ x1 (oI w) i x4 x5 (q : Int) 0 (e9 (ct lf R (ps.drop i) q)) := rfl
      rw [if_neg hend, hv, chk_pos (by omega), hc, h81]
      cases w with
      | none =>
        rw [if_pos (by decide)]
        exact fin 0 rfl
      | some x =>
        rw [if_neg (by show ¬ (x : Int) < 0; omega)]
        by_cases e : x = q
        · rw [if_pos (by show (q : Int) = (x : Int); omega)]
          exact fin 0 (by show (0 : Int) = ((if x = q then 0 else 1 : Nat) : Int); rw [if_pos e]; rfl)
        · rw [if_neg (by show ¬ (q : Int) = (x : Int); omega)]
          exact fin 1 (by show (1 : Int) = ((if x = q then 0 else 1 : Nat) : Int); rw [if_neg e]; rfl)) ⟨0, rfl, Nat.zero_le _, rfl, rfl⟩ (Nat.le_of_ble_eq_true rfl)]
  rw [bsm]
theorem X11_r161 {σ : Mem} {lf : Lf} {R : Nat} (hR : R ≤ 6) (hL : isRl σ lf R) (hb : ∀ r t : Nat, r < R → t < 48 → -1000 ≤ lf r t ∧ lf r t ≤ 1000) {p : Nat × Nat} (hp : p.1 + p.2 ≤ 48) {i : Nat} (hi : i < 9) (h3 : σ 211 i = (p.1 : Int)) (h4 : σ 212 i = (p.2 : Int)) {b : Nat} (hbR : b < R) (x1 : Int) : ∃ τ, f_X11_roomed_161 σ x1 b i b p.1 = some (.inl ((b : Int), (i : Int) + 1, τ)) ∧ (∀ x, x ≠ 216 → τ x = σ x) ∧ isRl τ (udL lf p b) R := by
  unfold f_X11_roomed_161
  obtain ⟨e, e1, e2, e3⟩ := loop_ex (f := f_X11_roomed_161B x1 b i b) (fun s => ∃ j : Nat, s.1 = ((p.1 + j : Nat) : Int) ∧ j ≤ p.2 ∧ (∀ x, x ≠ 216 → s.2 x = σ x) ∧ isRl s.2 (udL lf (p.1, j) b) R) (fun s => (60 - s.1).toNat) (fun e => (∀ x, x ≠ 216 → e x = σ x) ∧ isRl e (udL lf p b) R) (a := ((p.1 : Int), σ)) ⟨0, rfl, Nat.zero_le _, fun _ _ => rfl, fun r t hr ht => by
    show σ 216 (48 * (r : Int) + t) = _
    rw [hL r t hr ht]
    show _ = if r = b ∧ p.1 ≤ t ∧ t < p.1 + 0 then lf r t - 1 else lf r t
    rw [if_neg (by omega)]⟩ (by show (60 - (p.1 : Int)).toNat < 1000000; omega) (by
    rintro ⟨_, τ⟩ ⟨j, rfl, hj, k1, k2⟩
    have k1 : ∀ x, x ≠ 216 → τ x = σ x := k1
    have k2 : isRl τ (udL lf (p.1, j) b) R := k2
    show (∃ a', f_X11_roomed_161C x1 b i b ((p.1 + j : Nat) : Int) τ = _ ∧ _) ∨ ∃ a', f_X11_roomed_161C x1 b i b ((p.1 + j : Nat) : Int) τ = _ ∧ _
    unfold f_X11_roomed_161C
    rw [chk_pos (by omega), chk_pos (by omega), k1 211 (by decide), k1 212 (by decide), h3, h4, jadd_ok (a := (p.1 : Int)) (by omega) (by omega)]
    by_cases hend : (p.1 : Int) + p.2 ≤ ((p.1 + j : Nat) : Int)
    · right
      have e : j = p.2 := by omega
      subst e
      rw [if_pos hend]
      exact ⟨_, rfl, k1, k2⟩
    · left
      have hv : jadd (jmul 48 (b : Int)) ((p.1 + j : Nat) : Int) = 48 * (b : Int) + ((p.1 + j : Nat) : Int) := by rw [jmul_ok (by omega) (by omega), jadd_ok (by omega) (by omega)]
      have hc := k2 b (p.1 + j) hbR (by omega)
      have hc : τ 216 (48 * (b : Int) + ((p.1 + j : Nat) : Int)) = if b = b ∧ p.1 ≤ p.1 + j ∧ p.1 + j < p.1 + j then lf b (p.1 + j) - 1 else lf b (p.1 + j) := hc
      rw [if_neg (by omega)] at hc
      have hb1 := hb b (p.1 + j) hbR (by omega)
      rw [if_neg hend, hv, chk_pos (by omega), chk_pos (by omega), hc, jsub_ok (by omega) (by omega), bsm, bsm, jadd_ok (by omega) (by omega)]
      refine ⟨_, rfl, ⟨j + 1, by show ((p.1 + j : Nat) : Int) + 1 = _; omega, by omega, fun x hx => ?_, fun r t hr ht => ?_⟩, by show (60 - (((p.1 + j : Nat) : Int) + 1)).toNat < (60 - ((p.1 + j : Nat) : Int)).toNat; omega⟩
      · show mup τ 216 _ _ x = _
        rw [mup_row hx, k1 x hx]
      · show mup τ 216 (48 * (b : Int) + ((p.1 + j : Nat) : Int)) (lf b (p.1 + j) - 1) 216 _ = if r = b ∧ p.1 ≤ t ∧ t < p.1 + (j + 1) then lf r t - 1 else lf r t
        by_cases e : r = b ∧ t = p.1 + j
        · obtain ⟨e1, e2⟩ := e
          subst e1
          subst e2
          rw [mup_hit rfl rfl, if_pos (by omega)]
        · rw [mup_miss (by omega), k2 r t hr ht]
          show (if r = b ∧ p.1 ≤ t ∧ t < p.1 + j then lf r t - 1 else lf r t) = _
          by_cases q : r = b ∧ p.1 ≤ t ∧ t < p.1 + j
          · rw [if_pos q, if_pos (by omega)]
          · rw [if_neg q, if_neg (by omega)])
  rw [e1]
  refine ⟨e, ?_, e2, e3⟩
  rw [bsm]
  unfold f_X11_roomed_202
  rw [bsm, jadd_ok (by omega) (by omega)]
theorem X11_r136 {σ : Mem} {lf : Lf} {R : Nat} (hR : R ≤ 6) (hL : isRl σ lf R) (hb : ∀ r t : Nat, r < R → t < 48 → -1000 ≤ lf r t ∧ lf r t ≤ 1000) {ps : Pc} (hP : isRp σ ps) (hps : okP9 ps) {i : Nat} (hi : i < ps.length) {c : Nat} (hc : c < 10) {b : Nat} (hbR : b < R) (z : Int) : ∃ τ, f_X11_roomed_136 σ c i b z c = some (.inl ((b : Int), (i : Int) + 1, τ)) ∧ (∀ x, x ≠ 213 → x ≠ 214 → x ≠ 216 → τ x = σ x) ∧ (∀ k, k ≠ (c : Int) → τ 214 k = σ 214 k) ∧ (∀ k, k ≠ 20 * (c : Int) + i → τ 213 k = σ 213 k) ∧ τ 214 c = z ∧ τ 213 (20 * (c : Int) + i) = (b : Int) ∧ isRl τ (udL lf (ps.getD i (0, 0)) b) R := by
  have h9 := hps.1
  obtain ⟨g3, g4⟩ := hP.2 i hi
  have hv : jadd (jmul 20 (c : Int)) (i : Int) = 20 * (c : Int) + i := by rw [jmul_ok (by omega) (by omega), jadd_ok (by omega) (by omega)]
  obtain ⟨ρ, hρ⟩ : ∃ ρ, ρ = mup (mup σ 214 c z) 213 (20 * (c : Int) + i) b := ⟨_, rfl⟩
  have f : ∀ x, x ≠ 213 → x ≠ 214 → ρ x = σ x := fun x x1 x2 => by rw [hρ, mup_row x1, mup_row x2]
  obtain ⟨τ, a1, a2, a3⟩ := X11_r161 (σ := ρ) hR (hL.keep (f 216 (by decide) (by decide))) hb (hps.2 i hi) (i := i) (by omega) (by rw [f 211 (by decide) (by decide)]; exact g3) (by rw [f 212 (by decide) (by decide)]; exact g4) hbR c
  refine ⟨τ, ?_, fun x x1 x2 x3 => by rw [a2 x x3, f x x1 x2], fun k hk => ?_, fun k hk => ?_, ?_, ?_, a3⟩
  · unfold f_X11_roomed_136
    rw [hv, chk_pos (by omega), bsm, chk_pos (by omega), bsm, ← hρ, chk_pos (by omega), bsm, f 211 (by decide) (by decide), g3]
    exact a1
  · rw [a2 214 (by decide), hρ, mup_row (by decide), mup_miss (by omega)]
  · rw [a2 213 (by decide), hρ, mup_miss (by omega), mup_row (by decide)]
  · rw [a2 214 (by decide), hρ, mup_row (by decide), mup_hit rfl rfl]
  · rw [a2 213 (by decide), hρ, mup_hit rfl rfl]
theorem X11_roomed_ok {σ : Mem} {lf : Lf} {R : Nat} (hR : R ≤ 6) (h84 : σ 182 84 = (R : Int)) (hL : isRl σ lf R) (hb : ∀ r t : Nat, r < R → t < 48 → -100 ≤ lf r t ∧ lf r t ≤ 100) {ps : Pc} (hP : isRp σ ps) (hps : okP9 ps) (hC : ∀ j, j < ps.length → isRc σ lf R ps j) (hrd : rdB lf R ps = true) {c : Nat} (hc : c < 10) : ∃ τ, f_X11_roomed σ c = some τ ∧ (∀ x, x ≠ 213 → x ≠ 214 → x ≠ 216 → τ x = σ x) ∧ (∀ k, k ≠ (c : Int) → τ 214 k = σ 214 k) ∧ (∀ k, ¬ (20 * (c : Int) ≤ k ∧ k < 20 * (c : Int) + 20) → τ 213 k = σ 213 k) ∧ τ 214 c = mvF lf R ps ∧ (∀ i : Nat, i < ps.length → τ 213 (20 * (c : Int) + i) = oI (rmF lf R ps i)) ∧ isRl τ (lfF lf R ps ps.length) R := by
  have h9 := hps.1
  have hpwA : ∀ i, i ≤ ps.length → i = 0 ∨ pwF lf R ps i ≠ none := fun i => by
    induction i with
    | zero => exact fun _ => Or.inl rfl
    | succ u ih =>
      intro hi
      right
      have hu := ih (by omega)
      show rmF lf R ps u ≠ none
      obtain ⟨b, cc, hf, -⟩ := rd_fa hrd (i := u) (by omega) (pwF lf R ps u)
      rw [rmF_pw hu, hf]
      exact fun z => by cases z
  have main : ∀ z0 : Int, (ps.length = 0 → z0 = 0) → ∃ τ, f_X11_roomed_21 σ c (-1) z0 c = some τ ∧ (∀ x, x ≠ 213 → x ≠ 214 → x ≠ 216 → τ x = σ x) ∧ (∀ k, k ≠ (c : Int) → τ 214 k = σ 214 k) ∧ (∀ k, ¬ (20 * (c : Int) ≤ k ∧ k < 20 * (c : Int) + 20) → τ 213 k = σ 213 k) ∧ τ 214 c = mvF lf R ps ∧ (∀ i : Nat, i < ps.length → τ 213 (20 * (c : Int) + i) = oI (rmF lf R ps i)) ∧ isRl τ (lfF lf R ps ps.length) R := fun z0 hz0 => by
    unfold f_X11_roomed_21
    rw [chk_pos (by omega), bsm]
    unfold f_X11_roomed_24
    obtain ⟨e, e1, e2, e3, e4, e5, e6, e7⟩ := loop_ex (f := f_X11_roomed_24B c) (fun s => ∃ i : Nat, s.2.1 = (i : Int) ∧ i ≤ ps.length ∧ s.1 = oI (pwF lf R ps i) ∧ (∀ x, x ≠ 213 → x ≠ 214 → x ≠ 216 → s.2.2 x = σ x) ∧ (∀ k, k ≠ (c : Int) → s.2.2 214 k = σ 214 k) ∧ (∀ k, ¬ (20 * (c : Int) ≤ k ∧ k < 20 * (c : Int) + 20) → s.2.2 213 k = σ 213 k) ∧ s.2.2 214 c = (if i = 0 then z0 else mvF lf R ps) ∧ (∀ j : Nat, j < i → s.2.2 213 (20 * (c : Int) + j) = oI (rmF lf R ps j)) ∧ isRl s.2.2 (lfF lf R ps i) R) (fun s => (20 - s.2.1).toNat) (fun e => (∀ x, x ≠ 213 → x ≠ 214 → x ≠ 216 → e x = σ x) ∧ (∀ k, k ≠ (c : Int) → e 214 k = σ 214 k) ∧ (∀ k, ¬ (20 * (c : Int) ≤ k ∧ k < 20 * (c : Int) + 20) → e 213 k = σ 213 k) ∧ e 214 c = mvF lf R ps ∧ (∀ i : Nat, i < ps.length → e 213 (20 * (c : Int) + i) = oI (rmF lf R ps i)) ∧ isRl e (lfF lf R ps ps.length) R) (a := (-1, 0, mup σ 214 c z0)) ⟨0, rfl, Nat.zero_le _, rfl, fun x _ x2 _ => mup_row x2, fun k hk => mup_miss (by omega), fun k _ => by show mup σ 214 c z0 213 k = _; rw [mup_row (by decide)], by rw [if_pos rfl]; exact mup_hit rfl rfl, fun j hj => absurd hj (Nat.not_lt_zero _), hL.keep (show mup σ 214 c z0 216 = σ 216 from mup_row (by decide))⟩ (Nat.le_of_ble_eq_true rfl) (by
      rintro ⟨x2, _, τ⟩ ⟨i, rfl, hi, g, k1, k2, k3, k4, k5, k6⟩
      have g : x2 = oI (pwF lf R ps i) := g
      have k1 : ∀ x, x ≠ 213 → x ≠ 214 → x ≠ 216 → τ x = σ x := k1
      have k2 : ∀ k, k ≠ (c : Int) → τ 214 k = σ 214 k := k2
      have k3 : ∀ k, ¬ (20 * (c : Int) ≤ k ∧ k < 20 * (c : Int) + 20) → τ 213 k = σ 213 k := k3
      have k4 : τ 214 c = (if i = 0 then z0 else mvF lf R ps) := k4
      have k5 : ∀ j : Nat, j < i → τ 213 (20 * (c : Int) + j) = oI (rmF lf R ps j) := k5
      have k6 : isRl τ (lfF lf R ps i) R := k6
      have h37 : τ 181 37 = (ps.length : Int) := by rw [k1 181 (by decide) (by decide) (by decide)]; exact hP.1
      show (∃ a', f_X11_roomed_24C c x2 (i : Int) τ = _ ∧ _) ∨ ∃ a', f_X11_roomed_24C c x2 (i : Int) τ = _ ∧ _
      unfold f_X11_roomed_24C
      rw [h37]
      by_cases hend : (ps.length : Int) ≤ i
      · right
        have e : i = ps.length := by omega
        subst e
        rw [if_pos hend]
        refine ⟨_, rfl, k1, k2, k3, ?_, k5, k6⟩
        rw [k4]
        by_cases q : ps.length = 0
        · rw [if_pos q, hz0 q]
          unfold mvF
          rw [List.eq_nil_of_length_eq_zero q]
          rfl
        · rw [if_neg q]
      · left
        have hin : i < ps.length := by omega
        have hPt : isRp τ ps := hP.keep (by rw [k1 181 (by decide) (by decide) (by decide)]) (k1 211 (by decide) (by decide) (by decide)) (k1 212 (by decide) (by decide) (by decide))
        have hCt : isRc τ lf R ps i := (hC i hin).keep fun r _ => by rw [k1 217 (by decide) (by decide) (by decide)]
        have hpw := hpwA i (by omega)
        obtain ⟨b, cst, hf, hbR⟩ := rd_fa hrd hin (pwF lf R ps i)
        have hrm : rmF lf R ps i = some b := by rw [rmF_pw hpw, hf]; rfl
        have hbb : ∀ r t : Nat, r < R → t < 48 → -1000 ≤ lfF lf R ps i r t ∧ lfF lf R ps i r t ≤ 1000 := fun r t hr ht => by
          have h1 := lfF_b lf R ps r t i
          have h2 := hb r t hr ht
          omega
        have h136 := fun z => X11_r136 hR k6 hbb hPt hps hin hc hbR z
        have hlf : lfF lf R ps (i + 1) = udL (lfF lf R ps i) (ps.getD i (0, 0)) b := by
          show (match rmF lf R ps i with | none => lfF lf R ps i | some b => udL (lfF lf R ps i) (ps.getD i (0, 0)) b) = _
          rw [hrm]
        rw [if_neg hend, g, X11_r43 hR (by rw [k1 182 (by decide) (by decide) (by decide)]; exact h84) h9 hin hCt (pwF lf R ps i) c, hf]
        show ∃ a', f_X11_roomed_116 τ c i (b : Int) (cst : Int) = _ ∧ _
        have fin : ∀ z : Int, z = mvF lf R ps → ∃ a', f_X11_roomed_136 τ c i b z c = some (.inl a') ∧ (∃ i : Nat, a'.2.1 = (i : Int) ∧ i ≤ ps.length ∧ a'.1 = oI (pwF lf R ps i) ∧ (∀ x, x ≠ 213 → x ≠ 214 → x ≠ 216 → a'.2.2 x = σ x) ∧ (∀ k, k ≠ (c : Int) → a'.2.2 214 k = σ 214 k) ∧ (∀ k, ¬ (20 * (c : Int) ≤ k ∧ k < 20 * (c : Int) + 20) → a'.2.2 213 k = σ 213 k) ∧ a'.2.2 214 c = (if i = 0 then z0 else mvF lf R ps) ∧ (∀ j : Nat, j < i → a'.2.2 213 (20 * (c : Int) + j) = oI (rmF lf R ps j)) ∧ isRl a'.2.2 (lfF lf R ps i) R) ∧ (20 - a'.2.1).toNat < (20 - (i : Int)).toNat := fun z hz => by
          obtain ⟨ρ, a1, a2, a3, a4, a5, a6, a7⟩ := h136 z
          rw [a1]
          refine ⟨_, rfl, ⟨i + 1, by show (i : Int) + 1 = _; omega, by omega, ?_, fun x x1 x2 x3 => ?_, fun k hk => ?_, fun k hk => ?_, ?_, fun j hj => ?_, ?_⟩, by show (20 - ((i : Int) + 1)).toNat < (20 - (i : Int)).toNat; omega⟩
          · show (b : Int) = oI (rmF lf R ps i)
            rw [hrm]
            rfl
          · show ρ x = _
            rw [a2 x x1 x2 x3, k1 x x1 x2 x3]
          · show ρ 214 k = _
            rw [a3 k hk, k2 k hk]
          · show ρ 213 k = _
            rw [a4 k (by omega), k3 k hk]
          · show ρ 214 c = _
            rw [a5, hz, if_neg (by omega)]
          · show ρ 213 _ = _
            by_cases q : j = i
            · rw [q, a6, hrm]
              rfl
            · rw [a4 _ (by omega), k5 j (by omega)]
          · rw [hlf]
            exact a7
        unfold f_X11_roomed_116
        by_cases e0 : i = 0
        · rw [if_neg (by omega)]
          refine fin _ ?_
          subst e0
          have hf : fa (ct lf R ps) none R = some (b, cst) := hf
          unfold mvF
          rw [hf]
          cases ps with
          | nil => exact absurd hin (Nat.not_lt_zero _)
          | cons a l => rfl
        · rw [if_pos (by omega), chk_pos (by omega)]
          exact fin _ (by rw [k4, if_neg e0]))
    rw [e1]
    exact ⟨e, rfl, e2, e3, e4, e5, e6, e7⟩
  unfold f_X11_roomed
  rw [hP.1]
  by_cases q : ps.length = 0
  · rw [if_neg (by omega)]
    exact main 0 fun _ => rfl
  · rw [if_pos (by omega)]
    exact main 999 fun z => absurd z q
theorem X11_s110 {σ : Mem} {n : Nat} (hn : n ≤ 9) (h37 : σ 181 37 = (n : Int)) {c : Nat} (hc : c < 10) (d : Int) : ∃ τ, f_X11_seats_110 σ d c 0 = some (.inl ((c : Int) + 1, τ)) ∧ (∀ x, x ≠ 213 → τ x = σ x) ∧ (∀ k, ¬ (20 * (c : Int) ≤ k ∧ k < 20 * (c : Int) + 20) → τ 213 k = σ 213 k) ∧ ∀ i : Nat, i < n → τ 213 (20 * (c : Int) + i) = -1 := by
  unfold f_X11_seats_110
  obtain ⟨e, e1, e2, e3, e4⟩ := loop_ex (f := f_X11_seats_110B d c) (fun s => ∃ i : Nat, s.1 = (i : Int) ∧ i ≤ n ∧ (∀ x, x ≠ 213 → s.2 x = σ x) ∧ (∀ k, ¬ (20 * (c : Int) ≤ k ∧ k < 20 * (c : Int) + 20) → s.2 213 k = σ 213 k) ∧ ∀ j : Nat, j < i → s.2 213 (20 * (c : Int) + j) = -1) (fun s => (20 - s.1).toNat) (fun e => (∀ x, x ≠ 213 → e x = σ x) ∧ (∀ k, ¬ (20 * (c : Int) ≤ k ∧ k < 20 * (c : Int) + 20) → e 213 k = σ 213 k) ∧ ∀ i : Nat, i < n → e 213 (20 * (c : Int) + i) = -1) (a := (0, σ)) ⟨0, rfl, Nat.zero_le _, fun _ _ => rfl, fun _ _ => rfl, fun j hj => absurd hj (Nat.not_lt_zero _)⟩ (Nat.le_of_ble_eq_true rfl) (by
    rintro ⟨_, τ⟩ ⟨i, rfl, hi, k1, k2, k3⟩
    have k1 : ∀ x, x ≠ 213 → τ x = σ x := k1
    have k2 : ∀ k, ¬ (20 * (c : Int) ≤ k ∧ k < 20 * (c : Int) + 20) → τ 213 k = σ 213 k := k2
    have k3 : ∀ j : Nat, j < i → τ 213 (20 * (c : Int) + j) = -1 := k3
    show (∃ a', f_X11_seats_110C d c (i : Int) τ = _ ∧ _) ∨ ∃ a', f_X11_seats_110C d c (i : Int) τ = _ ∧ _
    unfold f_X11_seats_110C
    rw [k1 181 (by decide), h37]
    by_cases hend : (n : Int) ≤ i
    · right
      have e : i = n := by omega
      subst e
      rw [if_pos hend]
      exact ⟨_, rfl, k1, k2, k3⟩
    · left
      have hv : jadd (jmul 20 (c : Int)) (i : Int) = 20 * (c : Int) + i := by rw [jmul_ok (by omega) (by omega), jadd_ok (by omega) (by omega)]
      rw [if_neg hend, hv, chk_pos (by omega), bsm, bsm, jadd_ok (by omega) (by omega)]
      refine ⟨_, rfl, ⟨i + 1, by show (i : Int) + 1 = _; omega, by omega, fun x hx => ?_, fun k hk => ?_, fun j hj => ?_⟩, by show (20 - ((i : Int) + 1)).toNat < (20 - (i : Int)).toNat; omega⟩
      · show mup τ 213 _ _ x = _
        rw [mup_row hx, k1 x hx]
      · show mup τ 213 (20 * (c : Int) + i) (-1) 213 k = _
        rw [mup_miss (by omega), k2 k hk]
      · show mup τ 213 (20 * (c : Int) + i) (-1) 213 _ = _
        by_cases q : j = i
        · rw [q, mup_hit rfl rfl]
        · rw [mup_miss (by omega), k3 j (by omega)])
  rw [e1]
  refine ⟨e, ?_, e2, e3, e4⟩
  rw [bsm]
  unfold f_X11_seats_136
  rw [bsm, jadd_ok (by omega) (by omega)]
theorem lfF_nr {lf : Lf} {R : Nat} {ps : Pc} (h : rmF lf R ps 0 = none) : ∀ i, lfF lf R ps i = lf
  | 0 => rfl
  | i + 1 => by
    show (match rmF lf R ps i with | none => lfF lf R ps i | some b => _) = lf
    rw [rmF_no lf R ps h i]
    exact lfF_nr h i
def RSF (σ τ : Mem) : Prop := ∀ y i, ¬ (211 ≤ y ∧ y ≤ 217) → (y = 181 → i ≠ 37) → τ y i = σ y i
def reC (σ : Mem) (B : Bk) (R d c : Nat) : Prop := ∀ c' : Nat, c' < c → σ 215 c' = ((psD B d c').length : Int) ∧ σ 214 c' = mvF (lfC B R d c') R (psD B d c') ∧ ∀ i : Nat, i < (psD B d c').length → σ 213 (20 * (c' : Int) + i) = oI (rmF (lfC B R d c') R (psD B d c') i)
theorem isDo.keep {σ τ : Mem} {B : Bk} {N : Nat} (h : isDo σ B N) (e : ∀ i, τ 204 i = σ 204 i) : isDo τ B N := fun c k hc hk => by rw [e]; exact h c k hc hk
theorem pcs_mono (q : Nat → Int) {t : Nat} : ∀ {u : Nat}, t ≤ u → (pcs q t).length ≤ (pcs q u).length
  | 0, h => by rw [Nat.le_zero.1 h]; exact Nat.le_refl _
  | u + 1, h => by
    by_cases e : t = u + 1
    · rw [e]; exact Nat.le_refl _
    · have := pcs_mono q (t := t) (u := u) (by omega)
      rw [pcs_s]
      split
      · rw [List.length_append]; omega
      · exact this
theorem X11_s59 {σ : Mem} {B : Bk} (w : WF B) {N R d : Nat} (hN : B 8 1 = N) (hR : B 8 2 = R) (hd : d < 5) (h9 : ∀ c, c < N → (psD B d c).length ≤ 9) (h83 : σ 182 83 = (N : Int)) (h84 : σ 182 84 = (R : Int)) (hD : isDo σ B N) {c : Nat} (hc : c < N) (hL : isRl σ (lfC B R d c) R) (hE : reC σ B R d c) : ∃ τ, f_X11_seats_59C d c σ = some (.inl ((c : Int) + 1, τ)) ∧ RSF σ τ ∧ isRl τ (lfC B R d (c + 1)) R ∧ reC τ B R d (c + 1) := by
  have hn := w.1
  unfold WFn at hn
  have hbF := lfC_b B R d c (fun c' hc' => h9 c' (by omega))
  have hb : ∀ r t : Nat, r < R → t < 48 → -100 ≤ lfC B R d c r t ∧ lfC B R d c r t ≤ 100 := fun r t hr ht => by
    have h1 := hbF r t hr ht
    have h2 := w.2.2.2 r (by omega) (by omega)
    omega
  have hp9 := h9 c hc
  have hps := okP_D hp9
  obtain ⟨σ1, a1, a2, a3⟩ := X11_piecesOf (by omega) hD hc hd (fun t ht => Nat.le_trans (pcs_mono (DD B c d) ht) hp9)
  have a3 : isRp σ1 (psD B d c) := a3
  obtain ⟨σ2, hσ2⟩ : ∃ σ2, σ2 = mup σ1 215 c ((psD B d c).length : Int) := ⟨_, rfl⟩
  have q2 : ∀ x, x ≠ 215 → σ2 x = σ1 x := fun x hx => by rw [hσ2, mup_row hx]
  have hP2 : isRp σ2 (psD B d c) := a3.keep (by rw [q2 181 (by decide)]) (q2 211 (by decide)) (q2 212 (by decide))
  have hL2 : isRl σ2 (lfC B R d c) R := fun r t hr ht => by rw [q2 216 (by decide), a2 216 _ (by decide) (fun z => absurd z (by decide))]; exact hL r t hr ht
  have g84 : σ2 182 84 = (R : Int) := by rw [q2 182 (by decide), a2 182 _ (by decide) (fun z => absurd z (by decide))]; exact h84
  obtain ⟨σ3, b1, b2, b3⟩ := X11_isRoomed (by omega) g84 hL2 hP2 hps
  have g84' : σ3 182 84 = (R : Int) := by rw [b2 182 (by decide)]; exact g84
  have f3 : ∀ y i, ¬ (211 ≤ y ∧ y ≤ 212) → y ≠ 215 → y ≠ 217 → (y = 181 → i ≠ 37) → σ3 y i = σ y i := fun y i y1 y2 y3 y4 => by rw [b2 y y3, q2 y y2, a2 y i y1 y4]
  have h207 : σ3 215 c = ((psD B d c).length : Int) := by rw [b2 215 (by decide), hσ2, mup_hit rfl rfl]
  have h207' : ∀ k, k ≠ (c : Int) → σ3 215 k = σ 215 k := fun k hk => by rw [b2 215 (by decide), hσ2, mup_miss (by omega), a2 215 _ (by decide) (fun z => absurd z (by decide))]
  have e59 : f_X11_seats_59C d c σ = (if (if rdB (lfC B R d c) R (psD B d c) then (1 : Int) else 0) = 0 then (chk (0 ≤ (c : Int) ∧ (c : Int) < ((10 : Nat) : Int)) ((some (mup σ3 214 c (-1))).bind fun σ11 => f_X11_seats_110 σ11 d c 0)) else ((f_X11_roomed σ3 c).bind fun σ12 => f_X11_seats_136 σ12 d c)) := by
    unfold f_X11_seats_59C
    rw [chk_pos (by decide), h83, if_neg (by omega), bind_some' a1, chk_pos (by omega), a3.1, bsm, ← hσ2, bind_some' b1]
  have fin : ∀ τ : Mem, (∀ y i, y ≠ 213 → y ≠ 214 → y ≠ 216 → τ y i = σ3 y i) → (∀ k, k ≠ (c : Int) → τ 214 k = σ3 214 k) → (∀ k, ¬ (20 * (c : Int) ≤ k ∧ k < 20 * (c : Int) + 20) → τ 213 k = σ3 213 k) → τ 214 c = mvF (lfC B R d c) R (psD B d c) → (∀ i : Nat, i < (psD B d c).length → τ 213 (20 * (c : Int) + i) = oI (rmF (lfC B R d c) R (psD B d c) i)) → RSF σ τ ∧ reC τ B R d (c + 1) := fun τ t1 t2 t3 t4 t5 => by
    refine ⟨fun y i y1 y2 => by rw [t1 y i (by omega) (by omega) (by omega), f3 y i (by omega) (by omega) (by omega) y2], fun c' hc' => ?_⟩
    by_cases q : c' = c
    · subst q
      exact ⟨by rw [t1 215 _ (by decide) (by decide) (by decide)]; exact h207, t4, t5⟩
    · obtain ⟨g1, g2, g3⟩ := hE c' (by omega)
      have := h9 c' (by omega)
      refine ⟨?_, ?_, fun i hi => ?_⟩
      · rw [t1 215 _ (by decide) (by decide) (by decide), h207' _ (by omega)]
        exact g1
      · rw [t2 _ (by omega), f3 214 _ (by decide) (by decide) (by decide) (fun z => absurd z (by decide))]
        exact g2
      · rw [t3 _ (by omega), f3 213 _ (by decide) (by decide) (by decide) (fun z => absurd z (by decide))]
        exact g3 i hi
  cases hrd : rdB (lfC B R d c) R (psD B d c) with
  | true =>
    obtain ⟨τ, c1, c2, c3, c4, c5, c6, c7⟩ := X11_roomed_ok (by omega) g84' (hL2.keep (b2 216 (by decide))) hb (hP2.keep (by rw [b2 181 (by decide)]) (b2 211 (by decide)) (b2 212 (by decide))) hps b3 hrd (c := c) (by omega)
    obtain ⟨f1, f2⟩ := fin τ (fun y i y1 y2 y3 => by rw [c2 y y1 y2 y3]) c3 c4 c5 c6
    refine ⟨τ, ?_, f1, c7, f2⟩
    rw [e59, hrd, bt, if_neg (by decide), bind_some' c1]
    unfold f_X11_seats_136
    rw [bsm, jadd_ok (by omega) (by omega)]
  | false =>
    have hne : psD B d c ≠ [] := fun z => by rw [z] at hrd; cases hrd
    have hfa : fa (ct (lfC B R d c) R (psD B d c)) none R = none := by
      cases hf : fa (ct (lfC B R d c) R (psD B d c)) none R with
      | none => rfl
      | some y =>
        have := (rdB_fa hne none).2 (by rw [hf]; exact fun z => by cases z)
        rw [hrd] at this
        cases this
    have hr0 : rmF (lfC B R d c) R (psD B d c) 0 = none := by
      show (fa (ct (lfC B R d c) R (psD B d c)) none R).map (·.1) = none
      rw [hfa]
      rfl
    have hmv : mvF (lfC B R d c) R (psD B d c) = -1 := by
      unfold mvF
      rw [hfa]
      cases hq : psD B d c with
      | nil => exact absurd hq hne
      | cons a l => rfl
    have h37 : mup σ3 214 c (-1) 181 37 = ((psD B d c).length : Int) := by rw [mup_row (by decide), b2 181 (by decide)]; exact hP2.1
    obtain ⟨τ, c1, c2, c3, c4⟩ := X11_s110 hp9 h37 (c := c) (by omega) d
    obtain ⟨f1, f2⟩ := fin τ (fun y i y1 y2 y3 => by rw [c2 y y1, mup_row y2]) (fun k hk => by rw [c2 214 (by decide), mup_miss (by omega)]) (fun k hk => by rw [c3 k hk, mup_row (by decide)]) (by rw [c2 214 (by decide), mup_hit rfl rfl, hmv]) (fun i hi => by rw [c4 i hi, rmF_no _ _ _ hr0 i]; rfl)
    refine ⟨τ, ?_, f1, ?_, f2⟩
    · rw [e59, hrd, bf, if_pos rfl, chk_pos (by omega), bsm, c1]
    · show isRl τ (lfF (lfC B R d c) R (psD B d c) (psD B d c).length) R
      rw [lfF_nr hr0]
      exact (hL2.keep (b2 216 (by decide))).keep (by rw [c2 216 (by decide), mup_row (by decide)])
theorem X11_s57 {σ : Mem} {B : Bk} (w : WF B) {N R d : Nat} (hN : B 8 1 = N) (hR : B 8 2 = R) (hd : d < 5) (h9 : ∀ c, c < N → (psD B d c).length ≤ 9) (h83 : σ 182 83 = (N : Int)) (h84 : σ 182 84 = (R : Int)) (hD : isDo σ B N) (hL : isRl σ (lfC B R d 0) R) : ∃ τ, f_X11_seats_57 σ d = some τ ∧ RSF σ τ ∧ isRl τ (lfC B R d N) R ∧ reC τ B R d N := by
  have hn := w.1
  unfold WFn at hn
  unfold f_X11_seats_57 f_X11_seats_59
  obtain ⟨e, e1, e2, e3, e4⟩ := loop_ex (f := f_X11_seats_59B d) (fun s => ∃ c : Nat, s.1 = (c : Int) ∧ c ≤ N ∧ RSF σ s.2 ∧ isRl s.2 (lfC B R d c) R ∧ reC s.2 B R d c) (fun s => (20 - s.1).toNat) (fun e => RSF σ e ∧ isRl e (lfC B R d N) R ∧ reC e B R d N) (a := (0, σ)) ⟨0, rfl, Nat.zero_le _, fun _ _ _ _ => rfl, hL, fun c hc => absurd hc (Nat.not_lt_zero _)⟩ (Nat.le_of_ble_eq_true rfl) (by
    rintro ⟨_, τ⟩ ⟨c, rfl, hc, k1, k2, k3⟩
    have k1 : RSF σ τ := k1
    have k2 : isRl τ (lfC B R d c) R := k2
    have k3 : reC τ B R d c := k3
    have g83 : τ 182 83 = (N : Int) := by rw [k1 182 _ (by decide) (fun z => absurd z (by decide))]; exact h83
    show (∃ a', f_X11_seats_59C d (c : Int) τ = _ ∧ _) ∨ ∃ a', f_X11_seats_59C d (c : Int) τ = _ ∧ _
    by_cases hend : (N : Int) ≤ c
    · right
      have e : c = N := by omega
      subst e
      unfold f_X11_seats_59C
      rw [chk_pos (by decide), g83, if_pos hend]
      exact ⟨_, rfl, k1, k2, k3⟩
    · left
      obtain ⟨ρ, a1, a2, a3, a4⟩ := X11_s59 w hN hR hd h9 g83 (by rw [k1 182 _ (by decide) (fun z => absurd z (by decide))]; exact h84) (hD.keep fun i => k1 204 i (by decide) (fun z => absurd z (by decide))) (c := c) (by omega) k2 k3
      rw [a1]
      exact ⟨_, rfl, ⟨c + 1, by show (c : Int) + 1 = _; omega, by omega, fun y i y1 y2 => by show ρ y i = _; rw [a2 y i y1 y2, k1 y i y1 y2], a3, a4⟩, by show (20 - ((c : Int) + 1)).toNat < (20 - (c : Int)).toNat; omega⟩)
  rw [e1]
  exact ⟨e, rfl, e2, e3, e4⟩
theorem X11_s19 {σ : Mem} {r : Nat} (hr : r < 6) (d : Int) : ∃ τ, f_X11_seats_19 σ d r 0 = some (.inl ((r : Int) + 1, τ)) ∧ (∀ x, x ≠ 216 → τ x = σ x) ∧ (∀ t : Nat, t < 48 → τ 216 (48 * (r : Int) + t) = σ 182 (76 + r)) ∧ ∀ i, i < 48 * (r : Int) → τ 216 i = σ 216 i := by
  unfold f_X11_seats_19
  obtain ⟨e, e1, e2, e3, e4⟩ := loop_ex (f := f_X11_seats_19B d r) (fun s => ∃ t : Nat, s.1 = (t : Int) ∧ t ≤ 48 ∧ (∀ x, x ≠ 216 → s.2 x = σ x) ∧ (∀ u : Nat, u < t → s.2 216 (48 * (r : Int) + u) = σ 182 (76 + r)) ∧ ∀ i, i < 48 * (r : Int) → s.2 216 i = σ 216 i) (fun s => (60 - s.1).toNat) (fun e => (∀ x, x ≠ 216 → e x = σ x) ∧ (∀ t : Nat, t < 48 → e 216 (48 * (r : Int) + t) = σ 182 (76 + r)) ∧ ∀ i, i < 48 * (r : Int) → e 216 i = σ 216 i) (a := (0, σ)) ⟨0, rfl, Nat.zero_le _, fun _ _ => rfl, fun j hj => absurd hj (Nat.not_lt_zero _), fun _ _ => rfl⟩ (Nat.le_of_ble_eq_true rfl) (by
    rintro ⟨_, τ⟩ ⟨t, rfl, ht, k1, k2, k3⟩
    have k1 : ∀ x, x ≠ 216 → τ x = σ x := k1
    have k2 : ∀ u : Nat, u < t → τ 216 (48 * (r : Int) + u) = σ 182 (76 + r) := k2
    have k3 : ∀ i, i < 48 * (r : Int) → τ 216 i = σ 216 i := k3
    show (∃ a', f_X11_seats_19C d r (t : Int) τ = _ ∧ _) ∨ ∃ a', f_X11_seats_19C d r (t : Int) τ = _ ∧ _
    unfold f_X11_seats_19C
    by_cases hend : (48 : Int) ≤ t
    · right
      have e : t = 48 := by omega
      subst e
      rw [if_pos hend]
      exact ⟨_, rfl, k1, k2, k3⟩
    · left
      have hv : jadd (jmul 48 (r : Int)) (t : Int) = 48 * (r : Int) + t := by rw [jmul_ok (by omega) (by omega), jadd_ok (by omega) (by omega)]
      rw [if_neg hend, hv, jadd_ok (a := 76) (by omega) (by omega), chk_pos (by omega), chk_pos (by omega), bsm, bsm, jadd_ok (by omega) (by omega), k1 182 (by decide)]
      refine ⟨_, rfl, ⟨t + 1, by show (t : Int) + 1 = _; omega, by omega, fun x hx => ?_, fun u hu => ?_, fun i hi => ?_⟩, by show (60 - ((t : Int) + 1)).toNat < (60 - (t : Int)).toNat; omega⟩
      · show mup τ 216 _ _ x = _
        rw [mup_row hx, k1 x hx]
      · show mup τ 216 (48 * (r : Int) + t) _ 216 _ = _
        by_cases q : u = t
        · rw [q, mup_hit rfl rfl]
        · rw [mup_miss (by omega), k2 u (by omega)]
      · show mup τ 216 (48 * (r : Int) + t) _ 216 i = _
        rw [mup_miss (by omega), k3 i hi])
  rw [e1]
  refine ⟨e, ?_, e2, e3, e4⟩
  rw [bsm]
  unfold f_X11_seats_51
  rw [bsm, jadd_ok (by omega) (by omega)]
theorem X11_s6 {σ : Mem} {B : Bk} (hK : isRk σ 182 B) {R : Nat} (hR6 : R ≤ 6) (hR : B 8 2 = R) (d : Nat) : ∃ τ, f_X11_seats_6 σ d 0 = f_X11_seats_57 τ d ∧ (∀ x, x ≠ 216 → τ x = σ x) ∧ isRl τ (lfC B R d 0) R := by
  unfold f_X11_seats_6
  obtain ⟨e, e1, e2, e3⟩ := loop_ex (f := f_X11_seats_6B d) (fun s => ∃ r : Nat, s.1 = (r : Int) ∧ r ≤ R ∧ (∀ x, x ≠ 216 → s.2 x = σ x) ∧ ∀ q t : Nat, q < r → t < 48 → s.2 216 (48 * (q : Int) + t) = B 7 q) (fun s => (20 - s.1).toNat) (fun e => (∀ x, x ≠ 216 → e x = σ x) ∧ isRl e (lfC B R d 0) R) (a := (0, σ)) ⟨0, rfl, Nat.zero_le _, fun _ _ => rfl, fun q t hq _ => absurd hq (Nat.not_lt_zero _)⟩ (Nat.le_of_ble_eq_true rfl) (by
    rintro ⟨_, τ⟩ ⟨r, rfl, hr, k1, k2⟩
    have k1 : ∀ x, x ≠ 216 → τ x = σ x := k1
    have k2 : ∀ q t : Nat, q < r → t < 48 → τ 216 (48 * (q : Int) + t) = B 7 q := k2
    show (∃ a', f_X11_seats_6C d (r : Int) τ = _ ∧ _) ∨ ∃ a', f_X11_seats_6C d (r : Int) τ = _ ∧ _
    unfold f_X11_seats_6C
    rw [chk_pos (by decide), k1 182 (by decide), hK.nR, hR]
    by_cases hend : (R : Int) ≤ r
    · right
      have e : r = R := by omega
      subst e
      rw [if_pos hend]
      exact ⟨_, rfl, k1, k2⟩
    · left
      obtain ⟨ρ, a1, a2, a3, a4⟩ := X11_s19 (σ := τ) (r := r) (by omega) d
      rw [if_neg hend, a1]
      refine ⟨_, rfl, ⟨r + 1, by show (r : Int) + 1 = _; omega, by omega, fun x hx => by show ρ x = _; rw [a2 x hx, k1 x hx], fun q t hq ht => ?_⟩, by show (20 - ((r : Int) + 1)).toNat < (20 - (r : Int)).toNat; omega⟩
      show ρ 216 _ = _
      by_cases e : q = r
      · rw [e, a3 t ht, k1 182 (by decide), hK.seats (by omega) (by omega)]
      · rw [a4 _ (by omega), k2 q t (by omega) ht])
  rw [e1]
  exact ⟨e, by rw [bsm], e2, e3⟩
theorem X11_seats_ok {σ : Mem} {B : Bk} (hK : isRk σ 182 B) (w : WF B) {N R d : Nat} (hN : B 8 1 = N) (hR : B 8 2 = R) (hd : d < 5) (h9 : ∀ c, c < N → (psD B d c).length ≤ 9) : ∃ τ, f_X11_seats σ d = some τ ∧ reC τ B R d N ∧ isRl τ (lfC B R d N) R ∧ ∀ y i, ¬ (192 ≤ y ∧ y ≤ 202) → y ≠ 204 → ¬ (211 ≤ y ∧ y ≤ 217) → (y = 181 → i ≠ 37) → τ y i = σ y i := by
  have hn := w.1
  unfold WFn at hn
  obtain ⟨σ1, a1, a2, a3⟩ := X11_all hK w hN
  have hK1 : isRk σ1 182 B := hK.row (a2 182 (by decide) (by decide))
  obtain ⟨σ2, b1, b2, b3⟩ := X11_s6 hK1 (R := R) (by omega) hR d
  obtain ⟨τ, c1, c2, c3, c4⟩ := X11_s57 w hN hR hd h9 (σ := σ2) (by rw [b2 182 (by decide), hK1.nC, hN]) (by rw [b2 182 (by decide), hK1.nR, hR]) (a3.keep fun i => by rw [b2 204 (by decide)]) b3
  refine ⟨τ, ?_, c4, c3, fun y i y1 y2 y3 y4 => by rw [c2 y i y3 y4, b2 y (by omega), a2 y y1 y2]⟩
  unfold f_X11_seats
  rw [bind_some' a1, b1, c1]
