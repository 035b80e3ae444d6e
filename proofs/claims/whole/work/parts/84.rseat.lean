/-! SEATS, the reference: costs, and whether all have a room -/
def isRl (σ : Mem) (lf : Lf) (R : Nat) : Prop := ∀ r t : Nat, r < R → t < 48 → σ 216 (48 * (r : Int) + t) = lf r t
theorem isRl.keep {σ τ : Mem} {lf : Lf} {R : Nat} (h : isRl σ lf R) (e : τ 216 = σ 216) : isRl τ lf R := fun r t hr ht => by rw [e]; exact h r t hr ht
theorem isRp.keep {σ τ : Mem} {ps : Pc} (h : isRp σ ps) (e0 : τ 181 37 = σ 181 37) (e1 : τ 211 = σ 211) (e2 : τ 212 = σ 212) : isRp τ ps := ⟨by rw [e0]; exact h.1, fun i hi => by rw [e1, e2]; exact h.2 i hi⟩
def e9 (o : Option Nat) : Int := match o with
  | none => 999
  | some x => (x : Int)
def e9y (o : Option (Nat × Nat)) : Int := match o with
  | none => 999
  | some y => (y.2 : Int)
theorem e9y_m (o : Option (Nat × Nat)) : e9 (o.map (·.2)) = e9y o := by cases o <;> rfl
theorem fa_mn {f : Nat → Option Nat} {w : Option Nat} {n : Nat} (hb : ∀ r k, f r = some k → k ≤ 900) : e9y (fa f w n) ≤ 999 ∧ e9y (fa f w (n + 1)) = min (e9y (fa f w n)) (e9 (f n) + (pen w n : Int)) := by
  have h1 : e9y (fa f w n) ≤ 999 := by
    cases hf : fa f w n with
    | none => exact Int.le_refl _
    | some y =>
      obtain ⟨b, c⟩ := y
      obtain ⟨-, k, hk, hc⟩ := fa_in hf
      have := hb b k hk
      have := pen_1 w b
      show (c : Int) ≤ 999
      omega
  refine ⟨h1, ?_⟩
  rw [fa_s]
  cases hn : f n with
  | none =>
    show e9y (fa f w n) = min (e9y (fa f w n)) (999 + (pen w n : Int))
    omega
  | some k =>
    have := hb n k hn
    have := pen_1 w n
    cases hf : fa f w n with
    | none =>
      show ((k + pen w n : Nat) : Int) = min 999 ((k : Int) + (pen w n : Int))
      omega
    | some y =>
      show e9y (if k + pen w n < y.2 then some (n, k + pen w n) else some y) = min (y.2 : Int) ((k : Int) + (pen w n : Int))
      by_cases e : k + pen w n < y.2
      · rw [if_pos e]
        show ((k + pen w n : Nat) : Int) = _
        omega
      · rw [if_neg e]
        show (y.2 : Int) = _
        omega
theorem X11_isSeat {σ : Mem} {lf : Lf} {R : Nat} (hR : R ≤ 6) (hL : isRl σ lf R) {ps : Pc} (hP : isRp σ ps) (hps : okP9 ps) {i : Nat} (hi : i < ps.length) {r : Nat} (hr : r < R) : f_X11_isSeat σ i r = some (if seB lf (ps.getD i (0, 0)) r then 1 else 0) := by
  have h9 := hps.1
  have h48 := hps.2 i hi
  obtain ⟨g3, g4⟩ := hP.2 i hi
  obtain ⟨p, hp⟩ : ∃ p, p = ps.getD i (0, 0) := ⟨_, rfl⟩
  rw [← hp] at h48 g3 g4 ⊢
  unfold f_X11_isSeat
  rw [chk_pos (by omega), g3, bsm]
  unfold f_X11_isSeat_10
  rw [show loop (f_X11_isSeat_10B σ i r) FU (1, (p.1 : Int)) = some (if seB lf p r then 1 else 0) from loop_is (P := fun s => ∃ j : Nat, s.2 = ((p.1 + j : Nat) : Int) ∧ j ≤ p.2 ∧ s.1 = if anyN (fun j => decide (lf r (p.1 + j) ≤ 0)) j then 0 else 1) (μ := fun s => (60 - s.2).toNat) (by
    rintro ⟨x3, _⟩ ⟨j, rfl, hj, g⟩
    have g : x3 = if anyN (fun j => decide (lf r (p.1 + j) ≤ 0)) j then 0 else 1 := g
    show (∃ a', f_X11_isSeat_10C σ i r x3 ((p.1 + j : Nat) : Int) = _ ∧ _) ∨ f_X11_isSeat_10C σ i r x3 ((p.1 + j : Nat) : Int) = _
    unfold f_X11_isSeat_10C
    rw [chk_pos (by omega), chk_pos (by omega), g3, g4, jadd_ok (by omega) (by omega)]
    by_cases hend : (p.1 : Int) + p.2 ≤ ((p.1 + j : Nat) : Int)
    · right
      have e : j = p.2 := by omega
      rw [if_pos hend, g, e]
      unfold seB
      cases anyN (fun j => decide (lf r (p.1 + j) ≤ 0)) p.2 <;> rfl
    · left
      have es := anyN_s (fun j => decide (lf r (p.1 + j) ≤ 0)) j
      have fin : ∀ z : Int, z = (if anyN (fun j => decide (lf r (p.1 + j) ≤ 0)) (j + 1) then 0 else 1) → ∃ a', f_X11_isSeat_52 σ i r ((p.1 + j : Nat) : Int) z = some (.inl a') ∧ (∃ j : Nat, a'.2 = ((p.1 + j : Nat) : Int) ∧ j ≤ p.2 ∧ a'.1 = if anyN (fun j => decide (lf r (p.1 + j) ≤ 0)) j then 0 else 1) ∧ (60 - a'.2).toNat < (60 - ((p.1 + j : Nat) : Int)).toNat := fun z hz => by
        unfold f_X11_isSeat_52
        rw [bsm, jadd_ok (by omega) (by omega)]
        exact ⟨_, rfl, ⟨j + 1, by show ((p.1 + j : Nat) : Int) + 1 = _; omega, by omega, hz⟩, by show (60 - (((p.1 + j : Nat) : Int) + 1)).toNat < (60 - ((p.1 + j : Nat) : Int)).toNat; omega⟩
      rw [if_neg hend]
      unfold f_X11_isSeat_51
      cases ha : anyN (fun j => decide (lf r (p.1 + j) ≤ 0)) j with
      | true =>
        rw [ha, bt] at g
        rw [ha, Bool.true_or] at es
        rw [if_pos g]
        exact fin 0 (by rw [es, bt])
      | false =>
        rw [ha, bf] at g
        rw [ha, Bool.false_or] at es
        have hv : jadd (jmul 48 (r : Int)) ((p.1 + j : Nat) : Int) = 48 * (r : Int) + ((p.1 + j : Nat) : Int) := by rw [jmul_ok (by omega) (by omega), jadd_ok (by omega) (by omega)]
        rw [if_neg (by omega), hv, chk_pos (by omega), hL r (p.1 + j) hr (by omega)]
        by_cases e : lf r (p.1 + j) ≤ 0
        · rw [if_pos e]
          exact fin 0 (by rw [es, decide_eq_true e, bt])
        · rw [if_neg e]
          exact fin 1 (by rw [es, decide_eq_false e, bf])) ⟨0, rfl, Nat.zero_le _, rfl⟩ (by show (60 - (p.1 : Int)).toNat < 1000000; omega)]
  rw [bsm, chk_pos (by cases seB lf p r <;> simp)]
def isRc (σ : Mem) (lf : Lf) (R : Nat) (ps : Pc) (i : Nat) : Prop := ∀ r : Nat, r < R → σ 217 (6 * (i : Int) + r) = e9 (ct lf R (ps.drop i) r)
theorem isRc.keep {σ τ : Mem} {lf : Lf} {R : Nat} {ps : Pc} {i : Nat} (h : isRc σ lf R ps i) (e : ∀ r : Nat, r < R → τ 217 (6 * (i : Int) + r) = σ 217 (6 * (i : Int) + r)) : isRc τ lf R ps i := fun r hr => by rw [e r hr]; exact h r hr
theorem ct_9 {lf : Lf} {R : Nat} {ps : Pc} (hl : ps.length ≤ 9) (i : Nat) : ∀ r k, ct lf R (ps.drop i) r = some k → k ≤ 900 := fun r k hk => by
  have := ct_b lf R _ hk
  rw [List.length_drop] at this
  omega
theorem X11_min {σ : Mem} {lf : Lf} {R : Nat} (hR : R ≤ 6) (h84 : σ 182 84 = (R : Int)) {ps : Pc} (hl : ps.length ≤ 9) (h37 : σ 181 37 = (ps.length : Int)) {i : Nat} (hi : i + 1 < ps.length) (hC : isRc σ lf R ps (i + 1)) (x1 x3 : Int) (r : Nat) : loop (f_X11_isRoomed_52B σ x1 i x3 r) FU (999, 0) = some (e9y (fa (ct lf R (ps.drop (i + 1))) (some r) R)) :=
  loop_is (P := fun s => ∃ q : Nat, s.2 = (q : Int) ∧ q ≤ R ∧ s.1 = e9y (fa (ct lf R (ps.drop (i + 1))) (some r) q)) (μ := fun s => (10 - s.2).toNat) (by
    rintro ⟨x5, _⟩ ⟨q, rfl, hq, g⟩
    have g : x5 = e9y (fa (ct lf R (ps.drop (i + 1))) (some r) q) := g
    show (∃ a', f_X11_isRoomed_52C σ x1 i x3 r x5 (q : Int) = _ ∧ _) ∨ f_X11_isRoomed_52C σ x1 i x3 r x5 (q : Int) = _
    unfold f_X11_isRoomed_52C
    rw [chk_pos (by decide), h84]
    by_cases hend : (R : Int) ≤ q
    · right
      have e : q = R := by omega
      rw [if_pos hend, g, e]
    · left
      obtain ⟨m1, m2⟩ := fa_mn (w := some r) (n := q) (ct_9 (lf := lf) (R := R) hl (i + 1))
      have hc := hC q (by omega)
      have hv : jadd (jmul 6 (jadd (i : Int) 1)) (q : Int) = 6 * ((i + 1 : Nat) : Int) + q := by rw [jadd_ok (a := (i : Int)) (by omega) (by omega), jmul_ok (by omega) (by omega), jadd_ok (by omega) (by omega)]; omega
      have hb : 0 ≤ e9 (ct lf R (ps.drop (i + 1)) q) ∧ e9 (ct lf R (ps.drop (i + 1)) q) ≤ 999 := by
        cases hk : ct lf R (ps.drop (i + 1)) q with
        | none => exact ⟨by show (0 : Int) ≤ 999; decide, Int.le_refl _⟩
        | some k =>
          have := ct_9 hl (i + 1) q k hk
          exact ⟨by show 0 ≤ (k : Int); omega, by show (k : Int) ≤ 999; omega⟩
      have fin : ∀ z : Int, z = ((pen (some r) q : Nat) : Int) → ∃ a', f_X11_isRoomed_102 σ x1 i x3 r (q : Int) z (σ 217 (6 * ((i + 1 : Nat) : Int) + q)) x5 = some (.inl a') ∧ (∃ q : Nat, a'.2 = (q : Int) ∧ q ≤ R ∧ a'.1 = e9y (fa (ct lf R (ps.drop (i + 1))) (some r) q)) ∧ (10 - a'.2).toNat < (10 - (q : Int)).toNat := fun z hz => by
        have := pen_1 (some r) q
        unfold f_X11_isRoomed_102
        rw [bsm, bsm, hc, jadd_ok (by omega) (by omega), jadd_ok (by omega) (by omega), mn_eq]
        exact ⟨_, rfl, ⟨q + 1, by show (q : Int) + 1 = _; omega, by omega, by show min x5 _ = _; rw [m2, g, hz]⟩, by show (10 - ((q : Int) + 1)).toNat < (10 - (q : Int)).toNat; omega⟩
      rw [if_neg hend, h37, jsub_ok (by omega) (by omega), if_neg (by omega), hv, chk_pos (by omega)]
      by_cases e : r = q
      · rw [if_neg (by omega)]
        exact fin 0 (by show (0 : Int) = ((if r = q then 0 else 1 : Nat) : Int); rw [if_pos e]; rfl)
      · rw [if_pos (by omega)]
        exact fin 1 (by show (1 : Int) = ((if r = q then 0 else 1 : Nat) : Int); rw [if_neg e]; rfl)) ⟨0, rfl, Nat.zero_le _, rfl⟩ (Nat.le_of_ble_eq_true rfl)
theorem X11_room18 {σ : Mem} {lf : Lf} {R : Nat} (hR : R ≤ 6) (h84 : σ 182 84 = (R : Int)) (hL : isRl σ lf R) {ps : Pc} (hP : isRp σ ps) (hps : okP9 ps) {i : Nat} (hi : i < ps.length) (hC : i + 1 < ps.length → isRc σ lf R ps (i + 1)) (x1 x3 : Int) {r : Nat} (hr : r < R) : f_X11_isRoomed_18C x1 i x3 r σ = some (.inl (if x3 ≠ 0 then 1 else if seB lf (ps.getD i (0, 0)) r then 1 else 0, (r : Int) + 1, mup σ 217 (6 * (i : Int) + r) (e9 (ct lf R (ps.drop i) r)))) := by
  have h9 := hps.1
  have hs := X11_isSeat hR hL hP hps hi hr
  have e5 : ∀ s0 : Int, s0 = (if i + 1 < ps.length then 999 else 0) → f_X11_isRoomed_47 σ x1 i x3 r s0 = f_X11_isRoomed_114 σ x1 i x3 r (if i + 1 < ps.length then e9y (fa (ct lf R (ps.drop (i + 1))) (some r) R) else 0) := fun s0 h0 => by
    unfold f_X11_isRoomed_47 f_X11_isRoomed_52
    by_cases e : i + 1 < ps.length
    · rw [if_pos e] at h0
      rw [h0, X11_min hR h84 h9 hP.1 e (hC e), bsm, if_pos e]
    · rw [if_neg e] at h0
      rw [if_neg e, h0, show loop (f_X11_isRoomed_52B σ x1 i x3 r) FU (0, 0) = some 0 from loop_is (P := fun s => s = (0, 0)) (μ := fun _ => 0) (by
        rintro _ rfl
        right
        show f_X11_isRoomed_52C σ x1 i x3 r 0 0 = _
        unfold f_X11_isRoomed_52C
        rw [chk_pos (by decide), h84, hP.1, jsub_ok (by omega) (by omega), if_neg (by omega), if_pos (by omega)]) rfl (Nat.le_of_ble_eq_true rfl), bsm]
  have hv : jadd (jmul 6 (i : Int)) (r : Int) = 6 * (i : Int) + r := by rw [jmul_ok (by omega) (by omega), jadd_ok (by omega) (by omega)]
  have h163 : ∀ (ρ : Mem) (z : Int), f_X11_isRoomed_163 ρ x1 i r z = some (.inl (z, (r : Int) + 1, ρ)) := fun ρ z => by
    unfold f_X11_isRoomed_163
    rw [bsm, jadd_ok (by omega) (by omega)]
  have h143 : ∀ z : Int, f_X11_isRoomed_143 σ x1 i x3 r z (6 * (i : Int) + r) = some (.inl (if x3 ≠ 0 then 1 else if seB lf (ps.getD i (0, 0)) r then 1 else 0, (r : Int) + 1, mup σ 217 (6 * (i : Int) + r) z)) := fun z => by
    have hs2 := X11_isSeat (σ := mup σ 217 (6 * (i : Int) + r) z) hR (hL.keep (mup_row (by decide))) (hP.keep (by rw [mup_row (by decide)]) (mup_row (by decide)) (mup_row (by decide))) hps hi hr
    unfold f_X11_isRoomed_143 f_X11_isRoomed_158
    rw [chk_pos (by omega), bsm]
    by_cases e : x3 ≠ 0
    · rw [if_pos e, if_pos e, h163]
    · rw [if_neg e, if_neg e, bind_some' hs2]
      cases seB lf (ps.getD i (0, 0)) r with
      | true => rw [bt, if_neg (by decide), h163]
      | false => rw [bf, if_pos rfl, h163]
  have hct : e9 (ct lf R (ps.drop i) r) = if seB lf (ps.getD i (0, 0)) r then (if i + 1 < ps.length then e9y (fa (ct lf R (ps.drop (i + 1))) (some r) R) else 0) else 999 := by
    rw [drop_c hi, ct_c, drop_e]
    cases seB lf (ps.getD i (0, 0)) r with
    | false => rfl
    | true =>
      rw [bt, bt]
      by_cases e : i + 1 < ps.length
      · rw [decide_eq_false (by omega), bf, if_pos e, e9y_m]
      · rw [decide_eq_true (by omega), bt, if_neg e]
        rfl
  have h114 : f_X11_isRoomed_114 σ x1 i x3 r (if i + 1 < ps.length then e9y (fa (ct lf R (ps.drop (i + 1))) (some r) R) else 0) = some (.inl (if x3 ≠ 0 then 1 else if seB lf (ps.getD i (0, 0)) r then 1 else 0, (r : Int) + 1, mup σ 217 (6 * (i : Int) + r) (e9 (ct lf R (ps.drop i) r)))) := by
    unfold f_X11_isRoomed_114
    rw [bind_some' hs, hv, hct]
    cases hsb : seB lf (ps.getD i (0, 0)) r with
    | true => rw [bt, bt, if_neg (by decide), h143, hsb, bt]
    | false => rw [bf, bf, if_pos rfl, h143, hsb, bf]
  unfold f_X11_isRoomed_18C
  rw [chk_pos (by decide), h84, if_neg (by omega), hP.1, jsub_ok (by omega) (by omega)]
  by_cases e : i + 1 < ps.length
  · rw [if_pos (by omega), e5 999 (by rw [if_pos e]), h114]
  · rw [if_neg (by omega), e5 0 (by rw [if_neg e]), h114]
/-- whether all have a room -/
def rdB (lf : Lf) (R : Nat) : Pc → Bool
  | [] => true
  | p :: ps => anyN (fun r => seB lf p r) R && rdB lf R ps
theorem rdB_fa {lf : Lf} {R : Nat} : ∀ {ps : Pc}, ps ≠ [] → ∀ w, (rdB lf R ps = true ↔ fa (ct lf R ps) w R ≠ none)
  | [], h, _ => absurd rfl h
  | p :: ps, _, w => by
    have key : fa (ct lf R (p :: ps)) w R ≠ none ↔ ∃ r, r < R ∧ ct lf R (p :: ps) r ≠ none := by
      constructor
      · intro h
        cases hf : fa (ct lf R (p :: ps)) w R with
        | none => exact absurd hf h
        | some y =>
          obtain ⟨b, c⟩ := y
          obtain ⟨hb, k, hk, -⟩ := fa_in hf
          exact ⟨b, hb, by rw [hk]; exact fun z => by cases z⟩
      · rintro ⟨r, hr, hc⟩ h
        exact hc (fa_no.1 h r hr)
    rw [key]
    show (anyN (fun r => seB lf p r) R && rdB lf R ps) = true ↔ _
    rw [Bool.and_eq_true]
    constructor
    · rintro ⟨h1, h2⟩
      obtain ⟨r, hr, hs⟩ := anyN_ex h1
      refine ⟨r, hr, ?_⟩
      rw [ct_c, hs, bt]
      cases ps with
      | nil => exact fun z => by cases z
      | cons a l =>
        have := (rdB_fa (lf := lf) (R := R) (ps := a :: l) (by simp) (some r)).1 h2
        show (fa (ct lf R (a :: l)) (some r) R).map (fun y : Nat × Nat => y.2) ≠ none
        cases hf : fa (ct lf R (a :: l)) (some r) R with
        | none => exact absurd hf this
        | some y => exact fun z => by cases z
    · rintro ⟨r, hr, hc⟩
      rw [ct_c] at hc
      cases hs : seB lf p r with
      | false => rw [hs, bf] at hc; exact absurd rfl hc
      | true =>
        rw [hs, bt] at hc
        refine ⟨anyN_t hr hs, ?_⟩
        cases ps with
        | nil => rfl
        | cons a l =>
          refine (rdB_fa (lf := lf) (R := R) (ps := a :: l) (by simp) (some r)).2 fun z => hc ?_
          show (fa (ct lf R (a :: l)) (some r) R).map (fun y : Nat × Nat => y.2) = none
          rw [z]
          rfl
