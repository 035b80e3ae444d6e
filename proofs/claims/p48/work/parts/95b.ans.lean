/-! WHAT THE CLASS ANSWERS, on: the book's counts, what-ifs -/
section
variable {k : Nat} {σ : Mem} {B : Bk} {J : Option Bk}
theorem plan_clash (K : KS k σ B J) {c : Int} (hc : 0 ≤ c) (hc2 : c < B 8 1) {D : Nat} (hD : D < 5) (hdp : dpl B c D (ovr B c D) = none) : ∃ r : Nat, ((r = 0 ∧ ∀ t, ¬ bad B c (fre B c (ovr B c D)) (ahd B c (ovr B c D)) (od B c D) t) ∨ bestB B c (fre B c (ovr B c D)) (ahd B c (ovr B c D)) (od B c D) r fun _ => True) ∧ GIVES (f_X10_plan σ c D 6) (r : Int) k B J := by
  have hst := K.1
  obtain ⟨hB, hR, w, hW⟩ := K.1
  have hn := w.1
  unfold WFn at hn
  obtain ⟨ρ, a1, a2, a3, a4, a5⟩ := ask hst hc hc2
  obtain ⟨hBr, hRr, -, hWr⟩ := a4
  have p1 : ((54 + 10 * c, ρ) : Int × Mem).1 = 54 + 10 * c := rfl
  have p2 : ((54 + 10 * c, ρ) : Int × Mem).2 = ρ := rfl
  have hwd := a5 D (by omega)
  have ho := ovr_b w hc hc2 D
  have hf := fre_b w hc hc2 ho.2
  have ha := ahd_b w hc hc2 ho.2
  have hcan := isWd_can hwd
  obtain ⟨r, ρ2, b1, b2, b3⟩ := X4_clash hBr w hc hc2 (k := 54 + 10 * c) (by unfold isK; omega) (d := D) (by omega) hf ha hwd
  have c2 : CFr ρ ρ2 := fun x _ g2 _ _ _ => b2 x (by omega)
  have hW2 : WKS ρ2 B := hWr.keep (by omega) fun x g1 g2 => b2 x (by omega)
  refine ⟨r, b3, GIVES.ok K ?_ (a2.trans c2) hW2⟩
  unfold f_X10_plan
  rw [bind_some' (X0_hasCand hB _), if0, if_pos ⟨hc, hc2⟩, bind_some' (X10_isDay _), if1, if_pos (by omega)]
  rw [bind_some' a1, p1, p2, if_neg (by decide), if_neg (by decide), if_neg (by decide), if_neg (by decide), if_neg (by decide), if_neg (by decide), if_pos rfl, chk_pos (by omega), hcan, hdp, if_pos (by decide), bind_some' b1]
theorem a_plan6 (K : KS k σ B J) {c : Int} (hc : 0 ≤ c) (hc2 : c < B 8 1) {D : Nat} (hD : D < 5) {y : Int × Tr} (hdp : dpl B c D (ovr B c D) = some y) : GIVES (f_X10_plan σ c D 6) 0 k B J := by
  have hst := K.1
  obtain ⟨hB, hR, w, hW⟩ := K.1
  have hn := w.1
  unfold WFn at hn
  obtain ⟨ρ, a1, a2, a3, a4, a5⟩ := ask hst hc hc2
  obtain ⟨hBr, hRr, -, hWr⟩ := a4
  have p1 : ((54 + 10 * c, ρ) : Int × Mem).1 = 54 + 10 * c := rfl
  have p2 : ((54 + 10 * c, ρ) : Int × Mem).2 = ρ := rfl
  have hcan := isWd_can (a5 D (by omega))
  refine GIVES.ok K ?_ a2 hWr
  unfold f_X10_plan
  rw [bind_some' (X0_hasCand hB _), if0, if_pos ⟨hc, hc2⟩, bind_some' (X10_isDay _), if1, if_pos (by omega)]
  rw [bind_some' a1, p1, p2, if_neg (by decide), if_neg (by decide), if_neg (by decide), if_neg (by decide), if_neg (by decide), if_neg (by decide), if_pos rfl, chk_pos (by omega), hcan, hdp, if_neg (by show ¬ ((1 : Int) = 0); decide)]
/-- the day's clash is there, and no call's answer differs -/
theorem a_clash (K : KS k σ B J) {c : Int} (hc : 0 ≤ c) (hc2 : c < B 8 1) {D : Nat} (hD : D < 5) (hdp : dpl B c D (ovr B c D) = none) (hz : 0 < od B c D) (hl : laV B c D = 0) : ∃ r : Nat, (bestB B c (fre B c (ovr B c D)) (ahd B c (ovr B c D)) (od B c D) r fun _ => True) ∧ ∀ (k' : Nat) (σ' : Mem) (J' : Option Bk), KS k' σ' B J' → GIVES (f_X10_plan σ' c D 6) (r : Int) k' B J' := by
  have hb : bad B c (fre B c (ovr B c D)) (ahd B c (ovr B c D)) (od B c D) (od B c D) := ⟨hz, fun i h => h, by unfold laV at hl; omega⟩
  obtain ⟨r, h1, -⟩ := plan_clash K hc hc2 hD hdp
  rcases h1 with ⟨-, h1⟩ | h1
  · exact absurd hb (h1 _)
  refine ⟨r, h1, fun k' σ' J' K' => ?_⟩
  obtain ⟨r', h2, h3⟩ := plan_clash K' hc hc2 hD hdp
  rcases h2 with ⟨-, h2⟩ | h2
  · exact absurd hb (h2 _)
  rw [bestB_one h1 h2]
  exact h3
/-- paperOf -/
def paV (B : Bk) (p : Nat) (x : Int) : Int := if x = 0 then B 0 p else if x = 1 then B 1 p else if x = 2 then B 2 p else if x = 3 then ((cnt (fun c => tk B c p) (B 8 1).toNat : Nat) : Int) else ((lateS B p (B 8 1).toNat : Nat) : Int)
theorem a_paperOf (K : KS k σ B J) {p : Nat} (hp : (p : Int) < B 8 0) {x : Int} (hx : 0 ≤ x ∧ x ≤ 4) : GIVES (f_X10_paperOf σ p x) (paV B p x) k B J := by
  have hst := K.1
  obtain ⟨hB, hR, w, hW⟩ := K.1
  have hn := w.1
  unfold WFn at hn
  obtain ⟨N, hN⟩ := n_of hn.2.1.1
  have eN : (B 8 1).toNat = N := by omega
  have h0 : 0 ≤ (p : Int) ∧ (p : Int) < B 8 0 := ⟨by omega, hp⟩
  by_cases hx4 : x = 4
  · subst hx4
    obtain ⟨ρ, a1, a2, a4⟩ := X10_lateOnes hst hp hN
    refine GIVES.ok K ?_ a2 a4.2.2.2
    unfold f_X10_paperOf
    rw [bind_some' (X0_hasPaper hB _), if1, if_pos h0]
    rw [if_neg (by decide), if_neg (by decide), if_neg (by decide), if_neg (by decide), if_pos rfl, bind_some' a1]
    show _ = some (((lateS B p (B 8 1).toNat : Nat) : Int), ρ)
    rw [eN]
  refine GIVES.ok K ?_ CFr.rfl hW
  by_cases hx3 : x = 3
  · subst hx3
    unfold f_X10_paperOf
    rw [bind_some' (X0_hasPaper hB _), if1, if_pos h0]
    rw [if_neg (by decide), if_neg (by decide), if_neg (by decide), if_pos rfl, bind_some' (X10_takers hB w (by omega) hN)]
    show _ = some (((cnt (fun c => tk B c p) (B 8 1).toNat : Nat) : Int), σ)
    rw [eN]
  unfold f_X10_paperOf paV
  rw [bind_some' (X0_hasPaper hB _), if1, if_pos h0]
  rw [chk_pos (by omega), chk_pos (by omega), chk_pos (by omega), show σ 2 (p : Int) = B 0 p from hB.day h0.1 (by omega), show σ 3 (p : Int) = B 1 p from hB.start h0.1 (by omega), show σ 4 (p : Int) = B 2 p from hB.len h0.1 (by omega)]
  by_cases e0 : x = 0
  · rw [if_pos e0, if_pos e0]
  rw [if_neg e0, if_neg e0]
  by_cases e1 : x = 1
  · rw [if_pos e1, if_pos e1]
  rw [if_neg e1, if_neg e1, if_pos (show x = 2 by omega), if_pos (show x = 2 by omega)]
/-- status -/
def saV (B : Bk) (x : Int) : Int := if x = 5 then ((takS B (B 8 1).toNat : Nat) : Int) else if x = 6 then ((cnt (badF B (B 8 1).toNat) 5 : Nat) : Int) else if x = 7 then 0 else if x = 8 then B 8 5 else B 8 x
theorem a_status (K : KS k σ B J) {x : Int} (hx : 0 ≤ x ∧ x ≤ 8) : GIVES (f_X10_status σ x) (saV B x) k B J := by
  obtain ⟨hB, hR, w, hW⟩ := K.1
  have hn := w.1
  unfold WFn at hn
  obtain ⟨N, hN⟩ := n_of hn.2.1.1
  have eN : (B 8 1).toNat = N := by omega
  have e1 : f_X10_status σ x = f_X10_status_22 σ x := by unfold f_X10_status; rw [if_pos (by omega)]
  by_cases h6 : x = 6
  · subst h6
    obtain ⟨ρ, a1, a2, a4⟩ := X10_days K.1 hN
    refine GIVES.ok K ?_ a2 a4.2.2.2
    rw [e1]
    show (f_X10_daysSomebodyCant σ).bind _ = some (((cnt (badF B (B 8 1).toNat) 5 : Nat) : Int), ρ)
    rw [a1, eN]; rfl
  refine GIVES.ok K ?_ CFr.rfl hW
  rcases (show x = 0 ∨ x = 1 ∨ x = 2 ∨ x = 3 ∨ x = 4 ∨ x = 5 ∨ x = 7 ∨ x = 8 by omega) with e | e | e | e | e | e | e | e <;> subst e
  · show _ = some (B 8 0, σ)
    rw [e1, ← hB.nP]; rfl
  · show _ = some (B 8 1, σ)
    rw [e1, ← hB.nC]; rfl
  · show _ = some (B 8 2, σ)
    rw [e1, ← hB.nR]; rfl
  · show _ = some (B 8 3, σ)
    rw [e1, ← hB.hours]; rfl
  · show _ = some (B 8 4, σ)
    rw [e1, ← hB.turn]; rfl
  · show _ = some (((takS B (B 8 1).toNat : Nat) : Int), σ)
    rw [e1, eN]
    show (f_X0_takenInAll σ 1).bind _ = _
    rw [X0_takenInAll hB w hN]; rfl
  · show _ = some (0, σ)
    rw [e1, ← K.2.2.2.2.2.1]; rfl
  · show _ = some (B 8 5, σ)
    rw [e1, ← hB.seed]; rfl
/-- whatIf -/
def wiV (B : Bk) (c : Int) (p : Nat) : Int := if fifth B c p then -55 else ((cts (flp B c p) c 5 : Nat) : Int)
theorem a_whatIf (K : KS k σ B J) {c : Int} (hc : 0 ≤ c) (hc2 : c < B 8 1) {p : Nat} (hp : (p : Int) < B 8 0) : GIVES (f_X10_whatIf σ c p) (wiV B c p) k B J := by
  have hst := K.1
  obtain ⟨hB, hR, w, hW⟩ := K.1
  have h2 : 0 ≤ (p : Int) ∧ (p : Int) < B 8 0 := ⟨by omega, hp⟩
  unfold wiV
  cases hf : fifth B c p with
  | true =>
    refine GIVES.no K ?_ CFr.rfl hW
    unfold f_X10_whatIf
    rw [bind_some' (X0_hasCand hB _), if0, if_pos ⟨hc, hc2⟩, bind_some' (X0_hasPaper hB _), if1, if_pos h2]
    rw [bind_some' (X0_mayFlip hB w hc hc2 hp), hf, bt, if_neg (by decide)]
    exact c_no (by decide)
  | false =>
    obtain ⟨σ1, b1, b2, b3⟩ := X0_become (σ := σ) (b0 := 10) hB (by decide)
    have hst1 : ST σ1 B := hst.of (fun x x1 x2 => b3 x (by omega)) (b3 182 (by decide)) (fun x x1 x2 => b3 x (by omega))
    obtain ⟨ρ, a1, a2, a3, -⟩ := X10_cantsFlipped hst1 b2 hc hc2 hp hf
    have c1 : CFr σ σ1 := fun x x1 x2 x3 x4 x5 => b3 x (by omega)
    refine GIVES.ok K ?_ (c1.trans a2) a3.2.2.2
    unfold f_X10_whatIf
    rw [bind_some' (X0_hasCand hB _), if0, if_pos ⟨hc, hc2⟩, bind_some' (X0_hasPaper hB _), if1, if_pos h2]
    rw [bind_some' (X0_mayFlip hB w hc hc2 hp), hf, bf, if_pos (by decide), bind_some' b1, bind_some' a1]
    rfl
/-- both, twice the same paper -/
theorem flp_fifth {B : Bk} {c : Int} {p : Nat} (w : WF B) (hc : 0 ≤ c) (hc2 : c < B 8 1) (hp : (p : Int) < B 8 0) (hf : fifth B c p = false) : fifth (flp B c p) c p = false := by
  cases ht : tk B c p with
  | false =>
    have : tk (flp B c p) c p = true := by rw [flp_tk, ht]; simp
    unfold fifth
    rw [this]; rfl
  | true =>
    have w' := WF_flp w hc hc2 hp hf
    have h0 : tk (flp B c p) c p = false := by rw [flp_tk, ht]; simp
    have h4 := (w.2.2.1 c hc hc2).2.2.2.2.2 (B 0 p)
    have hn := w.1
    unfold WFn at hn
    have hodp : (od B c (B 0 p)).testBit p = true := by
      rw [od_tb, ht]
      simp
      omega
    have e0 : flp B c p 0 = B 0 := flp_r (by decide)
    have h8 : flp B c p 8 = B 8 := flp_r (by decide)
    have hp12 : p < 12 := by omega
    have hins := cnt_ins (f := fun i => (od (flp B c p) c (B 0 p)).testBit i) (g := fun i => (od B c (B 0 p)).testBit i) (p := p) (by rw [od_tb, h0]; simp) (fun i => by
      show (od B c (B 0 p)).testBit i = ((od (flp B c p) c (B 0 p)).testBit i || decide (i = p))
      by_cases e : i = p
      · rw [e, hodp]; simp
      · rw [od_tb, od_tb, flp_tk, e0, h8]
        simp [e]) 12
    rw [if_pos hp12] at hins
    unfold fifth
    rw [h0, e0]
    simp
    omega
theorem a_both (K : KS k σ B J) {c : Int} (hc : 0 ≤ c) (hc2 : c < B 8 1) {p : Nat} (hp : (p : Int) < B 8 0) (hf : fifth B c p = false) : GIVES (f_X10_both σ c p p) (kpt B c 5) k B J := by
  have hst := K.1
  obtain ⟨hB, hR, w, hW⟩ := K.1
  have hn := w.1
  unfold WFn at hn
  have h2 : 0 ≤ (p : Int) ∧ (p : Int) < B 8 0 := ⟨by omega, hp⟩
  obtain ⟨σ1, b1, b2, b3⟩ := X0_become (σ := σ) (b0 := 10) hB (by decide)
  have c1 : CFr σ σ1 := fun x x1 x2 x3 x4 x5 => b3 x (by omega)
  have hst1 : ST σ1 B := hst.of (fun x x1 x2 => b3 x (by omega)) (b3 182 (by decide)) (fun x x1 x2 => b3 x (by omega))
  have e8 : flp B c p 8 = B 8 := flp_r (by decide)
  have w1 := WF_flp w hc hc2 hp hf
  have hc1 : c < flp B c p 8 1 := by rw [e8]; exact hc2
  have hq1 : (p : Int) < flp B c p 8 0 := by rw [e8]; exact hp
  have f0 := X0_flip b2 w hc hc2 (p := p) (by omega)
  rw [show (10 : Int) + 7 = 17 from rfl] at f0
  obtain ⟨σ2, hσ2⟩ : ∃ σ2, σ2 = mup σ1 17 c (((B 6 c).toNat ^^^ 2 ^ p : Nat) : Int) := ⟨_, rfl⟩
  rw [← hσ2] at f0
  have f1 : ∀ x, x ≠ 17 → σ2 x = σ1 x := fun x hx => by rw [hσ2]; exact mup_row hx
  have hD2 : isBk σ2 10 (flp B c p) := by rw [hσ2]; exact b2.put (t := 6) (by decide) (by decide)
  have hst2 : ST σ2 B := hst1.of (fun x x1 x2 => f1 x (by omega)) (f1 182 (by decide)) (fun x x1 x2 => f1 x (by omega))
  have c2 : CFr σ σ2 := c1.trans fun x x1 x2 x3 x4 x5 => f1 x (by omega)
  have hg := flp_fifth w hc hc2 hp hf
  have w2 := WF_flp w1 hc hc1 hq1 hg
  have e82 : flp (flp B c p) c p 8 = B 8 := by rw [flp_r (by decide), e8]
  have f2 := X0_flip hD2 w1 hc hc1 (p := p) (by omega)
  rw [show (10 : Int) + 7 = 17 from rfl] at f2
  obtain ⟨σ3, hσ3⟩ : ∃ σ3, σ3 = mup σ2 17 c (((flp B c p 6 c).toNat ^^^ 2 ^ p : Nat) : Int) := ⟨_, rfl⟩
  rw [← hσ3] at f2
  have f3 : ∀ x, x ≠ 17 → σ3 x = σ2 x := fun x hx => by rw [hσ3]; exact mup_row hx
  have hD3 : isBk σ3 10 (flp (flp B c p) c p) := by rw [hσ3]; exact hD2.put (t := 6) (by decide) (by decide)
  have hst3 : ST σ3 B := hst2.of (fun x x1 x2 => f3 x (by omega)) (f3 182 (by decide)) (fun x x1 x2 => f3 x (by omega))
  obtain ⟨σ4, g1, g2, g3⟩ := X4_planWeek (Or.inr (Or.inl rfl)) hD3 w2 hc (by rw [e82]; exact hc2) (k := 154) (by unfold isK; decide)
  have hst4 : ST σ4 B := hst3.of (fun x x1 x2 => g2 x (by omega) (by omega)) (g2 182 (by decide) (by decide)) (fun x x1 x2 => g2 x (by omega) (by omega))
  have c4 : CFr σ σ4 := c2.trans fun x x1 x2 x3 x4 x5 => by rw [g2 x (by omega) (by omega), f3 x (by omega)]
  have eff : flp (flp B c p) c p = B := flp_flp (w.2.2.1 c hc hc2).2.2.2.1.1
  have hv := X8_keptSlots w2 hc (by rw [e82]; exact hc2) g3
  rw [eff] at hv
  refine GIVES.ok K ?_ c4 hst4.2.2.2
  unfold f_X10_both
  rw [bind_some' (X0_hasCand hB _), if0, if_pos ⟨hc, hc2⟩, bind_some' (X0_hasPaper hB _), if0, if_pos h2, bind_some' (X0_hasPaper hB _), if1, if_pos h2]
  rw [bind_some' b1, bind_some' (X0_mayFlip b2 w hc hc2 hp), hf, bf, if_pos (by decide), bind_some' f0, bind_some' (X0_mayFlip hD2 w1 hc hc1 hq1), hg, bf, if_pos (by decide), bind_some' f2, bind_some' g1, bind_some' hv]
/-- relief -/
theorem a_relief (K : KS k σ B J) {c : Int} (hc : 0 ≤ c) (hc2 : c < B 8 1) : GIVES (f_X10_relief σ c) (rl1 (rlf B c (B 8 0).toNat)) k B J := by
  have hst := K.1
  obtain ⟨hB, hR, w, hW⟩ := K.1
  have hn := w.1
  unfold WFn at hn
  have hN : B 8 0 = (((B 8 0).toNat : Nat) : Int) := by omega
  obtain ⟨σ1, b1, b2, b3⟩ := X0_become (σ := σ) (b0 := 10) hB (by decide)
  have hst1 : ST σ1 B := hst.of (fun x x1 x2 => b3 x (by omega)) (b3 182 (by decide)) (fun x x1 x2 => b3 x (by omega))
  have c1 : CFr σ σ1 := fun x x1 x2 x3 x4 x5 => b3 x (by omega)
  obtain ⟨ρ, a1, a2, a3⟩ := X10_relief36 hst1 b2 hc hc2 hN
  refine GIVES.ok K ?_ (c1.trans a2) a3.2.2.2
  unfold f_X10_relief
  rw [bind_some' (X0_hasCand hB _), if1, if_pos ⟨hc, hc2⟩]
  rw [bind_some' b1, a1]
/-- hoursFor -/
theorem a_hoursFor (K : KS k σ B J) {c : Int} (hc : 0 ≤ c) (hc2 : c < B 8 1) : ∃ r, hrQ B c r ∧ GIVES (f_X10_hoursFor σ c) r k B J := by
  have hst := K.1
  obtain ⟨hB, hR, w, hW⟩ := K.1
  obtain ⟨σ1, b1, b2, b3⟩ := X0_become (σ := σ) (b0 := 10) hB (by decide)
  have hst1 : ST σ1 B := hst.of (fun x x1 x2 => b3 x (by omega)) (b3 182 (by decide)) (fun x x1 x2 => b3 x (by omega))
  have c1 : CFr σ σ1 := fun x x1 x2 x3 x4 x5 => b3 x (by omega)
  obtain ⟨r, ρ, a1, aq, a2, a3⟩ := X10_hours32 hst1 b2 hc hc2
  refine ⟨r, aq, GIVES.ok K ?_ (c1.trans a2) a3.2.2.2⟩
  unfold f_X10_hoursFor
  rw [bind_some' (X0_hasCand hB _), if1, if_pos ⟨hc, hc2⟩]
  rw [bind_some' b1, a1]
/-- watch, duty -/
theorem KS.du (K : KS k σ B J) {τ : Mem} (a2 : ∀ x, ¬ (35 ≤ x ∧ x ≤ 42) → ¬ (45 ≤ x ∧ x ≤ 153) → ¬ (164 ≤ x ∧ x ≤ 170) → τ x = σ x) (a3 : ST τ B) (a4 : duD τ (dL B) (B 8 4)) (a5 : τ 164 9 = τ 43 3) : KS k τ B J := by
  obtain ⟨-, h2, h3, h4, h5, h6, h7⟩ := K
  have e43 : τ 43 = σ 43 := a2 43 (by decide) (by decide) (by decide)
  refine ⟨a3, by rw [e43]; exact h2, ⟨by omega, fun _ => a4⟩, h4.keep (fun x i x1 x2 => by rw [a2 x (by omega) (by omega) (by omega)]) (by rw [e43]), fun s s1 s2 => by rw [a2 31 (by decide) (by decide) (by decide)]; exact h5 s s1 s2, by rw [a2 28 (by decide) (by decide) (by decide)]; exact h6, h7.keep (by rw [a2 0 (by decide) (by decide) (by decide)]) fun x i x1 x2 => by rw [a2 x (by omega) (by omega) (by omega)]⟩
theorem a_watch (K : KS k σ B J) {x : Int} (hx : 0 ≤ x ∧ x ≤ 2) : GIVES (f_X10_watch σ x) (if x = 0 then ((dL B).length : Int) else if x = 1 then ((wgv (B 8 4) (dL B)).1 : Int) else (aoN (dL B) (B 8 4) (dL B).length : Int)) k B J := by
  obtain ⟨ρ, a1, a2, a3, a4, a5⟩ := X1_gather K.1 K.2.2.1
  refine ⟨ρ, ?_, K.du a2 a3 a4 a5⟩
  unfold f_X10_watch
  rw [if_neg (by omega), if_pos (by omega), bind_some' a1]
  unfold f_X1_count f_X1_watchers f_X1_atOnce
  simp only [Option.bind_some]
  rw [a4.1.1, a4.2.1, a4.2.2.2]
  by_cases e : x = 0
  · rw [if_pos e, if_pos e]
  · by_cases e2 : x = 1
    · rw [if_neg e, if_neg e, if_pos e2, if_pos e2]
    · rw [if_neg e, if_neg e, if_neg e2, if_neg e2]
def dyV (B : Bk) (I : Nat) (x : Int) : Int := if x = 0 then (((dL B).getD I du0).1 : Int) else if x = 1 then (((dL B).getD I du0).2.1 : Int) else if x = 2 then (((dL B).getD I du0).2.2.1 : Int) else if x = 3 then (((dL B).getD I du0).2.2.2 : Int) else ((wgv (B 8 4) (dL B)).2.2.getD I 0 : Int)
theorem a_duty (K : KS k σ B J) {I : Nat} (hI : I < (dL B).length) {x : Int} (hx : 0 ≤ x ∧ x ≤ 4) : GIVES (f_X10_duty σ I x) (dyV B I x) k B J := by
  have w := K.1.2.2.1
  obtain ⟨hl, h200⟩ := dL_ok w
  obtain ⟨ρ, a1, a2, a3, a4, a5⟩ := X1_gather K.1 K.2.2.1
  obtain ⟨d1, d2, d3, d4⟩ := a4.1.2 I (by omega)
  have d5 := a4.2.2.1 I (by omega)
  refine ⟨ρ, ?_, K.du a2 a3 a4 a5⟩
  unfold f_X10_duty f_X1_count
  rw [bind_some' a1]
  simp only [Option.bind_some]
  rw [a4.1.1, if_neg (by omega), if_neg (by omega), if_neg (by omega), if_pos (by omega)]
  unfold f_X1_tell
  rw [chk_pos (by omega), chk_pos (by omega), chk_pos (by omega), chk_pos (by omega), chk_pos (by omega), d1, d2, d3, d4, d5]
  rcases (show x = 0 ∨ x = 1 ∨ x = 2 ∨ x = 3 ∨ x = 4 by omega) with e | e | e | e | e <;> subst e <;> rfl
/-- pieces, rooms, seats left -/
theorem KS.se (K : KS k σ B J) {τ : Mem} (a2 : ∀ x, ¬ (35 ≤ x ∧ x ≤ 42) → ¬ (45 ≤ x ∧ x ≤ 153) → ¬ (171 ≤ x ∧ x ≤ 178) → τ x = σ x) (a3 : ST τ B) (a5 : SEC τ B) : KS k τ B J := by
  obtain ⟨-, h2, h3, h4, h5, h6, h7⟩ := K
  have e43 : τ 43 = σ 43 := a2 43 (by decide) (by decide) (by decide)
  refine ⟨a3, by rw [e43]; exact h2, h3.keep (fun x i x1 x2 => by rw [a2 x (by omega) (by omega) (by omega)]) (by rw [e43]), a5, fun s s1 s2 => by rw [a2 31 (by decide) (by decide) (by decide)]; exact h5 s s1 s2, by rw [a2 28 (by decide) (by decide) (by decide)]; exact h6, h7.keep (by rw [a2 0 (by decide) (by decide) (by decide)]) fun x i x1 x2 => by rw [a2 x (by omega) (by omega) (by omega)]⟩
theorem a_lay (K : KS k σ B J) {d : Nat} (hd : d < 5) : ∃ ρ, f_X5_lay σ d = some ρ ∧ KS k ρ B J ∧ ∃ N R : Nat, B 8 1 = N ∧ B 8 2 = R ∧ seC ρ B R d N ∧ isUs ρ B (lfC B R d N) R ∧ ∀ c, c < N → (psD B d c).length ≤ 9 := by
  have w := K.1.2.2.1
  have hn := w.1
  unfold WFn at hn
  obtain ⟨N, hN⟩ := n_of hn.2.1.1
  obtain ⟨R, hR⟩ := n_of hn.2.2.1.1
  obtain ⟨ρ, a1, a2, a3, a4, a5⟩ := X5_lay K.1 K.2.2.2.1 hd
  unfold seD at a4
  rw [hN, hR, Int.toNat_natCast, Int.toNat_natCast] at a4
  exact ⟨ρ, a1, K.se a2 a3 a5, N, R, hN, hR, a4.1, a4.2.1, a4.2.2⟩
theorem a_pieces (K : KS k σ B J) {C : Nat} (hC : (C : Int) < B 8 1) {D : Nat} (hD : D < 5) {x : Int} (hx : 0 ≤ x ∧ x ≤ 1) : GIVES (f_X10_pieces σ C D x) (if x = 0 then ((psD B D C).length : Int) else mvF (lfC B (B 8 2).toNat D C) (B 8 2).toNat (psD B D C)) k B J := by
  have hn := K.1.2.2.1.1
  unfold WFn at hn
  obtain ⟨ρ, a1, a2, N, R, hN, hRR, s1, s2, s3⟩ := a_lay K hD
  obtain ⟨u1, u2, -⟩ := s1 C (by omega)
  have eR : (B 8 2).toNat = R := by omega
  refine ⟨ρ, ?_, a2⟩
  rw [eR]
  unfold f_X10_pieces f_X5_movesOf f_X5_piecesOf
  rw [bind_some' (X0_hasCand K.1.1 _), if_pos (show 0 ≤ (C : Int) ∧ (C : Int) < B 8 1 from ⟨by omega, hC⟩), if_neg (by decide), bind_some' (X10_isDay _), if_pos (show 0 ≤ (D : Int) ∧ (D : Int) < 5 by omega), if_neg (by decide), if_neg (by omega), if_pos (by omega), bind_some' a1, chk_pos (by omega), chk_pos (by omega), u1, u2]
  by_cases e : x = 0
  · rw [if_neg (by omega), if_pos e]
    rfl
  · rw [if_pos e, if_neg e]
    rfl
theorem a_roomOf (K : KS k σ B J) {C : Nat} (hC : (C : Int) < B 8 1) {D : Nat} (hD : D < 5) {I : Nat} (hI : I < (psD B D C).length) : GIVES (f_X10_roomOf σ C D I) (oI (rmF (lfC B (B 8 2).toNat D C) (B 8 2).toNat (psD B D C) I)) k B J := by
  have hn := K.1.2.2.1.1
  unfold WFn at hn
  obtain ⟨ρ, a1, a2, N, R, hN, hRR, s1, s2, s3⟩ := a_lay K hD
  obtain ⟨u1, -, u3⟩ := s1 C (by omega)
  have h9 := s3 C (by omega)
  have u4 := u3 I (by omega)
  have eR : (B 8 2).toNat = R := by omega
  have hv2 : jadd (jmul (C : Int) 9) (I : Int) = 9 * (C : Int) + I := by rw [jmul_ok (by omega) (by omega), jadd_ok (by omega) (by omega)]; omega
  refine ⟨ρ, ?_, a2⟩
  rw [eR]
  unfold f_X10_roomOf f_X5_piecesOf f_X5_roomAt
  rw [bind_some' (X0_hasCand K.1.1 _), if_pos (show 0 ≤ (C : Int) ∧ (C : Int) < B 8 1 from ⟨by omega, hC⟩), if_neg (by decide), bind_some' (X10_isDay _), if1, if_pos (show 0 ≤ (D : Int) ∧ (D : Int) < 5 by omega), bind_some' a1, if_neg (by omega), chk_pos (by omega), bsm, u1, if_pos (by omega), if_neg (by omega), if_neg (by omega), hv2, chk_pos (by omega), bsm, u4]
theorem a_left (K : KS k σ B J) {Q : Nat} (hQ : (Q : Int) < B 8 2) {D : Nat} (hD : D < 5) {T : Nat} (hT : T < 48) : ∃ v, 0 ≤ v ∧ GIVES (f_X10_left σ Q D T) v k B J := by
  have hn := K.1.2.2.1.1
  unfold WFn at hn
  have w := K.1.2.2.1
  obtain ⟨ρ, a1, a2, N, R, hN, hRR, s1, s2, s3⟩ := a_lay K hD
  have u1 := s2 Q T (by omega) (by omega)
  have hb := lfC_b B R D N (fun c' hc' => s3 c' hc') Q T (by omega) (by omega)
  have h7 := w.2.2.2 Q (by omega) (by omega)
  have hv2 : jadd (jmul (Q : Int) 48) (T : Int) = 48 * (Q : Int) + T := by rw [jmul_ok (by omega) (by omega), jadd_ok (by omega) (by omega)]; omega
  refine ⟨lfC B R D N Q T, lfC_0 B R D (fun r hr => (w.2.2.2 r (by omega) (by omega)).1) N Q T (by omega), ρ, ?_, a2⟩
  have h9 : ρ 9 Q = B 7 Q := a2.1.1.seats (by omega) (by omega)
  unfold f_X10_left f_X5_usedAt
  rw [bind_some' (X0_hasRoom K.1.1 _), if_pos (show 0 ≤ (Q : Int) ∧ (Q : Int) < B 8 2 from ⟨by omega, hQ⟩), if_neg (by decide), bind_some' (X10_isDay _), if_pos (show 0 ≤ (D : Int) ∧ (D : Int) < 5 by omega), if_neg (by decide), bind_some' (X10_isSlot _), if1, if_pos (by omega), bind_some' a1, chk_pos (by omega), hv2, chk_pos (by omega), u1, h9, bsm, jsub_ok (by omega) (by omega)]
  congr 2
  omega
end
