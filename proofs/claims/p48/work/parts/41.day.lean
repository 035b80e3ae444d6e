/-! A DAY'S PLAN: the spec, and the class' planDay -/
def fre (B : Bk) (c o : Int) : Int := if o < 0 then 0 else tm B c o + rs B c
def ahd (B : Bk) (c o : Int) : Nat := if o < 0 then 0 else (tm B c o).toNat
def ov (x : Option (Int × Tr)) : Int := match x with
  | none => -1
  | some y => y.2.1
/-- with one that goes over: the best of the first p papers -/
def ovf (B : Bk) (c f : Int) (a m : Nat) (x : Option (Int × Tr)) : Nat → Option (Int × Tr)
  | 0 => x
  | p + 1 => if m.testBit p && decide (tm B c p ≤ B 8 3) then bst (lwD B c f a) (msD B c f a) (its p (clr m p)) (ovf B c f a m x p) else ovf B c f a m x p
def dpl (B : Bk) (c d o : Int) : Option (Int × Tr) := match bst (lwD B c (fre B c o) (ahd B c o)) (msD B c (fre B c o) (ahd B c o)) (its (-1) (od B c d)) none with
  | some x => some x
  | none => if B 5 c = 1 ∧ d < 4 then ovf B c (fre B c o) (ahd B c o) (od B c d) none 12 else none
/-- a week's rows of a day hold a plan -/
def isWd (σ : Mem) (k : Int) (B : Bk) (c d f : Int) (a : Nat) (x : Option (Int × Tr)) : Prop := σ (k + 3) d = f ∧ σ (k + 4) d = (a : Int) ∧ (x = none → σ (k + 1) d = 0 ∧ σ (k + 2) d = -1 ∧ σ (k + 5) d = 0 ∧ σ (k + 6) d = 0) ∧ ∀ v o m l, x = some (v, (o, m, l)) → σ (k + 1) d = 1 ∧ σ (k + 2) d = o ∧ σ (k + 5) d = (nof m : Int) ∧ σ (k + 6) d = ((mset (kpB (woB B o) a B c f (lq m l) (nof m)) 48 : Nat) : Int) ∧ ∀ j : Nat, j < nof m → σ (k + 7) (4 * d + j) = (lq m l j : Int) ∧ σ (k + 8) (4 * d + j) = bg B c f (lq m l) j ∧ σ (k + 9) (4 * d + j) = en B c f (lq m l) j
theorem isWd.keep {σ τ : Mem} {k : Int} {B : Bk} {c d f : Int} {a : Nat} {x : Option (Int × Tr)} (h : isWd σ k B c d f a x) (e : ∀ x, k + 1 ≤ x → x ≤ k + 9 → τ x = σ x) : isWd τ k B c d f a x := by
  unfold isWd
  rw [e (k + 1) (by omega) (by omega), e (k + 2) (by omega) (by omega), e (k + 3) (by omega) (by omega), e (k + 4) (by omega) (by omega), e (k + 5) (by omega) (by omega), e (k + 6) (by omega) (by omega), e (k + 7) (by omega) (by omega), e (k + 8) (by omega) (by omega), e (k + 9) (by omega) (by omega)]
  exact h
theorem fre_b {B : Bk} (w : WF B) {c : Int} (hc : 0 ≤ c) (hc2 : c < B 8 1) {o : Int} (ho : o < B 8 0) : 0 ≤ fre B c o ∧ fre B c o ≤ 60 := by
  unfold fre
  split
  · omega
  · have h1 := tm_b w hc hc2 (p := o) (by omega) ho
    have h2 := rs_b w hc hc2
    omega
theorem ahd_b {B : Bk} (w : WF B) {c : Int} (hc : 0 ≤ c) (hc2 : c < B 8 1) {o : Int} (ho : o < B 8 0) : ahd B c o ≤ 48 := by
  unfold ahd
  split
  · omega
  · have h1 := tm_b w hc hc2 (p := o) (by omega) ho
    omega
theorem cnt_sub {f g : Nat → Bool} (h : ∀ i, f i = true → g i = true) : ∀ n, cnt f n ≤ cnt g n
  | 0 => Nat.le_refl _
  | n + 1 => by
    have ih := cnt_sub h n
    rw [cnt_s, cnt_s]
    cases hf : f n with
    | false => rw [if_neg (by decide)]; split <;> omega
    | true => rw [if_pos rfl, if_pos (h n hf)]; omega
theorem okm.sub {B : Bk} {m m' : Nat} (h : okm B m) (hs : ∀ i, m'.testBit i = true → m.testBit i = true) (hl : m' < 4096) : okm B m' :=
  ⟨hl, Nat.le_trans (cnt_sub hs 12) h.2.1, fun p hp => h.2.2 p (hs p hp)⟩
theorem okm.clr {B : Bk} {m : Nat} (h : okm B m) (p : Nat) : okm B (clr m p) := h.sub (fun i hi => by
  rw [clr_tb] at hi
  cases hb : m.testBit i with
  | true => rfl
  | false => rw [hb] at hi; cases hi) (Nat.lt_of_le_of_lt (clr_le m p) h.1)
theorem okm_od {B : Bk} (w : WF B) {c : Int} (hc : 0 ≤ c) (hc2 : c < B 8 1) (d : Int) : okm B (od B c d) := ⟨od_lt B c d, (w.2.2.1 c hc hc2).2.2.2.2.2 d, fun p hp => by
  rw [od_tb] at hp
  simp only [Bool.and_eq_true, decide_eq_true_eq] at hp
  exact hp.2.1.1⟩
section
variable {α : Type}
def comb (x y : Option (Int × α)) : Option (Int × α) := match y with
  | none => x
  | some b => match x with
    | none => some b
    | some a => if b.1 < a.1 then some b else some a
theorem comb_stp (lw : α → Bool) (ms : α → Int) (l : α) (x : Option (Int × α)) : stp lw ms l x = comb x (stp lw ms l none) := by
  unfold stp
  cases lw l with
  | false => rfl
  | true => cases x <;> rfl
theorem comb_as (x y z : Option (Int × α)) : comb (comb x y) z = comb x (comb y z) := by
  cases z with
  | none => rfl
  | some c =>
    cases y with
    | none => rfl
    | some b =>
      cases x with
      | none => show (if c.1 < b.1 then some c else some b) = comb none (if c.1 < b.1 then some c else some b); split <;> rfl
      | some a =>
        show comb (if b.1 < a.1 then some b else some a) (some c) = comb (some a) (if c.1 < b.1 then some c else some b)
        by_cases h1 : b.1 < a.1
        · rw [if_pos h1]
          show (if c.1 < b.1 then some c else some b) = _
          by_cases h2 : c.1 < b.1
          · rw [if_pos h2]
            show _ = (if c.1 < a.1 then some c else some a)
            rw [if_pos (by omega)]
          · rw [if_neg h2]
            show _ = (if b.1 < a.1 then some b else some a)
            rw [if_pos h1]
        · rw [if_neg h1]
          show (if c.1 < a.1 then some c else some a) = _
          by_cases h2 : c.1 < b.1
          · rw [if_pos h2]; rfl
          · rw [if_neg h2]
            show _ = (if b.1 < a.1 then some b else some a)
            rw [if_neg h1, if_neg (by omega)]
theorem bst_comb (lw : α → Bool) (ms : α → Int) : ∀ (l : List α) (x : Option (Int × α)), bst lw ms l x = comb x (bst lw ms l none)
  | [], x => rfl
  | y :: l, x => by
    show bst lw ms l (stp lw ms y x) = comb x (bst lw ms l (stp lw ms y none))
    rw [bst_comb lw ms l (stp lw ms y x), bst_comb lw ms l (stp lw ms y none), comb_stp lw ms y x, comb_as]
end
/-- the orders of a mask, with what goes over, and without -/
theorem bst_its (B : Bk) (c f : Int) (a : Nat) (o : Int) (m : Nat) : bst (lwD B c f a) (msD B c f a) (its o m) none = (bst (lwS B c m f a) (msS B c m f a 0 (woB B o)) (PT (nof m)) none).map fun x => (x.1, (o, m, x.2)) := bst_map (lw := lwD B c f a) (ms := msD B c f a) (g := fun l => (o, m, l)) (PT (nof m)) none
theorem woB_no (B : Bk) : ((mset (woB B (-1)) 48 : Nat) : Int) = 0 := by
  have : mset (woB B (-1)) 48 = mset (fun _ => false) 48 := mset_congr fun i _ => rfl
  rw [this]; decide +kernel
theorem woB_p (B : Bk) {p s : Nat} (h : B 1 p = s) : spn s 48 = mset (woB B p) 48 := by
  unfold spn
  refine mset_congr fun i _ => ?_
  unfold woB
  rw [h, decide_eq_true (show (0 : Int) ≤ p by omega), Bool.true_and]
  exact decide_eq_decide.mpr (by omega)
theorem ovf_end {B : Bk} {c f : Int} {a m n : Nat} {x : Option (Int × Tr)} (h : ∀ p, n ≤ p → m.testBit p = false) : ∀ q, n ≤ q → ovf B c f a m x q = ovf B c f a m x n
  | 0, hq => by have : n = 0 := by omega
                subst this; rfl
  | q + 1, hq => by
    by_cases e : n = q + 1
    · subst e; rfl
    · have ih := ovf_end (B := B) (c := c) (f := f) (a := a) (x := x) h q (by omega)
      show (if m.testBit q && _ then _ else ovf B c f a m x q) = _
      rw [h q (by omega), ih]; rfl
theorem X4_planDay {σ : Mem} {B : Bk} {b : Int} (hb : isB b) (hB : isBk σ b B) (w : WF B) {c : Int} (hc : 0 ≤ c) (hc2 : c < B 8 1) {k d o : Int} (hk : isK k) (hd : 0 ≤ d ∧ d < 5) (ho : -1 ≤ o ∧ o < B 8 0) (hcame : f_X8_cameTo σ k d = some o) : ∃ τ, f_X4_planDay σ b c d k = some τ ∧ wfr σ τ k d ∧ isWd τ k B c d (fre B c o) (ahd B c o) (dpl B c d o) := by
  have hn := w.1
  unfold WFn at hn
  have hkk := hk
  unfold isK at hkk
  have hbb := hb
  unfold isB at hbb
  have hf := fre_b w hc hc2 ho.2
  have ha := ahd_b w hc hc2 ho.2
  have efo : fre B c o = if o < 0 then 0 else tm B c o + rs B c := rfl
  have eao : ahd B c o = if o < 0 then 0 else (tm B c o).toNat := rfl
  have hm := okm_od w hc hc2 d
  have ed : dpl B c d o = match bst (lwD B c (fre B c o) (ahd B c o)) (msD B c (fre B c o) (ahd B c o)) (its (-1) (od B c d)) none with
    | some x => some x
    | none => if B 5 c = 1 ∧ d < 4 then ovf B c (fre B c o) (ahd B c o) (od B c d) none 12 else none := rfl
  obtain ⟨f, ef⟩ : ∃ f, f = fre B c o := ⟨_, rfl⟩
  obtain ⟨a, ea⟩ : ∃ a, a = ahd B c o := ⟨_, rfl⟩
  obtain ⟨m, em⟩ : ∃ m, m = od B c d := ⟨_, rfl⟩
  rw [← ef] at hf efo ed ⊢
  rw [← ea] at ha eao ed ⊢
  rw [← em] at hm ed
  have main : ∃ τ, f_X4_planDay_45 σ b c d k a f = some τ ∧ wfr σ τ k d ∧ isWd τ k B c d f a (dpl B c d o) := by
    unfold f_X4_planDay_45
    obtain ⟨σ1, o1, o2, o3, o4, o5, o6, o7, o8, o9⟩ := X8_open (σ := σ) hk hd (f := f) (a := (a : Int))
    rw [bind_some' o1, chk_pos (by omega)]
    have hB1 : isBk σ1 b B := hB.rows fun x h1 h2 => o3 x (by omega)
    rw [bind_some' (X0_papersOf hB1 w d)]
    simp only [Option.bind_some]
    rw [takes_od hB1 w hc hc2, ← em]
    obtain ⟨σ2, p1, p2, p3⟩ := X3_gather hb hB1 w hc hc2 hm f ha
    rw [bind_some' p1]
    obtain ⟨r, σ3, q1, q2, q3, q4, q5, q6⟩ := X3_search p2 hm w hc hc2 hf ha (by_ := 0) (by omega) (woB B (-1))
    rw [woB_no] at q1
    rw [bind_some' q1]
    have k3 : ∀ x, ¬ (36 ≤ x ∧ x ≤ 42) → σ3 x = σ1 x := fun x hx => by rw [q2 x (by omega) (by omega) (by omega) (by omega), p3 x (by omega)]
    have w3 : wfr σ σ3 k d := o2.trans (wfr.of hk k3)
    rw [bst_its] at ed
    cases hbst : bst (lwS B c m f a) (msS B c m f a 0 (woB B (-1))) (PT (nof m)) none with
    | some x =>
      obtain ⟨v, l⟩ := x
      obtain ⟨z1, z2, z3, z4⟩ := q6 v l hbst
      rcases bst_in hbst with hh | ⟨hin, -, -⟩
      · cases hh
      obtain ⟨-, -, pin⟩ := PT_ok (nof m) hm.2.1
      have ed2 : dpl B c d o = some (v, (-1, m, l)) := by rw [ed, hbst]; rfl
      rw [z1, ed2]
      show ∃ τ, (if (1 : Int) = 0 then _ else (f_X8_put σ3 k d (-1)).bind _) = some τ ∧ _
      rw [if_neg (by decide)]
      have hO3 : isOr σ3 B c m f a := p2.keep q3 (q2 37 (by decide) (by decide) (by decide) (by decide)) (q2 38 (by decide) (by decide) (by decide) (by decide)) (q2 39 (by decide) (by decide) (by decide) (by decide))
      obtain ⟨τ, y1, y2, y3, y4, y5, y6, y7, y8, y9, y10⟩ := X8_put hO3 hm w hc hc2 hf hk hd (o := -1) (l := l) (fun j hj => (pin l hin).2 j hj) z4
      rw [bind_some' y1]
      refine ⟨τ, rfl, w3.trans y2, by rw [y6, k3 _ (by omega)]; exact o6, by rw [y7, k3 _ (by omega)]; exact o7, fun h => (by cases h), fun v' o' m' l' h => ?_⟩
      cases h
      exact ⟨y4, y5, y8, by rw [y9, z3], y10⟩
    | none =>
      have hr := q5 hbst
      have ed2 : dpl B c d o = if B 5 c = 1 ∧ d < 4 then ovf B c f a m none 12 else none := by rw [ed, hbst]; rfl
      have hw3 : isWd σ3 k B c d f a none := ⟨by rw [k3 _ (by omega)]; exact o6, by rw [k3 _ (by omega)]; exact o7, fun _ => ⟨by rw [k3 _ (by omega)]; exact o4, by rw [k3 _ (by omega)]; exact o5, by rw [k3 _ (by omega)]; exact o8, by rw [k3 _ (by omega)]; exact o9⟩, fun v o' m' l' h => (by cases h)⟩
      have hB3 : isBk σ3 b B := hB1.rows fun x h1 h2 => k3 x (by omega)
      have hnight := (w.2.2.1 c hc hc2).2.2.1
      rw [hr]
      show ∃ τ, (if (0 : Int) = 0 then chk _ (if σ3 (b + 6) c = 0 then some σ3 else if d ≠ 4 then f_X4_planDay_131 σ3 b c d k a f m 0 0 else some σ3) else _) = some τ ∧ _
      rw [if_pos rfl, chk_pos (by omega), hB3.night (by omega) (by omega)]
      by_cases n0 : B 5 c = 0
      · rw [if_pos n0]
        exact ⟨σ3, rfl, w3, by rw [ed2, if_neg (by omega)]; exact hw3⟩
      rw [if_neg n0]
      by_cases d4 : d = 4
      · rw [if_neg (by omega)]
        exact ⟨σ3, rfl, w3, by rw [ed2, if_neg (by omega)]; exact hw3⟩
      rw [if_pos d4, ed2, if_pos (by omega)]
      unfold f_X4_planDay_131
      have hm1 := hm.1
      obtain ⟨τ, g1, g2, g3⟩ := loop_ex (f := f_X4_planDay_131B b c d k a f m) (fun s => ∃ p : Nat, s.2.1 = (p : Int) ∧ (p : Int) ≤ B 8 0 ∧ wfr σ s.2.2 k d ∧ isWd s.2.2 k B c d f a (ovf B c f a m none p) ∧ ∀ v t, ovf B c f a m none p = some (v, t) → s.1 = v) (fun s => (12 - s.2.1).toNat) (fun τ => wfr σ τ k d ∧ isWd τ k B c d f a (ovf B c f a m none 12)) (a := (0, 0, σ3)) ⟨0, rfl, by omega, w3, hw3, fun v t h => (by cases h)⟩ (Nat.le_of_ble_eq_true rfl) (by
        rintro ⟨x9, _, τ⟩ ⟨p, rfl, hp, k1, k2, k4⟩
        have k1 : wfr σ τ k d := k1
        have k2 : isWd τ k B c d f a (ovf B c f a m none p) := k2
        have k4 : ∀ v t, ovf B c f a m none p = some (v, t) → x9 = v := k4
        show (∃ a', f_X4_planDay_131C b c d k a f m x9 (p : Int) τ = _ ∧ _) ∨ ∃ a', f_X4_planDay_131C b c d k a f m x9 (p : Int) τ = _ ∧ _
        have hBt : isBk τ b B := hB.rows fun x h1 h2 => k1.1 x (by omega) (by omega)
        unfold f_X4_planDay_131C
        rw [hBt.nP]
        by_cases hpn : B 8 0 ≤ p
        · right
          rw [if_pos hpn]
          refine ⟨_, rfl, k1, ?_⟩
          rw [ovf_end (n := p) (fun q hq => ?_) 12 (by omega)]
          · exact k2
          · cases hh : m.testBit q with
            | false => rfl
            | true =>
              have := hm.2.2 q hh
              omega
        · left
          have e1 : jadd (p : Int) 1 = ((p + 1 : Nat) : Int) := by rw [jadd_ok (by omega) (by omega)]; omega
          have skip : ∀ (x9 : Int) (ρ : Mem), wfr σ ρ k d → isWd ρ k B c d f a (ovf B c f a m none (p + 1)) → (∀ v t, ovf B c f a m none (p + 1) = some (v, t) → x9 = v) → ∃ a', f_X4_planDay_261 ρ b c d k a f m x9 (p : Int) = some (.inl a') ∧ (∃ p : Nat, a'.2.1 = (p : Int) ∧ (p : Int) ≤ B 8 0 ∧ wfr σ a'.2.2 k d ∧ isWd a'.2.2 k B c d f a (ovf B c f a m none p) ∧ ∀ v t, ovf B c f a m none p = some (v, t) → a'.1 = v) ∧ (12 - a'.2.1).toNat < (12 - (p : Int)).toNat := fun x9 ρ h1 h2 h3 => by
            unfold f_X4_planDay_261
            rw [e1]
            exact ⟨_, rfl, ⟨p + 1, rfl, by omega, h1, h2, h3⟩, by show (12 - ((p + 1 : Nat) : Int)).toNat < (12 - (p : Int)).toNat; omega⟩
          have eov : ovf B c f a m none (p + 1) = if m.testBit p && decide (tm B c p ≤ B 8 3) then bst (lwD B c f a) (msD B c f a) (its p (clr m p)) (ovf B c f a m none p) else ovf B c f a m none p := rfl
          rw [if_neg hpn, bind_some' (hasBit_n (by omega) (by omega))]
          cases hbit : m.testBit p with
          | false =>
            rw [hbit, Bool.false_and, if_neg (by decide)] at eov
            show ∃ a', (if (0 : Int) = 0 then _ else _) = _ ∧ _
            rw [if_pos rfl]
            exact skip x9 τ k1 (by rw [eov]; exact k2) (by rw [eov]; exact k4)
          | true =>
            show ∃ a', (if (1 : Int) = 0 then _ else _) = _ ∧ _
            have htm := tm_b w hc hc2 (p := (p : Int)) (by omega) (by omega)
            rw [if_neg (by decide), bind_some' (X0_timeFor hBt w hc hc2 (by omega) (by omega)), hBt.hours, mn_eq]
            by_cases hh : tm B c p ≤ B 8 3
            rotate_left
            · rw [hbit, decide_eq_false hh, Bool.and_false, if_neg (by decide)] at eov
              rw [if_pos (by omega)]
              exact skip x9 τ k1 (by rw [eov]; exact k2) (by rw [eov]; exact k4)
            · rw [hbit, decide_eq_true hh, Bool.and_true, if_pos rfl, bst_comb, bst_its] at eov
              rw [if_neg (by omega), jclr_n hm1 (by omega)]
              have hmc := hm.clr p
              obtain ⟨ρ2, s1, s2, s3⟩ := X3_gather hb hBt w hc hc2 hmc f ha
              obtain ⟨st, est⟩ := n_of (w.2.1 p (by omega) (by omega)).2.1.1
              have hst := (w.2.1 p (by omega) (by omega)).2.1
              have hB2 : isBk ρ2 b B := hBt.rows fun x h1 h2 => s3 x (by omega)
              rw [bind_some' s1, chk_pos (by omega), hB2.start (by omega) (by omega), est, bind_some' (show f_X10_span ρ2 (st : Int) 48 = some ((spn st 48 : Nat) : Int) from span_n (b := 48) (by omega) (by omega)), woB_p B est]
              obtain ⟨r, ρ3, t1, t2, t3, t4, t5, t6⟩ := X3_search s2 hmc w hc hc2 hf ha (by_ := 0) (by omega) (woB B p)
              rw [bind_some' t1]
              simp only [Option.bind_some]
              have kk3 : ∀ x, ¬ (36 ≤ x ∧ x ≤ 42) → ρ3 x = τ x := fun x hx => by rw [t2 x (by omega) (by omega) (by omega) (by omega), s3 x (by omega)]
              have ww3 : wfr σ ρ3 k d := k1.trans (wfr.of hk kk3)
              have hw : isWd ρ3 k B c d f a (ovf B c f a m none p) := k2.keep fun x h1 h2 => kk3 x (by omega)
              cases hbb2 : bst (lwS B c (clr m p) f a) (msS B c (clr m p) f a 0 (woB B p)) (PT (nof (clr m p))) none with
              | none =>
                rw [hbb2] at eov
                have eov : ovf B c f a m none (p + 1) = ovf B c f a m none p := eov
                rw [t5 hbb2, if_pos rfl]
                exact skip x9 ρ3 ww3 (by rw [eov]; exact hw) (by rw [eov]; exact k4)
              | some y =>
                obtain ⟨v, l⟩ := y
                obtain ⟨z1, z2, z3, z4⟩ := t6 v l hbb2
                rcases bst_in hbb2 with hh2 | ⟨hin, -, -⟩
                · cases hh2
                obtain ⟨-, -, pin⟩ := PT_ok (nof (clr m p)) hmc.2.1
                rw [hbb2] at eov
                have better : ovf B c f a m none (p + 1) = some (v, ((p : Int), clr m p, l)) → ∃ a', f_X4_planDay_240 ρ3 b c d k a f m (p : Int) = some (.inl a') ∧ (∃ p : Nat, a'.2.1 = (p : Int) ∧ (p : Int) ≤ B 8 0 ∧ wfr σ a'.2.2 k d ∧ isWd a'.2.2 k B c d f a (ovf B c f a m none p) ∧ ∀ v t, ovf B c f a m none p = some (v, t) → a'.1 = v) ∧ (12 - a'.2.1).toNat < (12 - (p : Int)).toNat := fun hov => by
                  unfold f_X4_planDay_240 f_X3_least
                  have hO3 : isOr ρ3 B c (clr m p) f a := s2.keep t3 (t2 37 (by decide) (by decide) (by decide) (by decide)) (t2 38 (by decide) (by decide) (by decide) (by decide)) (t2 39 (by decide) (by decide) (by decide) (by decide))
                  obtain ⟨ρ4, y1, y2, y3, y4, y5, y6, y7, y8, y9, y10⟩ := X8_put hO3 hmc w hc hc2 hf hk hd (o := (p : Int)) (l := l) (fun j hj => (pin l hin).2 j hj) z4
                  simp only [Option.bind_some]
                  rw [bind_some' y1]
                  refine skip _ ρ4 (ww3.trans y2) ?_ (fun v' t' h => by rw [hov] at h; cases h; exact z2)
                  rw [hov]
                  refine ⟨by rw [y6]; exact hw.1, by rw [y7]; exact hw.2.1, fun h => (by cases h), fun v' o' m' l' h => ?_⟩
                  cases h
                  exact ⟨y4, y5, y8, by rw [y9, z3], y10⟩
                rw [z1, if_neg (by decide), chk_pos (by omega)]
                cases hov : ovf B c f a m none p with
                | none =>
                  rw [hov] at hw eov
                  rw [(hw.2.2.1 rfl).1, if_pos rfl]
                  exact better eov
                | some y =>
                  obtain ⟨v0, o0, m0, l0⟩ := y
                  have ex9 := k4 v0 _ hov
                  rw [hov] at hw eov
                  have eov : ovf B c f a m none (p + 1) = if v < v0 then some (v, ((p : Int), clr m p, l)) else some (v0, o0, m0, l0) := eov
                  rw [(hw.2.2.2 v0 o0 m0 l0 rfl).1, if_neg (by decide)]
                  unfold f_X3_least
                  simp only [Option.bind_some]
                  rw [z2]
                  by_cases hlt : v < v0
                  · rw [if_neg (by omega)]
                    exact better (by rw [eov, if_pos hlt])
                  · rw [if_pos (by omega)]
                    rw [if_neg hlt] at eov
                    exact skip x9 ρ3 ww3 (by rw [eov]; exact hw) (by rw [eov]; intro v' t' h; cases h; exact ex9))
      exact ⟨τ, by rw [g1]; rfl, g2, g3⟩
  unfold f_X4_planDay
  rw [bind_some' hcame]
  by_cases h0 : o < 0
  · rw [if_neg (by omega)]
    unfold f_X4_planDay_25
    rw [if_neg (by omega)]
    rw [if_pos h0] at efo eao
    subst efo eao
    exact main
  · have htm := tm_b w hc hc2 (p := o) (by omega) ho.2
    have hrs := rs_b w hc hc2
    rw [if_neg h0] at efo eao
    rw [if_pos (by omega), bind_some' (X0_timeFor hB w hc hc2 (by omega) ho.2)]
    unfold f_X4_planDay_25
    rw [if_pos (by omega), bind_some' (X0_restFor hB w hc hc2), jadd_ok (by omega) (by omega), ← efo, show tm B c o = (a : Int) by omega]
    exact main
