/-! WHAT HOLDS BETWEEN TWO CALLS, all of it -/
theorem fstN_congr {p q : Nat → Bool} : ∀ {n : Nat}, (∀ k, k < n → p k = q k) → fstN p n = fstN q n
  | 0, _ => rfl
  | n + 1, h => by rw [fstN_s, fstN_s, fstN_congr fun k hk => h k (by omega), h n (by omega)]
theorem wtB_congr {B B' : Bk} {c f : Int} {q : Nat → Nat} {n t : Nat} {wo wo' : Nat → Bool} (hw : wo' t = wo t) (hb : ∀ k, k < n → bg B' c f q k = bg B c f q k ∧ en B' c f q k = en B c f q k) (h1 : ∀ k, k < n → B' 1 (q k) = B 1 (q k)) : wtB wo' B' c f q n t = wtB wo B c f q n t := by
  have e1 : anyN (fun j => decide (B' 1 (q j) ≤ t) && decide ((t : Int) < bg B' c f q j)) n = anyN (fun j => decide (B 1 (q j) ≤ t) && decide ((t : Int) < bg B c f q j)) n := anyN_congr fun k hk => by rw [h1 k hk, (hb k hk).1]
  unfold wtB
  rw [hw, e1]
theorem DD_agr {B B' : Bk} (w : WF B) {c : Int} (hc : 0 ≤ c) (hc2 : c < B 8 1) (h : ∀ d : Nat, agr B B' c d) (d t : Nat) : DD B' c d t = DD B c d t := by
  have ho := (ovr_b w hc hc2 d).2
  obtain ⟨e1, e2⟩ := agr_fre (h d) ho
  unfold DD
  rw [ovr_agr w hc hc2 h d, e1, e2, dpl_agr w hc hc2 (h d) ho]
  cases hx : dpl B c d (ovr B c d) with
  | none => rfl
  | some x =>
    obtain ⟨v, o', m, l⟩ := x
    obtain ⟨d1, d2, d3, d4, d5, d6, d7⟩ := dpl_some w hc hc2 hx
    have hsub : ∀ i, m.testBit i = true → (od B c d).testBit i = true := by
      rcases d7 with ⟨-, e⟩ | ⟨p, -, -, e⟩
      · rw [e]; exact fun i hi => hi
      · intro i hi
        rw [e, clr_tb] at hi
        cases hb2 : (od B c d).testBit i with
        | true => rfl
        | false => rw [hb2] at hi; cases hi
    have ho' : 0 ≤ o' → B' 1 o' = B 1 o' := by
      rcases d7 with ⟨e, -⟩ | ⟨p, e, hp, -⟩
      · omega
      · intro _; rw [e]; exact (h d).2.2.2.2.2.2 p hp
    have hq := agr_q w hc hc2 (h d) hsub d4 d1.2.1
    have hb : ∀ k, k < nof m → bg B' c (fre B c (ovr B c d)) (lq m l) k = bg B c (fre B c (ovr B c d)) (lq m l) k ∧ en B' c (fre B c (ovr B c d)) (lq m l) k = en B c (fre B c (ovr B c d)) (lq m l) k := fun k hk => bg_congr (agr_rs (h d)) hq hk
    have e3 : fstN (sitN B' c (fre B c (ovr B c d)) (lq m l) t) (nof m) = fstN (sitN B c (fre B c (ovr B c d)) (lq m l) t) (nof m) := fstN_congr fun k hk => by
      unfold sitN
      rw [(hb k hk).1, (hb k hk).2]
    have e4 : wtB (woB B' o') B' c (fre B c (ovr B c d)) (lq m l) (nof m) t = wtB (woB B o') B c (fre B c (ovr B c d)) (lq m l) (nof m) t := wtB_congr (woB_agr ho' t) hb fun k hk => (hq k hk).1
    show (if t < ahd B c (ovr B c d) then ovr B c d else match fstN (sitN B' c (fre B c (ovr B c d)) (lq m l) t) (nof m) with | some k => (lq m l k : Int) | none => if wtB (woB B' o') B' c (fre B c (ovr B c d)) (lq m l) (nof m) t then 20 else -1) = _
    rw [e3, e4]
    rfl
theorem dC_congr {K K' : Nat → Nat → Nat → Bool} {N : Nat} (h : ∀ c, c < N → K' c = K c) (d t : Nat) : ∀ c, c ≤ N → dC K' d t c = dC K d t c
  | 0, _ => rfl
  | c + 1, hc => by
    show (if stB (K' c d) t then dC K' d t c ++ [(c, d, t, rl (K' c d) (48 - t) t)] else dC K' d t c) = (if stB (K c d) t then dC K d t c ++ [(c, d, t, rl (K c d) (48 - t) t)] else dC K d t c)
    rw [h c (by omega), dC_congr h d t c (by omega)]
theorem dT_congr {K K' : Nat → Nat → Nat → Bool} {N : Nat} (h : ∀ c, c < N → K' c = K c) (d : Nat) : ∀ t, dT K' N d t = dT K N d t
  | 0 => rfl
  | t + 1 => by
    show dT K' N d t ++ dC K' d t N = dT K N d t ++ dC K d t N
    rw [dT_congr h d t, dC_congr h d t N (Nat.le_refl _)]
theorem dD_congr {K K' : Nat → Nat → Nat → Bool} {N : Nat} (h : ∀ c, c < N → K' c = K c) : ∀ d, dD K' N d = dD K N d
  | 0 => rfl
  | d + 1 => by
    show dD K' N d ++ dT K' N d 48 = dD K N d ++ dT K N d 48
    rw [dD_congr h d, dT_congr h d 48]
theorem sb_dd {B B' : Bk} (w : WF B) (s : SAMEB B B') {c : Nat} (hc : c < (B 8 1).toNat) (d : Nat) : DD B' c d = DD B c d := funext fun t => DD_agr w (by omega) (by omega) (fun d => s.2.2.2.2 c d (by omega) (by omega)) d t
theorem sb_dL {B B' : Bk} (w : WF B) (s : SAMEB B B') : dL B' = dL B := by
  unfold dL
  rw [s.1]
  refine dD_congr (fun c hc => ?_) 5
  funext d t
  show decide (DD B' c d t = 20) = decide (DD B c d t = 20)
  rw [sb_dd w s hc d]
/-- seats of books with the same rooms -/
theorem seB_congr {lf lf' : Lf} {p : Nat × Nat} {r : Nat} (h : ∀ t, lf' r t = lf r t) : seB lf' p r = seB lf p r := by
  unfold seB
  rw [anyN_congr fun k _ => by rw [h]]
theorem fa_congr {f g : Nat → Option Nat} {w : Option Nat} : ∀ n : Nat, (∀ r, r < n → f r = g r) → fa f w n = fa g w n
  | 0, _ => rfl
  | n + 1, h => by rw [fa_s, fa_s, h n (by omega), fa_congr n fun r hr => h r (by omega)]
theorem ct_congr {lf lf' : Lf} {R : Nat} (h : ∀ r t, r < R → lf' r t = lf r t) : ∀ (ps : Pc) (r : Nat), r < R → ct lf' R ps r = ct lf R ps r
  | [], _, _ => rfl
  | p :: ps, r, hr => by rw [ct_c, ct_c, seB_congr fun t => h r t hr, fa_congr R fun r hr => ct_congr h ps r hr]
theorem rmF_congr {lf lf' : Lf} {R : Nat} (h : ∀ r t, r < R → lf' r t = lf r t) (ps : Pc) : ∀ i, rmF lf' R ps i = rmF lf R ps i
  | 0 => by
    show (fa (ct lf' R ps) none R).map (·.1) = (fa (ct lf R ps) none R).map (·.1)
    rw [fa_congr R fun r hr => ct_congr h ps r hr]
  | i + 1 => by
    show (match rmF lf' R ps i with | none => (none : Option Nat) | some b => (fa (ct lf' R (ps.drop (i + 1))) (some b) R).map fun y : Nat × Nat => y.1) = (match rmF lf R ps i with | none => (none : Option Nat) | some b => (fa (ct lf R (ps.drop (i + 1))) (some b) R).map fun y : Nat × Nat => y.1)
    rw [rmF_congr h ps i]
    cases rmF lf R ps i with
    | none => rfl
    | some b =>
      show (fa (ct lf' R (ps.drop (i + 1))) (some b) R).map (·.1) = (fa (ct lf R (ps.drop (i + 1))) (some b) R).map (·.1)
      rw [fa_congr R fun r hr => ct_congr h (ps.drop (i + 1)) r hr]
theorem lfF_congr {lf lf' : Lf} {R : Nat} (h : ∀ r t, r < R → lf' r t = lf r t) (ps : Pc) : ∀ i r t, r < R → lfF lf' R ps i r t = lfF lf R ps i r t
  | 0, r, t, hr => h r t hr
  | i + 1, r, t, hr => by
    show (match rmF lf' R ps i with | none => lfF lf' R ps i | some b => udL (lfF lf' R ps i) (ps.getD i (0, 0)) b) r t = (match rmF lf R ps i with | none => lfF lf R ps i | some b => udL (lfF lf R ps i) (ps.getD i (0, 0)) b) r t
    rw [rmF_congr h ps i]
    cases rmF lf R ps i with
    | none => exact lfF_congr h ps i r t hr
    | some b =>
      show (if r = b ∧ _ ∧ _ then lfF lf' R ps i r t - 1 else lfF lf' R ps i r t) = (if r = b ∧ _ ∧ _ then lfF lf R ps i r t - 1 else lfF lf R ps i r t)
      rw [lfF_congr h ps i r t hr]
theorem mvF_congr {lf lf' : Lf} {R : Nat} (h : ∀ r t, r < R → lf' r t = lf r t) (ps : Pc) : mvF lf' R ps = mvF lf R ps := by
  unfold mvF
  rw [fa_congr R fun r hr => ct_congr h ps r hr]
theorem lfC_congr {B B' : Bk} (w : WF B) (s : SAMEB B B') {R : Nat} (hR : (R : Int) ≤ B 8 2) (d : Nat) : ∀ c, c ≤ (B 8 1).toNat → ∀ r t, r < R → lfC B' R d c r t = lfC B R d c r t
  | 0, _, r, t, hr => by
    show B' 7 r = B 7 r
    exact s.2.2.2.1 r (by omega) (by omega)
  | c + 1, hc, r, t, hr => by
    have e : psD B' d c = psD B d c := by
      unfold psD
      rw [sb_dd w s (by omega) d]
    show lfF (lfC B' R d c) R (psD B' d c) (psD B' d c).length r t = lfF (lfC B R d c) R (psD B d c) (psD B d c).length r t
    rw [e]
    exact lfF_congr (lfC_congr w s hR d c (by omega)) (psD B d c) _ r t hr
theorem sb_seD {σ : Mem} {B B' : Bk} (w : WF B) (s : SAMEB B B') {d : Nat} (h : seD σ B d) : seD σ B' d := by
  have hn := w.1
  unfold WFn at hn
  obtain ⟨h1, h2, h3⟩ := h
  have ep : ∀ c, c < (B 8 1).toNat → psD B' d c = psD B d c := fun c hc => by
    unfold psD
    rw [sb_dd w s hc d]
  have hR : (((B 8 2).toNat : Nat) : Int) ≤ B 8 2 := by omega
  unfold seD
  rw [s.1, s.2.1]
  refine ⟨fun c hc => ?_, fun r t hr ht => ?_, fun c hc => by rw [ep c hc]; exact h3 c hc⟩
  · obtain ⟨g1, g2, g3⟩ := h1 c hc
    rw [ep c hc, mvF_congr (lfC_congr w s hR d c (by omega))]
    refine ⟨g1, g2, fun i hi => ?_⟩
    rw [rmF_congr (lfC_congr w s hR d c (by omega))]
    exact g3 i hi
  · rw [h2 r t hr ht, lfC_congr w s hR d _ (Nat.le_refl _) r t hr, s.2.2.2.1 r (by omega) (by omega)]
def INV (n : Nat) (σ : Mem) (B : Bk) : Prop := INV0 n σ B ∧ DUC σ B ∧ SEC σ B
def CL (n : Nat) (a : Option (Int × Mem)) (r : Mem → Option (Int × Mem)) : Prop := ∃ v ρ τ B', a = some (v, ρ) ∧ r ρ = some (v, τ) ∧ INV (n + 1) τ B'
theorem INV.call {n : Nat} {σ : Mem} {B : Bk} (h : INV n σ B) {a : Option (Int × Mem)} {r : Mem → Option (Int × Mem)} (g : CALL0 n σ B a r) : CL n a r := by
  obtain ⟨v, ρ, τ, B', a1, a2, a3, e1, e2⟩ := g
  obtain ⟨h1, h2, h3⟩ := h
  have w := h1.1.2.2.1
  refine ⟨v, ρ, τ, B', a1, a2, a3, ?_, ?_⟩
  · have f9 : τ 164 9 = σ 164 9 := e1 _ _ (by decide) (by decide)
    have h4 := h2.1
    rcases e2 with e2 | ⟨e2, s⟩
    · exact ⟨by omega, fun g => absurd g (by omega)⟩
    · refine ⟨by omega, fun g => ?_⟩
      have := (h2.2 (by omega)).keep (τ := τ) (fun i _ => e1 _ _ (by decide) (by decide)) (fun x i x1 x2 => e1 x i (by omega) (by omega))
      rw [sb_dL w s, s.2.2.1]
      exact this
  · have f8 : τ 171 8 = σ 171 8 := e1 _ _ (by decide) (by decide)
    have f7 : τ 171 7 = σ 171 7 := e1 _ _ (by decide) (by decide)
    have h4 := h3.1
    rcases e2 with e2 | ⟨e2, s⟩
    · exact ⟨by omega, fun g => absurd g (by omega)⟩
    · refine ⟨by omega, fun g => ?_⟩
      obtain ⟨d, d1, d2, d3⟩ := h3.2 (by omega)
      exact ⟨d, d1, by rw [f7, d2], sb_seD w s (d3.keep fun x i x1 x2 => e1 x i (by omega) (by omega))⟩
theorem INV.ask {n : Nat} {σ : Mem} {B : Bk} (h : INV n σ B) {a : Option (Int × Mem)} {r : Mem → Option (Int × Mem)} (g : same σ B a r) : CL n a r := h.call (same.call h.1 g)
theorem INV.duty {n : Nat} {σ : Mem} {B : Bk} (h : INV n σ B) {a : Option (Int × Mem)} {r : Mem → Option (Int × Mem)} (g : CALLD n σ B a r) : CL n a r := by
  obtain ⟨v, ρ, τ, a1, a2, a3, a4, a5, a6⟩ := g
  exact ⟨v, ρ, τ, B, a1, a2, a3, a4, h.2.2.keep a5 a6⟩
theorem INV.seat {n : Nat} {σ : Mem} {B : Bk} (h : INV n σ B) {a : Option (Int × Mem)} {r : Mem → Option (Int × Mem)} (g : CALLS n σ B a r) : CL n a r := by
  obtain ⟨v, ρ, τ, a1, a2, a3, a4, a5, a6⟩ := g
  exact ⟨v, ρ, τ, B, a1, a2, a3, h.2.1.keep a5 a6, a4⟩
theorem INV.up {n : Nat} {σ : Mem} {B : Bk} (h : INV n σ B) : INV (n + 1) σ B := ⟨⟨h.1.1, h.1.2.1, h.1.2.2.1, h.1.2.2.2.1, h.1.2.2.2.2.1, h.1.2.2.2.2.2.1, h.1.2.2.2.2.2.2.1, h.1.2.2.2.2.2.2.2.s (Or.inl rfl)⟩, h.2⟩
/-- the start -/
def B0 : Bk := fun x i => if x = 8 then (if i = 3 then 24 else if i = 4 then 1 else if i = 5 then 1 else 0) else 0
theorem WF_B0 : WF B0 := ⟨by unfold WFn in32; decide, fun p h1 h2 => absurd h2 (by have : B0 8 0 = 0 := rfl; omega), fun p h1 h2 => absurd h2 (by have : B0 8 1 = 0 := rfl; omega), fun p h1 h2 => absurd h2 (by have : B0 8 2 = 0 := rfl; omega)⟩
theorem sg_174 : ∀ k : Nat, k < 82 → sg0 182 (k : Int) = 0 := by decide +kernel
theorem sg_sh : ∀ k : Nat, k < 8 → sg0 185 (k : Int) = -1 ∧ sg0 31 (k : Int) = -1 ∧ sg0 32 (k : Int) = 0 := by decide +kernel
theorem sg_wd : ∀ k : Nat, k < 40 → sg0 190 (k : Int) = wrdL.getD k 0 := by decide +kernel
theorem INV_0 : INV 0 sg0 B0 := by
  have e43 : sg0 43 3 = 1 := rfl
  have k174 : ∀ j : Int, 0 ≤ j → j < 82 → sg0 182 j = 0 := fun j j1 j2 => by
    obtain ⟨k, rfl⟩ := n_of j1
    exact sg_174 k (by omega)
  refine ⟨⟨⟨⟨fun i _ _ => rfl, fun i _ _ => rfl, fun i _ _ => rfl, fun i _ _ => rfl, fun i _ _ => rfl, fun i _ _ => rfl, fun i _ _ => rfl, fun i _ _ => rfl, rfl, rfl, rfl, rfl, rfl, rfl⟩, ⟨fun i i1 i2 => k174 _ (by omega) (by omega), fun i i1 i2 => k174 _ (by omega) (by omega), fun i i1 i2 => k174 _ (by omega) (by omega), fun i i1 i2 => k174 _ (by omega) (by omega), fun i i1 i2 => k174 _ (by omega) (by omega), fun i i1 i2 => k174 _ (by omega) (by omega), fun i i1 i2 => k174 _ (by omega) (by omega), fun i i1 i2 => k174 _ (by omega) (by omega), rfl, rfl, rfl, rfl, rfl, rfl⟩, WF_B0, fun c c1 c2 => absurd c2 (by have : B0 8 1 = 0 := rfl; omega)⟩, ⟨rfl, Or.inl rfl⟩, fun s s1 s2 => ?_, fun i _ _ => rfl, ⟨rfl, (by show (0 : Int) ≤ 0; decide), (by show (0 : Int) ≤ 250; decide), fun i _ _ => ⟨rfl, (by show (0 : Int) ≤ 0 ∧ (0 : Int) ≤ 255; decide)⟩⟩, fun j _ _ => rfl, fun k hk => sg_wd k hk, ⟨by rw [e43]; decide, by rw [e43]; decide⟩⟩, ⟨?_, fun g => ?_⟩, ⟨?_, fun g => ?_⟩⟩
  · obtain ⟨k, rfl⟩ := n_of s1
    obtain ⟨g1, g2, g3⟩ := sg_sh k (by omega)
    rw [g1, g2, g3]
    exact ⟨rfl, Or.inl ⟨rfl, rfl⟩⟩
  · rw [e43, show sg0 164 9 = 0 from rfl]
    decide
  · rw [e43, show sg0 164 9 = 0 from rfl] at g
    exact absurd g (by decide)
  · rw [e43, show sg0 171 8 = 0 from rfl]
    decide
  · rw [e43, show sg0 171 8 = 0 from rfl] at g
    exact absurd g (by decide)
