/-! THE SECOND PLANNER'S ORDERS (places 45 to 51): what stands above of the first's, word for word, by program (clone.py) -/
/-- the class' Orders hold the papers of a mask -/
def isOy (σ : Mem) (B : Bk) (c : Int) (m : Nat) (f : Int) (a : Nat) : Prop := σ 45 6 = (nof m : Int) ∧ σ 45 7 = rs B c ∧ σ 45 8 = f ∧ σ 45 9 = B 8 3 - a - smt B c m (nof m) ∧ σ 45 10 = ((spn 0 a : Nat) : Int) ∧ ∀ k : Nat, k < nof m → σ 46 k = (nth m k : Int) ∧ σ 47 k = B 1 (nth m k) ∧ σ 48 k = tm B c (nth m k)
theorem Y3_gather {σ : Mem} {B : Bk} {b : Int} (hb : isB b) (hB : isBk σ b B) (w : WF B) {c : Int} (hc : 0 ≤ c) (hc2 : c < B 8 1) {m : Nat} (hm : okm B m) (f : Int) {a : Nat} (ha : a ≤ 48) : ∃ τ, f_Y3_gather σ b c m f a = some τ ∧ isOy τ B c m f a ∧ ∀ x, ¬ (45 ≤ x ∧ x ≤ 48) → τ x = σ x := by
  have hn := w.1
  unfold WFn at hn
  unfold isB at hb
  obtain ⟨n, en⟩ := n_of hn.1.1
  have hm1 := hm.1
  unfold f_Y3_gather
  simp only [Option.bind_some]
  have e0 : jsub (mup (mup (mup σ 45 6 0) 45 7 (rs B c)) 45 8 f b 11) a = B 8 3 - a := by
    rw [mup_miss (by omega), mup_miss (by omega), mup_miss (by omega), hB.hours, jsub_ok (by omega) (by omega)]
  rw [bind_some' (X0_restFor (hB.rows (fun x h1 h2 => mup_row (by omega))) w hc hc2)]
  have es : ∀ ρ : Mem, f_X10_span ρ 0 (a : Int) = some ((spn 0 a : Nat) : Int) := fun ρ => span_n (a := 0) (by omega) ha
  rw [e0, bind_some' (es _)]
  unfold f_Y3_gather_44
  obtain ⟨σ0, hσ0⟩ : ∃ z, z = mup (mup (mup (mup (mup σ 45 6 0) 45 7 (rs B c)) 45 8 f) 45 9 (B 8 3 - a)) 45 10 ((spn 0 a : Nat) : Int) := ⟨_, rfl⟩
  rw [← hσ0]
  have r0 : ∀ x, ¬ (45 ≤ x ∧ x ≤ 48) → σ0 x = σ x := fun x hx => by
    rw [hσ0, mup_row (by omega), mup_row (by omega), mup_row (by omega), mup_row (by omega), mup_row (by omega)]
  have key := loop_ex (f := f_Y3_gather_44B b c m) (fun s => ∃ k : Nat, s.1 = (k : Int) ∧ k ≤ n ∧ (∀ x, ¬ (45 ≤ x ∧ x ≤ 48) → s.2 x = σ x) ∧ s.2 45 6 = (cnt (fun i => m.testBit i) k : Int) ∧ s.2 45 7 = rs B c ∧ s.2 45 8 = f ∧ s.2 45 9 = B 8 3 - a - smt B c m (cnt (fun i => m.testBit i) k) ∧ s.2 45 10 = ((spn 0 a : Nat) : Int) ∧ ∀ j : Nat, j < cnt (fun i => m.testBit i) k → s.2 46 j = (nth m j : Int) ∧ s.2 47 j = B 1 (nth m j) ∧ s.2 48 j = tm B c (nth m j)) (fun s => (12 - s.1).toNat) (fun τ => isOy τ B c m f a ∧ ∀ x, ¬ (45 ≤ x ∧ x ≤ 48) → τ x = σ x) (a := (0, σ0)) ?_ (Nat.le_of_ble_eq_true rfl) ?_
  · obtain ⟨τ, h1, h2⟩ := key
    exact ⟨τ, by rw [h1]; rfl, h2⟩
  · refine ⟨0, rfl, Nat.zero_le _, r0, ?_, ?_, ?_, ?_, ?_, fun j hj => absurd hj (Nat.not_lt_zero _)⟩
    · show σ0 45 6 = 0
      rw [hσ0, mup_miss (by omega), mup_miss (by omega), mup_miss (by omega), mup_miss (by omega), mup_hit rfl rfl]
    · show σ0 45 7 = _
      rw [hσ0, mup_miss (by omega), mup_miss (by omega), mup_miss (by omega), mup_hit rfl rfl]
    · show σ0 45 8 = _
      rw [hσ0, mup_miss (by omega), mup_miss (by omega), mup_hit rfl rfl]
    · show σ0 45 9 = _
      rw [hσ0, mup_miss (by omega), mup_hit rfl rfl]
      simp [cnt, smt]
    · show σ0 45 10 = _
      rw [hσ0, mup_hit rfl rfl]
  · rintro ⟨_, τ⟩ ⟨k, rfl, hk, hrow, g6, g7, g8, g9, g10, gj⟩
    dsimp only at hrow g6 g7 g8 g9 g10 gj
    have hBt : isBk τ b B := hB.rows (fun x h1 h2 => hrow x (by omega))
    show (∃ a', f_Y3_gather_44C b c m (k : Int) τ = _ ∧ _) ∨ ∃ a', f_Y3_gather_44C b c m (k : Int) τ = _ ∧ _
    unfold f_Y3_gather_44C
    rw [hBt.nP]
    by_cases hkn : B 8 0 ≤ k
    · right
      rw [if_pos hkn]
      have : k = n := by omega
      subst this
      have hnof : cnt (fun i => m.testBit i) k = nof m := by
        unfold nof
        have : ∀ q, k ≤ q → cnt (fun i => m.testBit i) q = cnt (fun i => m.testBit i) k := by
          intro q
          induction q with
          | zero => intro h; have : k = 0 := by omega
                    subst this; rfl
          | succ q ih =>
            intro h
            by_cases e : k = q + 1
            · subst e; rfl
            · rw [cnt_s, if_neg, ih (by omega)]
              intro hq
              have := hm.2.2 q hq
              omega
        exact (this 12 (by omega)).symm
      refine ⟨_, rfl, ⟨?_, g7, g8, ?_, g10, ?_⟩, hrow⟩
      · show τ 45 6 = _; rw [g6, hnof]
      · show τ 45 9 = _; rw [g9, hnof]
      · rw [← hnof]; exact gj
    · left
      rw [if_neg hkn, bind_some' (hasBit_n (by omega) (by omega))]
      have e1 : jadd (k : Int) 1 = ((k + 1 : Nat) : Int) := by rw [jadd_ok (by omega) (by omega)]; omega
      cases hbit : m.testBit k with
      | false =>
        have ec : cnt (fun i => m.testBit i) (k + 1) = cnt (fun i => m.testBit i) k := by rw [cnt_s, hbit]; rfl
        rw [if_pos (by decide)]
        refine ⟨(((k + 1 : Nat) : Int), τ), ?_, ⟨k + 1, rfl, by omega, hrow, ?_⟩, by show (12 - ((k + 1 : Nat) : Int)).toNat < (12 - (k : Int)).toNat; omega⟩
        · unfold f_Y3_gather_141
          rw [e1]; rfl
        · rw [ec]; exact ⟨g6, g7, g8, g9, g10, gj⟩
      | true =>
        obtain ⟨kk, ekk⟩ : ∃ z, z = cnt (fun i => m.testBit i) k := ⟨_, rfl⟩
        have hkk : kk < nof m := by rw [ekk]; exact cnt_lt (f := fun i => m.testBit i) (by omega) hbit
        have hnk : nth m kk = k := by rw [ekk]; exact nth_at (by omega) hbit
        have ec : cnt (fun i => m.testBit i) (k + 1) = kk + 1 := by rw [cnt_s, hbit, ekk]; rfl
        have h4 := hm.2.1
        rw [← ekk] at g6 g9 gj
        have hs := smt_b w hc hc2 hm kk (by omega)
        have ht := tm_b w hc hc2 (p := (k : Int)) (by omega) (by omega)
        rw [if_neg (by decide)]
        show ∃ a', (if 4 ≤ τ 45 6 then _ else _) = _ ∧ _
        rw [g6, if_neg (by omega), chk_pos (by omega)]
        simp only [Option.bind_some]
        rw [chk_pos (by omega)]
        rw [show mup τ 46 (kk : Int) (k : Int) 45 6 = (kk : Int) by rw [mup_miss (by omega), g6], chk_pos (by omega)]
        rw [show mup τ 46 (kk : Int) (k : Int) (b + 2) (k : Int) = B 1 k by rw [mup_miss (by omega), hBt.start (by omega) (by omega)]]
        obtain ⟨τ2, hτ2⟩ : ∃ z, z = mup (mup τ 46 (kk : Int) (k : Int)) 47 (kk : Int) (B 1 k) := ⟨_, rfl⟩
        have r2 : ∀ x, ¬ (45 ≤ x ∧ x ≤ 48) → τ2 x = σ x := fun x hx => by rw [hτ2, mup_row (by omega), mup_row (by omega), hrow x hx]
        have r36 : ∀ j, τ2 45 j = τ 45 j := fun j => by rw [hτ2, mup_miss (by omega), mup_miss (by omega)]
        rw [← hτ2, bind_some' (X0_timeFor (hB.rows (fun x h1 h2 => r2 x (by omega))) w hc hc2 (by omega) (by omega)), r36, g6, chk_pos (by omega)]
        rw [show mup τ2 48 (kk : Int) (tm B c k) 45 6 = (kk : Int) by rw [mup_miss (by omega), r36, g6], chk_pos (by omega)]
        rw [show mup τ2 48 (kk : Int) (tm B c k) 45 9 = B 8 3 - a - smt B c m kk by rw [mup_miss (by omega), r36, g9], mup_hit rfl rfl, jsub_ok (by omega) (by omega)]
        rw [show mup (mup τ2 48 (kk : Int) (tm B c k)) 45 9 (B 8 3 - a - smt B c m kk - tm B c k) 45 6 = (kk : Int) by rw [mup_miss (by omega), mup_miss (by omega), r36, g6], jadd_ok (a := (kk : Int)) (by omega) (by omega)]
        unfold f_Y3_gather_141
        rw [e1]
        refine ⟨_, rfl, ⟨k + 1, rfl, by omega, ?_, ?_, ?_, ?_, ?_, ?_, ?_⟩, by show (12 - ((k + 1 : Nat) : Int)).toNat < (12 - (k : Int)).toNat; omega⟩
        · intro x hx
          dsimp only
          rw [mup_row (by omega), mup_row (by omega), mup_row (by omega), r2 x hx]
        · dsimp only
          rw [mup_hit rfl rfl, ec]; omega
        · dsimp only
          rw [mup_miss (by omega), mup_miss (by omega), mup_miss (by omega), r36, g7]
        · dsimp only
          rw [mup_miss (by omega), mup_miss (by omega), mup_miss (by omega), r36, g8]
        · dsimp only
          rw [mup_miss (by omega), mup_hit rfl rfl, ec]
          show _ = B 8 3 - a - (smt B c m kk + tm B c (nth m kk))
          rw [hnk]; omega
        · dsimp only
          rw [mup_miss (by omega), mup_miss (by omega), mup_miss (by omega), r36, g10]
        · intro j hj
          rw [ec] at hj
          dsimp only
          by_cases ej : j = kk
          · subst ej
            rw [hnk]
            refine ⟨?_, ?_, ?_⟩
            · rw [mup_miss (by omega), mup_miss (by omega), mup_miss (by omega), hτ2, mup_miss (by omega), mup_hit rfl rfl]
            · rw [mup_miss (by omega), mup_miss (by omega), mup_miss (by omega), hτ2, mup_hit rfl rfl]
            · rw [mup_miss (by omega), mup_miss (by omega), mup_hit rfl rfl]
          · obtain ⟨q1, q2, q3⟩ := gj j (by omega)
            refine ⟨?_, ?_, ?_⟩
            · rw [mup_miss (by omega), mup_miss (by omega), mup_miss (by omega), hτ2, mup_miss (by omega), mup_miss (by omega)]; exact q1
            · rw [mup_miss (by omega), mup_miss (by omega), mup_miss (by omega), hτ2, mup_miss (by omega), mup_miss (by omega)]; exact q2
            · rw [mup_miss (by omega), mup_miss (by omega), mup_miss (by omega), hτ2, mup_miss (by omega), mup_miss (by omega)]; exact q3
theorem Y3_walk {σ : Mem} {B : Bk} {c f : Int} {m a : Nat} (hO : isOy σ B c m f a) (hm : okm B m) (w : WF B) (hc : 0 ≤ c) (hc2 : c < B 8 1) (hf : 0 ≤ f ∧ f ≤ 60) (ha : a ≤ 48) {x1 : Int} (hx : x1 = 49 ∨ x1 = 50) {l : Nat → Nat} (hl : ∀ k, k < nof m → l k < nof m ∧ σ x1 k = (l k : Int)) (wo : Nat → Bool) :
    ∃ r τ, f_Y3_walk σ x1 ((mset wo 48 : Nat) : Int) = some (r, τ) ∧ (∀ x, x ≠ 45 → x ≠ 51 → τ x = σ x) ∧ (∀ j, j ≠ 11 → τ 45 j = σ 45 j) ∧ (fitN B c f (fun k => nth m (l k)) (nof m) = true → r = 1 ∧ τ 45 11 = ((mset (kpB wo a B c f (fun k => nth m (l k)) (nof m)) 48 : Nat) : Int) ∧ ∀ k, k < nof m → τ 51 k = bg B c f (fun k => nth m (l k)) k) ∧ (fitN B c f (fun k => nth m (l k)) (nof m) = false → r = 0) := by
  obtain ⟨o6, o7, o8, -, o10, oj⟩ := hO
  obtain ⟨q, hq⟩ : ∃ q : Nat → Nat, q = fun k => nth m (l k) := ⟨_, rfl⟩
  rw [← hq]
  have hqP : ∀ k, k < nof m → (q k : Int) < B 8 0 := fun k hk => by
    rw [hq]; exact hm.2.2 _ (nth_in (hl k hk).1).2.1
  have h4 := hm.2.1
  unfold f_Y3_walk
  simp only [Option.bind_some]
  rw [o10, o8]
  unfold f_Y3_walk_18
  have key := loop_ex (f := f_Y3_walk_18B x1) (fun s => ∃ k : Nat, s.2.2.2.1 = (k : Int) ∧ k ≤ nof m ∧ fitN B c f q k = true ∧ s.1 = ((mset (saB a B c f q k) 48 : Nat) : Int) ∧ s.2.1 = ((mset (wtB wo B c f q k) 48 : Nat) : Int) ∧ s.2.2.1 = nx B c f q k ∧ (∀ x, x ≠ 51 → s.2.2.2.2 x = σ x) ∧ ∀ j : Nat, j < k → s.2.2.2.2 51 j = bg B c f q j) (fun s => (4 - s.2.2.2.1).toNat)
    (Sum.elim (fun τ => fitN B c f q (nof m) = false ∧ ∀ x, x ≠ 51 → τ x = σ x) (fun e => fitN B c f q (nof m) = true ∧ e.1 = ((mset (saB a B c f q (nof m)) 48 : Nat) : Int) ∧ e.2.1 = ((mset (wtB wo B c f q (nof m)) 48 : Nat) : Int) ∧ (∀ x, x ≠ 51 → e.2.2 x = σ x) ∧ ∀ j : Nat, j < nof m → e.2.2 51 j = bg B c f q j)) (a := (((spn 0 a : Nat) : Int), ((mset wo 48 : Nat) : Int), f, 0, σ)) ?_ (Nat.le_of_ble_eq_true rfl) ?_
  · obtain ⟨e, h1, h2⟩ := key
    rw [h1]
    cases e with
    | inl τ =>
      obtain ⟨g1, g2⟩ := h2
      refine ⟨0, τ, rfl, fun x h36 h42 => g2 x h42, fun j hj => by rw [g2 45 (by decide)], fun h => ?_, fun _ => rfl⟩
      rw [g1] at h; cases h
    | inr e =>
      obtain ⟨x4, x6, τ⟩ := e
      obtain ⟨g1, g2, g3, g4, g5⟩ := h2
      show ∃ r τ', f_Y3_walk_121 τ x4 x6 = some (r, τ') ∧ _
      have g2 : x4 = _ := g2
      have g3 : x6 = _ := g3
      have g4 : ∀ x, x ≠ 51 → τ x = σ x := g4
      have g5 : ∀ j : Nat, j < nof m → τ 51 j = _ := g5
      unfold f_Y3_walk_121
      have hs := mset_lt (saB a B c f q (nof m)) 48
      have hw := mset_lt (wtB wo B c f q (nof m)) 48
      rw [g2, g3, kandn_n (by omega) (by omega)]
      have e1 : andn (mset (wtB wo B c f q (nof m)) 48) (mset (saB a B c f q (nof m)) 48) = mset (kpB wo a B c f q (nof m)) 48 := by
        refine tb_ext (n := 48) (andn_lt hw) (mset_lt _ _) fun i hi => ?_
        rw [andn_tb, mset_tb, mset_tb, mset_tb]
        unfold kpB
        simp [hi]
      rw [e1]
      refine ⟨1, _, rfl, fun x h36 h42 => by rw [mup_row h36, g4 x h42], fun j hj => by rw [mup_miss (by omega), g4 45 (by decide)], fun _ => ⟨rfl, mup_hit rfl rfl, fun k hk => ?_⟩, fun h => by rw [g1] at h; cases h⟩
      rw [mup_miss (by omega)]
      exact g5 k hk
  · refine ⟨0, rfl, Nat.zero_le _, rfl, ?_, ?_, rfl, fun _ _ => rfl, fun j hj => absurd hj (Nat.not_lt_zero _)⟩
    · show ((spn 0 a : Nat) : Int) = _
      congr 1
      refine tb_ext (n := 48) (spn_lt ha) (mset_lt _ _) fun i hi => ?_
      rw [spn_tb, mset_tb]
      unfold saB siB anyN
      simp [hi]
    · show ((mset wo 48 : Nat) : Int) = _
      congr 1
      refine mset_congr fun i hi => ?_
      unfold wtB anyN
      simp
  · rintro ⟨x4, x6, x8, x9, τ⟩ ⟨k, g9, hk, gf, g4, g6, g8, grow, gj⟩
    have g9 : x9 = (k : Int) := g9
    have g4 : x4 = _ := g4
    have g6 : x6 = _ := g6
    have g8 : x8 = _ := g8
    show (∃ a', f_Y3_walk_18C x1 x4 x6 x8 x9 τ = _ ∧ _) ∨ ∃ a', f_Y3_walk_18C x1 x4 x6 x8 x9 τ = _ ∧ _
    subst g9 g4 g6 g8
    have grow : ∀ x, x ≠ 51 → τ x = σ x := grow
    unfold f_Y3_walk_18C
    rw [grow 45 (by decide), o6]
    by_cases hkn : (nof m : Int) ≤ k
    · right
      rw [if_pos hkn]
      have : k = nof m := by omega
      subst this
      exact ⟨_, rfl, gf, rfl, rfl, grow, gj⟩
    · rw [if_neg hkn]
      obtain ⟨hl1, hl2⟩ := hl k (by omega)
      obtain ⟨-, b38, b39⟩ := oj (l k) hl1
      have hbg := bg_b w hc hc2 hf hqP (k := k) (by omega)
      have hst := (w.2.1 (q k) (by omega) (hqP k (by omega))).2.1
      have hr := rs_b w hc hc2
      simp only [Option.bind_some]
      rw [grow x1 (by omega), hl2, chk_pos (by omega), chk_pos (by omega), grow 47 (by decide), b38, grow 48 (by decide), b39, chk_pos (by omega)]
      have eq1 : mx (B 1 (nth m (l k))) (nx B c f q k) = bg B c f q k := by rw [mx_eq]; unfold bg; rw [hq]
      have eq2 : jadd (bg B c f q k) (tm B c (nth m (l k))) = en B c f q k := by
        have : en B c f q k = bg B c f q k + tm B c (nth m (l k)) := by unfold en; rw [hq]
        rw [jadd_ok (by omega) (by omega), this]
      rw [eq1, eq2]
      by_cases hen : en B c f q k ≤ 48
      · left
        rw [if_pos hen, chk_pos (by omega)]
        obtain ⟨bn, ebn⟩ := n_of hbg.2.1
        obtain ⟨e2, ee2⟩ := n_of (show 0 ≤ en B c f q k by omega)
        obtain ⟨sn, esn⟩ := n_of hst.1
        have hs := mset_lt (saB a B c f q k) 48
        have hw := mset_lt (wtB wo B c f q k) 48
        have hsp1 := spn_lt (a := bn) (b := e2) (by omega)
        have hsp2 := spn_lt (a := sn) (b := bn) (by omega)
        have est : mup τ 51 (k : Int) (bg B c f q k) 47 (l k : Int) = B 1 (q k) := by rw [mup_miss (by omega), grow 47 (by decide), b38, hq]
        rw [est, ebn, ee2, esn, bind_some' (span_n (by omega) (by omega)), kor_n (by omega) (by omega), chk_pos (by omega), bind_some' (span_n (by omega) (by omega)), kor_n (by omega) (by omega)]
        rw [show mup τ 51 (k : Int) (bn : Int) 45 7 = rs B c by rw [mup_miss (by omega), grow 45 (by decide), o7], jadd_ok (a := (e2 : Int)) (by omega) (by omega), jadd_ok (a := (k : Int)) (by omega) (by omega)]
        refine ⟨_, rfl, ⟨k + 1, by show (k : Int) + 1 = _; omega, by omega, ?_, ?_, ?_, ?_, ?_, ?_⟩, by show (4 - ((k : Int) + 1)).toNat < (4 - (k : Int)).toNat; omega⟩
        · show (fitN B c f q k && decide (en B c f q k ≤ 48)) = true
          rw [gf, decide_eq_true hen]; rfl
        · show (((mset (saB a B c f q k) 48 ||| spn bn e2 : Nat)) : Int) = _
          congr 1
          refine or_mset (by omega) fun t ht => ?_
          show (decide (t < a) || (siB B c f q k t || _)) = _
          unfold saB
          rw [Bool.or_assoc]
          show (decide (t < a) || (siB B c f q k t || (decide (bg B c f q k ≤ t) && decide ((t : Int) < en B c f q k)))) = _
          rw [ebn, ee2]
          congr 3
          · simp
          · simp
        · show (((mset (wtB wo B c f q k) 48 ||| spn sn bn : Nat)) : Int) = _
          congr 1
          refine or_mset (by omega) fun t ht => ?_
          show (wo t || (anyN _ k || _)) = _
          unfold wtB
          rw [Bool.or_assoc]
          show (wo t || (anyN _ k || (decide (B 1 (q k) ≤ t) && decide ((t : Int) < bg B c f q k)))) = _
          rw [ebn, esn]
          congr 3
          · simp
          · simp
        · show (e2 : Int) + rs B c = nx B c f q (k + 1)
          rw [nx_s, ee2]
        · intro x hx42
          dsimp only
          rw [mup_row hx42, grow x hx42]
        · intro j hj
          show mup τ 51 (k : Int) (bn : Int) 51 j = _
          by_cases ej : j = k
          · subst ej; rw [mup_hit rfl rfl, ebn]
          · rw [mup_miss (by omega)]; exact gj j (by omega)
      · right
        rw [if_neg hen]
        refine ⟨_, rfl, ?_, grow⟩
        cases hfn : fitN B c f q (nof m) with
        | false => rfl
        | true => exact absurd (fitN_at (by omega) hfn) hen
theorem swapY {σ : Mem} {i j a b : Int} (hi : 0 ≤ i ∧ i < 4) (hj : 0 ≤ j ∧ j < 4) (ha : σ 49 i = a) (hb : σ 49 j = b) : f_Y3_swap σ i j = some (mup (mup σ 49 i b) 49 j a) := by
  unfold f_Y3_swap
  rw [chk_pos (by omega)]
  simp only [Option.bind_some]
  rw [chk_pos (by omega), chk_pos (by omega), chk_pos (by omega), ha, hb]
theorem ny0_e {σ : Mem}  (h6 : σ 45 6 = 0)   : f_Y3_nextRow σ = some (0, σ) := by
  unfold f_Y3_nextRow
  simp only [bsm]
  rw [h6, js_0_2]
  unfold f_Y3_nextRow_7
  rw [FU_9, loop_end (b := (-2 : Int)) (by show f_Y3_nextRow_7C σ (-2) = _; unfold f_Y3_nextRow_7C; simp (disch := omega) only [jl_0_p, jl_0_m, jl_1_p, jl_1_m, jl_2_p, jl_2_m, jl_3_p, jl_3_m, jl_4_p, jl_4_m, jl_5_p, jl_5_m, js_0_1, js_0_2, js_1_1, js_1_2, js_2_1, js_2_2, js_3_1, js_3_2, js_4_1, js_4_2, chk_pos, if_pos, if_neg, bsm])]
  simp only [bsm]
  unfold f_Y3_nextRow_34
  rw [if_neg (by decide)]
theorem ny1_e {σ : Mem} {v0 : Int} (h6 : σ 45 6 = 1) (h0 : σ 49 0 = v0)  : f_Y3_nextRow σ = some (0, σ) := by
  unfold f_Y3_nextRow
  simp only [bsm]
  rw [h6, js_1_2]
  unfold f_Y3_nextRow_7
  rw [FU_9, loop_end (b := (-1 : Int)) (by show f_Y3_nextRow_7C σ (-1) = _; unfold f_Y3_nextRow_7C; simp (disch := omega) only [jl_0_p, jl_0_m, jl_1_p, jl_1_m, jl_2_p, jl_2_m, jl_3_p, jl_3_m, jl_4_p, jl_4_m, jl_5_p, jl_5_m, js_0_1, js_0_2, js_1_1, js_1_2, js_2_1, js_2_2, js_3_1, js_3_2, js_4_1, js_4_2, chk_pos, if_pos, if_neg, bsm, h0])]
  simp only [bsm]
  unfold f_Y3_nextRow_34
  rw [if_neg (by decide)]
theorem ny2_e {σ : Mem} {v0 v1 : Int} (h6 : σ 45 6 = 2) (h0 : σ 49 0 = v0) (h1 : σ 49 1 = v1) (d0 : v1 < v0) : f_Y3_nextRow σ = some (0, σ) := by
  unfold f_Y3_nextRow
  simp only [bsm]
  rw [h6, js_2_2]
  unfold f_Y3_nextRow_7
  rw [FU_9, loop_step (a' := (-1 : Int)) (by show f_Y3_nextRow_7C σ 0 = _; unfold f_Y3_nextRow_7C; simp (disch := omega) only [jl_0_p, jl_0_m, jl_1_p, jl_1_m, jl_2_p, jl_2_m, jl_3_p, jl_3_m, jl_4_p, jl_4_m, jl_5_p, jl_5_m, js_0_1, js_0_2, js_1_1, js_1_2, js_2_1, js_2_2, js_3_1, js_3_2, js_4_1, js_4_2, chk_pos, if_pos, if_neg, bsm, h0, h1]), loop_end (b := (-1 : Int)) (by show f_Y3_nextRow_7C σ (-1) = _; unfold f_Y3_nextRow_7C; simp (disch := omega) only [jl_0_p, jl_0_m, jl_1_p, jl_1_m, jl_2_p, jl_2_m, jl_3_p, jl_3_m, jl_4_p, jl_4_m, jl_5_p, jl_5_m, js_0_1, js_0_2, js_1_1, js_1_2, js_2_1, js_2_2, js_3_1, js_3_2, js_4_1, js_4_2, chk_pos, if_pos, if_neg, bsm, h0, h1])]
  simp only [bsm]
  unfold f_Y3_nextRow_34
  rw [if_neg (by decide)]
theorem ny2_1_1 {σ : Mem} {v0 v1 : Int} (h6 : σ 45 6 = 2) (h0 : σ 49 0 = v0) (h1 : σ 49 1 = v1) (u : v0 < v1) : ∃ τ, f_Y3_nextRow σ = some (1, τ) ∧ (∀ x, x ≠ 49 → τ x = σ x) ∧ τ 49 0 = v1 ∧ τ 49 1 = v0 := by
  unfold f_Y3_nextRow
  simp only [bsm]
  rw [h6, js_2_2]
  unfold f_Y3_nextRow_7
  rw [FU_9, loop_end (b := (0 : Int)) (by show f_Y3_nextRow_7C σ (0) = _; unfold f_Y3_nextRow_7C; simp (disch := omega) only [jl_0_p, jl_0_m, jl_1_p, jl_1_m, jl_2_p, jl_2_m, jl_3_p, jl_3_m, jl_4_p, jl_4_m, jl_5_p, jl_5_m, js_0_1, js_0_2, js_1_1, js_1_2, js_2_1, js_2_2, js_3_1, js_3_2, js_4_1, js_4_2, chk_pos, if_pos, if_neg, bsm, h0, h1])]
  simp only [bsm]
  unfold f_Y3_nextRow_34
  rw [if_pos (by decide)]
  simp only [bsm]
  rw [h6, js_2_1]
  unfold f_Y3_nextRow_47
  rw [FU_9, loop_end (b := (1 : Int)) (by show f_Y3_nextRow_47C σ 0 1 = _; unfold f_Y3_nextRow_47C; simp (disch := omega) only [jl_0_p, jl_0_m, jl_1_p, jl_1_m, jl_2_p, jl_2_m, jl_3_p, jl_3_m, jl_4_p, jl_4_m, jl_5_p, jl_5_m, js_0_1, js_0_2, js_1_1, js_1_2, js_2_1, js_2_2, js_3_1, js_3_2, js_4_1, js_4_2, chk_pos, if_pos, if_neg, bsm, h0, h1])]
  simp only [bsm]
  unfold f_Y3_nextRow_75
  rw [bind_some' (swapY (by decide) (by decide) h0 h1)]
  obtain ⟨τ1, hτ1⟩ : ∃ z, z = (mup (mup σ 49 0 v1) 49 1 v0) := ⟨_, rfl⟩
  rw [← hτ1]
  simp only [bsm]
  rw [show τ1 45 6 = 2 by rw [hτ1, mup_miss (by omega), mup_miss (by omega), h6], jl_1_p, js_2_1]
  unfold f_Y3_nextRow_93
  have a0 : τ1 49 0 = v1 := by rw [hτ1]; simp (disch := omega) only [mup_hit, mup_miss, h0, h1]
  have a1 : τ1 49 1 = v0 := by rw [hτ1]; simp (disch := omega) only [mup_hit, mup_miss, h0, h1]
  rw [FU_9, loop_end (b := τ1) (by show f_Y3_nextRow_93C 1 1 τ1 = _; unfold f_Y3_nextRow_93C; rw [if_pos (by decide)])]
  exact ⟨τ1, rfl, fun x hx => by rw [hτ1, mup_row hx, mup_row hx], a0, a1⟩
theorem ny3_e {σ : Mem} {v0 v1 v2 : Int} (h6 : σ 45 6 = 3) (h0 : σ 49 0 = v0) (h1 : σ 49 1 = v1) (h2 : σ 49 2 = v2) (d0 : v1 < v0) (d1 : v2 < v1) : f_Y3_nextRow σ = some (0, σ) := by
  unfold f_Y3_nextRow
  simp only [bsm]
  rw [h6, js_3_2]
  unfold f_Y3_nextRow_7
  rw [FU_9, loop_step (a' := (0 : Int)) (by show f_Y3_nextRow_7C σ 1 = _; unfold f_Y3_nextRow_7C; simp (disch := omega) only [jl_0_p, jl_0_m, jl_1_p, jl_1_m, jl_2_p, jl_2_m, jl_3_p, jl_3_m, jl_4_p, jl_4_m, jl_5_p, jl_5_m, js_0_1, js_0_2, js_1_1, js_1_2, js_2_1, js_2_2, js_3_1, js_3_2, js_4_1, js_4_2, chk_pos, if_pos, if_neg, bsm, h0, h1, h2]), loop_step (a' := (-1 : Int)) (by show f_Y3_nextRow_7C σ 0 = _; unfold f_Y3_nextRow_7C; simp (disch := omega) only [jl_0_p, jl_0_m, jl_1_p, jl_1_m, jl_2_p, jl_2_m, jl_3_p, jl_3_m, jl_4_p, jl_4_m, jl_5_p, jl_5_m, js_0_1, js_0_2, js_1_1, js_1_2, js_2_1, js_2_2, js_3_1, js_3_2, js_4_1, js_4_2, chk_pos, if_pos, if_neg, bsm, h0, h1, h2]), loop_end (b := (-1 : Int)) (by show f_Y3_nextRow_7C σ (-1) = _; unfold f_Y3_nextRow_7C; simp (disch := omega) only [jl_0_p, jl_0_m, jl_1_p, jl_1_m, jl_2_p, jl_2_m, jl_3_p, jl_3_m, jl_4_p, jl_4_m, jl_5_p, jl_5_m, js_0_1, js_0_2, js_1_1, js_1_2, js_2_1, js_2_2, js_3_1, js_3_2, js_4_1, js_4_2, chk_pos, if_pos, if_neg, bsm, h0, h1, h2])]
  simp only [bsm]
  unfold f_Y3_nextRow_34
  rw [if_neg (by decide)]
theorem ny3_1_1 {σ : Mem} {v0 v1 v2 : Int} (h6 : σ 45 6 = 3) (h0 : σ 49 0 = v0) (h1 : σ 49 1 = v1) (h2 : σ 49 2 = v2) (d1 : v2 < v1) (u : v0 < v1) (e2 : v2 < v0) : ∃ τ, f_Y3_nextRow σ = some (1, τ) ∧ (∀ x, x ≠ 49 → τ x = σ x) ∧ τ 49 0 = v1 ∧ τ 49 1 = v2 ∧ τ 49 2 = v0 := by
  unfold f_Y3_nextRow
  simp only [bsm]
  rw [h6, js_3_2]
  unfold f_Y3_nextRow_7
  rw [FU_9, loop_step (a' := (0 : Int)) (by show f_Y3_nextRow_7C σ 1 = _; unfold f_Y3_nextRow_7C; simp (disch := omega) only [jl_0_p, jl_0_m, jl_1_p, jl_1_m, jl_2_p, jl_2_m, jl_3_p, jl_3_m, jl_4_p, jl_4_m, jl_5_p, jl_5_m, js_0_1, js_0_2, js_1_1, js_1_2, js_2_1, js_2_2, js_3_1, js_3_2, js_4_1, js_4_2, chk_pos, if_pos, if_neg, bsm, h0, h1, h2]), loop_end (b := (0 : Int)) (by show f_Y3_nextRow_7C σ (0) = _; unfold f_Y3_nextRow_7C; simp (disch := omega) only [jl_0_p, jl_0_m, jl_1_p, jl_1_m, jl_2_p, jl_2_m, jl_3_p, jl_3_m, jl_4_p, jl_4_m, jl_5_p, jl_5_m, js_0_1, js_0_2, js_1_1, js_1_2, js_2_1, js_2_2, js_3_1, js_3_2, js_4_1, js_4_2, chk_pos, if_pos, if_neg, bsm, h0, h1, h2])]
  simp only [bsm]
  unfold f_Y3_nextRow_34
  rw [if_pos (by decide)]
  simp only [bsm]
  rw [h6, js_3_1]
  unfold f_Y3_nextRow_47
  rw [FU_9, loop_step (a' := (1 : Int)) (by show f_Y3_nextRow_47C σ 0 2 = _; unfold f_Y3_nextRow_47C; simp (disch := omega) only [jl_0_p, jl_0_m, jl_1_p, jl_1_m, jl_2_p, jl_2_m, jl_3_p, jl_3_m, jl_4_p, jl_4_m, jl_5_p, jl_5_m, js_0_1, js_0_2, js_1_1, js_1_2, js_2_1, js_2_2, js_3_1, js_3_2, js_4_1, js_4_2, chk_pos, if_pos, if_neg, bsm, h0, h1, h2]), loop_end (b := (1 : Int)) (by show f_Y3_nextRow_47C σ 0 1 = _; unfold f_Y3_nextRow_47C; simp (disch := omega) only [jl_0_p, jl_0_m, jl_1_p, jl_1_m, jl_2_p, jl_2_m, jl_3_p, jl_3_m, jl_4_p, jl_4_m, jl_5_p, jl_5_m, js_0_1, js_0_2, js_1_1, js_1_2, js_2_1, js_2_2, js_3_1, js_3_2, js_4_1, js_4_2, chk_pos, if_pos, if_neg, bsm, h0, h1, h2])]
  simp only [bsm]
  unfold f_Y3_nextRow_75
  rw [bind_some' (swapY (by decide) (by decide) h0 h1)]
  obtain ⟨τ1, hτ1⟩ : ∃ z, z = (mup (mup σ 49 0 v1) 49 1 v0) := ⟨_, rfl⟩
  rw [← hτ1]
  simp only [bsm]
  rw [show τ1 45 6 = 3 by rw [hτ1, mup_miss (by omega), mup_miss (by omega), h6], jl_1_p, js_3_1]
  unfold f_Y3_nextRow_93
  have a0 : τ1 49 0 = v1 := by rw [hτ1]; simp (disch := omega) only [mup_hit, mup_miss, h0, h1, h2]
  have a1 : τ1 49 1 = v0 := by rw [hτ1]; simp (disch := omega) only [mup_hit, mup_miss, h0, h1, h2]
  have a2 : τ1 49 2 = v2 := by rw [hτ1]; simp (disch := omega) only [mup_hit, mup_miss, h0, h1, h2]
  obtain ⟨τ2, hτ2⟩ : ∃ z, z = mup (mup τ1 49 1 v2) 49 2 v0 := ⟨_, rfl⟩
  have b2_0 : τ2 49 0 = v1 := by rw [hτ2]; simp (disch := omega) only [mup_hit, mup_miss, a0]
  have b2_1 : τ2 49 1 = v2 := by rw [hτ2]; simp (disch := omega) only [mup_hit, mup_miss, a1]
  have b2_2 : τ2 49 2 = v0 := by rw [hτ2]; simp (disch := omega) only [mup_hit, mup_miss, a2]
  rw [FU_9, loop_step (a' := ((2 : Int), (1 : Int), τ2)) (by show f_Y3_nextRow_93C 1 2 τ1 = _; unfold f_Y3_nextRow_93C; rw [if_neg (by decide), bind_some' (swapY (by decide) (by decide) a1 a2), jl_2_p, jl_3_m, hτ2]; rfl), loop_end (b := τ2) (by show f_Y3_nextRow_93C 2 1 τ2 = _; unfold f_Y3_nextRow_93C; rw [if_pos (by decide)])]
  exact ⟨τ2, rfl, fun x hx => by rw [hτ2, mup_row hx, mup_row hx, hτ1, mup_row hx, mup_row hx], b2_0, b2_1, b2_2⟩
theorem ny3_1_2 {σ : Mem} {v0 v1 v2 : Int} (h6 : σ 45 6 = 3) (h0 : σ 49 0 = v0) (h1 : σ 49 1 = v1) (h2 : σ 49 2 = v2) (d1 : v2 < v1) (u : v0 < v1) (g : v0 < v2) : ∃ τ, f_Y3_nextRow σ = some (1, τ) ∧ (∀ x, x ≠ 49 → τ x = σ x) ∧ τ 49 0 = v2 ∧ τ 49 1 = v0 ∧ τ 49 2 = v1 := by
  unfold f_Y3_nextRow
  simp only [bsm]
  rw [h6, js_3_2]
  unfold f_Y3_nextRow_7
  rw [FU_9, loop_step (a' := (0 : Int)) (by show f_Y3_nextRow_7C σ 1 = _; unfold f_Y3_nextRow_7C; simp (disch := omega) only [jl_0_p, jl_0_m, jl_1_p, jl_1_m, jl_2_p, jl_2_m, jl_3_p, jl_3_m, jl_4_p, jl_4_m, jl_5_p, jl_5_m, js_0_1, js_0_2, js_1_1, js_1_2, js_2_1, js_2_2, js_3_1, js_3_2, js_4_1, js_4_2, chk_pos, if_pos, if_neg, bsm, h0, h1, h2]), loop_end (b := (0 : Int)) (by show f_Y3_nextRow_7C σ (0) = _; unfold f_Y3_nextRow_7C; simp (disch := omega) only [jl_0_p, jl_0_m, jl_1_p, jl_1_m, jl_2_p, jl_2_m, jl_3_p, jl_3_m, jl_4_p, jl_4_m, jl_5_p, jl_5_m, js_0_1, js_0_2, js_1_1, js_1_2, js_2_1, js_2_2, js_3_1, js_3_2, js_4_1, js_4_2, chk_pos, if_pos, if_neg, bsm, h0, h1, h2])]
  simp only [bsm]
  unfold f_Y3_nextRow_34
  rw [if_pos (by decide)]
  simp only [bsm]
  rw [h6, js_3_1]
  unfold f_Y3_nextRow_47
  rw [FU_9, loop_end (b := (2 : Int)) (by show f_Y3_nextRow_47C σ 0 2 = _; unfold f_Y3_nextRow_47C; simp (disch := omega) only [jl_0_p, jl_0_m, jl_1_p, jl_1_m, jl_2_p, jl_2_m, jl_3_p, jl_3_m, jl_4_p, jl_4_m, jl_5_p, jl_5_m, js_0_1, js_0_2, js_1_1, js_1_2, js_2_1, js_2_2, js_3_1, js_3_2, js_4_1, js_4_2, chk_pos, if_pos, if_neg, bsm, h0, h1, h2])]
  simp only [bsm]
  unfold f_Y3_nextRow_75
  rw [bind_some' (swapY (by decide) (by decide) h0 h2)]
  obtain ⟨τ1, hτ1⟩ : ∃ z, z = (mup (mup σ 49 0 v2) 49 2 v0) := ⟨_, rfl⟩
  rw [← hτ1]
  simp only [bsm]
  rw [show τ1 45 6 = 3 by rw [hτ1, mup_miss (by omega), mup_miss (by omega), h6], jl_1_p, js_3_1]
  unfold f_Y3_nextRow_93
  have a0 : τ1 49 0 = v2 := by rw [hτ1]; simp (disch := omega) only [mup_hit, mup_miss, h0, h1, h2]
  have a1 : τ1 49 1 = v1 := by rw [hτ1]; simp (disch := omega) only [mup_hit, mup_miss, h0, h1, h2]
  have a2 : τ1 49 2 = v0 := by rw [hτ1]; simp (disch := omega) only [mup_hit, mup_miss, h0, h1, h2]
  obtain ⟨τ2, hτ2⟩ : ∃ z, z = mup (mup τ1 49 1 v0) 49 2 v1 := ⟨_, rfl⟩
  have b2_0 : τ2 49 0 = v2 := by rw [hτ2]; simp (disch := omega) only [mup_hit, mup_miss, a0]
  have b2_1 : τ2 49 1 = v0 := by rw [hτ2]; simp (disch := omega) only [mup_hit, mup_miss, a1]
  have b2_2 : τ2 49 2 = v1 := by rw [hτ2]; simp (disch := omega) only [mup_hit, mup_miss, a2]
  rw [FU_9, loop_step (a' := ((2 : Int), (1 : Int), τ2)) (by show f_Y3_nextRow_93C 1 2 τ1 = _; unfold f_Y3_nextRow_93C; rw [if_neg (by decide), bind_some' (swapY (by decide) (by decide) a1 a2), jl_2_p, jl_3_m, hτ2]; rfl), loop_end (b := τ2) (by show f_Y3_nextRow_93C 2 1 τ2 = _; unfold f_Y3_nextRow_93C; rw [if_pos (by decide)])]
  exact ⟨τ2, rfl, fun x hx => by rw [hτ2, mup_row hx, mup_row hx, hτ1, mup_row hx, mup_row hx], b2_0, b2_1, b2_2⟩
theorem ny3_2_2 {σ : Mem} {v0 v1 v2 : Int} (h6 : σ 45 6 = 3) (h0 : σ 49 0 = v0) (h1 : σ 49 1 = v1) (h2 : σ 49 2 = v2) (u : v1 < v2) : ∃ τ, f_Y3_nextRow σ = some (1, τ) ∧ (∀ x, x ≠ 49 → τ x = σ x) ∧ τ 49 0 = v0 ∧ τ 49 1 = v2 ∧ τ 49 2 = v1 := by
  unfold f_Y3_nextRow
  simp only [bsm]
  rw [h6, js_3_2]
  unfold f_Y3_nextRow_7
  rw [FU_9, loop_end (b := (1 : Int)) (by show f_Y3_nextRow_7C σ (1) = _; unfold f_Y3_nextRow_7C; simp (disch := omega) only [jl_0_p, jl_0_m, jl_1_p, jl_1_m, jl_2_p, jl_2_m, jl_3_p, jl_3_m, jl_4_p, jl_4_m, jl_5_p, jl_5_m, js_0_1, js_0_2, js_1_1, js_1_2, js_2_1, js_2_2, js_3_1, js_3_2, js_4_1, js_4_2, chk_pos, if_pos, if_neg, bsm, h0, h1, h2])]
  simp only [bsm]
  unfold f_Y3_nextRow_34
  rw [if_pos (by decide)]
  simp only [bsm]
  rw [h6, js_3_1]
  unfold f_Y3_nextRow_47
  rw [FU_9, loop_end (b := (2 : Int)) (by show f_Y3_nextRow_47C σ 1 2 = _; unfold f_Y3_nextRow_47C; simp (disch := omega) only [jl_0_p, jl_0_m, jl_1_p, jl_1_m, jl_2_p, jl_2_m, jl_3_p, jl_3_m, jl_4_p, jl_4_m, jl_5_p, jl_5_m, js_0_1, js_0_2, js_1_1, js_1_2, js_2_1, js_2_2, js_3_1, js_3_2, js_4_1, js_4_2, chk_pos, if_pos, if_neg, bsm, h0, h1, h2])]
  simp only [bsm]
  unfold f_Y3_nextRow_75
  rw [bind_some' (swapY (by decide) (by decide) h1 h2)]
  obtain ⟨τ1, hτ1⟩ : ∃ z, z = (mup (mup σ 49 1 v2) 49 2 v1) := ⟨_, rfl⟩
  rw [← hτ1]
  simp only [bsm]
  rw [show τ1 45 6 = 3 by rw [hτ1, mup_miss (by omega), mup_miss (by omega), h6], jl_2_p, js_3_1]
  unfold f_Y3_nextRow_93
  have a0 : τ1 49 0 = v0 := by rw [hτ1]; simp (disch := omega) only [mup_hit, mup_miss, h0, h1, h2]
  have a1 : τ1 49 1 = v2 := by rw [hτ1]; simp (disch := omega) only [mup_hit, mup_miss, h0, h1, h2]
  have a2 : τ1 49 2 = v1 := by rw [hτ1]; simp (disch := omega) only [mup_hit, mup_miss, h0, h1, h2]
  rw [FU_9, loop_end (b := τ1) (by show f_Y3_nextRow_93C 2 2 τ1 = _; unfold f_Y3_nextRow_93C; rw [if_pos (by decide)])]
  exact ⟨τ1, rfl, fun x hx => by rw [hτ1, mup_row hx, mup_row hx], a0, a1, a2⟩
theorem ny4_e {σ : Mem} {v0 v1 v2 v3 : Int} (h6 : σ 45 6 = 4) (h0 : σ 49 0 = v0) (h1 : σ 49 1 = v1) (h2 : σ 49 2 = v2) (h3 : σ 49 3 = v3) (d0 : v1 < v0) (d1 : v2 < v1) (d2 : v3 < v2) : f_Y3_nextRow σ = some (0, σ) := by
  unfold f_Y3_nextRow
  simp only [bsm]
  rw [h6, js_4_2]
  unfold f_Y3_nextRow_7
  rw [FU_9, loop_step (a' := (1 : Int)) (by show f_Y3_nextRow_7C σ 2 = _; unfold f_Y3_nextRow_7C; simp (disch := omega) only [jl_0_p, jl_0_m, jl_1_p, jl_1_m, jl_2_p, jl_2_m, jl_3_p, jl_3_m, jl_4_p, jl_4_m, jl_5_p, jl_5_m, js_0_1, js_0_2, js_1_1, js_1_2, js_2_1, js_2_2, js_3_1, js_3_2, js_4_1, js_4_2, chk_pos, if_pos, if_neg, bsm, h0, h1, h2, h3]), loop_step (a' := (0 : Int)) (by show f_Y3_nextRow_7C σ 1 = _; unfold f_Y3_nextRow_7C; simp (disch := omega) only [jl_0_p, jl_0_m, jl_1_p, jl_1_m, jl_2_p, jl_2_m, jl_3_p, jl_3_m, jl_4_p, jl_4_m, jl_5_p, jl_5_m, js_0_1, js_0_2, js_1_1, js_1_2, js_2_1, js_2_2, js_3_1, js_3_2, js_4_1, js_4_2, chk_pos, if_pos, if_neg, bsm, h0, h1, h2, h3]), loop_step (a' := (-1 : Int)) (by show f_Y3_nextRow_7C σ 0 = _; unfold f_Y3_nextRow_7C; simp (disch := omega) only [jl_0_p, jl_0_m, jl_1_p, jl_1_m, jl_2_p, jl_2_m, jl_3_p, jl_3_m, jl_4_p, jl_4_m, jl_5_p, jl_5_m, js_0_1, js_0_2, js_1_1, js_1_2, js_2_1, js_2_2, js_3_1, js_3_2, js_4_1, js_4_2, chk_pos, if_pos, if_neg, bsm, h0, h1, h2, h3]), loop_end (b := (-1 : Int)) (by show f_Y3_nextRow_7C σ (-1) = _; unfold f_Y3_nextRow_7C; simp (disch := omega) only [jl_0_p, jl_0_m, jl_1_p, jl_1_m, jl_2_p, jl_2_m, jl_3_p, jl_3_m, jl_4_p, jl_4_m, jl_5_p, jl_5_m, js_0_1, js_0_2, js_1_1, js_1_2, js_2_1, js_2_2, js_3_1, js_3_2, js_4_1, js_4_2, chk_pos, if_pos, if_neg, bsm, h0, h1, h2, h3])]
  simp only [bsm]
  unfold f_Y3_nextRow_34
  rw [if_neg (by decide)]
theorem ny4_1_1 {σ : Mem} {v0 v1 v2 v3 : Int} (h6 : σ 45 6 = 4) (h0 : σ 49 0 = v0) (h1 : σ 49 1 = v1) (h2 : σ 49 2 = v2) (h3 : σ 49 3 = v3) (d1 : v2 < v1) (d2 : v3 < v2) (u : v0 < v1) (e3 : v3 < v0) (e2 : v2 < v0) : ∃ τ, f_Y3_nextRow σ = some (1, τ) ∧ (∀ x, x ≠ 49 → τ x = σ x) ∧ τ 49 0 = v1 ∧ τ 49 1 = v3 ∧ τ 49 2 = v2 ∧ τ 49 3 = v0 := by
  unfold f_Y3_nextRow
  simp only [bsm]
  rw [h6, js_4_2]
  unfold f_Y3_nextRow_7
  rw [FU_9, loop_step (a' := (1 : Int)) (by show f_Y3_nextRow_7C σ 2 = _; unfold f_Y3_nextRow_7C; simp (disch := omega) only [jl_0_p, jl_0_m, jl_1_p, jl_1_m, jl_2_p, jl_2_m, jl_3_p, jl_3_m, jl_4_p, jl_4_m, jl_5_p, jl_5_m, js_0_1, js_0_2, js_1_1, js_1_2, js_2_1, js_2_2, js_3_1, js_3_2, js_4_1, js_4_2, chk_pos, if_pos, if_neg, bsm, h0, h1, h2, h3]), loop_step (a' := (0 : Int)) (by show f_Y3_nextRow_7C σ 1 = _; unfold f_Y3_nextRow_7C; simp (disch := omega) only [jl_0_p, jl_0_m, jl_1_p, jl_1_m, jl_2_p, jl_2_m, jl_3_p, jl_3_m, jl_4_p, jl_4_m, jl_5_p, jl_5_m, js_0_1, js_0_2, js_1_1, js_1_2, js_2_1, js_2_2, js_3_1, js_3_2, js_4_1, js_4_2, chk_pos, if_pos, if_neg, bsm, h0, h1, h2, h3]), loop_end (b := (0 : Int)) (by show f_Y3_nextRow_7C σ (0) = _; unfold f_Y3_nextRow_7C; simp (disch := omega) only [jl_0_p, jl_0_m, jl_1_p, jl_1_m, jl_2_p, jl_2_m, jl_3_p, jl_3_m, jl_4_p, jl_4_m, jl_5_p, jl_5_m, js_0_1, js_0_2, js_1_1, js_1_2, js_2_1, js_2_2, js_3_1, js_3_2, js_4_1, js_4_2, chk_pos, if_pos, if_neg, bsm, h0, h1, h2, h3])]
  simp only [bsm]
  unfold f_Y3_nextRow_34
  rw [if_pos (by decide)]
  simp only [bsm]
  rw [h6, js_4_1]
  unfold f_Y3_nextRow_47
  rw [FU_9, loop_step (a' := (2 : Int)) (by show f_Y3_nextRow_47C σ 0 3 = _; unfold f_Y3_nextRow_47C; simp (disch := omega) only [jl_0_p, jl_0_m, jl_1_p, jl_1_m, jl_2_p, jl_2_m, jl_3_p, jl_3_m, jl_4_p, jl_4_m, jl_5_p, jl_5_m, js_0_1, js_0_2, js_1_1, js_1_2, js_2_1, js_2_2, js_3_1, js_3_2, js_4_1, js_4_2, chk_pos, if_pos, if_neg, bsm, h0, h1, h2, h3]), loop_step (a' := (1 : Int)) (by show f_Y3_nextRow_47C σ 0 2 = _; unfold f_Y3_nextRow_47C; simp (disch := omega) only [jl_0_p, jl_0_m, jl_1_p, jl_1_m, jl_2_p, jl_2_m, jl_3_p, jl_3_m, jl_4_p, jl_4_m, jl_5_p, jl_5_m, js_0_1, js_0_2, js_1_1, js_1_2, js_2_1, js_2_2, js_3_1, js_3_2, js_4_1, js_4_2, chk_pos, if_pos, if_neg, bsm, h0, h1, h2, h3]), loop_end (b := (1 : Int)) (by show f_Y3_nextRow_47C σ 0 1 = _; unfold f_Y3_nextRow_47C; simp (disch := omega) only [jl_0_p, jl_0_m, jl_1_p, jl_1_m, jl_2_p, jl_2_m, jl_3_p, jl_3_m, jl_4_p, jl_4_m, jl_5_p, jl_5_m, js_0_1, js_0_2, js_1_1, js_1_2, js_2_1, js_2_2, js_3_1, js_3_2, js_4_1, js_4_2, chk_pos, if_pos, if_neg, bsm, h0, h1, h2, h3])]
  simp only [bsm]
  unfold f_Y3_nextRow_75
  rw [bind_some' (swapY (by decide) (by decide) h0 h1)]
  obtain ⟨τ1, hτ1⟩ : ∃ z, z = (mup (mup σ 49 0 v1) 49 1 v0) := ⟨_, rfl⟩
  rw [← hτ1]
  simp only [bsm]
  rw [show τ1 45 6 = 4 by rw [hτ1, mup_miss (by omega), mup_miss (by omega), h6], jl_1_p, js_4_1]
  unfold f_Y3_nextRow_93
  have a0 : τ1 49 0 = v1 := by rw [hτ1]; simp (disch := omega) only [mup_hit, mup_miss, h0, h1, h2, h3]
  have a1 : τ1 49 1 = v0 := by rw [hτ1]; simp (disch := omega) only [mup_hit, mup_miss, h0, h1, h2, h3]
  have a2 : τ1 49 2 = v2 := by rw [hτ1]; simp (disch := omega) only [mup_hit, mup_miss, h0, h1, h2, h3]
  have a3 : τ1 49 3 = v3 := by rw [hτ1]; simp (disch := omega) only [mup_hit, mup_miss, h0, h1, h2, h3]
  obtain ⟨τ2, hτ2⟩ : ∃ z, z = mup (mup τ1 49 1 v3) 49 3 v0 := ⟨_, rfl⟩
  have b2_0 : τ2 49 0 = v1 := by rw [hτ2]; simp (disch := omega) only [mup_hit, mup_miss, a0]
  have b2_1 : τ2 49 1 = v3 := by rw [hτ2]; simp (disch := omega) only [mup_hit, mup_miss, a1]
  have b2_2 : τ2 49 2 = v2 := by rw [hτ2]; simp (disch := omega) only [mup_hit, mup_miss, a2]
  have b2_3 : τ2 49 3 = v0 := by rw [hτ2]; simp (disch := omega) only [mup_hit, mup_miss, a3]
  rw [FU_9, loop_step (a' := ((2 : Int), (2 : Int), τ2)) (by show f_Y3_nextRow_93C 1 3 τ1 = _; unfold f_Y3_nextRow_93C; rw [if_neg (by decide), bind_some' (swapY (by decide) (by decide) a1 a3), jl_2_p, jl_4_m, hτ2]; rfl), loop_end (b := τ2) (by show f_Y3_nextRow_93C 2 2 τ2 = _; unfold f_Y3_nextRow_93C; rw [if_pos (by decide)])]
  exact ⟨τ2, rfl, fun x hx => by rw [hτ2, mup_row hx, mup_row hx, hτ1, mup_row hx, mup_row hx], b2_0, b2_1, b2_2, b2_3⟩
theorem ny4_1_2 {σ : Mem} {v0 v1 v2 v3 : Int} (h6 : σ 45 6 = 4) (h0 : σ 49 0 = v0) (h1 : σ 49 1 = v1) (h2 : σ 49 2 = v2) (h3 : σ 49 3 = v3) (d1 : v2 < v1) (d2 : v3 < v2) (u : v0 < v1) (e3 : v3 < v0) (g : v0 < v2) : ∃ τ, f_Y3_nextRow σ = some (1, τ) ∧ (∀ x, x ≠ 49 → τ x = σ x) ∧ τ 49 0 = v2 ∧ τ 49 1 = v3 ∧ τ 49 2 = v0 ∧ τ 49 3 = v1 := by
  unfold f_Y3_nextRow
  simp only [bsm]
  rw [h6, js_4_2]
  unfold f_Y3_nextRow_7
  rw [FU_9, loop_step (a' := (1 : Int)) (by show f_Y3_nextRow_7C σ 2 = _; unfold f_Y3_nextRow_7C; simp (disch := omega) only [jl_0_p, jl_0_m, jl_1_p, jl_1_m, jl_2_p, jl_2_m, jl_3_p, jl_3_m, jl_4_p, jl_4_m, jl_5_p, jl_5_m, js_0_1, js_0_2, js_1_1, js_1_2, js_2_1, js_2_2, js_3_1, js_3_2, js_4_1, js_4_2, chk_pos, if_pos, if_neg, bsm, h0, h1, h2, h3]), loop_step (a' := (0 : Int)) (by show f_Y3_nextRow_7C σ 1 = _; unfold f_Y3_nextRow_7C; simp (disch := omega) only [jl_0_p, jl_0_m, jl_1_p, jl_1_m, jl_2_p, jl_2_m, jl_3_p, jl_3_m, jl_4_p, jl_4_m, jl_5_p, jl_5_m, js_0_1, js_0_2, js_1_1, js_1_2, js_2_1, js_2_2, js_3_1, js_3_2, js_4_1, js_4_2, chk_pos, if_pos, if_neg, bsm, h0, h1, h2, h3]), loop_end (b := (0 : Int)) (by show f_Y3_nextRow_7C σ (0) = _; unfold f_Y3_nextRow_7C; simp (disch := omega) only [jl_0_p, jl_0_m, jl_1_p, jl_1_m, jl_2_p, jl_2_m, jl_3_p, jl_3_m, jl_4_p, jl_4_m, jl_5_p, jl_5_m, js_0_1, js_0_2, js_1_1, js_1_2, js_2_1, js_2_2, js_3_1, js_3_2, js_4_1, js_4_2, chk_pos, if_pos, if_neg, bsm, h0, h1, h2, h3])]
  simp only [bsm]
  unfold f_Y3_nextRow_34
  rw [if_pos (by decide)]
  simp only [bsm]
  rw [h6, js_4_1]
  unfold f_Y3_nextRow_47
  rw [FU_9, loop_step (a' := (2 : Int)) (by show f_Y3_nextRow_47C σ 0 3 = _; unfold f_Y3_nextRow_47C; simp (disch := omega) only [jl_0_p, jl_0_m, jl_1_p, jl_1_m, jl_2_p, jl_2_m, jl_3_p, jl_3_m, jl_4_p, jl_4_m, jl_5_p, jl_5_m, js_0_1, js_0_2, js_1_1, js_1_2, js_2_1, js_2_2, js_3_1, js_3_2, js_4_1, js_4_2, chk_pos, if_pos, if_neg, bsm, h0, h1, h2, h3]), loop_end (b := (2 : Int)) (by show f_Y3_nextRow_47C σ 0 2 = _; unfold f_Y3_nextRow_47C; simp (disch := omega) only [jl_0_p, jl_0_m, jl_1_p, jl_1_m, jl_2_p, jl_2_m, jl_3_p, jl_3_m, jl_4_p, jl_4_m, jl_5_p, jl_5_m, js_0_1, js_0_2, js_1_1, js_1_2, js_2_1, js_2_2, js_3_1, js_3_2, js_4_1, js_4_2, chk_pos, if_pos, if_neg, bsm, h0, h1, h2, h3])]
  simp only [bsm]
  unfold f_Y3_nextRow_75
  rw [bind_some' (swapY (by decide) (by decide) h0 h2)]
  obtain ⟨τ1, hτ1⟩ : ∃ z, z = (mup (mup σ 49 0 v2) 49 2 v0) := ⟨_, rfl⟩
  rw [← hτ1]
  simp only [bsm]
  rw [show τ1 45 6 = 4 by rw [hτ1, mup_miss (by omega), mup_miss (by omega), h6], jl_1_p, js_4_1]
  unfold f_Y3_nextRow_93
  have a0 : τ1 49 0 = v2 := by rw [hτ1]; simp (disch := omega) only [mup_hit, mup_miss, h0, h1, h2, h3]
  have a1 : τ1 49 1 = v1 := by rw [hτ1]; simp (disch := omega) only [mup_hit, mup_miss, h0, h1, h2, h3]
  have a2 : τ1 49 2 = v0 := by rw [hτ1]; simp (disch := omega) only [mup_hit, mup_miss, h0, h1, h2, h3]
  have a3 : τ1 49 3 = v3 := by rw [hτ1]; simp (disch := omega) only [mup_hit, mup_miss, h0, h1, h2, h3]
  obtain ⟨τ2, hτ2⟩ : ∃ z, z = mup (mup τ1 49 1 v3) 49 3 v1 := ⟨_, rfl⟩
  have b2_0 : τ2 49 0 = v2 := by rw [hτ2]; simp (disch := omega) only [mup_hit, mup_miss, a0]
  have b2_1 : τ2 49 1 = v3 := by rw [hτ2]; simp (disch := omega) only [mup_hit, mup_miss, a1]
  have b2_2 : τ2 49 2 = v0 := by rw [hτ2]; simp (disch := omega) only [mup_hit, mup_miss, a2]
  have b2_3 : τ2 49 3 = v1 := by rw [hτ2]; simp (disch := omega) only [mup_hit, mup_miss, a3]
  rw [FU_9, loop_step (a' := ((2 : Int), (2 : Int), τ2)) (by show f_Y3_nextRow_93C 1 3 τ1 = _; unfold f_Y3_nextRow_93C; rw [if_neg (by decide), bind_some' (swapY (by decide) (by decide) a1 a3), jl_2_p, jl_4_m, hτ2]; rfl), loop_end (b := τ2) (by show f_Y3_nextRow_93C 2 2 τ2 = _; unfold f_Y3_nextRow_93C; rw [if_pos (by decide)])]
  exact ⟨τ2, rfl, fun x hx => by rw [hτ2, mup_row hx, mup_row hx, hτ1, mup_row hx, mup_row hx], b2_0, b2_1, b2_2, b2_3⟩
theorem ny4_1_3 {σ : Mem} {v0 v1 v2 v3 : Int} (h6 : σ 45 6 = 4) (h0 : σ 49 0 = v0) (h1 : σ 49 1 = v1) (h2 : σ 49 2 = v2) (h3 : σ 49 3 = v3) (d1 : v2 < v1) (d2 : v3 < v2) (u : v0 < v1) (g : v0 < v3) : ∃ τ, f_Y3_nextRow σ = some (1, τ) ∧ (∀ x, x ≠ 49 → τ x = σ x) ∧ τ 49 0 = v3 ∧ τ 49 1 = v0 ∧ τ 49 2 = v2 ∧ τ 49 3 = v1 := by
  unfold f_Y3_nextRow
  simp only [bsm]
  rw [h6, js_4_2]
  unfold f_Y3_nextRow_7
  rw [FU_9, loop_step (a' := (1 : Int)) (by show f_Y3_nextRow_7C σ 2 = _; unfold f_Y3_nextRow_7C; simp (disch := omega) only [jl_0_p, jl_0_m, jl_1_p, jl_1_m, jl_2_p, jl_2_m, jl_3_p, jl_3_m, jl_4_p, jl_4_m, jl_5_p, jl_5_m, js_0_1, js_0_2, js_1_1, js_1_2, js_2_1, js_2_2, js_3_1, js_3_2, js_4_1, js_4_2, chk_pos, if_pos, if_neg, bsm, h0, h1, h2, h3]), loop_step (a' := (0 : Int)) (by show f_Y3_nextRow_7C σ 1 = _; unfold f_Y3_nextRow_7C; simp (disch := omega) only [jl_0_p, jl_0_m, jl_1_p, jl_1_m, jl_2_p, jl_2_m, jl_3_p, jl_3_m, jl_4_p, jl_4_m, jl_5_p, jl_5_m, js_0_1, js_0_2, js_1_1, js_1_2, js_2_1, js_2_2, js_3_1, js_3_2, js_4_1, js_4_2, chk_pos, if_pos, if_neg, bsm, h0, h1, h2, h3]), loop_end (b := (0 : Int)) (by show f_Y3_nextRow_7C σ (0) = _; unfold f_Y3_nextRow_7C; simp (disch := omega) only [jl_0_p, jl_0_m, jl_1_p, jl_1_m, jl_2_p, jl_2_m, jl_3_p, jl_3_m, jl_4_p, jl_4_m, jl_5_p, jl_5_m, js_0_1, js_0_2, js_1_1, js_1_2, js_2_1, js_2_2, js_3_1, js_3_2, js_4_1, js_4_2, chk_pos, if_pos, if_neg, bsm, h0, h1, h2, h3])]
  simp only [bsm]
  unfold f_Y3_nextRow_34
  rw [if_pos (by decide)]
  simp only [bsm]
  rw [h6, js_4_1]
  unfold f_Y3_nextRow_47
  rw [FU_9, loop_end (b := (3 : Int)) (by show f_Y3_nextRow_47C σ 0 3 = _; unfold f_Y3_nextRow_47C; simp (disch := omega) only [jl_0_p, jl_0_m, jl_1_p, jl_1_m, jl_2_p, jl_2_m, jl_3_p, jl_3_m, jl_4_p, jl_4_m, jl_5_p, jl_5_m, js_0_1, js_0_2, js_1_1, js_1_2, js_2_1, js_2_2, js_3_1, js_3_2, js_4_1, js_4_2, chk_pos, if_pos, if_neg, bsm, h0, h1, h2, h3])]
  simp only [bsm]
  unfold f_Y3_nextRow_75
  rw [bind_some' (swapY (by decide) (by decide) h0 h3)]
  obtain ⟨τ1, hτ1⟩ : ∃ z, z = (mup (mup σ 49 0 v3) 49 3 v0) := ⟨_, rfl⟩
  rw [← hτ1]
  simp only [bsm]
  rw [show τ1 45 6 = 4 by rw [hτ1, mup_miss (by omega), mup_miss (by omega), h6], jl_1_p, js_4_1]
  unfold f_Y3_nextRow_93
  have a0 : τ1 49 0 = v3 := by rw [hτ1]; simp (disch := omega) only [mup_hit, mup_miss, h0, h1, h2, h3]
  have a1 : τ1 49 1 = v1 := by rw [hτ1]; simp (disch := omega) only [mup_hit, mup_miss, h0, h1, h2, h3]
  have a2 : τ1 49 2 = v2 := by rw [hτ1]; simp (disch := omega) only [mup_hit, mup_miss, h0, h1, h2, h3]
  have a3 : τ1 49 3 = v0 := by rw [hτ1]; simp (disch := omega) only [mup_hit, mup_miss, h0, h1, h2, h3]
  obtain ⟨τ2, hτ2⟩ : ∃ z, z = mup (mup τ1 49 1 v0) 49 3 v1 := ⟨_, rfl⟩
  have b2_0 : τ2 49 0 = v3 := by rw [hτ2]; simp (disch := omega) only [mup_hit, mup_miss, a0]
  have b2_1 : τ2 49 1 = v0 := by rw [hτ2]; simp (disch := omega) only [mup_hit, mup_miss, a1]
  have b2_2 : τ2 49 2 = v2 := by rw [hτ2]; simp (disch := omega) only [mup_hit, mup_miss, a2]
  have b2_3 : τ2 49 3 = v1 := by rw [hτ2]; simp (disch := omega) only [mup_hit, mup_miss, a3]
  rw [FU_9, loop_step (a' := ((2 : Int), (2 : Int), τ2)) (by show f_Y3_nextRow_93C 1 3 τ1 = _; unfold f_Y3_nextRow_93C; rw [if_neg (by decide), bind_some' (swapY (by decide) (by decide) a1 a3), jl_2_p, jl_4_m, hτ2]; rfl), loop_end (b := τ2) (by show f_Y3_nextRow_93C 2 2 τ2 = _; unfold f_Y3_nextRow_93C; rw [if_pos (by decide)])]
  exact ⟨τ2, rfl, fun x hx => by rw [hτ2, mup_row hx, mup_row hx, hτ1, mup_row hx, mup_row hx], b2_0, b2_1, b2_2, b2_3⟩
theorem ny4_2_2 {σ : Mem} {v0 v1 v2 v3 : Int} (h6 : σ 45 6 = 4) (h0 : σ 49 0 = v0) (h1 : σ 49 1 = v1) (h2 : σ 49 2 = v2) (h3 : σ 49 3 = v3) (d2 : v3 < v2) (u : v1 < v2) (e3 : v3 < v1) : ∃ τ, f_Y3_nextRow σ = some (1, τ) ∧ (∀ x, x ≠ 49 → τ x = σ x) ∧ τ 49 0 = v0 ∧ τ 49 1 = v2 ∧ τ 49 2 = v3 ∧ τ 49 3 = v1 := by
  unfold f_Y3_nextRow
  simp only [bsm]
  rw [h6, js_4_2]
  unfold f_Y3_nextRow_7
  rw [FU_9, loop_step (a' := (1 : Int)) (by show f_Y3_nextRow_7C σ 2 = _; unfold f_Y3_nextRow_7C; simp (disch := omega) only [jl_0_p, jl_0_m, jl_1_p, jl_1_m, jl_2_p, jl_2_m, jl_3_p, jl_3_m, jl_4_p, jl_4_m, jl_5_p, jl_5_m, js_0_1, js_0_2, js_1_1, js_1_2, js_2_1, js_2_2, js_3_1, js_3_2, js_4_1, js_4_2, chk_pos, if_pos, if_neg, bsm, h0, h1, h2, h3]), loop_end (b := (1 : Int)) (by show f_Y3_nextRow_7C σ (1) = _; unfold f_Y3_nextRow_7C; simp (disch := omega) only [jl_0_p, jl_0_m, jl_1_p, jl_1_m, jl_2_p, jl_2_m, jl_3_p, jl_3_m, jl_4_p, jl_4_m, jl_5_p, jl_5_m, js_0_1, js_0_2, js_1_1, js_1_2, js_2_1, js_2_2, js_3_1, js_3_2, js_4_1, js_4_2, chk_pos, if_pos, if_neg, bsm, h0, h1, h2, h3])]
  simp only [bsm]
  unfold f_Y3_nextRow_34
  rw [if_pos (by decide)]
  simp only [bsm]
  rw [h6, js_4_1]
  unfold f_Y3_nextRow_47
  rw [FU_9, loop_step (a' := (2 : Int)) (by show f_Y3_nextRow_47C σ 1 3 = _; unfold f_Y3_nextRow_47C; simp (disch := omega) only [jl_0_p, jl_0_m, jl_1_p, jl_1_m, jl_2_p, jl_2_m, jl_3_p, jl_3_m, jl_4_p, jl_4_m, jl_5_p, jl_5_m, js_0_1, js_0_2, js_1_1, js_1_2, js_2_1, js_2_2, js_3_1, js_3_2, js_4_1, js_4_2, chk_pos, if_pos, if_neg, bsm, h0, h1, h2, h3]), loop_end (b := (2 : Int)) (by show f_Y3_nextRow_47C σ 1 2 = _; unfold f_Y3_nextRow_47C; simp (disch := omega) only [jl_0_p, jl_0_m, jl_1_p, jl_1_m, jl_2_p, jl_2_m, jl_3_p, jl_3_m, jl_4_p, jl_4_m, jl_5_p, jl_5_m, js_0_1, js_0_2, js_1_1, js_1_2, js_2_1, js_2_2, js_3_1, js_3_2, js_4_1, js_4_2, chk_pos, if_pos, if_neg, bsm, h0, h1, h2, h3])]
  simp only [bsm]
  unfold f_Y3_nextRow_75
  rw [bind_some' (swapY (by decide) (by decide) h1 h2)]
  obtain ⟨τ1, hτ1⟩ : ∃ z, z = (mup (mup σ 49 1 v2) 49 2 v1) := ⟨_, rfl⟩
  rw [← hτ1]
  simp only [bsm]
  rw [show τ1 45 6 = 4 by rw [hτ1, mup_miss (by omega), mup_miss (by omega), h6], jl_2_p, js_4_1]
  unfold f_Y3_nextRow_93
  have a0 : τ1 49 0 = v0 := by rw [hτ1]; simp (disch := omega) only [mup_hit, mup_miss, h0, h1, h2, h3]
  have a1 : τ1 49 1 = v2 := by rw [hτ1]; simp (disch := omega) only [mup_hit, mup_miss, h0, h1, h2, h3]
  have a2 : τ1 49 2 = v1 := by rw [hτ1]; simp (disch := omega) only [mup_hit, mup_miss, h0, h1, h2, h3]
  have a3 : τ1 49 3 = v3 := by rw [hτ1]; simp (disch := omega) only [mup_hit, mup_miss, h0, h1, h2, h3]
  obtain ⟨τ2, hτ2⟩ : ∃ z, z = mup (mup τ1 49 2 v3) 49 3 v1 := ⟨_, rfl⟩
  have b2_0 : τ2 49 0 = v0 := by rw [hτ2]; simp (disch := omega) only [mup_hit, mup_miss, a0]
  have b2_1 : τ2 49 1 = v2 := by rw [hτ2]; simp (disch := omega) only [mup_hit, mup_miss, a1]
  have b2_2 : τ2 49 2 = v3 := by rw [hτ2]; simp (disch := omega) only [mup_hit, mup_miss, a2]
  have b2_3 : τ2 49 3 = v1 := by rw [hτ2]; simp (disch := omega) only [mup_hit, mup_miss, a3]
  rw [FU_9, loop_step (a' := ((3 : Int), (2 : Int), τ2)) (by show f_Y3_nextRow_93C 2 3 τ1 = _; unfold f_Y3_nextRow_93C; rw [if_neg (by decide), bind_some' (swapY (by decide) (by decide) a2 a3), jl_3_p, jl_4_m, hτ2]; rfl), loop_end (b := τ2) (by show f_Y3_nextRow_93C 3 2 τ2 = _; unfold f_Y3_nextRow_93C; rw [if_pos (by decide)])]
  exact ⟨τ2, rfl, fun x hx => by rw [hτ2, mup_row hx, mup_row hx, hτ1, mup_row hx, mup_row hx], b2_0, b2_1, b2_2, b2_3⟩
theorem ny4_2_3 {σ : Mem} {v0 v1 v2 v3 : Int} (h6 : σ 45 6 = 4) (h0 : σ 49 0 = v0) (h1 : σ 49 1 = v1) (h2 : σ 49 2 = v2) (h3 : σ 49 3 = v3) (d2 : v3 < v2) (u : v1 < v2) (g : v1 < v3) : ∃ τ, f_Y3_nextRow σ = some (1, τ) ∧ (∀ x, x ≠ 49 → τ x = σ x) ∧ τ 49 0 = v0 ∧ τ 49 1 = v3 ∧ τ 49 2 = v1 ∧ τ 49 3 = v2 := by
  unfold f_Y3_nextRow
  simp only [bsm]
  rw [h6, js_4_2]
  unfold f_Y3_nextRow_7
  rw [FU_9, loop_step (a' := (1 : Int)) (by show f_Y3_nextRow_7C σ 2 = _; unfold f_Y3_nextRow_7C; simp (disch := omega) only [jl_0_p, jl_0_m, jl_1_p, jl_1_m, jl_2_p, jl_2_m, jl_3_p, jl_3_m, jl_4_p, jl_4_m, jl_5_p, jl_5_m, js_0_1, js_0_2, js_1_1, js_1_2, js_2_1, js_2_2, js_3_1, js_3_2, js_4_1, js_4_2, chk_pos, if_pos, if_neg, bsm, h0, h1, h2, h3]), loop_end (b := (1 : Int)) (by show f_Y3_nextRow_7C σ (1) = _; unfold f_Y3_nextRow_7C; simp (disch := omega) only [jl_0_p, jl_0_m, jl_1_p, jl_1_m, jl_2_p, jl_2_m, jl_3_p, jl_3_m, jl_4_p, jl_4_m, jl_5_p, jl_5_m, js_0_1, js_0_2, js_1_1, js_1_2, js_2_1, js_2_2, js_3_1, js_3_2, js_4_1, js_4_2, chk_pos, if_pos, if_neg, bsm, h0, h1, h2, h3])]
  simp only [bsm]
  unfold f_Y3_nextRow_34
  rw [if_pos (by decide)]
  simp only [bsm]
  rw [h6, js_4_1]
  unfold f_Y3_nextRow_47
  rw [FU_9, loop_end (b := (3 : Int)) (by show f_Y3_nextRow_47C σ 1 3 = _; unfold f_Y3_nextRow_47C; simp (disch := omega) only [jl_0_p, jl_0_m, jl_1_p, jl_1_m, jl_2_p, jl_2_m, jl_3_p, jl_3_m, jl_4_p, jl_4_m, jl_5_p, jl_5_m, js_0_1, js_0_2, js_1_1, js_1_2, js_2_1, js_2_2, js_3_1, js_3_2, js_4_1, js_4_2, chk_pos, if_pos, if_neg, bsm, h0, h1, h2, h3])]
  simp only [bsm]
  unfold f_Y3_nextRow_75
  rw [bind_some' (swapY (by decide) (by decide) h1 h3)]
  obtain ⟨τ1, hτ1⟩ : ∃ z, z = (mup (mup σ 49 1 v3) 49 3 v1) := ⟨_, rfl⟩
  rw [← hτ1]
  simp only [bsm]
  rw [show τ1 45 6 = 4 by rw [hτ1, mup_miss (by omega), mup_miss (by omega), h6], jl_2_p, js_4_1]
  unfold f_Y3_nextRow_93
  have a0 : τ1 49 0 = v0 := by rw [hτ1]; simp (disch := omega) only [mup_hit, mup_miss, h0, h1, h2, h3]
  have a1 : τ1 49 1 = v3 := by rw [hτ1]; simp (disch := omega) only [mup_hit, mup_miss, h0, h1, h2, h3]
  have a2 : τ1 49 2 = v2 := by rw [hτ1]; simp (disch := omega) only [mup_hit, mup_miss, h0, h1, h2, h3]
  have a3 : τ1 49 3 = v1 := by rw [hτ1]; simp (disch := omega) only [mup_hit, mup_miss, h0, h1, h2, h3]
  obtain ⟨τ2, hτ2⟩ : ∃ z, z = mup (mup τ1 49 2 v1) 49 3 v2 := ⟨_, rfl⟩
  have b2_0 : τ2 49 0 = v0 := by rw [hτ2]; simp (disch := omega) only [mup_hit, mup_miss, a0]
  have b2_1 : τ2 49 1 = v3 := by rw [hτ2]; simp (disch := omega) only [mup_hit, mup_miss, a1]
  have b2_2 : τ2 49 2 = v1 := by rw [hτ2]; simp (disch := omega) only [mup_hit, mup_miss, a2]
  have b2_3 : τ2 49 3 = v2 := by rw [hτ2]; simp (disch := omega) only [mup_hit, mup_miss, a3]
  rw [FU_9, loop_step (a' := ((3 : Int), (2 : Int), τ2)) (by show f_Y3_nextRow_93C 2 3 τ1 = _; unfold f_Y3_nextRow_93C; rw [if_neg (by decide), bind_some' (swapY (by decide) (by decide) a2 a3), jl_3_p, jl_4_m, hτ2]; rfl), loop_end (b := τ2) (by show f_Y3_nextRow_93C 3 2 τ2 = _; unfold f_Y3_nextRow_93C; rw [if_pos (by decide)])]
  exact ⟨τ2, rfl, fun x hx => by rw [hτ2, mup_row hx, mup_row hx, hτ1, mup_row hx, mup_row hx], b2_0, b2_1, b2_2, b2_3⟩
theorem ny4_3_3 {σ : Mem} {v0 v1 v2 v3 : Int} (h6 : σ 45 6 = 4) (h0 : σ 49 0 = v0) (h1 : σ 49 1 = v1) (h2 : σ 49 2 = v2) (h3 : σ 49 3 = v3) (u : v2 < v3) : ∃ τ, f_Y3_nextRow σ = some (1, τ) ∧ (∀ x, x ≠ 49 → τ x = σ x) ∧ τ 49 0 = v0 ∧ τ 49 1 = v1 ∧ τ 49 2 = v3 ∧ τ 49 3 = v2 := by
  unfold f_Y3_nextRow
  simp only [bsm]
  rw [h6, js_4_2]
  unfold f_Y3_nextRow_7
  rw [FU_9, loop_end (b := (2 : Int)) (by show f_Y3_nextRow_7C σ (2) = _; unfold f_Y3_nextRow_7C; simp (disch := omega) only [jl_0_p, jl_0_m, jl_1_p, jl_1_m, jl_2_p, jl_2_m, jl_3_p, jl_3_m, jl_4_p, jl_4_m, jl_5_p, jl_5_m, js_0_1, js_0_2, js_1_1, js_1_2, js_2_1, js_2_2, js_3_1, js_3_2, js_4_1, js_4_2, chk_pos, if_pos, if_neg, bsm, h0, h1, h2, h3])]
  simp only [bsm]
  unfold f_Y3_nextRow_34
  rw [if_pos (by decide)]
  simp only [bsm]
  rw [h6, js_4_1]
  unfold f_Y3_nextRow_47
  rw [FU_9, loop_end (b := (3 : Int)) (by show f_Y3_nextRow_47C σ 2 3 = _; unfold f_Y3_nextRow_47C; simp (disch := omega) only [jl_0_p, jl_0_m, jl_1_p, jl_1_m, jl_2_p, jl_2_m, jl_3_p, jl_3_m, jl_4_p, jl_4_m, jl_5_p, jl_5_m, js_0_1, js_0_2, js_1_1, js_1_2, js_2_1, js_2_2, js_3_1, js_3_2, js_4_1, js_4_2, chk_pos, if_pos, if_neg, bsm, h0, h1, h2, h3])]
  simp only [bsm]
  unfold f_Y3_nextRow_75
  rw [bind_some' (swapY (by decide) (by decide) h2 h3)]
  obtain ⟨τ1, hτ1⟩ : ∃ z, z = (mup (mup σ 49 2 v3) 49 3 v2) := ⟨_, rfl⟩
  rw [← hτ1]
  simp only [bsm]
  rw [show τ1 45 6 = 4 by rw [hτ1, mup_miss (by omega), mup_miss (by omega), h6], jl_3_p, js_4_1]
  unfold f_Y3_nextRow_93
  have a0 : τ1 49 0 = v0 := by rw [hτ1]; simp (disch := omega) only [mup_hit, mup_miss, h0, h1, h2, h3]
  have a1 : τ1 49 1 = v1 := by rw [hτ1]; simp (disch := omega) only [mup_hit, mup_miss, h0, h1, h2, h3]
  have a2 : τ1 49 2 = v3 := by rw [hτ1]; simp (disch := omega) only [mup_hit, mup_miss, h0, h1, h2, h3]
  have a3 : τ1 49 3 = v2 := by rw [hτ1]; simp (disch := omega) only [mup_hit, mup_miss, h0, h1, h2, h3]
  rw [FU_9, loop_end (b := τ1) (by show f_Y3_nextRow_93C 3 3 τ1 = _; unfold f_Y3_nextRow_93C; rw [if_pos (by decide)])]
  exact ⟨τ1, rfl, fun x hx => by rw [hτ1, mup_row hx, mup_row hx], a0, a1, a2, a3⟩
theorem Y3_next {σ : Mem} {n i : Nat} (hn : n ≤ 4) (hi : i < (PT n).length) (h6 : σ 45 6 = (n : Int)) (hl : ∀ k : Nat, k < n → σ 49 k = ((((PT n).getD i []).getD k 0 : Nat) : Int)) : ∃ r τ, f_Y3_nextRow σ = some (r, τ) ∧ (∀ x, x ≠ 49 → τ x = σ x) ∧ (i + 1 < (PT n).length → r = 1 ∧ ∀ k : Nat, k < n → τ 49 k = ((((PT n).getD (i + 1) []).getD k 0 : Nat) : Int)) ∧ (¬ i + 1 < (PT n).length → r = 0) := by
  match n, hn, i, hi with
  | 0, _, 0, _ =>
    exact ⟨0, σ, ny0_e h6  , fun _ _ => rfl, fun h => absurd h (by decide), fun _ => rfl⟩
  | 1, _, 0, _ =>
    have h0 : σ 49 0 = 0 := hl 0 (by decide)
    exact ⟨0, σ, ny1_e h6 h0 , fun _ _ => rfl, fun h => absurd h (by decide), fun _ => rfl⟩
  | 2, _, 0, _ =>
    have h0 : σ 49 0 = 0 := hl 0 (by decide)
    have h1 : σ 49 1 = 1 := hl 1 (by decide)
    obtain ⟨τ, z1, z2, e0, e1⟩ := ny2_1_1 h6 h0 h1 (by omega)
    refine ⟨1, τ, z1, z2, fun _ => ⟨rfl, fun k hk => ?_⟩, fun h => absurd (by decide) h⟩
    match k, hk with
    | 0, _ => exact e0
    | 1, _ => exact e1
    | k + 2, hk => omega
  | 2, _, 1, _ =>
    have h0 : σ 49 0 = 1 := hl 0 (by decide)
    have h1 : σ 49 1 = 0 := hl 1 (by decide)
    exact ⟨0, σ, ny2_e h6 h0 h1 (by omega), fun _ _ => rfl, fun h => absurd h (by decide), fun _ => rfl⟩
  | 3, _, 0, _ =>
    have h0 : σ 49 0 = 0 := hl 0 (by decide)
    have h1 : σ 49 1 = 1 := hl 1 (by decide)
    have h2 : σ 49 2 = 2 := hl 2 (by decide)
    obtain ⟨τ, z1, z2, e0, e1, e2⟩ := ny3_2_2 h6 h0 h1 h2 (by omega)
    refine ⟨1, τ, z1, z2, fun _ => ⟨rfl, fun k hk => ?_⟩, fun h => absurd (by decide) h⟩
    match k, hk with
    | 0, _ => exact e0
    | 1, _ => exact e1
    | 2, _ => exact e2
    | k + 3, hk => omega
  | 3, _, 1, _ =>
    have h0 : σ 49 0 = 0 := hl 0 (by decide)
    have h1 : σ 49 1 = 2 := hl 1 (by decide)
    have h2 : σ 49 2 = 1 := hl 2 (by decide)
    obtain ⟨τ, z1, z2, e0, e1, e2⟩ := ny3_1_2 h6 h0 h1 h2 (by omega) (by omega) (by omega)
    refine ⟨1, τ, z1, z2, fun _ => ⟨rfl, fun k hk => ?_⟩, fun h => absurd (by decide) h⟩
    match k, hk with
    | 0, _ => exact e0
    | 1, _ => exact e1
    | 2, _ => exact e2
    | k + 3, hk => omega
  | 3, _, 2, _ =>
    have h0 : σ 49 0 = 1 := hl 0 (by decide)
    have h1 : σ 49 1 = 0 := hl 1 (by decide)
    have h2 : σ 49 2 = 2 := hl 2 (by decide)
    obtain ⟨τ, z1, z2, e0, e1, e2⟩ := ny3_2_2 h6 h0 h1 h2 (by omega)
    refine ⟨1, τ, z1, z2, fun _ => ⟨rfl, fun k hk => ?_⟩, fun h => absurd (by decide) h⟩
    match k, hk with
    | 0, _ => exact e0
    | 1, _ => exact e1
    | 2, _ => exact e2
    | k + 3, hk => omega
  | 3, _, 3, _ =>
    have h0 : σ 49 0 = 1 := hl 0 (by decide)
    have h1 : σ 49 1 = 2 := hl 1 (by decide)
    have h2 : σ 49 2 = 0 := hl 2 (by decide)
    obtain ⟨τ, z1, z2, e0, e1, e2⟩ := ny3_1_1 h6 h0 h1 h2 (by omega) (by omega) (by omega)
    refine ⟨1, τ, z1, z2, fun _ => ⟨rfl, fun k hk => ?_⟩, fun h => absurd (by decide) h⟩
    match k, hk with
    | 0, _ => exact e0
    | 1, _ => exact e1
    | 2, _ => exact e2
    | k + 3, hk => omega
  | 3, _, 4, _ =>
    have h0 : σ 49 0 = 2 := hl 0 (by decide)
    have h1 : σ 49 1 = 0 := hl 1 (by decide)
    have h2 : σ 49 2 = 1 := hl 2 (by decide)
    obtain ⟨τ, z1, z2, e0, e1, e2⟩ := ny3_2_2 h6 h0 h1 h2 (by omega)
    refine ⟨1, τ, z1, z2, fun _ => ⟨rfl, fun k hk => ?_⟩, fun h => absurd (by decide) h⟩
    match k, hk with
    | 0, _ => exact e0
    | 1, _ => exact e1
    | 2, _ => exact e2
    | k + 3, hk => omega
  | 3, _, 5, _ =>
    have h0 : σ 49 0 = 2 := hl 0 (by decide)
    have h1 : σ 49 1 = 1 := hl 1 (by decide)
    have h2 : σ 49 2 = 0 := hl 2 (by decide)
    exact ⟨0, σ, ny3_e h6 h0 h1 h2 (by omega) (by omega), fun _ _ => rfl, fun h => absurd h (by decide), fun _ => rfl⟩
  | 4, _, 0, _ =>
    have h0 : σ 49 0 = 0 := hl 0 (by decide)
    have h1 : σ 49 1 = 1 := hl 1 (by decide)
    have h2 : σ 49 2 = 2 := hl 2 (by decide)
    have h3 : σ 49 3 = 3 := hl 3 (by decide)
    obtain ⟨τ, z1, z2, e0, e1, e2, e3⟩ := ny4_3_3 h6 h0 h1 h2 h3 (by omega)
    refine ⟨1, τ, z1, z2, fun _ => ⟨rfl, fun k hk => ?_⟩, fun h => absurd (by decide) h⟩
    match k, hk with
    | 0, _ => exact e0
    | 1, _ => exact e1
    | 2, _ => exact e2
    | 3, _ => exact e3
    | k + 4, hk => omega
  | 4, _, 1, _ =>
    have h0 : σ 49 0 = 0 := hl 0 (by decide)
    have h1 : σ 49 1 = 1 := hl 1 (by decide)
    have h2 : σ 49 2 = 3 := hl 2 (by decide)
    have h3 : σ 49 3 = 2 := hl 3 (by decide)
    obtain ⟨τ, z1, z2, e0, e1, e2, e3⟩ := ny4_2_3 h6 h0 h1 h2 h3 (by omega) (by omega) (by omega)
    refine ⟨1, τ, z1, z2, fun _ => ⟨rfl, fun k hk => ?_⟩, fun h => absurd (by decide) h⟩
    match k, hk with
    | 0, _ => exact e0
    | 1, _ => exact e1
    | 2, _ => exact e2
    | 3, _ => exact e3
    | k + 4, hk => omega
  | 4, _, 2, _ =>
    have h0 : σ 49 0 = 0 := hl 0 (by decide)
    have h1 : σ 49 1 = 2 := hl 1 (by decide)
    have h2 : σ 49 2 = 1 := hl 2 (by decide)
    have h3 : σ 49 3 = 3 := hl 3 (by decide)
    obtain ⟨τ, z1, z2, e0, e1, e2, e3⟩ := ny4_3_3 h6 h0 h1 h2 h3 (by omega)
    refine ⟨1, τ, z1, z2, fun _ => ⟨rfl, fun k hk => ?_⟩, fun h => absurd (by decide) h⟩
    match k, hk with
    | 0, _ => exact e0
    | 1, _ => exact e1
    | 2, _ => exact e2
    | 3, _ => exact e3
    | k + 4, hk => omega
  | 4, _, 3, _ =>
    have h0 : σ 49 0 = 0 := hl 0 (by decide)
    have h1 : σ 49 1 = 2 := hl 1 (by decide)
    have h2 : σ 49 2 = 3 := hl 2 (by decide)
    have h3 : σ 49 3 = 1 := hl 3 (by decide)
    obtain ⟨τ, z1, z2, e0, e1, e2, e3⟩ := ny4_2_2 h6 h0 h1 h2 h3 (by omega) (by omega) (by omega)
    refine ⟨1, τ, z1, z2, fun _ => ⟨rfl, fun k hk => ?_⟩, fun h => absurd (by decide) h⟩
    match k, hk with
    | 0, _ => exact e0
    | 1, _ => exact e1
    | 2, _ => exact e2
    | 3, _ => exact e3
    | k + 4, hk => omega
  | 4, _, 4, _ =>
    have h0 : σ 49 0 = 0 := hl 0 (by decide)
    have h1 : σ 49 1 = 3 := hl 1 (by decide)
    have h2 : σ 49 2 = 1 := hl 2 (by decide)
    have h3 : σ 49 3 = 2 := hl 3 (by decide)
    obtain ⟨τ, z1, z2, e0, e1, e2, e3⟩ := ny4_3_3 h6 h0 h1 h2 h3 (by omega)
    refine ⟨1, τ, z1, z2, fun _ => ⟨rfl, fun k hk => ?_⟩, fun h => absurd (by decide) h⟩
    match k, hk with
    | 0, _ => exact e0
    | 1, _ => exact e1
    | 2, _ => exact e2
    | 3, _ => exact e3
    | k + 4, hk => omega
  | 4, _, 5, _ =>
    have h0 : σ 49 0 = 0 := hl 0 (by decide)
    have h1 : σ 49 1 = 3 := hl 1 (by decide)
    have h2 : σ 49 2 = 2 := hl 2 (by decide)
    have h3 : σ 49 3 = 1 := hl 3 (by decide)
    obtain ⟨τ, z1, z2, e0, e1, e2, e3⟩ := ny4_1_3 h6 h0 h1 h2 h3 (by omega) (by omega) (by omega) (by omega)
    refine ⟨1, τ, z1, z2, fun _ => ⟨rfl, fun k hk => ?_⟩, fun h => absurd (by decide) h⟩
    match k, hk with
    | 0, _ => exact e0
    | 1, _ => exact e1
    | 2, _ => exact e2
    | 3, _ => exact e3
    | k + 4, hk => omega
  | 4, _, 6, _ =>
    have h0 : σ 49 0 = 1 := hl 0 (by decide)
    have h1 : σ 49 1 = 0 := hl 1 (by decide)
    have h2 : σ 49 2 = 2 := hl 2 (by decide)
    have h3 : σ 49 3 = 3 := hl 3 (by decide)
    obtain ⟨τ, z1, z2, e0, e1, e2, e3⟩ := ny4_3_3 h6 h0 h1 h2 h3 (by omega)
    refine ⟨1, τ, z1, z2, fun _ => ⟨rfl, fun k hk => ?_⟩, fun h => absurd (by decide) h⟩
    match k, hk with
    | 0, _ => exact e0
    | 1, _ => exact e1
    | 2, _ => exact e2
    | 3, _ => exact e3
    | k + 4, hk => omega
  | 4, _, 7, _ =>
    have h0 : σ 49 0 = 1 := hl 0 (by decide)
    have h1 : σ 49 1 = 0 := hl 1 (by decide)
    have h2 : σ 49 2 = 3 := hl 2 (by decide)
    have h3 : σ 49 3 = 2 := hl 3 (by decide)
    obtain ⟨τ, z1, z2, e0, e1, e2, e3⟩ := ny4_2_3 h6 h0 h1 h2 h3 (by omega) (by omega) (by omega)
    refine ⟨1, τ, z1, z2, fun _ => ⟨rfl, fun k hk => ?_⟩, fun h => absurd (by decide) h⟩
    match k, hk with
    | 0, _ => exact e0
    | 1, _ => exact e1
    | 2, _ => exact e2
    | 3, _ => exact e3
    | k + 4, hk => omega
  | 4, _, 8, _ =>
    have h0 : σ 49 0 = 1 := hl 0 (by decide)
    have h1 : σ 49 1 = 2 := hl 1 (by decide)
    have h2 : σ 49 2 = 0 := hl 2 (by decide)
    have h3 : σ 49 3 = 3 := hl 3 (by decide)
    obtain ⟨τ, z1, z2, e0, e1, e2, e3⟩ := ny4_3_3 h6 h0 h1 h2 h3 (by omega)
    refine ⟨1, τ, z1, z2, fun _ => ⟨rfl, fun k hk => ?_⟩, fun h => absurd (by decide) h⟩
    match k, hk with
    | 0, _ => exact e0
    | 1, _ => exact e1
    | 2, _ => exact e2
    | 3, _ => exact e3
    | k + 4, hk => omega
  | 4, _, 9, _ =>
    have h0 : σ 49 0 = 1 := hl 0 (by decide)
    have h1 : σ 49 1 = 2 := hl 1 (by decide)
    have h2 : σ 49 2 = 3 := hl 2 (by decide)
    have h3 : σ 49 3 = 0 := hl 3 (by decide)
    obtain ⟨τ, z1, z2, e0, e1, e2, e3⟩ := ny4_2_2 h6 h0 h1 h2 h3 (by omega) (by omega) (by omega)
    refine ⟨1, τ, z1, z2, fun _ => ⟨rfl, fun k hk => ?_⟩, fun h => absurd (by decide) h⟩
    match k, hk with
    | 0, _ => exact e0
    | 1, _ => exact e1
    | 2, _ => exact e2
    | 3, _ => exact e3
    | k + 4, hk => omega
  | 4, _, 10, _ =>
    have h0 : σ 49 0 = 1 := hl 0 (by decide)
    have h1 : σ 49 1 = 3 := hl 1 (by decide)
    have h2 : σ 49 2 = 0 := hl 2 (by decide)
    have h3 : σ 49 3 = 2 := hl 3 (by decide)
    obtain ⟨τ, z1, z2, e0, e1, e2, e3⟩ := ny4_3_3 h6 h0 h1 h2 h3 (by omega)
    refine ⟨1, τ, z1, z2, fun _ => ⟨rfl, fun k hk => ?_⟩, fun h => absurd (by decide) h⟩
    match k, hk with
    | 0, _ => exact e0
    | 1, _ => exact e1
    | 2, _ => exact e2
    | 3, _ => exact e3
    | k + 4, hk => omega
  | 4, _, 11, _ =>
    have h0 : σ 49 0 = 1 := hl 0 (by decide)
    have h1 : σ 49 1 = 3 := hl 1 (by decide)
    have h2 : σ 49 2 = 2 := hl 2 (by decide)
    have h3 : σ 49 3 = 0 := hl 3 (by decide)
    obtain ⟨τ, z1, z2, e0, e1, e2, e3⟩ := ny4_1_2 h6 h0 h1 h2 h3 (by omega) (by omega) (by omega) (by omega) (by omega)
    refine ⟨1, τ, z1, z2, fun _ => ⟨rfl, fun k hk => ?_⟩, fun h => absurd (by decide) h⟩
    match k, hk with
    | 0, _ => exact e0
    | 1, _ => exact e1
    | 2, _ => exact e2
    | 3, _ => exact e3
    | k + 4, hk => omega
  | 4, _, 12, _ =>
    have h0 : σ 49 0 = 2 := hl 0 (by decide)
    have h1 : σ 49 1 = 0 := hl 1 (by decide)
    have h2 : σ 49 2 = 1 := hl 2 (by decide)
    have h3 : σ 49 3 = 3 := hl 3 (by decide)
    obtain ⟨τ, z1, z2, e0, e1, e2, e3⟩ := ny4_3_3 h6 h0 h1 h2 h3 (by omega)
    refine ⟨1, τ, z1, z2, fun _ => ⟨rfl, fun k hk => ?_⟩, fun h => absurd (by decide) h⟩
    match k, hk with
    | 0, _ => exact e0
    | 1, _ => exact e1
    | 2, _ => exact e2
    | 3, _ => exact e3
    | k + 4, hk => omega
  | 4, _, 13, _ =>
    have h0 : σ 49 0 = 2 := hl 0 (by decide)
    have h1 : σ 49 1 = 0 := hl 1 (by decide)
    have h2 : σ 49 2 = 3 := hl 2 (by decide)
    have h3 : σ 49 3 = 1 := hl 3 (by decide)
    obtain ⟨τ, z1, z2, e0, e1, e2, e3⟩ := ny4_2_3 h6 h0 h1 h2 h3 (by omega) (by omega) (by omega)
    refine ⟨1, τ, z1, z2, fun _ => ⟨rfl, fun k hk => ?_⟩, fun h => absurd (by decide) h⟩
    match k, hk with
    | 0, _ => exact e0
    | 1, _ => exact e1
    | 2, _ => exact e2
    | 3, _ => exact e3
    | k + 4, hk => omega
  | 4, _, 14, _ =>
    have h0 : σ 49 0 = 2 := hl 0 (by decide)
    have h1 : σ 49 1 = 1 := hl 1 (by decide)
    have h2 : σ 49 2 = 0 := hl 2 (by decide)
    have h3 : σ 49 3 = 3 := hl 3 (by decide)
    obtain ⟨τ, z1, z2, e0, e1, e2, e3⟩ := ny4_3_3 h6 h0 h1 h2 h3 (by omega)
    refine ⟨1, τ, z1, z2, fun _ => ⟨rfl, fun k hk => ?_⟩, fun h => absurd (by decide) h⟩
    match k, hk with
    | 0, _ => exact e0
    | 1, _ => exact e1
    | 2, _ => exact e2
    | 3, _ => exact e3
    | k + 4, hk => omega
  | 4, _, 15, _ =>
    have h0 : σ 49 0 = 2 := hl 0 (by decide)
    have h1 : σ 49 1 = 1 := hl 1 (by decide)
    have h2 : σ 49 2 = 3 := hl 2 (by decide)
    have h3 : σ 49 3 = 0 := hl 3 (by decide)
    obtain ⟨τ, z1, z2, e0, e1, e2, e3⟩ := ny4_2_2 h6 h0 h1 h2 h3 (by omega) (by omega) (by omega)
    refine ⟨1, τ, z1, z2, fun _ => ⟨rfl, fun k hk => ?_⟩, fun h => absurd (by decide) h⟩
    match k, hk with
    | 0, _ => exact e0
    | 1, _ => exact e1
    | 2, _ => exact e2
    | 3, _ => exact e3
    | k + 4, hk => omega
  | 4, _, 16, _ =>
    have h0 : σ 49 0 = 2 := hl 0 (by decide)
    have h1 : σ 49 1 = 3 := hl 1 (by decide)
    have h2 : σ 49 2 = 0 := hl 2 (by decide)
    have h3 : σ 49 3 = 1 := hl 3 (by decide)
    obtain ⟨τ, z1, z2, e0, e1, e2, e3⟩ := ny4_3_3 h6 h0 h1 h2 h3 (by omega)
    refine ⟨1, τ, z1, z2, fun _ => ⟨rfl, fun k hk => ?_⟩, fun h => absurd (by decide) h⟩
    match k, hk with
    | 0, _ => exact e0
    | 1, _ => exact e1
    | 2, _ => exact e2
    | 3, _ => exact e3
    | k + 4, hk => omega
  | 4, _, 17, _ =>
    have h0 : σ 49 0 = 2 := hl 0 (by decide)
    have h1 : σ 49 1 = 3 := hl 1 (by decide)
    have h2 : σ 49 2 = 1 := hl 2 (by decide)
    have h3 : σ 49 3 = 0 := hl 3 (by decide)
    obtain ⟨τ, z1, z2, e0, e1, e2, e3⟩ := ny4_1_1 h6 h0 h1 h2 h3 (by omega) (by omega) (by omega) (by omega) (by omega)
    refine ⟨1, τ, z1, z2, fun _ => ⟨rfl, fun k hk => ?_⟩, fun h => absurd (by decide) h⟩
    match k, hk with
    | 0, _ => exact e0
    | 1, _ => exact e1
    | 2, _ => exact e2
    | 3, _ => exact e3
    | k + 4, hk => omega
  | 4, _, 18, _ =>
    have h0 : σ 49 0 = 3 := hl 0 (by decide)
    have h1 : σ 49 1 = 0 := hl 1 (by decide)
    have h2 : σ 49 2 = 1 := hl 2 (by decide)
    have h3 : σ 49 3 = 2 := hl 3 (by decide)
    obtain ⟨τ, z1, z2, e0, e1, e2, e3⟩ := ny4_3_3 h6 h0 h1 h2 h3 (by omega)
    refine ⟨1, τ, z1, z2, fun _ => ⟨rfl, fun k hk => ?_⟩, fun h => absurd (by decide) h⟩
    match k, hk with
    | 0, _ => exact e0
    | 1, _ => exact e1
    | 2, _ => exact e2
    | 3, _ => exact e3
    | k + 4, hk => omega
  | 4, _, 19, _ =>
    have h0 : σ 49 0 = 3 := hl 0 (by decide)
    have h1 : σ 49 1 = 0 := hl 1 (by decide)
    have h2 : σ 49 2 = 2 := hl 2 (by decide)
    have h3 : σ 49 3 = 1 := hl 3 (by decide)
    obtain ⟨τ, z1, z2, e0, e1, e2, e3⟩ := ny4_2_3 h6 h0 h1 h2 h3 (by omega) (by omega) (by omega)
    refine ⟨1, τ, z1, z2, fun _ => ⟨rfl, fun k hk => ?_⟩, fun h => absurd (by decide) h⟩
    match k, hk with
    | 0, _ => exact e0
    | 1, _ => exact e1
    | 2, _ => exact e2
    | 3, _ => exact e3
    | k + 4, hk => omega
  | 4, _, 20, _ =>
    have h0 : σ 49 0 = 3 := hl 0 (by decide)
    have h1 : σ 49 1 = 1 := hl 1 (by decide)
    have h2 : σ 49 2 = 0 := hl 2 (by decide)
    have h3 : σ 49 3 = 2 := hl 3 (by decide)
    obtain ⟨τ, z1, z2, e0, e1, e2, e3⟩ := ny4_3_3 h6 h0 h1 h2 h3 (by omega)
    refine ⟨1, τ, z1, z2, fun _ => ⟨rfl, fun k hk => ?_⟩, fun h => absurd (by decide) h⟩
    match k, hk with
    | 0, _ => exact e0
    | 1, _ => exact e1
    | 2, _ => exact e2
    | 3, _ => exact e3
    | k + 4, hk => omega
  | 4, _, 21, _ =>
    have h0 : σ 49 0 = 3 := hl 0 (by decide)
    have h1 : σ 49 1 = 1 := hl 1 (by decide)
    have h2 : σ 49 2 = 2 := hl 2 (by decide)
    have h3 : σ 49 3 = 0 := hl 3 (by decide)
    obtain ⟨τ, z1, z2, e0, e1, e2, e3⟩ := ny4_2_2 h6 h0 h1 h2 h3 (by omega) (by omega) (by omega)
    refine ⟨1, τ, z1, z2, fun _ => ⟨rfl, fun k hk => ?_⟩, fun h => absurd (by decide) h⟩
    match k, hk with
    | 0, _ => exact e0
    | 1, _ => exact e1
    | 2, _ => exact e2
    | 3, _ => exact e3
    | k + 4, hk => omega
  | 4, _, 22, _ =>
    have h0 : σ 49 0 = 3 := hl 0 (by decide)
    have h1 : σ 49 1 = 2 := hl 1 (by decide)
    have h2 : σ 49 2 = 0 := hl 2 (by decide)
    have h3 : σ 49 3 = 1 := hl 3 (by decide)
    obtain ⟨τ, z1, z2, e0, e1, e2, e3⟩ := ny4_3_3 h6 h0 h1 h2 h3 (by omega)
    refine ⟨1, τ, z1, z2, fun _ => ⟨rfl, fun k hk => ?_⟩, fun h => absurd (by decide) h⟩
    match k, hk with
    | 0, _ => exact e0
    | 1, _ => exact e1
    | 2, _ => exact e2
    | 3, _ => exact e3
    | k + 4, hk => omega
  | 4, _, 23, _ =>
    have h0 : σ 49 0 = 3 := hl 0 (by decide)
    have h1 : σ 49 1 = 2 := hl 1 (by decide)
    have h2 : σ 49 2 = 1 := hl 2 (by decide)
    have h3 : σ 49 3 = 0 := hl 3 (by decide)
    exact ⟨0, σ, ny4_e h6 h0 h1 h2 h3 (by omega) (by omega) (by omega), fun _ _ => rfl, fun h => absurd h (by decide), fun _ => rfl⟩
  | 0, _, i + 1, hi => exact absurd hi (by simp [PT])
  | 1, _, i + 1, hi => exact absurd hi (by simp [PT])
  | 2, _, i + 2, hi => exact absurd hi (by simp [PT])
  | 3, _, i + 6, hi => exact absurd hi (by simp [PT])
  | 4, _, i + 24, hi => exact absurd hi (by simp [PT])
  | n + 5, hn, _, _ => omega
theorem Y3_measured {σ : Mem} {B : Bk} {c f by_ : Int} {m a : Nat} (hO : isOy σ B c m f a) (hm : okm B m) (w : WF B) (hc : 0 ≤ c) (hc2 : c < B 8 1) (hf : 0 ≤ f ∧ f ≤ 60) (hby : 0 ≤ by_ ∧ by_ ≤ 4) {l : Nat → Nat} (hl : ∀ k, k < nof m → l k < nof m ∧ σ 49 k = (l k : Int)) {wo : Nat → Bool} (h11 : σ 45 11 = ((mset (kpB wo a B c f (fun k => nth m (l k)) (nof m)) 48 : Nat) : Int)) (h42 : ∀ k, k < nof m → σ 51 k = bg B c f (fun k => nth m (l k)) k) : f_Y3_measured σ by_ = some (msC B c f by_ wo a (nof m) (fun k => nth m (l k))) := by
  obtain ⟨o6, o7, o8, -, o10, oj⟩ := hO
  obtain ⟨q, hq⟩ : ∃ q : Nat → Nat, q = fun k => nth m (l k) := ⟨_, rfl⟩
  rw [← hq] at h11 h42 ⊢
  have h4 := hm.2.1
  have hqP : ∀ k, k < nof m → (q k : Int) < B 8 0 := fun k hk => by
    rw [hq]; exact hm.2.2 _ (nth_in (hl k hk).1).2.1
  unfold f_Y3_measured msC
  by_cases h0 : by_ = 0
  · rw [if_neg (by simpa using h0), if_pos h0, h11, bind_some' (bitCount48_n (mset_lt _ _))]
    congr 2
    refine cnt_congr fun i hi => ?_
    rw [mset_tb]; simp [hi]
  · rw [if_pos h0, if_neg h0]
    unfold f_Y3_measured_16
    have key := loop_is (f := f_Y3_measured_16B σ by_) (P := fun s => ∃ k : Nat, s = (mj B c f by_ q k, (k : Int)) ∧ k ≤ nof m) (μ := fun s => (4 - s.2).toNat) (r := mj B c f by_ q (nof m)) ?_ (a := (0, 0)) ⟨0, rfl, Nat.zero_le _⟩ (by decide)
    · rw [key]; rfl
    · rintro s ⟨k, rfl, hk⟩
      show (∃ a', f_Y3_measured_16C σ by_ _ _ = _ ∧ _) ∨ f_Y3_measured_16C σ by_ _ _ = _
      unfold f_Y3_measured_16C
      rw [o6]
      by_cases hkn : (nof m : Int) ≤ k
      · right
        rw [if_pos hkn]
        have : k = nof m := by omega
        subst this; rfl
      · left
        obtain ⟨hl1, hl2⟩ := hl k (by omega)
        obtain ⟨-, b38, b39⟩ := oj (l k) hl1
        have hbg := bg_b w hc hc2 hf hqP (k := k) (by omega)
        have hst := (w.2.1 (q k) (by omega) (hqP k (by omega))).2.1
        have hmj := mj_b w hc hc2 hf h4 hqP by_ k (by omega)
        have eq1 : B 1 (nth m (l k)) = B 1 (q k) := by rw [hq]
        have eq2 : bg B c f q k + tm B c (nth m (l k)) = en B c f q k := by unfold en; rw [hq]
        rw [if_neg hkn, hl2, b38, b39, h42 k (by omega), eq1, chk_pos (by omega), chk_pos (by omega), chk_pos (by omega)]
        simp only [Option.bind_some]
        rw [chk_pos (by omega), chk_pos (by omega), chk_pos (by omega), jsub_ok (by omega) (by omega), jadd_ok (a := bg B c f q k) (by omega) (by omega), eq2, bind_some' (X3_join (by omega) (by omega) (by omega)), jadd_ok (by omega) (by omega)]
        exact ⟨_, rfl, ⟨k + 1, by show (_, (k : Int) + 1) = (_, ((k + 1 : Nat) : Int)); rw [Int.natCast_succ]; rfl, by omega⟩, by show (4 - ((k : Int) + 1)).toNat < (4 - (k : Int)).toNat; omega⟩
theorem isOy.keep {σ τ : Mem} {B : Bk} {c f : Int} {m a : Nat} (h : isOy σ B c m f a) (h36 : ∀ j, j ≠ 11 → j ≠ 12 → j ≠ 13 → τ 45 j = σ 45 j) (h37 : τ 46 = σ 46) (h38 : τ 47 = σ 47) (h39 : τ 48 = σ 48) : isOy τ B c m f a := by
  unfold isOy
  rw [h36 6 (by decide) (by decide) (by decide), h36 7 (by decide) (by decide) (by decide), h36 8 (by decide) (by decide) (by decide), h36 9 (by decide) (by decide) (by decide), h36 10 (by decide) (by decide) (by decide), h37, h38, h39]
  exact h
theorem Y3_search {σ : Mem} {B : Bk} {c f by_ : Int} {m a : Nat} (hO : isOy σ B c m f a) (hm : okm B m) (w : WF B) (hc : 0 ≤ c) (hc2 : c < B 8 1) (hf : 0 ≤ f ∧ f ≤ 60) (ha : a ≤ 48) (hby : 0 ≤ by_ ∧ by_ ≤ 4) (wo : Nat → Bool) :
    ∃ r τ, f_Y3_search σ by_ ((mset wo 48 : Nat) : Int) = some (r, τ) ∧ (∀ x, x ≠ 45 → x ≠ 49 → x ≠ 50 → x ≠ 51 → τ x = σ x) ∧ (∀ j, j ≠ 11 → j ≠ 12 → j ≠ 13 → τ 45 j = σ 45 j) ∧ τ 45 12 = (nlw (lwS B c m f a) (PT (nof m)) : Int) ∧ (bst (lwS B c m f a) (msS B c m f a by_ wo) (PT (nof m)) none = none → r = 0) ∧ ∀ v l, bst (lwS B c m f a) (msS B c m f a by_ wo) (PT (nof m)) none = some (v, l) → r = 1 ∧ τ 45 13 = v ∧ τ 45 11 = ((mset (kpB wo a B c f (lq m l) (nof m)) 48 : Nat) : Int) ∧ ∀ k, k < nof m → τ 50 k = (l.getD k 0 : Int) ∧ τ 51 k = bg B c f (lq m l) k := by
  have h4 := hm.2.1
  obtain ⟨pl, p0, pin⟩ := PT_ok (nof m) h4
  have hn := w.1
  unfold WFn at hn
  have hs := smt_b w hc hc2 hm (nof m) (Nat.le_refl _)
  unfold f_Y3_search
  simp only [Option.bind_some]
  obtain ⟨σ2, hσ2⟩ : ∃ z, z = mup (mup σ 45 12 0) 45 13 0 := ⟨_, rfl⟩
  have r2 : ∀ x, x ≠ 45 → σ2 x = σ x := fun x hx => by rw [hσ2, mup_row hx, mup_row hx]
  have s2 : ∀ j, j ≠ 11 → j ≠ 12 → j ≠ 13 → σ2 45 j = σ 45 j := fun j _ h1 h2 => by rw [hσ2, mup_miss (by omega), mup_miss (by omega)]
  have e12 : σ2 45 12 = 0 := by rw [hσ2, mup_miss (by omega), mup_hit rfl rfl]
  have hO2 : isOy σ2 B c m f a := hO.keep s2 (r2 46 (by decide)) (r2 47 (by decide)) (r2 48 (by decide))
  rw [← hσ2, hO2.2.2.2.1]
  by_cases hsp : 0 ≤ B 8 3 - a - smt B c m (nof m)
  rotate_left
  · rw [if_neg hsp]
    have hno : ∀ l ∈ PT (nof m), lwS B c m f a l = false := fun l _ => by
      unfold lwS
      rw [decide_eq_false (by omega)]; rfl
    refine ⟨0, σ2, rfl, fun x h1 _ _ _ => r2 x h1, s2, by rw [e12, nlw_no hno]; rfl, fun _ => rfl, fun v l h => ?_⟩
    rw [bst_no hno] at h; cases h
  rw [if_pos hsp]
  have elw : ∀ l, lwS B c m f a l = fitN B c f (lq m l) (nof m) := fun l => by
    unfold lwS
    rw [decide_eq_true (by omega), Bool.true_and]
  obtain ⟨lw, hlw⟩ : ∃ z, z = lwS B c m f a := ⟨_, rfl⟩
  obtain ⟨ms, hms⟩ : ∃ z, z = msS B c m f a by_ wo := ⟨_, rfl⟩
  rw [← hlw, ← hms]
  unfold f_Y3_search_22
  -- the first row
  obtain ⟨σ3, g1, g2, g3⟩ := loop_ex (f := f_Y3_search_22B by_ ((mset wo 48 : Nat) : Int)) (fun s => ∃ k : Nat, s.1 = (k : Int) ∧ k ≤ nof m ∧ (∀ x, x ≠ 49 → s.2 x = σ2 x) ∧ ∀ j : Nat, j < k → s.2 49 j = (j : Int)) (fun s => (4 - s.1).toNat) (fun τ => (∀ x, x ≠ 49 → τ x = σ2 x) ∧ ∀ j : Nat, j < nof m → τ 49 j = (j : Int)) (a := (0, σ2)) ⟨0, rfl, Nat.zero_le _, fun _ _ => rfl, fun j hj => absurd hj (Nat.not_lt_zero _)⟩ (Nat.le_of_ble_eq_true rfl) (by
    rintro ⟨_, τ⟩ ⟨k, rfl, hk, grow, gj⟩
    have grow : ∀ x, x ≠ 49 → τ x = σ2 x := grow
    have gj : ∀ j : Nat, j < k → τ 49 j = (j : Int) := gj
    show (∃ a', f_Y3_search_22C by_ ((mset wo 48 : Nat) : Int) (k : Int) τ = _ ∧ _) ∨ ∃ a', f_Y3_search_22C by_ ((mset wo 48 : Nat) : Int) (k : Int) τ = _ ∧ _
    unfold f_Y3_search_22C
    rw [grow 45 (by decide), hO2.1]
    by_cases hkn : (nof m : Int) ≤ k
    · right
      rw [if_pos hkn]
      have : k = nof m := by omega
      subst this
      exact ⟨_, rfl, grow, gj⟩
    · left
      rw [if_neg hkn, chk_pos (by omega)]
      simp only [Option.bind_some]
      rw [jadd_ok (by omega) (by omega)]
      refine ⟨_, rfl, ⟨k + 1, by show (k : Int) + 1 = _; omega, by omega, fun x hx => by dsimp only; rw [mup_row hx, grow x hx], fun j hj => ?_⟩, by show (4 - ((k : Int) + 1)).toNat < (4 - (k : Int)).toNat; omega⟩
      dsimp only
      by_cases ej : j = k
      · subst ej; rw [mup_hit rfl rfl]
      · rw [mup_miss (by omega)]; exact gj j (by omega))
  rw [g1]
  show ∃ r τ, f_Y3_search_46 σ3 by_ _ = some (r, τ) ∧ _
  unfold f_Y3_search_46 f_Y3_search_52
  have hO3 : isOy σ3 B c m f a := hO2.keep (fun j _ _ _ => by rw [g2 45 (by decide)]) (g2 46 (by decide)) (g2 47 (by decide)) (g2 48 (by decide))
  obtain ⟨σ4, q1, q2, q3, q4, q5, q6⟩ := loop_ex (f := f_Y3_search_52B by_ ((mset wo 48 : Nat) : Int)) (fun s => ∃ i : Nat, s.2.1 = (i : Int) ∧ i ≤ (PT (nof m)).length ∧ (∀ x, x ≠ 45 → x ≠ 49 → x ≠ 50 → x ≠ 51 → s.2.2 x = σ x) ∧ (∀ j, j ≠ 11 → j ≠ 12 → j ≠ 13 → s.2.2 45 j = σ 45 j) ∧ (i < (PT (nof m)).length → s.1 = 1 ∧ ∀ k : Nat, k < nof m → s.2.2 49 k = ((((PT (nof m)).getD i []).getD k 0 : Nat) : Int)) ∧ (¬ i < (PT (nof m)).length → s.1 = 0) ∧ s.2.2 45 12 = (nlw lw ((PT (nof m)).take i) : Int) ∧ (bst lw ms ((PT (nof m)).take i) none = none → nlw lw ((PT (nof m)).take i) = 0) ∧ ∀ v l, bst lw ms ((PT (nof m)).take i) none = some (v, l) → 0 < nlw lw ((PT (nof m)).take i) ∧ s.2.2 45 13 = v ∧ ∀ k : Nat, k < nof m → s.2.2 50 k = (l.getD k 0 : Int)) (fun s => (25 - s.2.1).toNat)
    (fun τ => (∀ x, x ≠ 45 → x ≠ 49 → x ≠ 50 → x ≠ 51 → τ x = σ x) ∧ (∀ j, j ≠ 11 → j ≠ 12 → j ≠ 13 → τ 45 j = σ 45 j) ∧ τ 45 12 = (nlw lw (PT (nof m)) : Int) ∧ (bst lw ms (PT (nof m)) none = none → nlw lw (PT (nof m)) = 0) ∧ ∀ v l, bst lw ms (PT (nof m)) none = some (v, l) → 0 < nlw lw (PT (nof m)) ∧ τ 45 13 = v ∧ ∀ k : Nat, k < nof m → τ 50 k = (l.getD k 0 : Int)) (a := (1, 0, σ3))
    ⟨0, rfl, Nat.zero_le _, fun x h1 h2 h3 h5 => by show σ3 x = _; rw [g2 x h2, r2 x h1], fun j h1 h2 h3 => by show σ3 45 j = _; rw [g2 45 (by decide), s2 j h1 h2 h3], fun _ => ⟨rfl, fun k hk => by show σ3 49 k = _; rw [g3 k hk, PT_0 _ h4 k hk]⟩, fun h => absurd p0 h, by show σ3 45 12 = _; rw [g2 45 (by decide), e12]; rfl, fun _ => rfl, fun v l h => by cases h⟩ (Nat.le_of_ble_eq_true rfl) (by
    rintro ⟨x4, _, τ⟩ ⟨i, rfl, hi, k1, k2, k3, k4, k5, k6, k7⟩
    have k1 : ∀ x, x ≠ 45 → x ≠ 49 → x ≠ 50 → x ≠ 51 → τ x = σ x := k1
    have k2 : ∀ j, j ≠ 11 → j ≠ 12 → j ≠ 13 → τ 45 j = σ 45 j := k2
    have k3 : i < (PT (nof m)).length → x4 = 1 ∧ ∀ k : Nat, k < nof m → τ 49 k = ((((PT (nof m)).getD i []).getD k 0 : Nat) : Int) := k3
    have k4 : ¬ i < (PT (nof m)).length → x4 = 0 := k4
    have k5 : τ 45 12 = _ := k5
    have k7 : ∀ v l, bst lw ms ((PT (nof m)).take i) none = some (v, l) → 0 < nlw lw ((PT (nof m)).take i) ∧ τ 45 13 = v ∧ ∀ k : Nat, k < nof m → τ 50 k = (l.getD k 0 : Int) := k7
    show (∃ a', f_Y3_search_52C by_ ((mset wo 48 : Nat) : Int) x4 (i : Int) τ = _ ∧ _) ∨ ∃ a', f_Y3_search_52C by_ ((mset wo 48 : Nat) : Int) x4 (i : Int) τ = _ ∧ _
    unfold f_Y3_search_52C
    by_cases hiN : i < (PT (nof m)).length
    rotate_left
    · right
      rw [if_neg (by omega), if_pos (k4 hiN)]
      have e : (PT (nof m)).take i = PT (nof m) := List.take_of_length_le (by omega)
      rw [e] at k5 k6 k7
      exact ⟨_, rfl, k1, k2, k5, k6, k7⟩
    · left
      obtain ⟨e4, krow⟩ := k3 hiN
      obtain ⟨L, hL⟩ : ∃ L, L = (PT (nof m)).getD i [] := ⟨_, rfl⟩
      have hLin : L ∈ PT (nof m) := by
        rw [hL, List.getD_eq_getElem?_getD, List.getElem?_eq_getElem hiN]; exact List.getElem_mem hiN
      rw [← hL] at krow
      have hOt : isOy τ B c m f a := hO.keep k2 (k1 46 (by decide) (by decide) (by decide) (by decide)) (k1 47 (by decide) (by decide) (by decide) (by decide)) (k1 48 (by decide) (by decide) (by decide) (by decide))
      rw [if_neg (by omega), if_neg (by omega)]
      obtain ⟨r, τ5, w1, w2, w3, w4, w5⟩ := Y3_walk hOt hm w hc hc2 hf ha (Or.inl rfl) (l := fun k => L.getD k 0) (fun k hk => ⟨(pin L hLin).2 k hk, krow k hk⟩) wo
      rw [bind_some' w1]
      have etk : (PT (nof m)).take (i + 1) = (PT (nof m)).take i ++ [L] := by rw [hL]; exact take_s [] hiN
      -- behind the row: the next one
      have nextOf : ∀ (τ6 : Mem), (∀ x, x ≠ 45 → x ≠ 49 → x ≠ 50 → x ≠ 51 → τ6 x = σ x) → (∀ j, j ≠ 11 → j ≠ 12 → j ≠ 13 → τ6 45 j = σ 45 j) → (∀ k : Nat, k < nof m → τ6 49 k = (L.getD k 0 : Int)) → τ6 45 12 = (nlw lw ((PT (nof m)).take (i + 1)) : Int) → (bst lw ms ((PT (nof m)).take (i + 1)) none = none → nlw lw ((PT (nof m)).take (i + 1)) = 0) → (∀ v l, bst lw ms ((PT (nof m)).take (i + 1)) none = some (v, l) → 0 < nlw lw ((PT (nof m)).take (i + 1)) ∧ τ6 45 13 = v ∧ ∀ k : Nat, k < nof m → τ6 50 k = (l.getD k 0 : Int)) →
          ∃ a', f_Y3_search_129 τ6 by_ ((mset wo 48 : Nat) : Int) (i : Int) = some (.inl a') ∧ (∃ i' : Nat, a'.2.1 = (i' : Int) ∧ i' ≤ (PT (nof m)).length ∧ (∀ x, x ≠ 45 → x ≠ 49 → x ≠ 50 → x ≠ 51 → a'.2.2 x = σ x) ∧ (∀ j, j ≠ 11 → j ≠ 12 → j ≠ 13 → a'.2.2 45 j = σ 45 j) ∧ (i' < (PT (nof m)).length → a'.1 = 1 ∧ ∀ k : Nat, k < nof m → a'.2.2 49 k = ((((PT (nof m)).getD i' []).getD k 0 : Nat) : Int)) ∧ (¬ i' < (PT (nof m)).length → a'.1 = 0) ∧ a'.2.2 45 12 = (nlw lw ((PT (nof m)).take i') : Int) ∧ (bst lw ms ((PT (nof m)).take i') none = none → nlw lw ((PT (nof m)).take i') = 0) ∧ ∀ v l, bst lw ms ((PT (nof m)).take i') none = some (v, l) → 0 < nlw lw ((PT (nof m)).take i') ∧ a'.2.2 45 13 = v ∧ ∀ k : Nat, k < nof m → a'.2.2 50 k = (l.getD k 0 : Int)) ∧ (25 - a'.2.1).toNat < (25 - (i : Int)).toNat := by
        intro τ6 z1 z2 z3 z5 z6 z7
        have h66 : τ6 45 6 = (nof m : Int) := by rw [z2 6 (by decide) (by decide) (by decide)]; exact hO.1
        obtain ⟨r7, τ7, y1, y2, y3, y4⟩ := Y3_next h4 hiN h66 (fun k hk => by rw [z3 k hk, hL])
        unfold f_Y3_search_129
        rw [bind_some' y1]
        simp only [Option.bind_some]
        rw [jadd_ok (by omega) (by omega)]
        refine ⟨_, rfl, ⟨i + 1, by show (i : Int) + 1 = _; omega, hiN, fun x h1 h2 h3 h5 => by show τ7 x = _; rw [y2 x h2, z1 x h1 h2 h3 h5], fun j h1 h2 h3 => by show τ7 45 j = _; rw [y2 45 (by decide), z2 j h1 h2 h3], y3, y4, by show τ7 45 12 = _; rw [y2 45 (by decide), z5], z6, fun v l h => ?_⟩, by show (25 - ((i : Int) + 1)).toNat < (25 - (i : Int)).toNat; omega⟩
        obtain ⟨v1, v2, v3⟩ := z7 v l h
        exact ⟨v1, by show τ7 45 13 = _; rw [y2 45 (by decide)]; exact v2, fun k hk => by show τ7 50 k = _; rw [y2 50 (by decide)]; exact v3 k hk⟩
      have b5 : ∀ x, x ≠ 45 → x ≠ 49 → x ≠ 50 → x ≠ 51 → τ5 x = σ x := fun x h1 h2 h3 h5 => by rw [w2 x h1 h5, k1 x h1 h2 h3 h5]
      have c5 : ∀ j, j ≠ 11 → j ≠ 12 → j ≠ 13 → τ5 45 j = σ 45 j := fun j h1 h2 h3 => by rw [w3 j h1, k2 j h1 h2 h3]
      have d5 : ∀ k : Nat, k < nof m → τ5 49 k = (L.getD k 0 : Int) := fun k hk => by rw [w2 49 (by decide) (by decide)]; exact krow k hk
      have el : lw L = fitN B c f (lq m L) (nof m) := by rw [hlw]; exact elw L
      have f12 : τ5 45 12 = (nlw lw ((PT (nof m)).take i) : Int) := by rw [w3 12 (by decide), k5]
      have f13 : τ5 45 13 = τ 45 13 := w3 13 (by decide)
      have f41 : τ5 50 = τ 50 := w2 50 (by decide) (by decide)
      cases hfit : fitN B c f (lq m L) (nof m) with
      | false =>
        have hr0 : r = 0 := w5 hfit
        rw [hr0]
        show ∃ a', (if (0 : Int) = 0 then _ else _) = _ ∧ _
        rw [if_pos rfl]
        have en0 : nlw lw ((PT (nof m)).take (i + 1)) = nlw lw ((PT (nof m)).take i) := by rw [etk, nlw_app, el, hfit]; rfl
        have eb0 : bst lw ms ((PT (nof m)).take (i + 1)) none = bst lw ms ((PT (nof m)).take i) none := by
          rw [etk, bst_app]; unfold stp; rw [el, hfit]; rfl
        exact nextOf τ5 b5 c5 d5 (by rw [en0, f12]) (by rw [en0, eb0]; exact k6) (by rw [en0, eb0, f13, f41]; exact k7)
      | true =>
        obtain ⟨hr1, w11, w42⟩ := w4 hfit
        rw [hr1]
        show ∃ a', (if (1 : Int) = 0 then _ else _) = _ ∧ _
        rw [if_neg (by decide)]
        have hO5 : isOy τ5 B c m f a := hO.keep c5 (b5 46 (by decide) (by decide) (by decide) (by decide)) (b5 47 (by decide) (by decide) (by decide) (by decide)) (b5 48 (by decide) (by decide) (by decide) (by decide))
        rw [bind_some' (Y3_measured hO5 hm w hc hc2 hf hby (l := fun k => L.getD k 0) (fun k hk => ⟨(pin L hLin).2 k hk, d5 k hk⟩) w11 w42)]
        have em : msC B c f by_ wo a (nof m) (fun k => nth m (L.getD k 0)) = ms L := by rw [hms]; rfl
        rw [em, show ((1 : Int), τ5).2 = τ5 from rfl, f12, f13]
        have en1 : nlw lw ((PT (nof m)).take (i + 1)) = nlw lw ((PT (nof m)).take i) + 1 := by rw [etk, nlw_app, el, hfit]; rfl
        have eb1 : bst lw ms ((PT (nof m)).take (i + 1)) none = stp lw ms L (bst lw ms ((PT (nof m)).take i) none) := by rw [etk, bst_app]
        -- what is counted
        have cntd : ∀ (τ6 : Mem), (∀ x, x ≠ 45 → x ≠ 49 → x ≠ 50 → x ≠ 51 → τ6 x = σ x) → (∀ j, j ≠ 11 → j ≠ 12 → j ≠ 13 → τ6 45 j = σ 45 j) → (∀ k : Nat, k < nof m → τ6 49 k = (L.getD k 0 : Int)) → τ6 45 12 = (nlw lw ((PT (nof m)).take i) : Int) → (∃ v l, bst lw ms ((PT (nof m)).take (i + 1)) none = some (v, l) ∧ τ6 45 13 = v ∧ ∀ k : Nat, k < nof m → τ6 50 k = (l.getD k 0 : Int)) → ∃ a', f_Y3_search_119 τ6 by_ ((mset wo 48 : Nat) : Int) (i : Int) = some (.inl a') ∧ (∃ i' : Nat, a'.2.1 = (i' : Int) ∧ i' ≤ (PT (nof m)).length ∧ (∀ x, x ≠ 45 → x ≠ 49 → x ≠ 50 → x ≠ 51 → a'.2.2 x = σ x) ∧ (∀ j, j ≠ 11 → j ≠ 12 → j ≠ 13 → a'.2.2 45 j = σ 45 j) ∧ (i' < (PT (nof m)).length → a'.1 = 1 ∧ ∀ k : Nat, k < nof m → a'.2.2 49 k = ((((PT (nof m)).getD i' []).getD k 0 : Nat) : Int)) ∧ (¬ i' < (PT (nof m)).length → a'.1 = 0) ∧ a'.2.2 45 12 = (nlw lw ((PT (nof m)).take i') : Int) ∧ (bst lw ms ((PT (nof m)).take i') none = none → nlw lw ((PT (nof m)).take i') = 0) ∧ ∀ v l, bst lw ms ((PT (nof m)).take i') none = some (v, l) → 0 < nlw lw ((PT (nof m)).take i') ∧ a'.2.2 45 13 = v ∧ ∀ k : Nat, k < nof m → a'.2.2 50 k = (l.getD k 0 : Int)) ∧ (25 - a'.2.1).toNat < (25 - (i : Int)).toNat := by
          intro τ6 z1 z2 z3 z5 ⟨v, l, zb, z13, z41⟩
          unfold f_Y3_search_119
          simp only [Option.bind_some]
          have hle : nlw lw ((PT (nof m)).take i) ≤ 24 := by
            have : ∀ l : List (List Nat), nlw lw l ≤ l.length := by
              intro l
              induction l with
              | nil => exact Nat.le_refl _
              | cons y l ih => show (if lw y then 1 else 0) + nlw lw l ≤ l.length + 1; split <;> omega
            have h1 := this ((PT (nof m)).take i)
            rw [List.length_take] at h1
            omega
          rw [z5, jadd_ok (by omega) (by omega)]
          refine nextOf _ (fun x h1 h2 h3 h5 => by rw [mup_row h1, z1 x h1 h2 h3 h5]) (fun j h1 h2 h3 => by rw [mup_miss (by omega), z2 j h1 h2 h3]) (fun k hk => by rw [mup_miss (by omega)]; exact z3 k hk) (by rw [mup_hit rfl rfl, en1]; omega) (fun h => by rw [zb] at h; cases h) (fun v' l' h => ?_)
          rw [zb] at h
          cases h
          exact ⟨by rw [en1]; omega, by rw [mup_miss (by omega)]; exact z13, fun k hk => by rw [mup_miss (by omega)]; exact z41 k hk⟩
        -- a better one
        have betr : bst lw ms ((PT (nof m)).take (i + 1)) none = some (ms L, L) → ∃ a', f_Y3_search_99 τ5 by_ ((mset wo 48 : Nat) : Int) (i : Int) (ms L) = some (.inl a') ∧ (∃ i' : Nat, a'.2.1 = (i' : Int) ∧ i' ≤ (PT (nof m)).length ∧ (∀ x, x ≠ 45 → x ≠ 49 → x ≠ 50 → x ≠ 51 → a'.2.2 x = σ x) ∧ (∀ j, j ≠ 11 → j ≠ 12 → j ≠ 13 → a'.2.2 45 j = σ 45 j) ∧ (i' < (PT (nof m)).length → a'.1 = 1 ∧ ∀ k : Nat, k < nof m → a'.2.2 49 k = ((((PT (nof m)).getD i' []).getD k 0 : Nat) : Int)) ∧ (¬ i' < (PT (nof m)).length → a'.1 = 0) ∧ a'.2.2 45 12 = (nlw lw ((PT (nof m)).take i') : Int) ∧ (bst lw ms ((PT (nof m)).take i') none = none → nlw lw ((PT (nof m)).take i') = 0) ∧ ∀ v l, bst lw ms ((PT (nof m)).take i') none = some (v, l) → 0 < nlw lw ((PT (nof m)).take i') ∧ a'.2.2 45 13 = v ∧ ∀ k : Nat, k < nof m → a'.2.2 50 k = (l.getD k 0 : Int)) ∧ (25 - a'.2.1).toNat < (25 - (i : Int)).toNat := by
          intro hb
          unfold f_Y3_search_99
          simp only [Option.bind_some]
          rw [chk_pos (by decide)]
          refine cntd _ (fun x h1 h2 h3 h5 => by rw [mcp_row h3, mup_row h1, b5 x h1 h2 h3 h5]) (fun j h1 h2 h3 => by rw [mcp_miss (by omega), mup_miss (by omega), c5 j h1 h2 h3]) (fun k hk => by rw [mcp_miss (by omega), mup_miss (by omega)]; exact d5 k hk) (by rw [mcp_miss (by omega), mup_miss (by omega), f12]) ⟨_, _, hb, by rw [mcp_miss (by omega), mup_hit rfl rfl], fun k hk => ?_⟩
          rw [mcp_hit rfl (by omega) (by omega), mup_miss (by omega), show (0 : Int) + ((k : Int) - 0) = (k : Int) by omega]
          exact d5 k hk
        by_cases hz : (nlw lw ((PT (nof m)).take i) : Int) = 0
        · rw [if_pos hz]
          refine betr ?_
          rw [eb1]
          cases hbb : bst lw ms ((PT (nof m)).take i) none with
          | none => unfold stp; rw [el, hfit]; rfl
          | some x =>
            have := (k7 x.1 x.2 hbb).1
            omega
        · rw [if_neg hz]
          cases hbb : bst lw ms ((PT (nof m)).take i) none with
          | none => exact absurd (by rw [k6 hbb]; rfl) hz
          | some x =>
            obtain ⟨x1, x2, x3⟩ := k7 x.1 x.2 hbb
            rw [x2]
            by_cases hlt : x.1 ≤ ms L
            · rw [if_pos hlt]
              refine cntd τ5 b5 c5 d5 f12 ⟨x.1, x.2, ?_, by rw [f13, x2], fun k hk => by rw [f41]; exact x3 k hk⟩
              rw [eb1, hbb]
              unfold stp
              rw [el, hfit, if_pos rfl]
              show (if ms L < x.1 then _ else _) = _
              rw [if_neg (by omega)]
            · rw [if_neg hlt]
              refine betr ?_
              rw [eb1, hbb]
              unfold stp
              rw [el, hfit, if_pos rfl]
              show (if ms L < x.1 then _ else _) = _
              rw [if_pos (by omega)])
  rw [q1]
  show ∃ r τ, f_Y3_search_141 σ4 _ = some (r, τ) ∧ _
  unfold f_Y3_search_141
  rw [q4]
  have hO4 : isOy σ4 B c m f a := hO.keep q3 (q2 46 (by decide) (by decide) (by decide) (by decide)) (q2 47 (by decide) (by decide) (by decide) (by decide)) (q2 48 (by decide) (by decide) (by decide) (by decide))
  cases hbb : bst lw ms (PT (nof m)) none with
  | none =>
    have hz := q5 hbb
    rw [if_pos (by omega)]
    exact ⟨0, σ4, rfl, q2, q3, q4, fun _ => rfl, fun v l h => by cases h⟩
  | some x =>
    obtain ⟨x1, x2, x3⟩ := q6 x.1 x.2 hbb
    rw [if_neg (by omega)]
    rcases bst_in hbb with hh | ⟨hin, hl, -⟩
    · cases hh
    have hfit : fitN B c f (lq m x.2) (nof m) = true := by rw [← elw x.2, ← hlw]; exact hl
    obtain ⟨r, τ5, w1, w2, w3, w4, w5⟩ := Y3_walk hO4 hm w hc hc2 hf ha (Or.inr rfl) (l := fun k => x.2.getD k 0) (fun k hk => ⟨(pin x.2 hin).2 k hk, x3 k hk⟩) wo
    obtain ⟨hr1, w11, w42⟩ := w4 hfit
    rw [bind_some' w1, hr1]
    refine ⟨1, τ5, rfl, fun x h1 h2 h3 h5 => by rw [w2 x h1 h5, q2 x h1 h2 h3 h5], fun j h1 h2 h3 => by rw [w3 j h1, q3 j h1 h2 h3], by rw [w3 12 (by decide), q4], fun h => (by cases h), fun v l h => ?_⟩
    cases h
    exact ⟨rfl, by rw [w3 13 (by decide), x2], w11, fun k hk => ⟨by rw [w2 50 (by decide) (by decide)]; exact x3 k hk, w42 k hk⟩⟩
/-- what a day's planning changes in a week's rows -/
def wfy (σ τ : Mem) (k d : Int) : Prop := (∀ x, ¬ (45 ≤ x ∧ x ≤ 51) → ¬ (k + 1 ≤ x ∧ x ≤ k + 9) → τ x = σ x) ∧ (∀ x e, k + 1 ≤ x → x ≤ k + 6 → e ≠ d → τ x e = σ x e) ∧ ∀ x i, k + 7 ≤ x → x ≤ k + 9 → ¬ (4 * d ≤ i ∧ i < 4 * d + 4) → τ x i = σ x i
theorem wfy.rfl {σ : Mem} {k d : Int} : wfy σ σ k d := ⟨fun _ _ _ => Eq.refl _, fun _ _ _ _ _ => Eq.refl _, fun _ _ _ _ _ => Eq.refl _⟩
theorem wfy.trans {σ τ ρ : Mem} {k d : Int} (h : wfy σ τ k d) (g : wfy τ ρ k d) : wfy σ ρ k d :=
  ⟨fun x h1 h2 => by rw [g.1 x h1 h2, h.1 x h1 h2], fun x e h1 h2 h3 => by rw [g.2.1 x e h1 h2 h3, h.2.1 x e h1 h2 h3], fun x i h1 h2 h3 => by rw [g.2.2 x i h1 h2 h3, h.2.2 x i h1 h2 h3]⟩
theorem wfy.of {σ τ : Mem} {k d : Int} (hk : isK k) (h : ∀ x, ¬ (45 ≤ x ∧ x ≤ 51) → τ x = σ x) : wfy σ τ k d := by
  unfold isK at hk
  exact ⟨fun x h1 _ => h x h1, fun x e h1 h2 _ => by rw [h x (by omega)], fun x i h1 h2 _ => by rw [h x (by omega)]⟩
theorem wfy.mupd {σ : Mem} {k d x v : Int} (h1 : k + 1 ≤ x) (h2 : x ≤ k + 6) : wfy σ (mup σ x d v) k d :=
  ⟨fun y _ g => mup_row (by omega), fun y e _ _ g => mup_miss (fun q => g q.2), fun y i _ _ _ => mup_miss (by omega)⟩
theorem wfy.mupi {σ : Mem} {k d x v i : Int} (h1 : k + 7 ≤ x) (h2 : x ≤ k + 9) (hi : 4 * d ≤ i ∧ i < 4 * d + 4) : wfy σ (mup σ x i v) k d :=
  ⟨fun y _ g => mup_row (by omega), fun y e _ _ g => mup_miss (by omega), fun y j _ _ g => mup_miss (by omega)⟩
theorem Y3_paperAt {σ : Mem} {B : Bk} {c f : Int} {m a : Nat} (hO : isOy σ B c m f a) (h4 : nof m ≤ 4) {j l : Nat} (hj : j < nof m) (hl : l < nof m) (h41 : σ 50 j = (l : Int)) : f_Y3_paperAt σ (j : Int) = some (nth m l : Int) := by
  unfold f_Y3_paperAt
  rw [if_neg (by omega), hO.1, if_neg (by omega), chk_pos (by omega), h41, chk_pos (by omega), (hO.2.2.2.2.2 l hl).1]
theorem Y3_beginAt {σ : Mem} {B : Bk} {c f : Int} {m a : Nat} (hO : isOy σ B c m f a) (h4 : nof m ≤ 4) {j : Nat} (hj : j < nof m) : f_Y3_beginAt σ (j : Int) = some (σ 51 j) := by
  unfold f_Y3_beginAt
  rw [if_neg (by omega), hO.1, if_neg (by omega), chk_pos (by omega)]
theorem Y3_endAt {σ : Mem} {B : Bk} {c f : Int} {m a : Nat} (hO : isOy σ B c m f a) (h4 : nof m ≤ 4) {j l : Nat} (hj : j < nof m) (hl : l < nof m) (h41 : σ 50 j = (l : Int)) : f_Y3_endAt σ (j : Int) = some (jadd (σ 51 j) (tm B c (nth m l))) := by
  unfold f_Y3_endAt
  rw [if_neg (by omega), hO.1, if_neg (by omega), chk_pos (by omega), chk_pos (by omega), h41, chk_pos (by omega), (hO.2.2.2.2.2 l hl).2.2]
theorem Y8_put {σ : Mem} {B : Bk} {c f : Int} {m a : Nat} (hO : isOy σ B c m f a) (hm : okm B m) (w : WF B) (hc : 0 ≤ c) (hc2 : c < B 8 1) (hf : 0 ≤ f ∧ f ≤ 60) {k d o : Int} (hk : isK k) (hd : 0 ≤ d ∧ d < 5) {l : List Nat} (hl : ∀ j, j < nof m → l.getD j 0 < nof m) (h41 : ∀ j : Nat, j < nof m → σ 50 j = (l.getD j 0 : Int) ∧ σ 51 j = bg B c f (lq m l) j) :
    ∃ τ, f_Y8_put σ k d o = some τ ∧ wfy σ τ k d ∧ (∀ x, ¬ (k + 1 ≤ x ∧ x ≤ k + 9) → τ x = σ x) ∧ τ (k + 1) d = 1 ∧ τ (k + 2) d = o ∧ τ (k + 3) d = σ (k + 3) d ∧ τ (k + 4) d = σ (k + 4) d ∧ τ (k + 5) d = (nof m : Int) ∧ τ (k + 6) d = σ 45 11 ∧ ∀ j : Nat, j < nof m → τ (k + 7) (4 * d + j) = (lq m l j : Int) ∧ τ (k + 8) (4 * d + j) = bg B c f (lq m l) j ∧ τ (k + 9) (4 * d + j) = en B c f (lq m l) j := by
  have h4 := hm.2.1
  have hkk := hk
  unfold isK at hkk
  unfold f_Y8_put f_Y3_count f_Y3_keptSlots
  rw [chk_pos (by omega)]
  simp only [Option.bind_some]
  rw [chk_pos (by omega), chk_pos (by omega), chk_pos (by omega)]
  rw [show mup (mup σ (k + 1) d 1) (k + 2) d o 45 6 = (nof m : Int) by rw [mup_miss (by omega), mup_miss (by omega)]; exact hO.1]
  rw [show mup (mup (mup σ (k + 1) d 1) (k + 2) d o) (k + 5) d (nof m : Int) 45 11 = σ 45 11 by rw [mup_miss (by omega), mup_miss (by omega), mup_miss (by omega)]]
  obtain ⟨σ1, hσ1⟩ : ∃ z, z = mup (mup (mup (mup σ (k + 1) d 1) (k + 2) d o) (k + 5) d (nof m : Int)) (k + 6) d (σ 45 11) := ⟨_, rfl⟩
  rw [← hσ1]
  have r1 : ∀ x, ¬ (k + 1 ≤ x ∧ x ≤ k + 6) → σ1 x = σ x := fun x hx => by rw [hσ1, mup_row (by omega), mup_row (by omega), mup_row (by omega), mup_row (by omega)]
  have w1 : wfy σ σ1 k d := by
    rw [hσ1]
    exact ((wfy.mupd (by omega) (by omega)).trans (wfy.mupd (by omega) (by omega))).trans ((wfy.mupd (by omega) (by omega)).trans (wfy.mupd (by omega) (by omega)))
  unfold f_Y8_put_37
  obtain ⟨τ, g1, g2, g3, g4⟩ := loop_ex (f := f_Y8_put_37B k d) (fun s => ∃ j : Nat, s.1 = (j : Int) ∧ j ≤ nof m ∧ wfy σ1 s.2 k d ∧ (∀ x, ¬ (k + 7 ≤ x ∧ x ≤ k + 9) → s.2 x = σ1 x) ∧ ∀ i : Nat, i < j → s.2 (k + 7) (4 * d + i) = (lq m l i : Int) ∧ s.2 (k + 8) (4 * d + i) = bg B c f (lq m l) i ∧ s.2 (k + 9) (4 * d + i) = en B c f (lq m l) i) (fun s => (4 - s.1).toNat) (fun τ => wfy σ1 τ k d ∧ (∀ x, ¬ (k + 7 ≤ x ∧ x ≤ k + 9) → τ x = σ1 x) ∧ ∀ i : Nat, i < nof m → τ (k + 7) (4 * d + i) = (lq m l i : Int) ∧ τ (k + 8) (4 * d + i) = bg B c f (lq m l) i ∧ τ (k + 9) (4 * d + i) = en B c f (lq m l) i) (a := (0, σ1)) ⟨0, rfl, Nat.zero_le _, wfy.rfl, fun _ _ => rfl, fun i hi => absurd hi (Nat.not_lt_zero _)⟩ (Nat.le_of_ble_eq_true rfl) (by
    rintro ⟨_, τ⟩ ⟨j, rfl, hj, k1, k2, k3⟩
    have k1 : wfy σ1 τ k d := k1
    have k2 : ∀ x, ¬ (k + 7 ≤ x ∧ x ≤ k + 9) → τ x = σ1 x := k2
    have k3 : ∀ i : Nat, i < j → τ (k + 7) (4 * d + i) = (lq m l i : Int) ∧ τ (k + 8) (4 * d + i) = bg B c f (lq m l) i ∧ τ (k + 9) (4 * d + i) = en B c f (lq m l) i := k3
    show (∃ a', f_Y8_put_37C k d (j : Int) τ = _ ∧ _) ∨ ∃ a', f_Y8_put_37C k d (j : Int) τ = _ ∧ _
    have keepO : ∀ ρ : Mem, (∀ x, 45 ≤ x → x ≤ 51 → ρ x = σ x) → isOy ρ B c m f a := fun ρ h => by
      unfold isOy
      rw [h 45 (by decide) (by decide), h 46 (by decide) (by decide), h 47 (by decide) (by decide), h 48 (by decide) (by decide)]
      exact hO
    have hτ : ∀ x, 45 ≤ x → x ≤ 51 → τ x = σ x := fun x _ _ => by rw [k2 x (by omega), r1 x (by omega)]
    unfold f_Y8_put_37C f_Y3_count
    simp only [Option.bind_some]
    rw [hτ 45 (by decide) (by decide), hO.1]
    by_cases hkn : (nof m : Int) ≤ j
    · right
      rw [if_pos hkn]
      have : j = nof m := by omega
      subst this
      exact ⟨_, rfl, k1, k2, k3⟩
    · left
      have hjl := hl j (by omega)
      obtain ⟨v41, v42⟩ := h41 j (by omega)
      have ej : jadd (jmul d 4) (j : Int) = 4 * d + j := by rw [jmul_ok (by omega) (by omega), jadd_ok (by omega) (by omega)]; omega
      have hbg := bg_b w hc hc2 hf (q := lq m l) (n := nof m) (fun i hi => hm.2.2 _ (nth_in (hl i hi)).2.1) (k := j) (by omega)
      rw [if_neg hkn, if_neg (by omega), ej, bind_some' (Y3_paperAt (keepO τ hτ) h4 (by omega) hjl (by rw [hτ 50 (by decide) (by decide)]; exact v41)), chk_pos (by omega)]
      obtain ⟨τ2, hτ2⟩ : ∃ z, z = mup τ (k + 7) (4 * d + j) (nth m (l.getD j 0) : Int) := ⟨_, rfl⟩
      have h2 : ∀ x, 45 ≤ x → x ≤ 51 → τ2 x = σ x := fun x a b => by rw [hτ2, mup_row (by omega), hτ x a b]
      rw [← hτ2, bind_some' (Y3_beginAt (keepO τ2 h2) h4 (by omega)), chk_pos (by omega), h2 51 (by decide) (by decide), v42]
      obtain ⟨τ3, hτ3⟩ : ∃ z, z = mup τ2 (k + 8) (4 * d + j) (bg B c f (lq m l) j) := ⟨_, rfl⟩
      have h3 : ∀ x, 45 ≤ x → x ≤ 51 → τ3 x = σ x := fun x a b => by rw [hτ3, mup_row (by omega), h2 x a b]
      rw [← hτ3, bind_some' (Y3_endAt (keepO τ3 h3) h4 (by omega) hjl (by rw [h3 50 (by decide) (by decide)]; exact v41)), chk_pos (by omega), h3 51 (by decide) (by decide), v42]
      have een : en B c f (lq m l) j = bg B c f (lq m l) j + tm B c (nth m (l.getD j 0)) := rfl
      rw [jadd_ok (a := bg B c f (lq m l) j) (by omega) (by omega), ← een, jadd_ok (a := (j : Int)) (by omega) (by omega)]
      refine ⟨_, rfl, ⟨j + 1, by show (j : Int) + 1 = _; omega, by omega, ?_, fun x hx => ?_, fun i hi => ?_⟩, by show (4 - ((j : Int) + 1)).toNat < (4 - (j : Int)).toNat; omega⟩
      · dsimp only
        rw [hτ3, hτ2]
        exact k1.trans (((wfy.mupi (by omega) (by omega) (by omega)).trans (wfy.mupi (by omega) (by omega) (by omega))).trans (wfy.mupi (by omega) (by omega) (by omega)))
      · dsimp only
        rw [mup_row (by omega), hτ3, mup_row (by omega), hτ2, mup_row (by omega), k2 x hx]
      · dsimp only
        by_cases e : i = j
        · subst e
          refine ⟨?_, ?_, ?_⟩
          · rw [mup_miss (by omega), hτ3, mup_miss (by omega), hτ2, mup_hit rfl rfl]; rfl
          · rw [mup_miss (by omega), hτ3, mup_hit rfl rfl]
          · rw [mup_hit rfl rfl]
        · obtain ⟨q1, q2, q3⟩ := k3 i (by omega)
          refine ⟨?_, ?_, ?_⟩
          · rw [mup_miss (by omega), hτ3, mup_miss (by omega), hτ2, mup_miss (by omega), q1]
          · rw [mup_miss (by omega), hτ3, mup_miss (by omega), hτ2, mup_miss (by omega), q2]
          · rw [mup_miss (by omega), hτ3, mup_miss (by omega), hτ2, mup_miss (by omega), q3])
  refine ⟨τ, by rw [g1]; rfl, w1.trans g2, fun x hx => by rw [g3 x (by omega), r1 x (by omega)], ?_, ?_, ?_, ?_, ?_, ?_, g4⟩
  · rw [g3 _ (by omega), hσ1, mup_miss (by omega), mup_miss (by omega), mup_miss (by omega), mup_hit rfl rfl]
  · rw [g3 _ (by omega), hσ1, mup_miss (by omega), mup_miss (by omega), mup_hit rfl rfl]
  · rw [g3 _ (by omega), hσ1, mup_miss (by omega), mup_miss (by omega), mup_miss (by omega), mup_miss (by omega)]
  · rw [g3 _ (by omega), hσ1, mup_miss (by omega), mup_miss (by omega), mup_miss (by omega), mup_miss (by omega)]
  · rw [g3 _ (by omega), hσ1, mup_miss (by omega), mup_hit rfl rfl]
  · rw [g3 _ (by omega), hσ1, mup_hit rfl rfl]
theorem Y8_open {σ : Mem} {k d f a : Int} (hk : isK k) (hd : 0 ≤ d ∧ d < 5) : ∃ τ, f_X8_open σ k d f a = some τ ∧ wfy σ τ k d ∧ (∀ x, ¬ (k + 1 ≤ x ∧ x ≤ k + 9) → τ x = σ x) ∧ τ (k + 1) d = 0 ∧ τ (k + 2) d = -1 ∧ τ (k + 3) d = f ∧ τ (k + 4) d = a ∧ τ (k + 5) d = 0 ∧ τ (k + 6) d = 0 := by
  unfold isK at hk
  unfold f_X8_open
  rw [chk_pos (by omega)]
  simp only [Option.bind_some]
  rw [chk_pos (by omega), chk_pos (by omega), chk_pos (by omega), chk_pos (by omega), chk_pos (by omega)]
  refine ⟨_, rfl, ?_, fun x hx => ?_, ?_, ?_, ?_, ?_, ?_, ?_⟩
  · exact ((((wfy.mupd (by omega) (by omega)).trans (wfy.mupd (by omega) (by omega))).trans ((wfy.mupd (by omega) (by omega)).trans (wfy.mupd (by omega) (by omega)))).trans (wfy.mupd (by omega) (by omega))).trans (wfy.mupd (by omega) (by omega))
  · rw [mup_row (by omega), mup_row (by omega), mup_row (by omega), mup_row (by omega), mup_row (by omega), mup_row (by omega)]
  · rw [mup_miss (by omega), mup_miss (by omega), mup_miss (by omega), mup_miss (by omega), mup_miss (by omega), mup_hit rfl rfl]
  · rw [mup_miss (by omega), mup_miss (by omega), mup_miss (by omega), mup_miss (by omega), mup_hit rfl rfl]
  · rw [mup_miss (by omega), mup_miss (by omega), mup_miss (by omega), mup_hit rfl rfl]
  · rw [mup_miss (by omega), mup_miss (by omega), mup_hit rfl rfl]
  · rw [mup_miss (by omega), mup_hit rfl rfl]
  · rw [mup_hit rfl rfl]
theorem Y4_planDay {σ : Mem} {B : Bk} {b : Int} (hb : isB b) (hB : isBk σ b B) (w : WF B) {c : Int} (hc : 0 ≤ c) (hc2 : c < B 8 1) {k d o : Int} (hk : isK k) (hd : 0 ≤ d ∧ d < 5) (ho : -1 ≤ o ∧ o < B 8 0) (hcame : f_X8_cameTo σ k d = some o) : ∃ τ, f_Y4_planDay σ b c d k = some τ ∧ wfy σ τ k d ∧ isWd τ k B c d (fre B c o) (ahd B c o) (dpl B c d o) := by
  have hn := w.1
  unfold WFn at hn
  have hkk := hk
  unfold isK at hkk
  have hbb := hb
  unfold isB at hbb
  have hf := fre_b w hc hc2 ho.2
  have ha := ahd_b w hc hc2 ho.2
  have efo : fre B c o = if o < 0 then 0 else tm B c o + rs B c := rfl
  have eao : ahd B c o = if o < 0 then 0 else (tm B c o).toNat := rfl
  have hm := okm_od w hc hc2 d
  have ed : dpl B c d o = match bst (lwD B c (fre B c o) (ahd B c o)) (msD B c (fre B c o) (ahd B c o)) (its (-1) (od B c d)) none with
    | some x => some x
    | none => if B 5 c = 1 ∧ d < 4 then ovf B c (fre B c o) (ahd B c o) (od B c d) none 12 else none := rfl
  obtain ⟨f, ef⟩ : ∃ f, f = fre B c o := ⟨_, rfl⟩
  obtain ⟨a, ea⟩ : ∃ a, a = ahd B c o := ⟨_, rfl⟩
  obtain ⟨m, em⟩ : ∃ m, m = od B c d := ⟨_, rfl⟩
  rw [← ef] at hf efo ed ⊢
  rw [← ea] at ha eao ed ⊢
  rw [← em] at hm ed
  have main : ∃ τ, f_Y4_planDay_45 σ b c d k a f = some τ ∧ wfy σ τ k d ∧ isWd τ k B c d f a (dpl B c d o) := by
    unfold f_Y4_planDay_45
    obtain ⟨σ1, o1, o2, o3, o4, o5, o6, o7, o8, o9⟩ := Y8_open (σ := σ) hk hd (f := f) (a := (a : Int))
    rw [bind_some' o1, chk_pos (by omega)]
    have hB1 : isBk σ1 b B := hB.rows fun x h1 h2 => o3 x (by omega)
    rw [bind_some' (X0_papersOf hB1 w d)]
    simp only [Option.bind_some]
    rw [takes_od hB1 w hc hc2, ← em]
    obtain ⟨σ2, p1, p2, p3⟩ := Y3_gather hb hB1 w hc hc2 hm f ha
    rw [bind_some' p1]
    obtain ⟨r, σ3, q1, q2, q3, q4, q5, q6⟩ := Y3_search p2 hm w hc hc2 hf ha (by_ := 0) (by omega) (woB B (-1))
    rw [woB_no] at q1
    rw [bind_some' q1]
    have k3 : ∀ x, ¬ (45 ≤ x ∧ x ≤ 51) → σ3 x = σ1 x := fun x hx => by rw [q2 x (by omega) (by omega) (by omega) (by omega), p3 x (by omega)]
    have w3 : wfy σ σ3 k d := o2.trans (wfy.of hk k3)
    rw [bst_its] at ed
    cases hbst : bst (lwS B c m f a) (msS B c m f a 0 (woB B (-1))) (PT (nof m)) none with
    | some x =>
      obtain ⟨v, l⟩ := x
      obtain ⟨z1, z2, z3, z4⟩ := q6 v l hbst
      rcases bst_in hbst with hh | ⟨hin, -, -⟩
      · cases hh
      obtain ⟨-, -, pin⟩ := PT_ok (nof m) hm.2.1
      have ed2 : dpl B c d o = some (v, (-1, m, l)) := by rw [ed, hbst]; rfl
      rw [z1, ed2]
      show ∃ τ, (if (1 : Int) = 0 then _ else (f_Y8_put σ3 k d (-1)).bind _) = some τ ∧ _
      rw [if_neg (by decide)]
      have hO3 : isOy σ3 B c m f a := p2.keep q3 (q2 46 (by decide) (by decide) (by decide) (by decide)) (q2 47 (by decide) (by decide) (by decide) (by decide)) (q2 48 (by decide) (by decide) (by decide) (by decide))
      obtain ⟨τ, y1, y2, y3, y4, y5, y6, y7, y8, y9, y10⟩ := Y8_put hO3 hm w hc hc2 hf hk hd (o := -1) (l := l) (fun j hj => (pin l hin).2 j hj) z4
      rw [bind_some' y1]
      refine ⟨τ, rfl, w3.trans y2, by rw [y6, k3 _ (by omega)]; exact o6, by rw [y7, k3 _ (by omega)]; exact o7, fun h => (by cases h), fun v' o' m' l' h => ?_⟩
      cases h
      exact ⟨y4, y5, y8, by rw [y9, z3], y10⟩
    | none =>
      have hr := q5 hbst
      have ed2 : dpl B c d o = if B 5 c = 1 ∧ d < 4 then ovf B c f a m none 12 else none := by rw [ed, hbst]; rfl
      have hw3 : isWd σ3 k B c d f a none := ⟨by rw [k3 _ (by omega)]; exact o6, by rw [k3 _ (by omega)]; exact o7, fun _ => ⟨by rw [k3 _ (by omega)]; exact o4, by rw [k3 _ (by omega)]; exact o5, by rw [k3 _ (by omega)]; exact o8, by rw [k3 _ (by omega)]; exact o9⟩, fun v o' m' l' h => (by cases h)⟩
      have hB3 : isBk σ3 b B := hB1.rows fun x h1 h2 => k3 x (by omega)
      have hnight := (w.2.2.1 c hc hc2).2.2.1
      rw [hr]
      show ∃ τ, (if (0 : Int) = 0 then chk _ (if σ3 (b + 6) c = 0 then some σ3 else if d ≠ 4 then f_Y4_planDay_131 σ3 b c d k a f m 0 0 else some σ3) else _) = some τ ∧ _
      rw [if_pos rfl, chk_pos (by omega), hB3.night (by omega) (by omega)]
      by_cases n0 : B 5 c = 0
      · rw [if_pos n0]
        exact ⟨σ3, rfl, w3, by rw [ed2, if_neg (by omega)]; exact hw3⟩
      rw [if_neg n0]
      by_cases d4 : d = 4
      · rw [if_neg (by omega)]
        exact ⟨σ3, rfl, w3, by rw [ed2, if_neg (by omega)]; exact hw3⟩
      rw [if_pos d4, ed2, if_pos (by omega)]
      unfold f_Y4_planDay_131
      have hm1 := hm.1
      obtain ⟨τ, g1, g2, g3⟩ := loop_ex (f := f_Y4_planDay_131B b c d k a f m) (fun s => ∃ p : Nat, s.2.1 = (p : Int) ∧ (p : Int) ≤ B 8 0 ∧ wfy σ s.2.2 k d ∧ isWd s.2.2 k B c d f a (ovf B c f a m none p) ∧ ∀ v t, ovf B c f a m none p = some (v, t) → s.1 = v) (fun s => (12 - s.2.1).toNat) (fun τ => wfy σ τ k d ∧ isWd τ k B c d f a (ovf B c f a m none 12)) (a := (0, 0, σ3)) ⟨0, rfl, by omega, w3, hw3, fun v t h => (by cases h)⟩ (Nat.le_of_ble_eq_true rfl) (by
        rintro ⟨x9, _, τ⟩ ⟨p, rfl, hp, k1, k2, k4⟩
        have k1 : wfy σ τ k d := k1
        have k2 : isWd τ k B c d f a (ovf B c f a m none p) := k2
        have k4 : ∀ v t, ovf B c f a m none p = some (v, t) → x9 = v := k4
        show (∃ a', f_Y4_planDay_131C b c d k a f m x9 (p : Int) τ = _ ∧ _) ∨ ∃ a', f_Y4_planDay_131C b c d k a f m x9 (p : Int) τ = _ ∧ _
        have hBt : isBk τ b B := hB.rows fun x h1 h2 => k1.1 x (by omega) (by omega)
        unfold f_Y4_planDay_131C
        rw [hBt.nP]
        by_cases hpn : B 8 0 ≤ p
        · right
          rw [if_pos hpn]
          refine ⟨_, rfl, k1, ?_⟩
          rw [ovf_end (n := p) (fun q hq => ?_) 12 (by omega)]
          · exact k2
          · cases hh : m.testBit q with
            | false => rfl
            | true =>
              have := hm.2.2 q hh
              omega
        · left
          have e1 : jadd (p : Int) 1 = ((p + 1 : Nat) : Int) := by rw [jadd_ok (by omega) (by omega)]; omega
          have skip : ∀ (x9 : Int) (ρ : Mem), wfy σ ρ k d → isWd ρ k B c d f a (ovf B c f a m none (p + 1)) → (∀ v t, ovf B c f a m none (p + 1) = some (v, t) → x9 = v) → ∃ a', f_Y4_planDay_261 ρ b c d k a f m x9 (p : Int) = some (.inl a') ∧ (∃ p : Nat, a'.2.1 = (p : Int) ∧ (p : Int) ≤ B 8 0 ∧ wfy σ a'.2.2 k d ∧ isWd a'.2.2 k B c d f a (ovf B c f a m none p) ∧ ∀ v t, ovf B c f a m none p = some (v, t) → a'.1 = v) ∧ (12 - a'.2.1).toNat < (12 - (p : Int)).toNat := fun x9 ρ h1 h2 h3 => by
            unfold f_Y4_planDay_261
            rw [e1]
            exact ⟨_, rfl, ⟨p + 1, rfl, by omega, h1, h2, h3⟩, by show (12 - ((p + 1 : Nat) : Int)).toNat < (12 - (p : Int)).toNat; omega⟩
          have eov : ovf B c f a m none (p + 1) = if m.testBit p && decide (tm B c p ≤ B 8 3) then bst (lwD B c f a) (msD B c f a) (its p (clr m p)) (ovf B c f a m none p) else ovf B c f a m none p := rfl
          rw [if_neg hpn, bind_some' (hasBit_n (by omega) (by omega))]
          cases hbit : m.testBit p with
          | false =>
            rw [hbit, Bool.false_and, if_neg (by decide)] at eov
            show ∃ a', (if (0 : Int) = 0 then _ else _) = _ ∧ _
            rw [if_pos rfl]
            exact skip x9 τ k1 (by rw [eov]; exact k2) (by rw [eov]; exact k4)
          | true =>
            show ∃ a', (if (1 : Int) = 0 then _ else _) = _ ∧ _
            have htm := tm_b w hc hc2 (p := (p : Int)) (by omega) (by omega)
            rw [if_neg (by decide), bind_some' (X0_timeFor hBt w hc hc2 (by omega) (by omega)), hBt.hours, mn_eq]
            by_cases hh : tm B c p ≤ B 8 3
            rotate_left
            · rw [hbit, decide_eq_false hh, Bool.and_false, if_neg (by decide)] at eov
              rw [if_pos (by omega)]
              exact skip x9 τ k1 (by rw [eov]; exact k2) (by rw [eov]; exact k4)
            · rw [hbit, decide_eq_true hh, Bool.and_true, if_pos rfl, bst_comb, bst_its] at eov
              rw [if_neg (by omega), jclr_n hm1 (by omega)]
              have hmc := hm.clr p
              obtain ⟨ρ2, s1, s2, s3⟩ := Y3_gather hb hBt w hc hc2 hmc f ha
              obtain ⟨st, est⟩ := n_of (w.2.1 p (by omega) (by omega)).2.1.1
              have hst := (w.2.1 p (by omega) (by omega)).2.1
              have hB2 : isBk ρ2 b B := hBt.rows fun x h1 h2 => s3 x (by omega)
              rw [bind_some' s1, chk_pos (by omega), hB2.start (by omega) (by omega), est, bind_some' (show f_X10_span ρ2 (st : Int) 48 = some ((spn st 48 : Nat) : Int) from span_n (b := 48) (by omega) (by omega)), woB_p B est]
              obtain ⟨r, ρ3, t1, t2, t3, t4, t5, t6⟩ := Y3_search s2 hmc w hc hc2 hf ha (by_ := 0) (by omega) (woB B p)
              rw [bind_some' t1]
              simp only [Option.bind_some]
              have kk3 : ∀ x, ¬ (45 ≤ x ∧ x ≤ 51) → ρ3 x = τ x := fun x hx => by rw [t2 x (by omega) (by omega) (by omega) (by omega), s3 x (by omega)]
              have ww3 : wfy σ ρ3 k d := k1.trans (wfy.of hk kk3)
              have hw : isWd ρ3 k B c d f a (ovf B c f a m none p) := k2.keep fun x h1 h2 => kk3 x (by omega)
              cases hbb2 : bst (lwS B c (clr m p) f a) (msS B c (clr m p) f a 0 (woB B p)) (PT (nof (clr m p))) none with
              | none =>
                rw [hbb2] at eov
                have eov : ovf B c f a m none (p + 1) = ovf B c f a m none p := eov
                rw [t5 hbb2, if_pos rfl]
                exact skip x9 ρ3 ww3 (by rw [eov]; exact hw) (by rw [eov]; exact k4)
              | some y =>
                obtain ⟨v, l⟩ := y
                obtain ⟨z1, z2, z3, z4⟩ := t6 v l hbb2
                rcases bst_in hbb2 with hh2 | ⟨hin, -, -⟩
                · cases hh2
                obtain ⟨-, -, pin⟩ := PT_ok (nof (clr m p)) hmc.2.1
                rw [hbb2] at eov
                have better : ovf B c f a m none (p + 1) = some (v, ((p : Int), clr m p, l)) → ∃ a', f_Y4_planDay_240 ρ3 b c d k a f m (p : Int) = some (.inl a') ∧ (∃ p : Nat, a'.2.1 = (p : Int) ∧ (p : Int) ≤ B 8 0 ∧ wfy σ a'.2.2 k d ∧ isWd a'.2.2 k B c d f a (ovf B c f a m none p) ∧ ∀ v t, ovf B c f a m none p = some (v, t) → a'.1 = v) ∧ (12 - a'.2.1).toNat < (12 - (p : Int)).toNat := fun hov => by
                  unfold f_Y4_planDay_240 f_Y3_least
                  have hO3 : isOy ρ3 B c (clr m p) f a := s2.keep t3 (t2 46 (by decide) (by decide) (by decide) (by decide)) (t2 47 (by decide) (by decide) (by decide) (by decide)) (t2 48 (by decide) (by decide) (by decide) (by decide))
                  obtain ⟨ρ4, y1, y2, y3, y4, y5, y6, y7, y8, y9, y10⟩ := Y8_put hO3 hmc w hc hc2 hf hk hd (o := (p : Int)) (l := l) (fun j hj => (pin l hin).2 j hj) z4
                  simp only [Option.bind_some]
                  rw [bind_some' y1]
                  refine skip _ ρ4 (ww3.trans y2) ?_ (fun v' t' h => by rw [hov] at h; cases h; exact z2)
                  rw [hov]
                  refine ⟨by rw [y6]; exact hw.1, by rw [y7]; exact hw.2.1, fun h => (by cases h), fun v' o' m' l' h => ?_⟩
                  cases h
                  exact ⟨y4, y5, y8, by rw [y9, z3], y10⟩
                rw [z1, if_neg (by decide), chk_pos (by omega)]
                cases hov : ovf B c f a m none p with
                | none =>
                  rw [hov] at hw eov
                  rw [(hw.2.2.1 rfl).1, if_pos rfl]
                  exact better eov
                | some y =>
                  obtain ⟨v0, o0, m0, l0⟩ := y
                  have ex9 := k4 v0 _ hov
                  rw [hov] at hw eov
                  have eov : ovf B c f a m none (p + 1) = if v < v0 then some (v, ((p : Int), clr m p, l)) else some (v0, o0, m0, l0) := eov
                  rw [(hw.2.2.2 v0 o0 m0 l0 rfl).1, if_neg (by decide)]
                  unfold f_Y3_least
                  simp only [Option.bind_some]
                  rw [z2]
                  by_cases hlt : v < v0
                  · rw [if_neg (by omega)]
                    exact better (by rw [eov, if_pos hlt])
                  · rw [if_pos (by omega)]
                    rw [if_neg hlt] at eov
                    exact skip x9 ρ3 ww3 (by rw [eov]; exact hw) (by rw [eov]; intro v' t' h; cases h; exact ex9))
      exact ⟨τ, by rw [g1]; rfl, g2, g3⟩
  unfold f_Y4_planDay
  rw [bind_some' hcame]
  by_cases h0 : o < 0
  · rw [if_neg (by omega)]
    unfold f_Y4_planDay_25
    rw [if_neg (by omega)]
    rw [if_pos h0] at efo eao
    subst efo eao
    exact main
  · have htm := tm_b w hc hc2 (p := o) (by omega) ho.2
    have hrs := rs_b w hc hc2
    rw [if_neg h0] at efo eao
    rw [if_pos (by omega), bind_some' (X0_timeFor hB w hc hc2 (by omega) ho.2)]
    unfold f_Y4_planDay_25
    rw [if_pos (by omega), bind_some' (X0_restFor hB w hc hc2), jadd_ok (by omega) (by omega), ← efo, show tm B c o = (a : Int) by omega]
    exact main
