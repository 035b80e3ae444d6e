/-! AN ORDER, laid: where each begins, whether all end in the day, in which slots one is kept -/
/-- when one is free behind the first k -/
def nx (B : Bk) (c f : Int) (q : Nat → Nat) : Nat → Int
  | 0 => f
  | k + 1 => max (B 1 (q k)) (nx B c f q k) + tm B c (q k) + rs B c
def bg (B : Bk) (c f : Int) (q : Nat → Nat) (k : Nat) : Int := max (B 1 (q k)) (nx B c f q k)
def en (B : Bk) (c f : Int) (q : Nat → Nat) (k : Nat) : Int := bg B c f q k + tm B c (q k)
theorem nx_s (B : Bk) (c f : Int) (q : Nat → Nat) (k : Nat) : nx B c f q (k + 1) = en B c f q k + rs B c := rfl
def anyN (p : Nat → Bool) : Nat → Bool
  | 0 => false
  | n + 1 => anyN p n || p n
def fitN (B : Bk) (c f : Int) (q : Nat → Nat) : Nat → Bool
  | 0 => true
  | n + 1 => fitN B c f q n && decide (en B c f q n ≤ 48)
theorem fitN_mono {B : Bk} {c f : Int} {q : Nat → Nat} {k : Nat} : ∀ n, k ≤ n → fitN B c f q n = true → fitN B c f q k = true
  | 0, h, ht => by have : k = 0 := by omega
                   subst this; rfl
  | n + 1, h, ht => by
    by_cases e : k = n + 1
    · subst e; exact ht
    · have h1 : (fitN B c f q n && decide (en B c f q n ≤ 48)) = true := ht
      rw [Bool.and_eq_true] at h1
      exact fitN_mono n (by omega) h1.1
theorem fitN_at {B : Bk} {c f : Int} {q : Nat → Nat} {k n : Nat} (h : k < n) (ht : fitN B c f q n = true) : en B c f q k ≤ 48 := by
  have h1 : (fitN B c f q k && decide (en B c f q k ≤ 48)) = true := fitN_mono (k := k + 1) n (by omega) ht
  rw [Bool.and_eq_true] at h1
  exact of_decide_eq_true h1.2
/-- who waits, who sits, in a slot -/
def wtB (wo : Nat → Bool) (B : Bk) (c f : Int) (q : Nat → Nat) (n t : Nat) : Bool := wo t || anyN (fun j => decide (B 1 (q j) ≤ t) && decide ((t : Int) < bg B c f q j)) n
def siB (B : Bk) (c f : Int) (q : Nat → Nat) (n t : Nat) : Bool := anyN (fun j => decide (bg B c f q j ≤ t) && decide ((t : Int) < en B c f q j)) n
def saB (a : Nat) (B : Bk) (c f : Int) (q : Nat → Nat) (n t : Nat) : Bool := decide (t < a) || siB B c f q n t
def kpB (wo : Nat → Bool) (a : Nat) (B : Bk) (c f : Int) (q : Nat → Nat) (n t : Nat) : Bool := wtB wo B c f q n t && !saB a B c f q n t
theorem or_mset {p q : Nat → Bool} {a b : Nat} (hb : b ≤ 48) (h : ∀ t, t < 48 → q t = (p t || (decide (a ≤ t) && decide (t < b)))) : mset p 48 ||| spn a b = mset q 48 := by
  refine tb_ext (n := 48) (Nat.or_lt_two_pow (mset_lt _ _) (spn_lt hb)) (mset_lt _ _) fun i hi => ?_
  rw [Nat.testBit_or, mset_tb, mset_tb, spn_tb, h i hi]
  simp [hi]
theorem nx_b {B : Bk} (w : WF B) {c f : Int} (hc : 0 ≤ c) (hc2 : c < B 8 1) (hf : 0 ≤ f ∧ f ≤ 60) {q : Nat → Nat} {n : Nat} (hq : ∀ k, k < n → (q k : Int) < B 8 0) : ∀ k, k ≤ n → 0 ≤ nx B c f q k ∧ nx B c f q k ≤ 60 + 32 * k
  | 0, _ => ⟨hf.1, by simp [nx]; omega⟩
  | k + 1, h => by
    have ih := nx_b w hc hc2 hf hq k (by omega)
    have h1 := tm_b w hc hc2 (p := (q k : Int)) (by omega) (hq k (by omega))
    have h2 := rs_b w hc hc2
    have h3 := (w.2.1 (q k) (by omega) (hq k (by omega))).2.1
    unfold nx
    omega
theorem bg_b {B : Bk} (w : WF B) {c f : Int} (hc : 0 ≤ c) (hc2 : c < B 8 1) (hf : 0 ≤ f ∧ f ≤ 60) {q : Nat → Nat} {n : Nat} (hq : ∀ k, k < n → (q k : Int) < B 8 0) {k : Nat} (h : k < n) : B 1 (q k) ≤ bg B c f q k ∧ 0 ≤ bg B c f q k ∧ bg B c f q k ≤ 60 + 32 * k ∧ bg B c f q k + 1 ≤ en B c f q k ∧ en B c f q k ≤ 84 + 32 * k ∧ nx B c f q k ≤ bg B c f q k := by
  have h0 := nx_b w hc hc2 hf hq k (by omega)
  have h1 := tm_b w hc hc2 (p := (q k : Int)) (by omega) (hq k h)
  have h3 := (w.2.1 (q k) (by omega) (hq k h)).2.1
  unfold en bg
  omega
theorem X3_walk {σ : Mem} {B : Bk} {c f : Int} {m a : Nat} (hO : isOr σ B c m f a) (hm : okm B m) (w : WF B) (hc : 0 ≤ c) (hc2 : c < B 8 1) (hf : 0 ≤ f ∧ f ≤ 60) (ha : a ≤ 48) {x1 : Int} (hx : x1 = 40 ∨ x1 = 41) {l : Nat → Nat} (hl : ∀ k, k < nof m → l k < nof m ∧ σ x1 k = (l k : Int)) (wo : Nat → Bool) :
    ∃ r τ, f_X3_walk σ x1 ((mset wo 48 : Nat) : Int) = some (r, τ) ∧ (∀ x, x ≠ 36 → x ≠ 42 → τ x = σ x) ∧ (∀ j, j ≠ 11 → τ 36 j = σ 36 j) ∧ (fitN B c f (fun k => nth m (l k)) (nof m) = true → r = 1 ∧ τ 36 11 = ((mset (kpB wo a B c f (fun k => nth m (l k)) (nof m)) 48 : Nat) : Int) ∧ ∀ k, k < nof m → τ 42 k = bg B c f (fun k => nth m (l k)) k) ∧ (fitN B c f (fun k => nth m (l k)) (nof m) = false → r = 0) := by
  obtain ⟨o6, o7, o8, -, o10, oj⟩ := hO
  obtain ⟨q, hq⟩ : ∃ q : Nat → Nat, q = fun k => nth m (l k) := ⟨_, rfl⟩
  rw [← hq]
  have hqP : ∀ k, k < nof m → (q k : Int) < B 8 0 := fun k hk => by
    rw [hq]; exact hm.2.2 _ (nth_in (hl k hk).1).2.1
  have h4 := hm.2.1
  unfold f_X3_walk
  simp only [Option.bind_some]
  rw [o10, o8]
  unfold f_X3_walk_18
  have key := loop_ex (f := f_X3_walk_18B x1) (fun s => ∃ k : Nat, s.2.2.2.1 = (k : Int) ∧ k ≤ nof m ∧ fitN B c f q k = true ∧ s.1 = ((mset (saB a B c f q k) 48 : Nat) : Int) ∧ s.2.1 = ((mset (wtB wo B c f q k) 48 : Nat) : Int) ∧ s.2.2.1 = nx B c f q k ∧ (∀ x, x ≠ 42 → s.2.2.2.2 x = σ x) ∧ ∀ j : Nat, j < k → s.2.2.2.2 42 j = bg B c f q j) (fun s => (4 - s.2.2.2.1).toNat)
    (Sum.elim (fun τ => fitN B c f q (nof m) = false ∧ ∀ x, x ≠ 42 → τ x = σ x) (fun e => fitN B c f q (nof m) = true ∧ e.1 = ((mset (saB a B c f q (nof m)) 48 : Nat) : Int) ∧ e.2.1 = ((mset (wtB wo B c f q (nof m)) 48 : Nat) : Int) ∧ (∀ x, x ≠ 42 → e.2.2 x = σ x) ∧ ∀ j : Nat, j < nof m → e.2.2 42 j = bg B c f q j)) (a := (((spn 0 a : Nat) : Int), ((mset wo 48 : Nat) : Int), f, 0, σ)) ?_ (Nat.le_of_ble_eq_true rfl) ?_
  · obtain ⟨e, h1, h2⟩ := key
    rw [h1]
    cases e with
    | inl τ =>
      obtain ⟨g1, g2⟩ := h2
      refine ⟨0, τ, rfl, fun x h36 h42 => g2 x h42, fun j hj => by rw [g2 36 (by decide)], fun h => ?_, fun _ => rfl⟩
      rw [g1] at h; cases h
    | inr e =>
      obtain ⟨x4, x6, τ⟩ := e
      obtain ⟨g1, g2, g3, g4, g5⟩ := h2
      show ∃ r τ', f_X3_walk_121 τ x4 x6 = some (r, τ') ∧ _
      have g2 : x4 = _ := g2
      have g3 : x6 = _ := g3
      have g4 : ∀ x, x ≠ 42 → τ x = σ x := g4
      have g5 : ∀ j : Nat, j < nof m → τ 42 j = _ := g5
      unfold f_X3_walk_121
      have hs := mset_lt (saB a B c f q (nof m)) 48
      have hw := mset_lt (wtB wo B c f q (nof m)) 48
      rw [g2, g3, kandn_n (by omega) (by omega)]
      have e1 : andn (mset (wtB wo B c f q (nof m)) 48) (mset (saB a B c f q (nof m)) 48) = mset (kpB wo a B c f q (nof m)) 48 := by
        refine tb_ext (n := 48) (andn_lt hw) (mset_lt _ _) fun i hi => ?_
        rw [andn_tb, mset_tb, mset_tb, mset_tb]
        unfold kpB
        simp [hi]
      rw [e1]
      refine ⟨1, _, rfl, fun x h36 h42 => by rw [mup_row h36, g4 x h42], fun j hj => by rw [mup_miss (by omega), g4 36 (by decide)], fun _ => ⟨rfl, mup_hit rfl rfl, fun k hk => ?_⟩, fun h => by rw [g1] at h; cases h⟩
      rw [mup_miss (by omega)]
      exact g5 k hk
  · refine ⟨0, rfl, Nat.zero_le _, rfl, ?_, ?_, rfl, fun _ _ => rfl, fun j hj => absurd hj (Nat.not_lt_zero _)⟩
    · show ((spn 0 a : Nat) : Int) = _
      congr 1
      refine tb_ext (n := 48) (spn_lt ha) (mset_lt _ _) fun i hi => ?_
      rw [spn_tb, mset_tb]
      unfold saB siB anyN
      simp [hi]
    · show ((mset wo 48 : Nat) : Int) = _
      congr 1
      refine mset_congr fun i hi => ?_
      unfold wtB anyN
      simp
  · rintro ⟨x4, x6, x8, x9, τ⟩ ⟨k, g9, hk, gf, g4, g6, g8, grow, gj⟩
    have g9 : x9 = (k : Int) := g9
    have g4 : x4 = _ := g4
    have g6 : x6 = _ := g6
    have g8 : x8 = _ := g8
    show (∃ a', f_X3_walk_18C x1 x4 x6 x8 x9 τ = _ ∧ _) ∨ ∃ a', f_X3_walk_18C x1 x4 x6 x8 x9 τ = _ ∧ _
    subst g9 g4 g6 g8
    have grow : ∀ x, x ≠ 42 → τ x = σ x := grow
    unfold f_X3_walk_18C
    rw [grow 36 (by decide), o6]
    by_cases hkn : (nof m : Int) ≤ k
    · right
      rw [if_pos hkn]
      have : k = nof m := by omega
      subst this
      exact ⟨_, rfl, gf, rfl, rfl, grow, gj⟩
    · rw [if_neg hkn]
      obtain ⟨hl1, hl2⟩ := hl k (by omega)
      obtain ⟨-, b38, b39⟩ := oj (l k) hl1
      have hbg := bg_b w hc hc2 hf hqP (k := k) (by omega)
      have hst := (w.2.1 (q k) (by omega) (hqP k (by omega))).2.1
      have hr := rs_b w hc hc2
      simp only [Option.bind_some]
      rw [grow x1 (by omega), hl2, chk_pos (by omega), chk_pos (by omega), grow 38 (by decide), b38, grow 39 (by decide), b39, chk_pos (by omega)]
      have eq1 : mx (B 1 (nth m (l k))) (nx B c f q k) = bg B c f q k := by rw [mx_eq]; unfold bg; rw [hq]
      have eq2 : jadd (bg B c f q k) (tm B c (nth m (l k))) = en B c f q k := by
        have : en B c f q k = bg B c f q k + tm B c (nth m (l k)) := by unfold en; rw [hq]
        rw [jadd_ok (by omega) (by omega), this]
      rw [eq1, eq2]
      by_cases hen : en B c f q k ≤ 48
      · left
        rw [if_pos hen, chk_pos (by omega)]
        obtain ⟨bn, ebn⟩ := n_of hbg.2.1
        obtain ⟨e2, ee2⟩ := n_of (show 0 ≤ en B c f q k by omega)
        obtain ⟨sn, esn⟩ := n_of hst.1
        have hs := mset_lt (saB a B c f q k) 48
        have hw := mset_lt (wtB wo B c f q k) 48
        have hsp1 := spn_lt (a := bn) (b := e2) (by omega)
        have hsp2 := spn_lt (a := sn) (b := bn) (by omega)
        have est : mup τ 42 (k : Int) (bg B c f q k) 38 (l k : Int) = B 1 (q k) := by rw [mup_miss (by omega), grow 38 (by decide), b38, hq]
        rw [est, ebn, ee2, esn, bind_some' (span_n (by omega) (by omega)), kor_n (by omega) (by omega), chk_pos (by omega), bind_some' (span_n (by omega) (by omega)), kor_n (by omega) (by omega)]
        rw [show mup τ 42 (k : Int) (bn : Int) 36 7 = rs B c by rw [mup_miss (by omega), grow 36 (by decide), o7], jadd_ok (a := (e2 : Int)) (by omega) (by omega), jadd_ok (a := (k : Int)) (by omega) (by omega)]
        refine ⟨_, rfl, ⟨k + 1, by show (k : Int) + 1 = _; omega, by omega, ?_, ?_, ?_, ?_, ?_, ?_⟩, by show (4 - ((k : Int) + 1)).toNat < (4 - (k : Int)).toNat; omega⟩
        · show (fitN B c f q k && decide (en B c f q k ≤ 48)) = true
          rw [gf, decide_eq_true hen]; rfl
        · show (((mset (saB a B c f q k) 48 ||| spn bn e2 : Nat)) : Int) = _
          congr 1
          refine or_mset (by omega) fun t ht => ?_
          show (decide (t < a) || (siB B c f q k t || _)) = _
          unfold saB
          rw [Bool.or_assoc]
          show (decide (t < a) || (siB B c f q k t || (decide (bg B c f q k ≤ t) && decide ((t : Int) < en B c f q k)))) = _
          rw [ebn, ee2]
          congr 3
          · simp
          · simp
        · show (((mset (wtB wo B c f q k) 48 ||| spn sn bn : Nat)) : Int) = _
          congr 1
          refine or_mset (by omega) fun t ht => ?_
          show (wo t || (anyN _ k || _)) = _
          unfold wtB
          rw [Bool.or_assoc]
          show (wo t || (anyN _ k || (decide (B 1 (q k) ≤ t) && decide ((t : Int) < bg B c f q k)))) = _
          rw [ebn, esn]
          congr 3
          · simp
          · simp
        · show (e2 : Int) + rs B c = nx B c f q (k + 1)
          rw [nx_s, ee2]
        · intro x hx42
          dsimp only
          rw [mup_row hx42, grow x hx42]
        · intro j hj
          show mup τ 42 (k : Int) (bn : Int) 42 j = _
          by_cases ej : j = k
          · subst ej; rw [mup_hit rfl rfl, ebn]
          · rw [mup_miss (by omega)]; exact gj j (by omega)
      · right
        rw [if_neg hen]
        refine ⟨_, rfl, ?_, grow⟩
        cases hfn : fitN B c f q (nof m) with
        | false => rfl
        | true => exact absurd (fitN_at (by omega) hfn) hen
