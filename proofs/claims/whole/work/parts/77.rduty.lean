/-! DUTIES, the reference's side -/
def isDo (σ : Mem) (B : Bk) (N : Nat) : Prop := ∀ c k : Nat, c < N → k < 240 → σ 204 (240 * (c : Int) + (k : Int)) = DD B c (k / 48) (k % 48)
theorem X11_all20 {σ : Mem} {B : Bk} (hR : isRk σ 182 B) (w : WF B) {c : Nat} (hc2 : (c : Int) < B 8 1) (h : ∀ d : Nat, d < 5 → isRw σ B c d) : ∃ τ, f_X11_all_20 σ c 0 = some (.inl ((c : Int) + 1, τ)) ∧ (∀ x, x ≠ 204 → τ x = σ x) ∧ (∀ k : Nat, k < 240 → τ 204 (240 * (c : Int) + (k : Int)) = DD B c (k / 48) (k % 48)) ∧ ∀ i, i < 240 * (c : Int) → τ 204 i = σ 204 i := by
  have hn := w.1
  unfold WFn at hn
  unfold f_X11_all_20
  obtain ⟨e, e1, e2, e3, e4⟩ := loop_ex (f := f_X11_all_20B c) (fun s => ∃ i : Nat, s.1 = (i : Int) ∧ i ≤ 240 ∧ (∀ x, x ≠ 204 → s.2 x = σ x) ∧ (∀ k : Nat, k < i → s.2 204 (240 * (c : Int) + (k : Int)) = DD B c (k / 48) (k % 48)) ∧ ∀ i, i < 240 * (c : Int) → s.2 204 i = σ 204 i) (fun s => (300 - s.1).toNat) (fun e => (∀ x, x ≠ 204 → e x = σ x) ∧ (∀ k : Nat, k < 240 → e 204 (240 * (c : Int) + (k : Int)) = DD B c (k / 48) (k % 48)) ∧ ∀ i, i < 240 * (c : Int) → e 204 i = σ 204 i) (a := (0, σ)) ⟨0, rfl, Nat.zero_le _, fun _ _ => rfl, fun k hk => absurd hk (Nat.not_lt_zero _), fun _ _ => rfl⟩ (Nat.le_of_ble_eq_true rfl) (by
    rintro ⟨_, τ⟩ ⟨i, rfl, hi, k1, k2, k3⟩
    have k1 : ∀ x, x ≠ 204 → τ x = σ x := k1
    have k2 : ∀ k : Nat, k < i → τ 204 (240 * (c : Int) + (k : Int)) = DD B c (k / 48) (k % 48) := k2
    have k3 : ∀ i, i < 240 * (c : Int) → τ 204 i = σ 204 i := k3
    show (∃ a', f_X11_all_20C c (i : Int) τ = _ ∧ _) ∨ ∃ a', f_X11_all_20C c (i : Int) τ = _ ∧ _
    unfold f_X11_all_20C
    by_cases hend : (240 : Int) ≤ i
    · right
      rw [if_pos hend]
      have : i = 240 := by omega
      subst this
      exact ⟨_, rfl, k1, k2, k3⟩
    · left
      have hRt : isRk τ 182 B := hR.row (k1 182 (by decide))
      have ht : ∀ d : Nat, d < 5 → isRw τ B c d := fun d hd => (h d hd).keep w (by omega) hc2 (fun x x1 x2 => by rw [k1 x (by omega)]) (fun x j x1 x2 _ _ => by rw [k1 x (by omega)])
      have hdo := X11_doing hRt w (c := (c : Int)) (by omega) hc2 (d := i / 48) (by omega) ht (t := i % 48) (by omega)
      have hdo : f_X11_doing τ c ((i / 48 : Nat) : Int) ((i % 48 : Nat) : Int) = some (DD B c (i / 48) (i % 48)) := hdo
      have ei : jadd (jmul 240 (c : Int)) (i : Int) = 240 * (c : Int) + (i : Int) := by rw [jmul_ok (by omega) (by omega), jadd_ok (by omega) (by omega)]
      rw [if_neg hend, chk_pos (by decide), chk_pos (by decide), jdiv_ok (by omega) (by omega) (by decide) (by decide), jrem_ok (by omega) (by omega) (by decide) (by decide), show (i : Int) / 48 = ((i / 48 : Nat) : Int) by omega, show (i : Int) % 48 = ((i % 48 : Nat) : Int) by omega, bind_some' hdo, ei, chk_pos (by omega)]
      simp only [Option.bind_some]
      rw [jadd_ok (by omega) (by omega)]
      refine ⟨_, rfl, ⟨i + 1, by show (i : Int) + 1 = _; omega, by omega, fun x hx => ?_, fun k hk => ?_, fun j hj => ?_⟩, by show (300 - ((i : Int) + 1)).toNat < (300 - (i : Int)).toNat; omega⟩
      · show mup τ 204 (240 * (c : Int) + (i : Int)) (DD B c (i / 48) (i % 48)) x = _
        rw [mup_row hx, k1 x hx]
      · show mup τ 204 (240 * (c : Int) + (i : Int)) (DD B c (i / 48) (i % 48)) 204 _ = _
        by_cases e : k = i
        · rw [mup_hit rfl (by omega), e]
        · rw [mup_miss (by omega), k2 k (by omega)]
      · show mup τ 204 (240 * (c : Int) + (i : Int)) (DD B c (i / 48) (i % 48)) 204 j = _
        rw [mup_miss (by omega), k3 j hj])
  rw [e1]
  refine ⟨e, ?_, e2, e3, e4⟩
  rw [bsm]
  unfold f_X11_all_58
  simp only [Option.bind_some]
  rw [jadd_ok (by omega) (by omega)]
theorem X11_all {σ : Mem} {B : Bk} (hR : isRk σ 182 B) (w : WF B) {N : Nat} (hN : B 8 1 = N) : ∃ τ, f_X11_all σ = some τ ∧ (∀ x, ¬ (192 ≤ x ∧ x ≤ 202) → x ≠ 204 → τ x = σ x) ∧ isDo τ B N := by
  have hn := w.1
  unfold WFn at hn
  unfold f_X11_all f_X11_all_2
  obtain ⟨e, e1, e2, e3⟩ := loop_ex (f := f_X11_all_2B) (fun s => ∃ i : Nat, s.1 = (i : Int) ∧ i ≤ N ∧ (∀ x, ¬ (192 ≤ x ∧ x ≤ 202) → x ≠ 204 → s.2 x = σ x) ∧ isDo s.2 B i) (fun s => (20 - s.1).toNat) (fun e => (∀ x, ¬ (192 ≤ x ∧ x ≤ 202) → x ≠ 204 → e x = σ x) ∧ isDo e B N) (a := (0, σ)) ⟨0, rfl, Nat.zero_le _, fun _ _ _ => rfl, fun c k hc _ => absurd hc (Nat.not_lt_zero _)⟩ (Nat.le_of_ble_eq_true rfl) (by
    rintro ⟨_, τ⟩ ⟨i, rfl, hi, k1, k2⟩
    have k1 : ∀ x, ¬ (192 ≤ x ∧ x ≤ 202) → x ≠ 204 → τ x = σ x := k1
    have k2 : isDo τ B i := k2
    show (∃ a', f_X11_all_2C (i : Int) τ = _ ∧ _) ∨ ∃ a', f_X11_all_2C (i : Int) τ = _ ∧ _
    unfold f_X11_all_2C
    have hRt : isRk τ 182 B := hR.row (k1 182 (by decide) (by decide))
    rw [chk_pos (by decide), hRt.nC]
    by_cases hend : B 8 1 ≤ i
    · right
      rw [if_pos hend]
      have : i = N := by omega
      subst this
      exact ⟨_, rfl, k1, k2⟩
    · left
      obtain ⟨ρ, t1, t2, t3⟩ := X11_plans hRt w (c := (i : Int)) (by omega) (by omega)
      obtain ⟨ρ2, s1, s2, s3, s4⟩ := X11_all20 (hRt.row (t2 182 (by decide))) w (c := i) (by omega) t3
      rw [if_neg hend, bind_some' t1, s1]
      refine ⟨_, rfl, ⟨i + 1, by show (i : Int) + 1 = _; omega, by omega, fun x x1 x2 => by show ρ2 x = _; rw [s2 x x2, t2 x x1, k1 x x1 x2], fun c k hc hk => ?_⟩, by show (20 - ((i : Int) + 1)).toNat < (20 - (i : Int)).toNat; omega⟩
      show ρ2 204 _ = _
      by_cases e : c = i
      · rw [e]; exact s3 k hk
      · rw [s4 _ (by omega), t2 204 (by decide)]
        exact k2 c k (by omega) hk)
  rw [e1]
  exact ⟨e, rfl, e2, e3⟩
theorem X11_what {σ : Mem} {B : Bk} {N : Nat} (hN : N ≤ 10) (h : isDo σ B N) {c d : Nat} (hc : c < N) (hd : d < 5) {t : Nat} (ht : t < 48) : f_X11_what σ c d t = some (DD B c d t) := by
  unfold f_X11_what
  have e : jadd (jadd (jmul 240 (c : Int)) (jmul 48 (d : Int))) (t : Int) = 240 * (c : Int) + ((48 * d + t : Nat) : Int) := by
    rw [jmul_ok (by omega) (by omega), jmul_ok (by omega) (by omega), jadd_ok (a := 240 * (c : Int)) (by omega) (by omega), jadd_ok (by omega) (by omega)]
    omega
  rw [if_neg (by omega), if_pos (by omega), e, chk_pos (by omega), h c (48 * d + t) hc (by omega), show (48 * d + t) / 48 = d by omega, show (48 * d + t) % 48 = t by omega]
theorem X11_what_no {σ : Mem} (c d : Int) {t : Int} (ht : t < 0 ∨ 48 ≤ t) : f_X11_what σ c d t = some (-1) := by
  unfold f_X11_what f_X11_what_10
  by_cases e : t < 0
  · rw [if_pos e]
  · rw [if_neg e, if_neg (by omega)]
/-- the reference's list -/
def isRdu (σ : Mem) (T : Int) (l : List Du) : Prop := σ 181 29 = (l.length : Int) ∧ (∀ i : Nat, i < l.length → σ 205 i = ((l.getD i du0).1 : Int) ∧ σ 206 i = ((l.getD i du0).2.1 : Int) ∧ σ 207 i = ((l.getD i du0).2.2.1 : Int) ∧ σ 208 i = ((l.getD i du0).2.2.2 : Int) ∧ σ 209 i = ((wgv T l).2.2.getD i 0 : Int)) ∧ σ 181 35 = ((wgv T l).1 : Int) ∧ ∀ w : Nat, w < (wgv T l).1 → σ 210 w = (wgv T l).2.1 w
theorem X11_watcher {σ : Mem} {T : Int} (hT : 0 ≤ T ∧ T ≤ 8) {s : Ws} (h1 : σ 181 35 = (s.1 : Int)) (h2 : ∀ w : Nat, w < s.1 → σ 210 w = s.2.1 w) (hb : ∀ w, w < s.1 → 0 ≤ s.2.1 w ∧ s.2.1 w ≤ 300) (h86 : σ 182 86 = T) (hm : s.1 < 300) (x : Du) : ∃ τ, f_X11_watcher σ (dbg x) = some ((wW T s x : Int), τ) ∧ (∀ y i, ¬ (y = 181 ∧ i = 35) → τ y i = σ y i) ∧ τ 181 35 = ((wG T s x).1 : Int) := by
  unfold f_X11_watcher f_X11_watcher_4
  rw [show loop (f_X11_watcher_4B σ (dbg x)) FU (-1, 0) = some (match bsW T s.2.1 (dbg x) s.1 with | none => (-1 : Int) | some w => (w : Int)) from loop_is (P := fun q => ∃ i : Nat, q.2 = (i : Int) ∧ i ≤ s.1 ∧ q.1 = (match bsW T s.2.1 (dbg x) i with | none => (-1 : Int) | some w => (w : Int))) (μ := fun q => (400 - q.2).toNat) (by
    rintro ⟨x2, _⟩ ⟨i, rfl, hi, g4⟩
    have g4 : x2 = (match bsW T s.2.1 (dbg x) i with | none => (-1 : Int) | some w => (w : Int)) := g4
    show (∃ a', f_X11_watcher_4C σ (dbg x) x2 (i : Int) = _ ∧ _) ∨ f_X11_watcher_4C σ (dbg x) x2 (i : Int) = _
    unfold f_X11_watcher_4C
    rw [h1]
    by_cases hend : (s.1 : Int) ≤ i
    · right
      rw [if_pos hend, g4]
      have : i = s.1 := by omega
      rw [this]
    · left
      have hbi := hb i (by omega)
      rw [if_neg hend, chk_pos (by omega), chk_pos (by decide), h2 i (by omega), h86, jadd_ok (by omega) (by omega)]
      have fin : ∀ z : Int, z = (match bsW T s.2.1 (dbg x) (i + 1) with | none => (-1 : Int) | some w => (w : Int)) → ∃ a', f_X11_watcher_54 σ (dbg x) (i : Int) z = some (.inl a') ∧ (∃ i : Nat, a'.2 = (i : Int) ∧ i ≤ s.1 ∧ a'.1 = (match bsW T s.2.1 (dbg x) i with | none => (-1 : Int) | some w => (w : Int))) ∧ (400 - a'.2).toNat < (400 - (i : Int)).toNat := fun z hz => by
        unfold f_X11_watcher_54
        simp only [Option.bind_some]
        rw [jadd_ok (by omega) (by omega)]
        exact ⟨_, rfl, ⟨i + 1, by show (i : Int) + 1 = _; omega, by omega, hz⟩, by show (400 - ((i : Int) + 1)).toNat < (400 - (i : Int)).toNat; omega⟩
      have es := bsW_s T s.2.1 (dbg x) i
      unfold f_X11_watcher_49 f_X11_watcher_53
      cases hbs : bsW T s.2.1 (dbg x) i with
      | none =>
        rw [hbs] at g4 es
        have g4 : x2 = -1 := g4
        have es : bsW T s.2.1 (dbg x) (i + 1) = if s.2.1 i + T ≤ dbg x then some i else none := es
        by_cases q : s.2.1 i + T ≤ dbg x
        · rw [if_neg (by omega), if_pos (by omega)]
          exact fin _ (by rw [es, if_pos q])
        · rw [if_pos (by omega)]
          exact fin _ (by rw [es, if_neg q]; exact g4)
      | some b =>
        have hbl := bsW_lt hbs
        rw [hbs] at g4 es
        have g4 : x2 = (b : Int) := g4
        have es : bsW T s.2.1 (dbg x) (i + 1) = if s.2.1 i + T ≤ dbg x ∧ s.2.1 b < s.2.1 i then some i else some b := es
        by_cases q : s.2.1 i + T ≤ dbg x
        · rw [if_neg (by omega), if_neg (by omega), chk_pos (by omega), chk_pos (by omega), g4, h2 b (by omega)]
          by_cases q2 : s.2.1 b < s.2.1 i
          · rw [if_neg (by omega)]
            exact fin _ (by rw [es, if_pos ⟨q, q2⟩])
          · rw [if_pos (by omega)]
            exact fin _ (by rw [es, if_neg (fun z => q2 z.2)])
        · rw [if_pos (by omega)]
          exact fin _ (by rw [es, if_neg (fun z => q z.1)]; exact g4)) ⟨0, rfl, Nat.zero_le _, rfl⟩ (Nat.le_of_ble_eq_true rfl)]
  rw [bsm]
  unfold f_X11_watcher_61 wG wW
  cases hbs : bsW T s.2.1 (dbg x) s.1 with
  | none =>
    show ∃ τ, (if 0 ≤ (-1 : Int) then _ else _) = _ ∧ _
    rw [if_neg (by decide), h1]
    simp only [Option.bind_some]
    rw [jadd_ok (by omega) (by omega)]
    refine ⟨_, rfl, fun y i hy => mup_miss hy, ?_⟩
    rw [mup_hit rfl rfl]
    show _ = ((s.1 + 1 : Nat) : Int)
    omega
  | some b =>
    show ∃ τ, (if 0 ≤ (b : Int) then _ else _) = _ ∧ _
    rw [if_pos (by omega)]
    exact ⟨σ, rfl, fun _ _ _ => rfl, h1⟩
/-- one duty more -/
theorem X11_duties101 {σ : Mem} {T : Int} (hT : 0 ≤ T ∧ T ≤ 8) {l : List Du} (h : isRdu σ T l) (hl : ∀ x ∈ l, okD x) (h200 : l.length < 200) (h86 : σ 182 86 = T) {c d t n : Nat} (hx : okD (c, d, t, n)) : ∃ τ, f_X11_duties_101 σ ((48 * d + t : Nat) : Int) d t c n = f_X11_duties_185 τ ((48 * d + t : Nat) : Int) d t c ∧ isRdu τ T (l ++ [(c, d, t, n)]) ∧ ∀ y i, ¬ (205 ≤ y ∧ y ≤ 210) → (y = 181 → i ≠ 29 ∧ i ≠ 35) → τ y i = σ y i := by
  obtain ⟨h1, h2, h3, h4⟩ := h
  obtain ⟨ok1, ok2, ok3⟩ := okS_l (T := T) hl
  obtain ⟨s, hs⟩ : ∃ s, s = wgv T l := ⟨_, rfl⟩
  obtain ⟨x, hxx⟩ : ∃ x : Du, x = (c, d, t, n) := ⟨_, rfl⟩
  have es := wgv_ap T l x
  rw [← hs] at h3 h4 ok1 ok2 ok3 es
  rw [← hxx] at hx ⊢
  have hdb : dbg x = ((48 * d + t : Nat) : Int) := by
    rw [hxx]
    show 48 * (d : Int) + (t : Int) = _
    omega
  have hbx := dbg_b hx
  have hx4 : n ≤ 48 := by have := hx.2.2.2; rw [hxx] at this; exact this
  obtain ⟨q1, q2, q3⟩ := wW_lt (T := T) (s := s) (x := x)
  have m29 : ∀ (τ : Mem) (k j v : Int), k ≠ 181 → mup τ k j v 181 29 = τ 181 29 := fun τ k j v hk => mup_miss (by omega)
  obtain ⟨σ1, hσ1⟩ : ∃ σ1, σ1 = mup (mup (mup (mup σ 205 l.length c) 206 l.length d) 207 l.length t) 208 l.length n := ⟨_, rfl⟩
  have f1 : ∀ y i, ¬ (205 ≤ y ∧ y ≤ 208) → σ1 y i = σ y i := fun y i hy => by rw [hσ1, mup_miss (by omega), mup_miss (by omega), mup_miss (by omega), mup_miss (by omega)]
  obtain ⟨ρ, a1, a2, a3⟩ := X11_watcher (σ := σ1) hT (s := s) (by rw [f1 _ _ (by decide), h3]) (fun w hw => by rw [f1 _ _ (by decide), h4 w hw]) ok3 (by rw [f1 _ _ (by decide), h86]) (by omega) x
  rw [hdb] at a1
  have e29 : σ1 181 29 = (l.length : Int) := by rw [f1 _ _ (by decide), h1]
  obtain ⟨ρ1, hρ1⟩ : ∃ ρ1, ρ1 = mup ρ 209 l.length (wW T s x : Int) := ⟨_, rfl⟩
  obtain ⟨ρ2, hρ2⟩ : ∃ ρ2, ρ2 = mup ρ1 210 (wW T s x : Int) (((48 * d + t : Nat) : Int) + (n : Int)) := ⟨_, rfl⟩
  obtain ⟨ρ3, hρ3⟩ : ∃ ρ3, ρ3 = mup ρ2 181 29 ((l.length : Int) + 1) := ⟨_, rfl⟩
  refine ⟨ρ3, ?_, ⟨?_, fun i hi => ?_, ?_, fun w hw => ?_⟩, fun y i y1 y2 => ?_⟩
  · unfold f_X11_duties_101
    rw [h1, chk_pos (by omega)]
    simp only [Option.bind_some]
    rw [m29 _ _ _ _ (by decide), h1, chk_pos (by omega), m29 _ _ _ _ (by decide), m29 _ _ _ _ (by decide), h1, chk_pos (by omega), m29 _ _ _ _ (by decide), m29 _ _ _ _ (by decide), m29 _ _ _ _ (by decide), h1, chk_pos (by omega)]
    rw [← hσ1, bind_some' a1, e29, chk_pos (by omega), ← hρ1]
    have e1 : ρ1 181 29 = (l.length : Int) := by rw [hρ1, mup_miss (by omega), a2 _ _ (by omega), e29]
    have e2 : ρ1 209 l.length = (wW T s x : Int) := by rw [hρ1, mup_hit rfl rfl]
    rw [e1, e2, chk_pos (by omega), chk_pos (by omega), jadd_ok (a := ((48 * d + t : Nat) : Int)) (by omega) (by omega), ← hρ2]
    have e3 : ρ2 181 29 = (l.length : Int) := by rw [hρ2, mup_miss (by omega), e1]
    rw [e3, jadd_ok (by omega) (by omega), ← hρ3]
  · rw [hρ3, mup_hit rfl rfl, List.length_append]
    show _ = ((l.length + 1 : Nat) : Int)
    omega
  · rw [List.length_append] at hi
    have hi : i < l.length + 1 := hi
    have f3 : ∀ y, 205 ≤ y → y ≤ 208 → ρ3 y i = σ1 y i := fun y y1 y2 => by rw [hρ3, mup_miss (by omega), hρ2, mup_miss (by omega), hρ1, mup_miss (by omega), a2 _ _ (by omega)]
    rw [f3 205 (by decide) (by decide), f3 206 (by decide) (by decide), f3 207 (by decide) (by decide), f3 208 (by decide) (by decide), hρ3, mup_miss (by omega), hρ2, mup_miss (by omega), hρ1, es]
    show _ ∧ _ ∧ _ ∧ _ ∧ _ = ((s.2.2 ++ [wW T s x]).getD i 0 : Int)
    by_cases e : i = l.length
    · subst e
      rw [gd2, hxx, mup_hit rfl rfl, ← hxx, ← ok2, gd2]
      rw [ok2, hσ1]
      refine ⟨?_, ?_, ?_, ?_, rfl⟩
      · rw [mup_miss (by omega), mup_miss (by omega), mup_miss (by omega), mup_hit rfl rfl, hxx]
      · rw [mup_miss (by omega), mup_miss (by omega), mup_hit rfl rfl, hxx]
      · rw [mup_miss (by omega), mup_hit rfl rfl, hxx]
      · rw [mup_hit rfl rfl, hxx]
    · obtain ⟨g1, g2, g3, g4, g5⟩ := h2 i (by omega)
      rw [← hs] at g5
      rw [gd1 (by omega), gd1 (by omega), mup_miss (by omega), a2 _ _ (by omega), hσ1]
      refine ⟨?_, ?_, ?_, ?_, ?_⟩
      · rw [mup_miss (by omega), mup_miss (by omega), mup_miss (by omega), mup_miss (by omega), g1]
      · rw [mup_miss (by omega), mup_miss (by omega), mup_miss (by omega), mup_miss (by omega), g2]
      · rw [mup_miss (by omega), mup_miss (by omega), mup_miss (by omega), mup_miss (by omega), g3]
      · rw [mup_miss (by omega), mup_miss (by omega), mup_miss (by omega), mup_miss (by omega), g4]
      · rw [mup_miss (by omega), mup_miss (by omega), mup_miss (by omega), mup_miss (by omega), g5]
  · rw [hρ3, mup_miss (by omega), hρ2, mup_miss (by omega), hρ1, mup_miss (by omega), a3, es]
  · rw [es] at hw ⊢
    show ρ3 210 w = (if w = wW T s x then dbg x + (x.2.2.2 : Int) else s.2.1 w)
    rw [hρ3, mup_miss (by omega), hρ2]
    by_cases e : w = wW T s x
    · rw [mup_hit rfl (by omega), if_pos e, hdb, hxx]
    · rw [mup_miss (by omega), if_neg e, hρ1, mup_miss (by omega), a2 _ _ (by omega), f1 _ _ (by decide)]
      refine h4 w ?_
      have hw : w < (match bsW T s.2.1 (dbg x) s.1 with | none => s.1 + 1 | some _ => s.1) := hw
      unfold wW at e
      cases hb : bsW T s.2.1 (dbg x) s.1 with
      | none =>
        rw [hb] at hw e
        have hw : w < s.1 + 1 := hw
        have e : ¬ w = s.1 := e
        omega
      | some b => rw [hb] at hw; exact hw
  · rw [hρ3, mup_miss (by omega), hρ2, mup_miss (by omega), hρ1, mup_miss (by omega), a2 _ _ (by omega), f1 y i (by omega)]
/-- what may have changed -/
def RDF (σ τ : Mem) : Prop := ∀ y i, ¬ (205 ≤ y ∧ y ≤ 210) → (y = 181 → i ≠ 29 ∧ i ≠ 35) → τ y i = σ y i
theorem X11_run {σ : Mem} {B : Bk} {N : Nat} (hN : N ≤ 10) (h : isDo σ B N) {c d : Nat} (hc : c < N) (hd : d < 5) {t : Nat} (ht : t < 48) (k : Int) : loop (f_X11_duties_79B σ k d t c) FU 0 = some ((rl (kp B c d) (48 - t) t : Nat) : Int) :=
  loop_is (P := fun s => ∃ j : Nat, s = (j : Int) ∧ t + j ≤ 48 ∧ rl (kp B c d) (48 - t) t = j + rl (kp B c d) (48 - (t + j)) (t + j)) (μ := fun s => (50 - s).toNat) (by
    rintro _ ⟨j, rfl, hj, g⟩
    show (∃ a', f_X11_duties_79C σ k d t c (j : Int) = _ ∧ _) ∨ f_X11_duties_79C σ k d t c (j : Int) = _
    unfold f_X11_duties_79C
    rw [jadd_ok (by omega) (by omega), show (t : Int) + (j : Int) = ((t + j : Nat) : Int) by omega]
    by_cases hend : 48 ≤ t + j
    · right
      rw [bind_some' (X11_what_no _ _ (Or.inr (by omega))), if_pos (by decide), g, show 48 - (t + j) = 0 by omega]
      rfl
    · rw [bind_some' (X11_what hN h hc hd (t := t + j) (by omega))]
      rw [rl_s (show t + j < 48 by omega)] at g
      by_cases q : DD B c d (t + j) = 20
      · left
        rw [show kp B c d (t + j) = true from decide_eq_true q, bt] at g
        rw [if_neg (by omega), jadd_ok (by omega) (by omega)]
        exact ⟨_, rfl, ⟨j + 1, by omega, by omega, by rw [g, show t + (j + 1) = t + j + 1 by omega]; omega⟩, by omega⟩
      · right
        rw [show kp B c d (t + j) = false from decide_eq_false q, bf] at g
        rw [if_pos q, g]
        rfl) ⟨0, rfl, by omega, by rw [Nat.zero_add]; rfl⟩ (Nat.le_of_ble_eq_true rfl)
theorem X11_duties36 {σ : Mem} {B : Bk} (hR : isRk σ 182 B) (w : WF B) {N : Nat} (hN : B 8 1 = N) (hD : isDo σ B N) {d t : Nat} (hd : d < 5) (ht : t < 48) (h : isRdu σ (B 8 4) (pre (KK B) N d t 0)) : ∃ τ, f_X11_duties_36 σ ((48 * d + t : Nat) : Int) d t 0 = some (.inl (((48 * d + t + 1 : Nat) : Int), τ)) ∧ isRdu τ (B 8 4) (pre (KK B) N d t N) ∧ RDF σ τ := by
  have hn := w.1
  unfold WFn at hn
  have hN10 : N ≤ 10 := by omega
  have h4 : ∀ c d, c < N → d < 5 → cnt (stB (KK B c d)) 48 ≤ 4 := fun c d hc hd => st_4 w (by omega) (by omega) hd
  have hok : ∀ c, c ≤ N → ∀ x ∈ pre (KK B) N d t c, okD x := fun c hc x hx => by
    unfold pre at hx
    rcases List.mem_append.1 hx with hx | hx
    · rcases List.mem_append.1 hx with hx | hx
      · exact ok_dD hN10 d (by omega) x hx
      · exact ok_dT hN10 hd t (by omega) x hx
    · exact ok_dC hd ht c (by omega) x hx
  unfold f_X11_duties_36
  obtain ⟨e, e1, e2, e3⟩ := loop_ex (f := f_X11_duties_36B ((48 * d + t : Nat) : Int) d t) (fun s => ∃ i : Nat, s.1 = (i : Int) ∧ i ≤ N ∧ isRdu s.2 (B 8 4) (pre (KK B) N d t i) ∧ RDF σ s.2) (fun s => (20 - s.1).toNat) (fun e => isRdu e (B 8 4) (pre (KK B) N d t N) ∧ RDF σ e) (a := (0, σ)) ⟨0, rfl, Nat.zero_le _, h, fun _ _ _ _ => rfl⟩ (Nat.le_of_ble_eq_true rfl) (by
    rintro ⟨_, τ⟩ ⟨i, rfl, hi, k1, k2⟩
    have k1 : isRdu τ (B 8 4) (pre (KK B) N d t i) := k1
    have k2 : RDF σ τ := k2
    show (∃ a', f_X11_duties_36C ((48 * d + t : Nat) : Int) d t (i : Int) τ = _ ∧ _) ∨ ∃ a', f_X11_duties_36C ((48 * d + t : Nat) : Int) d t (i : Int) τ = _ ∧ _
    unfold f_X11_duties_36C
    have hRt : isRk τ 182 B := hR.pt fun j => k2 182 j (by decide) (fun z => absurd z (by decide))
    have hDt : isDo τ B N := fun c k hc hk => by rw [k2 204 _ (by decide) (fun z => absurd z (by decide))]; exact hD c k hc hk
    rw [chk_pos (by decide), hRt.nC]
    by_cases hend : B 8 1 ≤ i
    · right
      rw [if_pos hend]
      have : i = N := by omega
      subst this
      exact ⟨_, rfl, k1, k2⟩
    · left
      have hiN : i < N := by omega
      have ep := pre_c (KK B) N d t i
      have hle := len_pre (K := KK B) (N := N) hN10 h4 hd ht (c := i + 1) (by omega)
      rw [ep] at hle
      have fin : ∀ ρ : Mem, isRdu ρ (B 8 4) (pre (KK B) N d t (i + 1)) → RDF τ ρ → ∃ a', f_X11_duties_185 ρ ((48 * d + t : Nat) : Int) d t (i : Int) = some (.inl a') ∧ (∃ i : Nat, a'.1 = (i : Int) ∧ i ≤ N ∧ isRdu a'.2 (B 8 4) (pre (KK B) N d t i) ∧ RDF σ a'.2) ∧ (20 - a'.1).toNat < (20 - (i : Int)).toNat := fun ρ z1 z2 => by
        unfold f_X11_duties_185
        simp only [Option.bind_some]
        rw [jadd_ok (by omega) (by omega)]
        exact ⟨_, rfl, ⟨i + 1, by show (i : Int) + 1 = _; omega, by omega, z1, fun y j y1 y2 => by show ρ y j = _; rw [z2 y j y1 y2, k2 y j y1 y2]⟩, by show (20 - ((i : Int) + 1)).toNat < (20 - (i : Int)).toNat; omega⟩
      have non : stB (KK B i d) t = false → ∃ a', f_X11_duties_185 τ ((48 * d + t : Nat) : Int) d t (i : Int) = some (.inl a') ∧ (∃ i : Nat, a'.1 = (i : Int) ∧ i ≤ N ∧ isRdu a'.2 (B 8 4) (pre (KK B) N d t i) ∧ RDF σ a'.2) ∧ (20 - a'.1).toNat < (20 - (i : Int)).toNat := fun hs => by
        rw [hs, bf] at ep
        exact fin τ (by rw [ep]; exact k1) fun _ _ _ _ => rfl
      rw [if_neg hend, bind_some' (X11_what hN10 hDt hiN hd ht)]
      by_cases q : DD B i d t = 20
      rotate_left
      · rw [if_pos q]
        exact non (by unfold stB; rw [show KK B i d t = false from decide_eq_false q]; rfl)
      · rw [if_neg (by omega), jsub_ok (by omega) (by omega)]
        have hp : f_X11_what τ i d ((t : Int) - 1) = some (if t = 0 then -1 else DD B i d (t - 1)) := by
          by_cases e : t = 0
          · rw [if_pos e]; exact X11_what_no _ _ (Or.inl (by omega))
          · rw [if_neg e, show (t : Int) - 1 = ((t - 1 : Nat) : Int) by omega]
            exact X11_what hN10 hDt hiN hd (by omega)
        rw [bind_some' hp]
        by_cases q2 : (if t = 0 then (-1 : Int) else DD B i d (t - 1)) = 20
        · rw [if_pos q2]
          by_cases e : t = 0
          · rw [if_pos e] at q2; omega
          · rw [if_neg e] at q2
            exact non (by unfold stB; rw [decide_eq_true (show 0 < t by omega), show KK B i d (t - 1) = true from decide_eq_true q2]; simp)
        · rw [if_neg q2]
          have hs : stB (KK B i d) t = true := by
            unfold stB
            rw [show KK B i d t = true from decide_eq_true q]
            by_cases e : t = 0
            · rw [e]; rfl
            · rw [if_neg e] at q2
              rw [show KK B i d (t - 1) = false from decide_eq_false q2]
              simp
          rw [hs, bt] at ep hle
          rw [List.length_append] at hle
          have hle : (pre (KK B) N d t i).length + 1 ≤ 200 := hle
          unfold f_X11_duties_79
          rw [X11_run hN10 hDt hiN hd ht, bsm]
          have hx : okD (i, d, t, rl (kp B i d) (48 - t) t) := ⟨by show i < 10; omega, hd, ht, by have := rl_le (kp B i d) (48 - t) t; show rl (kp B i d) (48 - t) t ≤ 48; omega⟩
          obtain ⟨ρ, a1, a2, a3⟩ := X11_duties101 (T := B 8 4) hn.2.2.2.2.1 k1 (hok i (by omega)) (by omega) hRt.turn hx
          rw [a1]
          exact fin ρ (by rw [ep]; exact a2) a3)
  rw [e1]
  refine ⟨e, ?_, e2, e3⟩
  rw [bsm]
  unfold f_X11_duties_191
  simp only [Option.bind_some]
  rw [jadd_ok (by omega) (by omega)]
  congr 3
theorem X11_duties_ok {σ : Mem} {B : Bk} (hR : isRk σ 182 B) (w : WF B) : ∃ τ, f_X11_duties σ = some τ ∧ isRdu τ (B 8 4) (dL B) ∧ ∀ y i, ¬ (192 ≤ y ∧ y ≤ 202) → ¬ (204 ≤ y ∧ y ≤ 210) → (y = 181 → i ≠ 29 ∧ i ≠ 35) → τ y i = σ y i := by
  have hn := w.1
  unfold WFn at hn
  obtain ⟨N, hN⟩ := n_of hn.2.1.1
  have eL : dL B = dD (KK B) N 5 := by unfold dL; rw [hN, Int.toNat_natCast]
  rw [eL]
  obtain ⟨σ1, a1, a2, a3⟩ := X11_all hR w hN
  unfold f_X11_duties
  rw [bind_some' a1]
  simp only [Option.bind_some]
  obtain ⟨σ2, hσ2⟩ : ∃ σ2, σ2 = mup (mup σ1 181 29 0) 181 35 0 := ⟨_, rfl⟩
  rw [← hσ2]
  have f2 : ∀ y i, (y = 181 → i ≠ 29 ∧ i ≠ 35) → σ2 y i = σ1 y i := fun y i hy => by rw [hσ2, mup_miss (by omega), mup_miss (by omega)]
  have hR2 : isRk σ2 182 B := hR.pt fun i => by rw [f2 _ _ (by omega), a2 182 (by decide) (by decide)]
  have hD2 : isDo σ2 B N := fun c k hc hk => by rw [f2 _ _ (by omega)]; exact a3 c k hc hk
  unfold f_X11_duties_16
  obtain ⟨e, e1, e2, e3⟩ := loop_ex (f := f_X11_duties_16B) (fun s => ∃ d t : Nat, s.1 = ((48 * d + t : Nat) : Int) ∧ ((d < 5 ∧ t < 48) ∨ (d = 5 ∧ t = 0)) ∧ isRdu s.2 (B 8 4) (pre (KK B) N d t 0) ∧ RDF σ2 s.2) (fun s => (300 - s.1).toNat) (fun e => isRdu e (B 8 4) (pre (KK B) N 5 0 0) ∧ RDF σ2 e) (a := (0, σ2)) ⟨0, 0, rfl, Or.inl ⟨by decide, by decide⟩, ⟨by show σ2 181 29 = ((0 : Nat) : Int); rw [hσ2, mup_miss (by omega), mup_hit rfl rfl]; rfl, fun i hi => absurd hi (Nat.not_lt_zero _), by show σ2 181 35 = ((0 : Nat) : Int); rw [hσ2, mup_hit rfl rfl]; rfl, fun i hi => absurd hi (Nat.not_lt_zero _)⟩, fun _ _ _ _ => rfl⟩ (Nat.le_of_ble_eq_true rfl) (by
    rintro ⟨_, τ⟩ ⟨d, t, rfl, hdt, k1, k2⟩
    have k1 : isRdu τ (B 8 4) (pre (KK B) N d t 0) := k1
    have k2 : RDF σ2 τ := k2
    show (∃ a', f_X11_duties_16C ((48 * d + t : Nat) : Int) τ = _ ∧ _) ∨ ∃ a', f_X11_duties_16C ((48 * d + t : Nat) : Int) τ = _ ∧ _
    unfold f_X11_duties_16C
    rcases hdt with ⟨hd, ht⟩ | ⟨hd, ht⟩
    rotate_left
    · right
      subst hd; subst ht
      rw [if_pos (by omega)]
      exact ⟨_, rfl, k1, k2⟩
    · left
      have hRt : isRk τ 182 B := hR2.pt fun j => k2 182 j (by decide) (fun z => absurd z (by decide))
      have hDt : isDo τ B N := fun c k hc hk => by rw [k2 204 _ (by decide) (fun z => absurd z (by decide))]; exact hD2 c k hc hk
      obtain ⟨ρ, b1, b2, b3⟩ := X11_duties36 hRt w hN hDt hd ht k1
      rw [if_neg (by omega), chk_pos (by decide), jdiv_ok (by omega) (by omega) (by decide) (by decide)]
      simp only [Option.bind_some]
      rw [chk_pos (by decide), jrem_ok (by omega) (by omega) (by decide) (by decide), show ((48 * d + t : Nat) : Int) / 48 = (d : Int) by omega, show ((48 * d + t : Nat) : Int) % 48 = (t : Int) by omega, b1]
      have b4 : RDF σ2 ρ := fun y j y1 y2 => by rw [b3 y j y1 y2, k2 y j y1 y2]
      by_cases e : t = 47
      · refine ⟨_, rfl, ⟨d + 1, 0, by show ((48 * d + t + 1 : Nat) : Int) = _; omega, by omega, ?_, b4⟩, by show (300 - ((48 * d + t + 1 : Nat) : Int)).toNat < (300 - ((48 * d + t : Nat) : Int)).toNat; omega⟩
        rw [pre_d, show (48 : Nat) = t + 1 by omega, pre_t]
        exact b2
      · refine ⟨_, rfl, ⟨d, t + 1, by show ((48 * d + t + 1 : Nat) : Int) = _; omega, by omega, ?_, b4⟩, by show (300 - ((48 * d + t + 1 : Nat) : Int)).toNat < (300 - ((48 * d + t : Nat) : Int)).toNat; omega⟩
        rw [pre_t]
        exact b2)
  rw [e1]
  have e5 : pre (KK B) N 5 0 0 = dD (KK B) N 5 := by
    unfold pre
    show dD (KK B) N 5 ++ [] ++ [] = _
    rw [List.append_nil, List.append_nil]
  rw [e5] at e2
  exact ⟨e, rfl, e2, fun y i y1 y2 y3 => by rw [e3 y i (by omega) y3, f2 y i y3, a2 y y1 (by omega)]⟩
