/-! WATCHERS, how many at once; what the class keeps of them -/
def dbg (x : Du) : Int := 48 * (x.2.1 : Int) + (x.2.2.1 : Int)
def bsW (T : Int) (L : Nat → Int) (a : Int) : Nat → Option Nat
  | 0 => none
  | w + 1 => match bsW T L a w with
    | none => if L w + T ≤ a then some w else none
    | some b => if L w + T ≤ a ∧ L b < L w then some w else some b
theorem bsW_s (T : Int) (L : Nat → Int) (a : Int) (w : Nat) : bsW T L a (w + 1) = match bsW T L a w with
    | none => if L w + T ≤ a then some w else none
    | some b => if L w + T ≤ a ∧ L b < L w then some w else some b := rfl
theorem bsW_lt {T : Int} {L : Nat → Int} {a : Int} : ∀ {n w : Nat}, bsW T L a n = some w → w < n
  | 0, w, h => by cases h
  | n + 1, w, h => by
    rw [bsW_s] at h
    cases hb : bsW T L a n with
    | none =>
      rw [hb] at h
      have h : (if L n + T ≤ a then some n else none) = some w := h
      split at h <;> cases h
      omega
    | some b =>
      have := bsW_lt hb
      rw [hb] at h
      have h : (if L n + T ≤ a ∧ L b < L n then some n else some b) = some w := h
      split at h <;> cases h <;> omega
abbrev Ws : Type := Nat × (Nat → Int) × List Nat
def wW (T : Int) (s : Ws) (x : Du) : Nat := match bsW T s.2.1 (dbg x) s.1 with
  | none => s.1
  | some w => w
def wG (T : Int) (s : Ws) (x : Du) : Ws := ((match bsW T s.2.1 (dbg x) s.1 with | none => s.1 + 1 | some _ => s.1), (fun j => if j = wW T s x then dbg x + (x.2.2.2 : Int) else s.2.1 j), s.2.2 ++ [wW T s x])
def wgv (T : Int) (l : List Du) : Ws := l.foldl (wG T) (0, (fun _ => 0), [])
theorem wgv_ap (T : Int) (l : List Du) (x : Du) : wgv T (l ++ [x]) = wG T (wgv T l) x := by
  unfold wgv
  rw [List.foldl_append]
  rfl
def okS (n : Nat) (s : Ws) : Prop := s.1 ≤ n ∧ s.2.2.length = n ∧ ∀ w, w < s.1 → 0 ≤ s.2.1 w ∧ s.2.1 w ≤ 300
theorem wW_lt {T : Int} {s : Ws} {x : Du} : wW T s x < (wG T s x).1 ∧ s.1 ≤ (wG T s x).1 ∧ (wG T s x).1 ≤ s.1 + 1 := by
  unfold wG wW
  cases h : bsW T s.2.1 (dbg x) s.1 with
  | none => exact ⟨Nat.lt_succ_self _, Nat.le_succ _, Nat.le_refl _⟩
  | some w => exact ⟨bsW_lt h, Nat.le_refl _, Nat.le_succ _⟩
theorem dbg_b {x : Du} (h : okD x) : 0 ≤ dbg x ∧ dbg x ≤ 239 := by
  obtain ⟨-, h2, h3, -⟩ := h
  unfold dbg
  omega
theorem okS_s {T : Int} {n : Nat} {s : Ws} {x : Du} (h : okS n s) (hx : okD x) : okS (n + 1) (wG T s x) := by
  obtain ⟨h1, h2, h3⟩ := h
  obtain ⟨q1, q2, q3⟩ := wW_lt (T := T) (s := s) (x := x)
  have hb := dbg_b hx
  have h4 := hx.2.2.2
  refine ⟨by omega, by show (s.2.2 ++ [_]).length = n + 1; rw [List.length_append, h2]; rfl, fun w hw => ?_⟩
  show 0 ≤ (if w = wW T s x then dbg x + (x.2.2.2 : Int) else s.2.1 w) ∧ (if w = wW T s x then dbg x + (x.2.2.2 : Int) else s.2.1 w) ≤ 300
  by_cases e : w = wW T s x
  · rw [if_pos e]; omega
  · rw [if_neg e]
    refine h3 w ?_
    have : w < (match bsW T s.2.1 (dbg x) s.1 with | none => s.1 + 1 | some _ => s.1) := hw
    unfold wW at e
    cases hb : bsW T s.2.1 (dbg x) s.1 with
    | none =>
      rw [hb] at this e
      have this : w < s.1 + 1 := this
      have e : ¬ w = s.1 := e
      omega
    | some b => rw [hb] at this; exact this
theorem okS_f {T : Int} : ∀ (l : List Du) {n : Nat} {s : Ws}, okS n s → (∀ x ∈ l, okD x) → okS (n + l.length) (l.foldl (wG T) s)
  | [], n, s, h, _ => h
  | x :: l, n, s, h, hl => by
    have := okS_f (T := T) l (okS_s (T := T) h (hl x List.mem_cons_self)) fun y hy => hl y (List.mem_cons_of_mem _ hy)
    rw [show n + 1 + l.length = n + (x :: l).length by show n + 1 + l.length = n + (l.length + 1); omega] at this
    exact this
theorem okS_l {T : Int} {l : List Du} (hl : ∀ x ∈ l, okD x) : okS l.length (wgv T l) := by
  have := okS_f (T := T) l (n := 0) (s := (0, (fun _ => 0), [])) ⟨Nat.le_refl _, rfl, fun w hw => absurd hw (Nat.not_lt_zero _)⟩ hl
  rw [Nat.zero_add] at this
  exact this
theorem okS_t {T : Int} {l : List Du} (hl : ∀ x ∈ l, okD x) {i : Nat} (hi : i ≤ l.length) : okS i (wgv T (l.take i)) := by
  have := okS_l (T := T) (l := l.take i) fun x hx => hl x (List.mem_of_mem_take hx)
  rw [List.length_take, Nat.min_eq_left hi] at this
  exact this
theorem wgv_s (T : Int) {l : List Du} {i : Nat} (hi : i < l.length) : wgv T (l.take (i + 1)) = wG T (wgv T (l.take i)) (l.getD i du0) := by
  rw [take_s du0 hi, wgv_ap]
/-- what the class has of them -/
def isWs (σ : Mem) (T : Int) (s : Ws) (n : Nat) : Prop := σ 164 7 = (s.1 : Int) ∧ (∀ w : Nat, w < s.1 → σ 170 w = s.2.1 w + T) ∧ ∀ j : Nat, j < n → σ 169 j = (s.2.2.getD j 0 : Int)
theorem X1_beginOf {σ : Mem} {l : List Du} (h : isDu σ l) (hl : ∀ x ∈ l, okD x) (h2 : l.length ≤ 200) {i : Nat} (hi : i < l.length) : f_X1_beginOf σ i = some (dbg (l.getD i du0)) := by
  have hb := dbg_b (hl _ (getD_mem du0 hi))
  obtain ⟨-, g2, g3, -⟩ := h.2 i hi
  obtain ⟨-, o2, o3, -⟩ := hl _ (getD_mem du0 hi)
  unfold f_X1_beginOf
  rw [chk_pos (by omega), chk_pos (by omega), g2, g3, jmul_ok (by omega) (by omega), jadd_ok (by omega) (by omega)]
  unfold dbg
  rw [Int.mul_comm]
theorem X1_watcherAt {σ : Mem} {T : Int} (hT : 0 ≤ T ∧ T ≤ 8) {s : Ws} {n : Nat} (h : isWs σ T s n) (hm : s.1 < 200) (x : Du) : ∃ τ, f_X1_watcherAt σ (dbg x) = some ((wW T s x : Int), τ) ∧ (∀ y, y ≠ 164 → τ y = σ y) ∧ (∀ i, i ≠ 7 → τ 164 i = σ 164 i) ∧ τ 164 7 = ((wG T s x).1 : Int) := by
  obtain ⟨h1, h2, -⟩ := h
  unfold f_X1_watcherAt f_X1_watcherAt_4
  rw [show loop (f_X1_watcherAt_4B σ (dbg x)) FU (-1, 0) = some (match bsW T s.2.1 (dbg x) s.1 with | none => (-1 : Int) | some w => (w : Int)) from loop_is (P := fun q => ∃ i : Nat, q.2 = (i : Int) ∧ i ≤ s.1 ∧ q.1 = (match bsW T s.2.1 (dbg x) i with | none => (-1 : Int) | some w => (w : Int))) (μ := fun q => (300 - q.2).toNat) (by
    rintro ⟨x2, _⟩ ⟨i, rfl, hi, g4⟩
    have g4 : x2 = (match bsW T s.2.1 (dbg x) i with | none => (-1 : Int) | some w => (w : Int)) := g4
    show (∃ a', f_X1_watcherAt_4C σ (dbg x) x2 (i : Int) = _ ∧ _) ∨ f_X1_watcherAt_4C σ (dbg x) x2 (i : Int) = _
    unfold f_X1_watcherAt_4C
    rw [h1]
    by_cases hend : (s.1 : Int) ≤ i
    · right
      rw [if_pos hend, g4]
      have : i = s.1 := by omega
      rw [this]
    · left
      rw [if_neg hend, chk_pos (by omega), h2 i (by omega)]
      have fin : ∀ z : Int, z = (match bsW T s.2.1 (dbg x) (i + 1) with | none => (-1 : Int) | some w => (w : Int)) → ∃ a', f_X1_watcherAt_44 σ (dbg x) z (i : Int) = some (.inl a') ∧ (∃ i : Nat, a'.2 = (i : Int) ∧ i ≤ s.1 ∧ a'.1 = (match bsW T s.2.1 (dbg x) i with | none => (-1 : Int) | some w => (w : Int))) ∧ (300 - a'.2).toNat < (300 - (i : Int)).toNat := fun z hz => by
        unfold f_X1_watcherAt_44
        simp only [Option.bind_some]
        rw [jadd_ok (by omega) (by omega)]
        exact ⟨_, rfl, ⟨i + 1, by show (i : Int) + 1 = _; omega, by omega, hz⟩, by show (300 - ((i : Int) + 1)).toNat < (300 - (i : Int)).toNat; omega⟩
      have es := bsW_s T s.2.1 (dbg x) i
      unfold f_X1_watcherAt_42
      cases hb : bsW T s.2.1 (dbg x) i with
      | none =>
        rw [hb] at g4 es
        have g4 : x2 = -1 := g4
        have es : bsW T s.2.1 (dbg x) (i + 1) = if s.2.1 i + T ≤ dbg x then some i else none := es
        by_cases q : s.2.1 i + T ≤ dbg x
        · rw [if_neg (by omega), if_pos g4]
          exact fin _ (by rw [es, if_pos q])
        · rw [if_pos (by omega)]
          exact fin _ (by rw [es, if_neg q]; exact g4)
      | some b =>
        have hbl := bsW_lt hb
        rw [hb] at g4 es
        have g4 : x2 = (b : Int) := g4
        have es : bsW T s.2.1 (dbg x) (i + 1) = if s.2.1 i + T ≤ dbg x ∧ s.2.1 b < s.2.1 i then some i else some b := es
        by_cases q : s.2.1 i + T ≤ dbg x
        · rw [if_neg (by omega), if_neg (by omega), chk_pos (by omega), chk_pos (by omega), g4, h2 b (by omega)]
          by_cases q2 : s.2.1 b < s.2.1 i
          · rw [if_neg (by omega)]
            exact fin _ (by rw [es, if_pos ⟨q, q2⟩])
          · rw [if_pos (by omega)]
            exact fin _ (by rw [es, if_neg (fun z => q2 z.2)])
        · rw [if_pos (by omega)]
          exact fin _ (by rw [es, if_neg (fun z => q z.1)]; exact g4)) ⟨0, rfl, Nat.zero_le _, rfl⟩ (Nat.le_of_ble_eq_true rfl)]
  rw [bsm]
  unfold f_X1_watcherAt_50 wG wW
  cases hb : bsW T s.2.1 (dbg x) s.1 with
  | none =>
    show ∃ τ, (if (-1 : Int) ≠ -1 then _ else _) = _ ∧ _
    rw [if_neg (by decide), h1, if_neg (by omega)]
    simp only [Option.bind_some]
    rw [jadd_ok (by omega) (by omega)]
    refine ⟨_, rfl, fun y hy => mup_row hy, fun i hi => mup_miss (by omega), ?_⟩
    rw [mup_hit rfl rfl]
    show _ = ((s.1 + 1 : Nat) : Int)
    omega
  | some b =>
    show ∃ τ, (if (b : Int) ≠ -1 then _ else _) = _ ∧ _
    rw [if_pos (by omega)]
    exact ⟨σ, rfl, fun _ _ => rfl, fun _ _ => rfl, h1⟩
theorem X1_giveOut {σ : Mem} {T : Int} (hT : 0 ≤ T ∧ T ≤ 8) {l : List Du} (h : isDu σ l) (hl : ∀ x ∈ l, okD x) (h200 : l.length ≤ 200) : ∃ τ, f_X1_giveOut σ T = some τ ∧ isDu τ l ∧ isWs τ T (wgv T l) l.length ∧ (∀ x, ¬ (164 ≤ x ∧ x ≤ 170) → τ x = σ x) ∧ ∀ i, i ≠ 7 → τ 164 i = σ 164 i := by
  unfold f_X1_giveOut
  simp only [Option.bind_some]
  unfold f_X1_giveOut_7
  have hd0 : isDu (mup σ 164 7 0) l := h.keep (mup_miss (by omega)) (fun x i x1 x2 => mup_miss (by omega))
  obtain ⟨e, e1, e2, e3, e4, e5⟩ := loop_ex (f := f_X1_giveOut_7B T) (fun s => ∃ i : Nat, s.1 = (i : Int) ∧ i ≤ l.length ∧ isDu s.2 l ∧ isWs s.2 T (wgv T (l.take i)) i ∧ (∀ x, ¬ (164 ≤ x ∧ x ≤ 170) → s.2 x = σ x) ∧ ∀ i, i ≠ 7 → s.2 164 i = σ 164 i) (fun s => (300 - s.1).toNat) (fun e => isDu e l ∧ isWs e T (wgv T l) l.length ∧ (∀ x, ¬ (164 ≤ x ∧ x ≤ 170) → e x = σ x) ∧ ∀ i, i ≠ 7 → e 164 i = σ 164 i) (a := (0, mup σ 164 7 0)) ⟨0, rfl, Nat.zero_le _, hd0, ⟨by show mup σ 164 7 0 164 7 = ((0 : Nat) : Int); rw [mup_hit rfl rfl]; rfl, fun w hw => absurd hw (Nat.not_lt_zero _), fun j hj => absurd hj (Nat.not_lt_zero _)⟩, fun x hx => mup_row (by omega), fun i hi => mup_miss (by omega)⟩ (Nat.le_of_ble_eq_true rfl) (by
    rintro ⟨_, τ⟩ ⟨i, rfl, hi, k1, k2, k3, k4⟩
    have k1 : isDu τ l := k1
    have k2 : isWs τ T (wgv T (l.take i)) i := k2
    have k3 : ∀ x, ¬ (164 ≤ x ∧ x ≤ 170) → τ x = σ x := k3
    have k4 : ∀ i, i ≠ 7 → τ 164 i = σ 164 i := k4
    show (∃ a', f_X1_giveOut_7C T (i : Int) τ = _ ∧ _) ∨ ∃ a', f_X1_giveOut_7C T (i : Int) τ = _ ∧ _
    unfold f_X1_giveOut_7C
    rw [k1.1]
    by_cases hend : (l.length : Int) ≤ i
    · right
      rw [if_pos hend]
      have : i = l.length := by omega
      subst this
      rw [List.take_length] at k2
      exact ⟨_, rfl, k1, k2, k3, k4⟩
    · left
      have hil : i < l.length := by omega
      have es := wgv_s T hil
      obtain ⟨s, hs⟩ : ∃ s, s = wgv T (l.take i) := ⟨_, rfl⟩
      obtain ⟨x, hx⟩ : ∃ x, x = l.getD i du0 := ⟨_, rfl⟩
      have okx : okD x := by rw [hx]; exact hl _ (getD_mem du0 hil)
      have hbx := dbg_b okx
      have ok := okS_t (T := T) hl (i := i) (by omega)
      have hb0 := X1_beginOf k1 hl h200 hil
      rw [← hs, ← hx] at es
      rw [← hs] at k2 ok
      rw [← hx] at hb0
      obtain ⟨ok1, ok2, ok3⟩ := ok
      obtain ⟨q1, q2, q3⟩ := wW_lt (T := T) (s := s) (x := x)
      obtain ⟨ρ, a1, a2, a3, a4⟩ := X1_watcherAt hT k2 (by omega) x
      rw [if_neg hend, bind_some' hb0, bind_some' a1]
      simp only [Option.bind_some]
      rw [chk_pos (by omega), if_neg (by omega)]
      obtain ⟨ρ1, hρ1⟩ : ∃ ρ1, ρ1 = mup ρ 169 i (wW T s x : Int) := ⟨_, rfl⟩
      rw [← hρ1]
      have hd1 : isDu ρ1 l := k1.keep (by rw [hρ1, mup_miss (by omega), a3 6 (by decide)]) (fun y j y1 y2 => by rw [hρ1, mup_miss (by omega), a2 y (by omega)])
      have hb1 := X1_beginOf hd1 hl h200 hil
      rw [← hx] at hb1
      have h160 := (hd1.2 i hil).2.2.2
      rw [← hx] at h160
      have okn := okx.2.2.2
      rw [bind_some' hb1, chk_pos (by omega), chk_pos (by omega), h160, jadd_ok (a := dbg x) (by omega) (by omega), jadd_ok (by omega) (by omega)]
      obtain ⟨ρ2, hρ2⟩ : ∃ ρ2, ρ2 = mup ρ1 170 (wW T s x : Int) (dbg x + (x.2.2.2 : Int) + T) := ⟨_, rfl⟩
      rw [← hρ2]
      unfold f_X1_giveOut_57
      simp only [Option.bind_some]
      rw [jadd_ok (by omega) (by omega)]
      refine ⟨_, rfl, ⟨i + 1, by show (i : Int) + 1 = _; omega, by omega, ?_, ⟨?_, fun w hw => ?_, fun j hj => ?_⟩, fun y hy => ?_, fun j hj => ?_⟩, by show (300 - ((i : Int) + 1)).toNat < (300 - (i : Int)).toNat; omega⟩
      · show isDu ρ2 l
        rw [hρ2]
        exact hd1.keep (mup_miss (by omega)) (fun y j y1 y2 => mup_miss (by omega))
      · show ρ2 164 7 = _
        rw [hρ2, mup_miss (by omega), hρ1, mup_miss (by omega), a4, es]
      · rw [es] at hw ⊢
        show ρ2 170 w = (if w = wW T s x then dbg x + (x.2.2.2 : Int) else s.2.1 w) + T
        rw [hρ2]
        by_cases e : w = wW T s x
        · rw [mup_hit rfl (by omega), if_pos e]
        · rw [mup_miss (by omega), if_neg e, hρ1, mup_miss (by omega), a2 170 (by decide)]
          refine k2.2.1 w ?_
          have hw : w < (match bsW T s.2.1 (dbg x) s.1 with | none => s.1 + 1 | some _ => s.1) := hw
          unfold wW at e
          cases hb : bsW T s.2.1 (dbg x) s.1 with
          | none =>
            rw [hb] at hw e
            have hw : w < s.1 + 1 := hw
            have e : ¬ w = s.1 := e
            omega
          | some b => rw [hb] at hw; exact hw
      · rw [es]
        show ρ2 169 j = ((s.2.2 ++ [wW T s x]).getD j 0 : Int)
        rw [hρ2, mup_miss (by omega), hρ1]
        by_cases e : j = i
        · subst e
          rw [mup_hit rfl rfl, ← ok2, gd2]
        · rw [mup_miss (by omega), a2 169 (by decide), gd1 (by omega)]
          exact k2.2.2 j (by omega)
      · show ρ2 y = _
        rw [hρ2, mup_row (by omega), hρ1, mup_row (by omega), a2 y (by omega), k3 y hy]
      · show ρ2 164 j = _
        rw [hρ2, mup_miss (by omega), hρ1, mup_miss (by omega), a3 j hj, k4 j hj])
  rw [e1]
  exact ⟨e, rfl, e2, e3, e4, e5⟩
def near (l : List Du) (T : Int) (i j : Nat) : Bool := decide (dbg (l.getD j du0) ≤ dbg (l.getD i du0)) && decide (dbg (l.getD i du0) < dbg (l.getD j du0) + ((l.getD j du0).2.2.2 : Int) + T)
def aoN (l : List Du) (T : Int) : Nat → Nat
  | 0 => 0
  | i + 1 => max (aoN l T i) (cnt (near l T i) l.length)
theorem aoN_b (l : List Du) (T : Int) : ∀ n, aoN l T n ≤ l.length
  | 0 => Nat.zero_le _
  | n + 1 => by
    have h1 := aoN_b l T n
    have h2 := cnt_le (near l T n) l.length
    show max _ _ ≤ _
    omega
theorem X1_atOnce20 {σ : Mem} {T : Int} (hT : 0 ≤ T ∧ T ≤ 8) {l : List Du} (h : isDu σ l) (hl : ∀ x ∈ l, okD x) (h200 : l.length ≤ 200) {i : Nat} (hi : i < l.length) (h8 : σ 164 8 = (aoN l T i : Int)) : f_X1_countAtOnce_20 σ T i 0 0 = some (.inl ((i : Int) + 1, mup σ 164 8 (aoN l T (i + 1) : Int))) := by
  have hb := fun j (hj : j < l.length) => dbg_b (hl _ (getD_mem du0 hj))
  unfold f_X1_countAtOnce_20
  rw [show loop (f_X1_countAtOnce_20B σ T i) FU (0, 0) = some ((cnt (near l T i) l.length : Nat) : Int) from loop_is (P := fun s => ∃ j : Nat, s.2 = (j : Int) ∧ j ≤ l.length ∧ s.1 = ((cnt (near l T i) j : Nat) : Int)) (μ := fun s => (300 - s.2).toNat) (by
    rintro ⟨x3, _⟩ ⟨j, rfl, hj, g4⟩
    have g4 : x3 = ((cnt (near l T i) j : Nat) : Int) := g4
    show (∃ a', f_X1_countAtOnce_20C σ T i x3 (j : Int) = _ ∧ _) ∨ f_X1_countAtOnce_20C σ T i x3 (j : Int) = _
    unfold f_X1_countAtOnce_20C
    rw [h.1]
    by_cases hend : (l.length : Int) ≤ j
    · right
      rw [if_pos hend, g4]
      have : j = l.length := by omega
      rw [this]
    · left
      have hjl : j < l.length := by omega
      have hc := cnt_le (near l T i) j
      have h1 := hb i hi
      have h2 := hb j hjl
      have h3 := (hl _ (getD_mem du0 hjl)).2.2.2
      rw [if_neg hend, bind_some' (X1_beginOf h hl h200 hjl), bind_some' (X1_beginOf h hl h200 hi), bind_some' (X1_beginOf h hl h200 hi), bind_some' (X1_beginOf h hl h200 hjl), chk_pos (by omega), (h.2 j hjl).2.2.2, jadd_ok (a := dbg _) (by omega) (by omega), jadd_ok (a := dbg _ + _) (by omega) (by omega), jadd_ok (a := x3) (by omega) (by omega)]
      have fin : ∀ z : Int, z = ((cnt (near l T i) (j + 1) : Nat) : Int) → ∃ a', f_X1_countAtOnce_70 σ T i z (j : Int) = some (.inl a') ∧ (∃ j : Nat, a'.2 = (j : Int) ∧ j ≤ l.length ∧ a'.1 = ((cnt (near l T i) j : Nat) : Int)) ∧ (300 - a'.2).toNat < (300 - (j : Int)).toNat := fun z hz => by
        unfold f_X1_countAtOnce_70
        simp only [Option.bind_some]
        rw [jadd_ok (by omega) (by omega)]
        exact ⟨_, rfl, ⟨j + 1, by show (j : Int) + 1 = _; omega, by omega, hz⟩, by show (300 - ((j : Int) + 1)).toNat < (300 - (j : Int)).toNat; omega⟩
      by_cases q1 : dbg (l.getD i du0) < dbg (l.getD j du0)
      · rw [if_pos q1]
        exact fin _ (by rw [g4, cnt_s, show near l T i j = false by unfold near; rw [decide_eq_false (by omega)]; rfl, bf])
      · rw [if_neg q1]
        by_cases q2 : dbg (l.getD j du0) + ((l.getD j du0).2.2.2 : Int) + T ≤ dbg (l.getD i du0)
        · rw [if_pos q2]
          exact fin _ (by rw [g4, cnt_s, show near l T i j = false by unfold near; rw [decide_eq_false (show ¬ dbg (l.getD i du0) < dbg (l.getD j du0) + ((l.getD j du0).2.2.2 : Int) + T by omega), Bool.and_false], bf])
        · rw [if_neg q2]
          exact fin _ (by rw [g4, cnt_s, show near l T i j = true by unfold near; rw [decide_eq_true (by omega), decide_eq_true (by omega)]; rfl, bt]; omega)) ⟨0, rfl, Nat.zero_le _, rfl⟩ (Nat.le_of_ble_eq_true rfl)]
  rw [bsm]
  unfold f_X1_countAtOnce_76
  simp only [Option.bind_some]
  rw [jadd_ok (by omega) (by omega), h8, mx_eq]
  congr 4
  show max ((aoN l T i : Nat) : Int) ((cnt (near l T i) l.length : Nat) : Int) = ((max (aoN l T i) (cnt (near l T i) l.length) : Nat) : Int)
  omega
theorem X1_countAtOnce {σ : Mem} {T : Int} (hT : 0 ≤ T ∧ T ≤ 8) {l : List Du} (h : isDu σ l) (hl : ∀ x ∈ l, okD x) (h200 : l.length ≤ 200) : ∃ τ, f_X1_countAtOnce σ T = some τ ∧ (∀ x i, ¬ (x = 164 ∧ i = 8) → τ x i = σ x i) ∧ τ 164 8 = (aoN l T l.length : Int) := by
  unfold f_X1_countAtOnce
  simp only [Option.bind_some]
  unfold f_X1_countAtOnce_7
  obtain ⟨e, e1, e2, e3⟩ := loop_ex (f := f_X1_countAtOnce_7B T) (fun s => ∃ i : Nat, s.1 = (i : Int) ∧ i ≤ l.length ∧ (∀ x i, ¬ (x = 164 ∧ i = 8) → s.2 x i = σ x i) ∧ s.2 164 8 = (aoN l T i : Int)) (fun s => (300 - s.1).toNat) (fun e => (∀ x i, ¬ (x = 164 ∧ i = 8) → e x i = σ x i) ∧ e 164 8 = (aoN l T l.length : Int)) (a := (0, mup σ 164 8 0)) ⟨0, rfl, Nat.zero_le _, fun x i hx => mup_miss hx, by show mup σ 164 8 0 164 8 = ((0 : Nat) : Int); rw [mup_hit rfl rfl]; rfl⟩ (Nat.le_of_ble_eq_true rfl) (by
    rintro ⟨_, τ⟩ ⟨i, rfl, hi, k1, k2⟩
    have k1 : ∀ x i, ¬ (x = 164 ∧ i = 8) → τ x i = σ x i := k1
    have k2 : τ 164 8 = (aoN l T i : Int) := k2
    show (∃ a', f_X1_countAtOnce_7C T (i : Int) τ = _ ∧ _) ∨ ∃ a', f_X1_countAtOnce_7C T (i : Int) τ = _ ∧ _
    unfold f_X1_countAtOnce_7C
    have hd : isDu τ l := h.keep (k1 _ _ (by omega)) (fun x j x1 x2 => k1 x j (by omega))
    rw [hd.1]
    by_cases hend : (l.length : Int) ≤ i
    · right
      rw [if_pos hend]
      have : i = l.length := by omega
      subst this
      exact ⟨_, rfl, k1, k2⟩
    · left
      rw [if_neg hend, X1_atOnce20 hT hd hl h200 (by omega) k2]
      exact ⟨_, rfl, ⟨i + 1, by show (i : Int) + 1 = _; omega, by omega, fun x j hx => by show mup τ 164 8 (aoN l T (i + 1) : Int) x j = _; rw [mup_miss hx, k1 x j hx], by show mup τ 164 8 (aoN l T (i + 1) : Int) 164 8 = _; rw [mup_hit rfl rfl]⟩, by show (300 - ((i : Int) + 1)).toNat < (300 - (i : Int)).toNat; omega⟩)
  rw [e1]
  exact ⟨e, rfl, e2, e3⟩
/-- what the class keeps of duties -/
def duD (σ : Mem) (l : List Du) (T : Int) : Prop := isDu σ l ∧ σ 164 7 = ((wgv T l).1 : Int) ∧ (∀ j : Nat, j < l.length → σ 169 j = ((wgv T l).2.2.getD j 0 : Int)) ∧ σ 164 8 = (aoN l T l.length : Int)
theorem duD.keep {σ τ : Mem} {l : List Du} {T : Int} (h : duD σ l T) (e0 : ∀ i, i ≠ 9 → τ 164 i = σ 164 i) (e : ∀ x i, 165 ≤ x → x ≤ 170 → τ x i = σ x i) : duD τ l T := ⟨h.1.keep (e0 _ (by decide)) (fun x i x1 x2 => e x i x1 (by omega)), by rw [e0 _ (by decide)]; exact h.2.1, fun j hj => by rw [e _ _ (by decide) (by decide)]; exact h.2.2.1 j hj, by rw [e0 _ (by decide)]; exact h.2.2.2⟩
def dL (B : Bk) : List Du := dD (KK B) (B 8 1).toNat 5
def DUC (σ : Mem) (B : Bk) : Prop := σ 164 9 ≤ σ 43 3 ∧ (σ 164 9 = σ 43 3 → duD σ (dL B) (B 8 4))
theorem X1_gather {σ : Mem} {B : Bk} (h : ST σ B) (hD : DUC σ B) : ∃ τ, f_X1_gather σ = some τ ∧ (∀ x, ¬ (35 ≤ x ∧ x ≤ 42) → ¬ (45 ≤ x ∧ x ≤ 153) → ¬ (164 ≤ x ∧ x ≤ 170) → τ x = σ x) ∧ ST τ B ∧ duD τ (dL B) (B 8 4) ∧ τ 164 9 = τ 43 3 := by
  have hn := h.2.2.1.1
  unfold WFn at hn
  have w := h.2.2.1
  obtain ⟨N, hN⟩ := n_of hn.2.1.1
  have eL : dL B = dD (KK B) N 5 := by unfold dL; rw [hN, Int.toNat_natCast]
  have h4 : ∀ c d, c < N → d < 5 → cnt (stB (KK B c d)) 48 ≤ 4 := fun c d hc hd => st_4 w (by omega) (by omega) hd
  have hl : ∀ x ∈ dD (KK B) N 5, okD x := ok_dD (by omega) 5 (Nat.le_refl _)
  have h200 := len_all (K := KK B) (N := N) (by omega) h4
  unfold f_X1_gather f_X9_edition
  simp only [Option.bind_some]
  by_cases e : σ 164 9 = σ 43 3
  · rw [if_neg (by omega)]
    exact ⟨σ, rfl, fun _ _ _ _ => rfl, h, hD.2 e, e⟩
  · rw [if_pos e]
    obtain ⟨σ1, hσ1⟩ : ∃ σ1, σ1 = mup (mup σ 164 9 (σ 43 3)) 164 6 0 := ⟨_, rfl⟩
    rw [← hσ1]
    have f1 : ∀ x, x ≠ 164 → σ1 x = σ x := fun x hx => by rw [hσ1, mup_row hx, mup_row hx]
    have hst1 : ST σ1 B := GF.ST h fun x hx => f1 x (by omega)
    obtain ⟨τ1, a1, a2, a3, a4⟩ := X1_gather27 hst1 hN ⟨by rw [hσ1, mup_hit rfl rfl]; rfl, fun i hi => absurd hi (Nat.not_lt_zero _)⟩
    rw [a1]
    unfold f_X1_gather_94
    rw [a3.1.turn]
    obtain ⟨τ2, b1, b2, b3, b4, b5⟩ := X1_giveOut (T := B 8 4) hn.2.2.2.2.1 a4 hl h200
    have hst2 : ST τ2 B := GF.ST a3 b4
    rw [bind_some' b1, hst2.1.turn]
    obtain ⟨τ3, c1, c2, c3⟩ := X1_countAtOnce (T := B 8 4) hn.2.2.2.2.1 b2 hl h200
    rw [bind_some' c1]
    have f3 : ∀ x, x ≠ 164 → τ3 x = τ2 x := fun x hx => funext fun i => c2 x i (by omega)
    rw [eL]
    refine ⟨τ3, rfl, fun x x1 x2 x3 => ?_, GF.ST hst2 fun x hx => f3 x (by omega), ⟨b2.keep (c2 _ _ (by omega)) (fun x i x1 x2 => c2 x i (by omega)), ?_, fun j hj => ?_, c3⟩, ?_⟩
    · rw [f3 x (by omega), b4 x x3, a2.1 x x1 x2 x3, f1 x (by omega)]
    · rw [c2 _ _ (by omega)]; exact b3.1
    · rw [c2 _ _ (by omega)]; exact b3.2.2 j hj
    · rw [c2 _ _ (by omega), b5 9 (by decide), a2.2 9 (by decide) (by decide) (by decide), hσ1, mup_miss (by omega), mup_hit rfl rfl, f3 43 (by decide), b4 43 (by decide), a2.1 43 (by decide) (by decide) (by decide), f1 43 (by decide)]
