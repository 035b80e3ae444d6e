/-! DUTIES: the list of them, and how the class gathers it -/
abbrev Du : Type := Nat × Nat × Nat × Nat
def du0 : Du := (0, 0, 0, 0)
def rl (p : Nat → Bool) : Nat → Nat → Nat
  | 0, _ => 0
  | f + 1, t => if p t then rl p f (t + 1) + 1 else 0
theorem rl_s {p : Nat → Bool} {t : Nat} (h : t < 48) : rl p (48 - t) t = if p t then rl p (48 - (t + 1)) (t + 1) + 1 else 0 := by
  obtain ⟨f, hf⟩ : ∃ f, 48 - t = f + 1 := ⟨47 - t, by omega⟩
  rw [hf, show 48 - (t + 1) = f by omega]
  rfl
theorem rl_le (p : Nat → Bool) : ∀ f t, rl p f t ≤ f
  | 0, _ => Nat.le_refl _
  | f + 1, t => by
    have := rl_le p f (t + 1)
    show (if p t then rl p f (t + 1) + 1 else 0) ≤ f + 1
    split <;> omega
def dC (K : Nat → Nat → Nat → Bool) (d t : Nat) : Nat → List Du
  | 0 => []
  | c + 1 => if stB (K c d) t then dC K d t c ++ [(c, d, t, rl (K c d) (48 - t) t)] else dC K d t c
def dT (K : Nat → Nat → Nat → Bool) (N d : Nat) : Nat → List Du
  | 0 => []
  | t + 1 => dT K N d t ++ dC K d t N
def dD (K : Nat → Nat → Nat → Bool) (N : Nat) : Nat → List Du
  | 0 => []
  | d + 1 => dD K N d ++ dT K N d 48
def pre (K : Nat → Nat → Nat → Bool) (N d t c : Nat) : List Du := dD K N d ++ dT K N d t ++ dC K d t c
theorem pre_c (K : Nat → Nat → Nat → Bool) (N d t c : Nat) : pre K N d t (c + 1) = if stB (K c d) t then pre K N d t c ++ [(c, d, t, rl (K c d) (48 - t) t)] else pre K N d t c := by
  unfold pre
  show _ ++ (if stB (K c d) t then dC K d t c ++ [(c, d, t, rl (K c d) (48 - t) t)] else dC K d t c) = _
  cases stB (K c d) t with
  | true => rw [if_pos rfl, if_pos rfl]; simp only [List.append_assoc]
  | false => rw [if_neg (by decide), if_neg (by decide)]
theorem pre_t (K : Nat → Nat → Nat → Bool) (N d t : Nat) : pre K N d (t + 1) 0 = pre K N d t N := by
  unfold pre
  show dD K N d ++ (dT K N d t ++ dC K d t N) ++ [] = _
  rw [List.append_nil, List.append_assoc]
theorem pre_d (K : Nat → Nat → Nat → Bool) (N d : Nat) : pre K N (d + 1) 0 0 = pre K N d 48 0 := by
  unfold pre
  show dD K N d ++ dT K N d 48 ++ [] ++ [] = dD K N d ++ dT K N d 48 ++ []
  rw [List.append_nil]
theorem len_dC (K : Nat → Nat → Nat → Bool) (d t : Nat) : ∀ c, (dC K d t c).length = cnt (fun c => stB (K c d) t) c
  | 0 => rfl
  | c + 1 => by
    rw [cnt_s, ← len_dC K d t c]
    show (if stB (K c d) t then dC K d t c ++ [(c, d, t, rl (K c d) (48 - t) t)] else dC K d t c).length = _
    cases stB (K c d) t with
    | true => rw [if_pos rfl, if_pos rfl, List.length_append]; rfl
    | false => rw [if_neg (by decide), if_neg (by decide)]
theorem len_dT (K : Nat → Nat → Nat → Bool) (N d : Nat) : ∀ t, (dT K (N + 1) d t).length = (dT K N d t).length + cnt (stB (K N d)) t
  | 0 => rfl
  | t + 1 => by
    show (dT K (N + 1) d t ++ dC K d t (N + 1)).length = (dT K N d t ++ dC K d t N).length + _
    rw [List.length_append, List.length_append, len_dT K N d t, len_dC, len_dC, cnt_s, cnt_s]
    split <;> omega
theorem len_dT0 (K : Nat → Nat → Nat → Bool) (d : Nat) : ∀ t, (dT K 0 d t).length = 0
  | 0 => rfl
  | t + 1 => by
    show (dT K 0 d t ++ dC K d t 0).length = 0
    rw [List.length_append, len_dT0 K d t]
    rfl
theorem len_T4 {K : Nat → Nat → Nat → Bool} {d : Nat} : ∀ {N : Nat}, (∀ c, c < N → cnt (stB (K c d)) 48 ≤ 4) → (dT K N d 48).length ≤ 4 * N
  | 0, _ => by rw [len_dT0]; omega
  | N + 1, h => by
    have h1 := len_T4 (K := K) (d := d) (N := N) fun c hc => h c (by omega)
    have h2 := h N (by omega)
    rw [len_dT]
    omega
theorem len_Tm (K : Nat → Nat → Nat → Bool) (N d : Nat) {t : Nat} : ∀ u, t ≤ u → (dT K N d t).length ≤ (dT K N d u).length
  | 0, h => by rw [show t = 0 by omega]; exact Nat.le_refl _
  | u + 1, h => by
    by_cases e : t = u + 1
    · rw [e]; exact Nat.le_refl _
    · have := len_Tm K N d (t := t) u (by omega)
      show _ ≤ (dT K N d u ++ dC K d u N).length
      rw [List.length_append]
      omega
theorem len_D {K : Nat → Nat → Nat → Bool} {N : Nat} (hN : N ≤ 10) (h : ∀ c d, c < N → d < 5 → cnt (stB (K c d)) 48 ≤ 4) : ∀ d, d ≤ 5 → (dD K N d).length ≤ 40 * d
  | 0, _ => by show 0 ≤ _; omega
  | d + 1, hd => by
    have h1 := len_D hN h d (by omega)
    have h2 := len_T4 (K := K) (d := d) (N := N) fun c hc => h c d hc (by omega)
    show (dD K N d ++ dT K N d 48).length ≤ _
    rw [List.length_append]
    omega
theorem len_pre {K : Nat → Nat → Nat → Bool} {N : Nat} (hN : N ≤ 10) (h : ∀ c d, c < N → d < 5 → cnt (stB (K c d)) 48 ≤ 4) {d t c : Nat} (hd : d < 5) (ht : t < 48) (hc : c ≤ N) : (pre K N d t c).length ≤ 200 := by
  unfold pre
  rw [List.length_append, List.length_append]
  have h1 := len_D hN h d (by omega)
  have h2 := len_T4 (K := K) (d := d) (N := N) fun c hc => h c d hc hd
  have h3 := len_Tm K N d (t := t + 1) 48 (by omega)
  have h4 : (dT K N d (t + 1)).length = (dT K N d t).length + (dC K d t N).length := by
    show (dT K N d t ++ dC K d t N).length = _
    rw [List.length_append]
  have h5 := cnt_mono (fun c => stB (K c d) t) (a := c) N hc
  rw [← len_dC, ← len_dC] at h5
  omega
theorem len_all {K : Nat → Nat → Nat → Bool} {N : Nat} (hN : N ≤ 10) (h : ∀ c d, c < N → d < 5 → cnt (stB (K c d)) 48 ≤ 4) : (dD K N 5).length ≤ 200 := by
  have := len_D hN h 5 (Nat.le_refl _)
  omega
/-- what each of them is -/
def okD (x : Du) : Prop := x.1 < 10 ∧ x.2.1 < 5 ∧ x.2.2.1 < 48 ∧ x.2.2.2 ≤ 48
theorem ok_dC {K : Nat → Nat → Nat → Bool} {d t : Nat} (hd : d < 5) (ht : t < 48) : ∀ c, c ≤ 10 → ∀ x ∈ dC K d t c, okD x
  | 0, _, x, hx => by cases hx
  | c + 1, hc, x, hx => by
    have hx : x ∈ (if stB (K c d) t then dC K d t c ++ [(c, d, t, rl (K c d) (48 - t) t)] else dC K d t c) := hx
    cases hs : stB (K c d) t with
    | true =>
      rw [hs, if_pos rfl] at hx
      rcases List.mem_append.1 hx with h | h
      · exact ok_dC hd ht c (by omega) x h
      · rw [List.mem_singleton.1 h]
        have := rl_le (K c d) (48 - t) t
        exact ⟨by show c < 10; omega, hd, ht, by show rl (K c d) (48 - t) t ≤ 48; omega⟩
    | false =>
      rw [hs, if_neg (by decide)] at hx
      exact ok_dC hd ht c (by omega) x hx
theorem ok_dT {K : Nat → Nat → Nat → Bool} {N d : Nat} (hN : N ≤ 10) (hd : d < 5) : ∀ t, t ≤ 48 → ∀ x ∈ dT K N d t, okD x
  | 0, _, x, hx => by cases hx
  | t + 1, ht, x, hx => by
    rcases List.mem_append.1 hx with h | h
    · exact ok_dT hN hd t (by omega) x h
    · exact ok_dC hd (by omega) N hN x h
theorem ok_dD {K : Nat → Nat → Nat → Bool} {N : Nat} (hN : N ≤ 10) : ∀ d, d ≤ 5 → ∀ x ∈ dD K N d, okD x
  | 0, _, x, hx => by cases hx
  | d + 1, hd, x, hx => by
    rcases List.mem_append.1 hx with h | h
    · exact ok_dD hN d (by omega) x h
    · exact ok_dT hN (by omega) 48 (Nat.le_refl _) x h
theorem gd1 {α : Type} {l : List α} {x d : α} {i : Nat} (h : i < l.length) : (l ++ [x]).getD i d = l.getD i d := by
  rw [List.getD_eq_getElem?_getD, List.getD_eq_getElem?_getD, List.getElem?_append_left h]
theorem gd2 {α : Type} {l : List α} {x d : α} : (l ++ [x]).getD l.length d = x := by
  rw [List.getD_eq_getElem?_getD, List.getElem?_append_right (Nat.le_refl _), Nat.sub_self]
  rfl
/-- the class' list -/
def isDu (σ : Mem) (l : List Du) : Prop := σ 164 6 = (l.length : Int) ∧ ∀ i : Nat, i < l.length → σ 165 i = ((l.getD i du0).1 : Int) ∧ σ 166 i = ((l.getD i du0).2.1 : Int) ∧ σ 167 i = ((l.getD i du0).2.2.1 : Int) ∧ σ 168 i = ((l.getD i du0).2.2.2 : Int)
theorem isDu.keep {σ τ : Mem} {l : List Du} (h : isDu σ l) (e0 : τ 164 6 = σ 164 6) (e : ∀ x i, 165 ≤ x → x ≤ 168 → τ x i = σ x i) : isDu τ l := by
  refine ⟨by rw [e0]; exact h.1, fun i hi => ?_⟩
  obtain ⟨h1, h2, h3, h4⟩ := h.2 i hi
  exact ⟨by rw [e _ _ (by decide) (by decide)]; exact h1, by rw [e _ _ (by decide) (by decide)]; exact h2, by rw [e _ _ (by decide) (by decide)]; exact h3, by rw [e _ _ (by decide) (by decide)]; exact h4⟩
theorem X1_add {σ : Mem} {l : List Du} (h : isDu σ l) (hl : l.length < 200) (c d t : Nat) {n : Nat} (hn : 0 < n) : ∃ τ, f_X1_add σ c d t n = some τ ∧ isDu τ (l ++ [(c, d, t, n)]) ∧ (∀ x, ¬ (164 ≤ x ∧ x ≤ 168) → τ x = σ x) ∧ ∀ i, i ≠ 6 → τ 164 i = σ 164 i := by
  obtain ⟨h1, h2⟩ := h
  have m : ∀ (τ : Mem) (k j v : Int), k ≠ 164 → mup τ k j v 164 6 = τ 164 6 := fun τ k j v hk => mup_miss (by omega)
  refine ⟨mup (mup (mup (mup (mup σ 165 l.length c) 166 l.length d) 167 l.length t) 168 l.length n) 164 6 (l.length + 1), ?_, ⟨?_, fun i hi => ?_⟩, fun x hx => ?_, fun i hi => ?_⟩
  · unfold f_X1_add
    rw [if_neg (by omega), h1, if_neg (by omega), chk_pos (by omega)]
    simp only [Option.bind_some]
    rw [m _ _ _ _ (by decide), h1, chk_pos (by omega), m _ _ _ _ (by decide), m _ _ _ _ (by decide), h1, chk_pos (by omega), m _ _ _ _ (by decide), m _ _ _ _ (by decide), m _ _ _ _ (by decide), h1, chk_pos (by omega), m _ _ _ _ (by decide), m _ _ _ _ (by decide), m _ _ _ _ (by decide), m _ _ _ _ (by decide), h1, jadd_ok (by omega) (by omega)]
  · rw [mup_hit rfl rfl, List.length_append]
    show _ = ((l.length + 1 : Nat) : Int)
    omega
  · rw [List.length_append] at hi
    have hi : i < l.length + 1 := hi
    by_cases e : i = l.length
    · subst e
      rw [gd2]
      refine ⟨?_, ?_, ?_, ?_⟩
      · rw [mup_miss (by omega), mup_miss (by omega), mup_miss (by omega), mup_miss (by omega), mup_hit rfl rfl]
      · rw [mup_miss (by omega), mup_miss (by omega), mup_miss (by omega), mup_hit rfl rfl]
      · rw [mup_miss (by omega), mup_miss (by omega), mup_hit rfl rfl]
      · rw [mup_miss (by omega), mup_hit rfl rfl]
    · rw [gd1 (by omega)]
      obtain ⟨g1, g2, g3, g4⟩ := h2 i (by omega)
      refine ⟨?_, ?_, ?_, ?_⟩
      · rw [mup_miss (by omega), mup_miss (by omega), mup_miss (by omega), mup_miss (by omega), mup_miss (by omega), g1]
      · rw [mup_miss (by omega), mup_miss (by omega), mup_miss (by omega), mup_miss (by omega), mup_miss (by omega), g2]
      · rw [mup_miss (by omega), mup_miss (by omega), mup_miss (by omega), mup_miss (by omega), mup_miss (by omega), g3]
      · rw [mup_miss (by omega), mup_miss (by omega), mup_miss (by omega), mup_miss (by omega), mup_miss (by omega), g4]
  · rw [mup_row (by omega), mup_row (by omega), mup_row (by omega), mup_row (by omega), mup_row (by omega)]
  · rw [mup_miss (by omega), mup_miss (by omega), mup_miss (by omega), mup_miss (by omega), mup_miss (by omega)]
theorem X8_dutyFrom26 {σ : Mem} {k : Int} {d : Nat} (hd : d < 5) {p : Nat → Bool} (hp : σ (k + 6) d = ((mset p 48 : Nat) : Int)) {t : Nat} (ht : t < 48) : f_X8_dutyFrom_26 σ k d 0 t = some ((rl p (48 - t) t : Nat) : Int) := by
  have hm := mset_lt p 48
  unfold f_X8_dutyFrom_26
  rw [show loop (f_X8_dutyFrom_26B σ k d) FU (0, (t : Int)) = some ((rl p (48 - t) t : Nat) : Int) from loop_is (P := fun s => ∃ j : Nat, s.1 = (j : Int) ∧ s.2 = ((t + j : Nat) : Int) ∧ t + j ≤ 48 ∧ rl p (48 - t) t = j + rl p (48 - (t + j)) (t + j)) (μ := fun s => (50 - s.2).toNat) (by
    rintro ⟨_, _⟩ ⟨j, rfl, rfl, hj, g⟩
    show (∃ a', f_X8_dutyFrom_26C σ k d (j : Int) ((t + j : Nat) : Int) = _ ∧ _) ∨ f_X8_dutyFrom_26C σ k d (j : Int) ((t + j : Nat) : Int) = _
    unfold f_X8_dutyFrom_26C
    by_cases hend : (48 : Int) ≤ ((t + j : Nat) : Int)
    · right
      rw [if_pos hend, g, show 48 - (t + j) = 0 by omega]
      rfl
    · rw [if_neg hend, chk_pos (by omega), hp, bind_some' (hasSlot_n hm (by omega)), mset_tb, decide_eq_true (show t + j < 48 by omega), Bool.true_and]
      rw [rl_s (show t + j < 48 by omega)] at g
      cases hpt : p (t + j) with
      | false =>
        right
        rw [bf, if_pos rfl, g, hpt, bf, Nat.add_zero]
      | true =>
        left
        rw [hpt, bt] at g
        rw [bt, if_neg (by decide), jadd_ok (by omega) (by omega), jadd_ok (by omega) (by omega)]
        exact ⟨_, rfl, ⟨j + 1, by show (j : Int) + 1 = _; omega, by show ((t + j : Nat) : Int) + 1 = _; omega, by omega, by rw [g, show t + (j + 1) = t + j + 1 by omega]; omega⟩, by show (50 - (((t + j : Nat) : Int) + 1)).toNat < (50 - ((t + j : Nat) : Int)).toNat; omega⟩) ⟨0, rfl, rfl, by omega, by rw [Nat.zero_add]; rfl⟩ (by show (50 - (t : Int)).toNat < 1000000; omega)]
  rfl
theorem X8_dutyFrom {σ : Mem} {k : Int} {d : Nat} (hd : d < 5) {p : Nat → Bool} (hp : σ (k + 6) d = ((mset p 48 : Nat) : Int)) {t : Nat} (ht : t < 48) : f_X8_dutyFrom σ k d t = some ((if stB p t then rl p (48 - t) t else 0 : Nat) : Int) := by
  have hm := mset_lt p 48
  have h26 := X8_dutyFrom26 hd hp ht
  unfold f_X8_dutyFrom f_X8_dutyFrom_21
  rw [h26]
  have h0 : p t = false → rl p (48 - t) t = 0 := fun h => by rw [rl_s ht, h]; rfl
  unfold stB
  by_cases e : t = 0
  · subst e
    rw [if_pos (by decide), decide_eq_false (Nat.lt_irrefl 0)]
    cases hpt : p 0 with
    | true => rfl
    | false => rw [h0 hpt]; rfl
  · rw [if_neg (by omega), chk_pos (by omega), jsub_ok (by omega) (by omega), show (t : Int) - 1 = ((t - 1 : Nat) : Int) by omega, hp, bind_some' (hasSlot_n hm (by omega)), mset_tb, decide_eq_true (show t - 1 < 48 by omega), Bool.true_and, decide_eq_true (show 0 < t by omega), Bool.true_and]
    cases hpt : p (t - 1) with
    | true =>
      rw [bt, if_neg (by decide)]
      simp
    | false =>
      rw [bf, if_pos rfl]
      cases hpt2 : p t with
      | true => rfl
      | false => rw [h0 hpt2]; rfl
/-- what gathering may change -/
def GF (σ τ : Mem) : Prop := (∀ x, ¬ (35 ≤ x ∧ x ≤ 42) → ¬ (45 ≤ x ∧ x ≤ 153) → ¬ (164 ≤ x ∧ x ≤ 170) → τ x = σ x) ∧ ∀ i, i ≠ 6 → i ≠ 7 → i ≠ 8 → τ 164 i = σ 164 i
theorem GF.rfl {σ : Mem} : GF σ σ := ⟨fun _ _ _ _ => Eq.refl _, fun _ _ _ _ => Eq.refl _⟩
theorem GF.trans {σ τ ρ : Mem} (h : GF σ τ) (g : GF τ ρ) : GF σ ρ := ⟨fun x h1 h2 h3 => by rw [g.1 x h1 h2 h3, h.1 x h1 h2 h3], fun i h1 h2 h3 => by rw [g.2 i h1 h2 h3, h.2 i h1 h2 h3]⟩
theorem GF.w {σ τ : Mem} (h : wks σ τ) : GF σ τ := ⟨fun x h1 h2 _ => h x (by omega) h2, fun i _ _ _ => by rw [h 164 (by decide) (by decide)]⟩
theorem GF.ST {σ τ : Mem} {B : Bk} (h : ST σ B) (e : ∀ x, ¬ (164 ≤ x ∧ x ≤ 170) → τ x = σ x) : ST τ B := h.of (fun x x1 x2 => e x (by omega)) (e 182 (by decide)) (fun x x1 x2 => e x (by omega))
theorem GF.e {σ τ : Mem} (e : ∀ x, ¬ (164 ≤ x ∧ x ≤ 170) → τ x = σ x) (e2 : ∀ i, i ≠ 6 → i ≠ 7 → i ≠ 8 → τ 164 i = σ 164 i) : GF σ τ := ⟨fun x _ _ h3 => e x h3, e2⟩
def KK (B : Bk) : Nat → Nat → Nat → Bool := fun c d t => kp B c d t
theorem X1_gather45 {σ : Mem} {B : Bk} (h : ST σ B) {N : Nat} (hN : B 8 1 = N) {d t : Nat} (hd : d < 5) (ht : t < 48) (hl : isDu σ (pre (KK B) N d t 0)) : ∃ τ, f_X1_gather_45 σ d t 0 = some (.inl ((t : Int) + 1, τ)) ∧ GF σ τ ∧ ST τ B ∧ isDu τ (pre (KK B) N d t N) := by
  have hn := h.2.2.1.1
  unfold WFn at hn
  have w := h.2.2.1
  have h4 : ∀ c d, c < N → d < 5 → cnt (stB (KK B c d)) 48 ≤ 4 := fun c d hc hd => st_4 w (by omega) (by omega) hd
  unfold f_X1_gather_45
  obtain ⟨e, e1, e2, e3, e4⟩ := loop_ex (f := f_X1_gather_45B d t) (fun s => ∃ i : Nat, s.1 = (i : Int) ∧ i ≤ N ∧ GF σ s.2 ∧ ST s.2 B ∧ isDu s.2 (pre (KK B) N d t i)) (fun s => (20 - s.1).toNat) (fun e => GF σ e ∧ ST e B ∧ isDu e (pre (KK B) N d t N)) (a := (0, σ)) ⟨0, rfl, Nat.zero_le _, GF.rfl, h, hl⟩ (Nat.le_of_ble_eq_true rfl) (by
    rintro ⟨_, τ⟩ ⟨i, rfl, hi, k1, k2, k3⟩
    have k1 : GF σ τ := k1
    have k2 : ST τ B := k2
    have k3 : isDu τ (pre (KK B) N d t i) := k3
    show (∃ a', f_X1_gather_45C d t (i : Int) τ = _ ∧ _) ∨ ∃ a', f_X1_gather_45C d t (i : Int) τ = _ ∧ _
    unfold f_X1_gather_45C
    rw [k2.1.nC]
    by_cases hend : B 8 1 ≤ i
    · right
      rw [if_pos hend]
      have : i = N := by omega
      subst this
      exact ⟨_, rfl, k1, k2, k3⟩
    · left
      obtain ⟨ρ, a1, a2, a3, a4, a5⟩ := ask k2 (c := (i : Int)) (by omega) (by omega)
      have pp1 : ((54 + 10 * (i : Int), ρ) : Int × Mem).1 = 54 + 10 * (i : Int) := rfl
      have pp2 : ((54 + 10 * (i : Int), ρ) : Int × Mem).2 = ρ := rfl
      have k4 : isDu ρ (pre (KK B) N d t i) := k3.keep (by rw [a3 164 (by decide) (by decide)]) (fun x j x1 x2 => by rw [a3 x (by omega) (by omega)])
      rw [if_neg hend, bind_some' a1, pp1, pp2, bind_some' (X8_dutyFrom hd (wk_kept w (by omega) (by omega) a5 hd) ht)]
      have ep := pre_c (KK B) N d t i
      have hle := len_pre (K := KK B) (N := N) (by omega) h4 hd ht (c := i + 1) (by omega)
      rw [ep] at hle
      have fin : ∀ τ' : Mem, f_X1_add ρ (i : Int) d t ((if stB (kp B i d) t then rl (kp B i d) (48 - t) t else 0 : Nat) : Int) = some τ' → GF ρ τ' → ST τ' B → isDu τ' (pre (KK B) N d t (i + 1)) → ∃ a', ((f_X1_add ρ (i : Int) d t ((if stB (kp B i d) t then rl (kp B i d) (48 - t) t else 0 : Nat) : Int)).bind fun σ16 => ((some (jadd (i : Int) (1 : Int))).bind fun v18 => (some (Sum.inl (v18, σ16) : (Int × Mem) ⊕ Mem)))) = some (Sum.inl a') ∧ (∃ i : Nat, a'.1 = (i : Int) ∧ i ≤ N ∧ GF σ a'.2 ∧ ST a'.2 B ∧ isDu a'.2 (pre (KK B) N d t i)) ∧ (20 - a'.1).toNat < (20 - (i : Int)).toNat := fun τ' z1 z2 z3 z4 => by
        rw [bind_some' z1]
        simp only [Option.bind_some]
        rw [jadd_ok (by omega) (by omega)]
        exact ⟨_, rfl, ⟨i + 1, by show (i : Int) + 1 = _; omega, by omega, (k1.trans (GF.w a3)).trans z2, z3, z4⟩, by show (20 - ((i : Int) + 1)).toNat < (20 - (i : Int)).toNat; omega⟩
      cases hs : stB (kp B i d) t with
      | false =>
        have hs' : stB (KK B i d) t = false := hs
        rw [hs', bf] at ep
        have q := fin ρ (by rw [hs, bf]; rfl) GF.rfl a4 (by rw [ep]; exact k4)
        rw [hs] at q
        exact q
      | true =>
        have hs' : stB (KK B i d) t = true := hs
        rw [hs', bt] at ep hle
        rw [List.length_append] at hle
        have hle : (pre (KK B) N d t i).length + 1 ≤ 200 := hle
        have hp : kp B i d t = true := by
          unfold stB at hs
          simp only [Bool.and_eq_true] at hs
          exact hs.1
        have hpos : 0 < rl (kp B i d) (48 - t) t := by
          rw [rl_s ht, hp, bt]
          omega
        obtain ⟨τ', b1, b2, b3, b4⟩ := X1_add k4 (by omega) i d t hpos
        have q := fin τ' (by rw [hs, bt]; exact b1) (GF.e (fun x hx => b3 x (by omega)) fun j j1 _ _ => b4 j j1) (GF.ST a4 fun x hx => b3 x (by omega)) (by rw [ep]; exact b2)
        rw [hs] at q
        exact q)
  rw [e1]
  refine ⟨e, ?_, e2, e3, e4⟩
  rw [bsm]
  unfold f_X1_gather_82
  simp only [Option.bind_some]
  rw [jadd_ok (by omega) (by omega)]
theorem X1_gather35 {σ : Mem} {B : Bk} (h : ST σ B) {N : Nat} (hN : B 8 1 = N) {d : Nat} (hd : d < 5) (hl : isDu σ (pre (KK B) N d 0 0)) : ∃ τ, f_X1_gather_35 σ d 0 = some (.inl ((d : Int) + 1, τ)) ∧ GF σ τ ∧ ST τ B ∧ isDu τ (pre (KK B) N d 48 0) := by
  unfold f_X1_gather_35
  obtain ⟨e, e1, e2, e3, e4⟩ := loop_ex (f := f_X1_gather_35B d) (fun s => ∃ i : Nat, s.1 = (i : Int) ∧ i ≤ 48 ∧ GF σ s.2 ∧ ST s.2 B ∧ isDu s.2 (pre (KK B) N d i 0)) (fun s => (50 - s.1).toNat) (fun e => GF σ e ∧ ST e B ∧ isDu e (pre (KK B) N d 48 0)) (a := (0, σ)) ⟨0, rfl, Nat.zero_le _, GF.rfl, h, hl⟩ (Nat.le_of_ble_eq_true rfl) (by
    rintro ⟨_, τ⟩ ⟨i, rfl, hi, k1, k2, k3⟩
    have k1 : GF σ τ := k1
    have k2 : ST τ B := k2
    have k3 : isDu τ (pre (KK B) N d i 0) := k3
    show (∃ a', f_X1_gather_35C d (i : Int) τ = _ ∧ _) ∨ ∃ a', f_X1_gather_35C d (i : Int) τ = _ ∧ _
    unfold f_X1_gather_35C
    by_cases hend : (48 : Int) ≤ i
    · right
      rw [if_pos hend]
      have : i = 48 := by omega
      subst this
      exact ⟨_, rfl, k1, k2, k3⟩
    · left
      obtain ⟨ρ, a1, a2, a3, a4⟩ := X1_gather45 k2 hN hd (t := i) (by omega) k3
      rw [if_neg hend, a1]
      exact ⟨_, rfl, ⟨i + 1, by show (i : Int) + 1 = _; omega, by omega, k1.trans a2, a3, by rw [pre_t]; exact a4⟩, by show (50 - ((i : Int) + 1)).toNat < (50 - (i : Int)).toNat; omega⟩)
  rw [e1]
  refine ⟨e, ?_, e2, e3, e4⟩
  rw [bsm]
  unfold f_X1_gather_88
  simp only [Option.bind_some]
  rw [jadd_ok (by omega) (by omega)]
theorem X1_gather27 {σ : Mem} {B : Bk} (h : ST σ B) {N : Nat} (hN : B 8 1 = N) (hl : isDu σ []) : ∃ τ, f_X1_gather_27 σ 0 = f_X1_gather_94 τ ∧ GF σ τ ∧ ST τ B ∧ isDu τ (dD (KK B) N 5) := by
  unfold f_X1_gather_27
  obtain ⟨e, e1, e2, e3, e4⟩ := loop_ex (f := f_X1_gather_27B) (fun s => ∃ i : Nat, s.1 = (i : Int) ∧ i ≤ 5 ∧ GF σ s.2 ∧ ST s.2 B ∧ isDu s.2 (pre (KK B) N i 0 0)) (fun s => (50 - s.1).toNat) (fun e => GF σ e ∧ ST e B ∧ isDu e (pre (KK B) N 5 0 0)) (a := (0, σ)) ⟨0, rfl, Nat.zero_le _, GF.rfl, h, hl⟩ (Nat.le_of_ble_eq_true rfl) (by
    rintro ⟨_, τ⟩ ⟨i, rfl, hi, k1, k2, k3⟩
    have k1 : GF σ τ := k1
    have k2 : ST τ B := k2
    have k3 : isDu τ (pre (KK B) N i 0 0) := k3
    show (∃ a', f_X1_gather_27C (i : Int) τ = _ ∧ _) ∨ ∃ a', f_X1_gather_27C (i : Int) τ = _ ∧ _
    unfold f_X1_gather_27C
    by_cases hend : (5 : Int) ≤ i
    · right
      rw [if_pos hend]
      have : i = 5 := by omega
      subst this
      exact ⟨_, rfl, k1, k2, k3⟩
    · left
      obtain ⟨ρ, a1, a2, a3, a4⟩ := X1_gather35 k2 hN (d := i) (by omega) k3
      rw [if_neg hend, a1]
      exact ⟨_, rfl, ⟨i + 1, by show (i : Int) + 1 = _; omega, by omega, k1.trans a2, a3, by rw [pre_d]; exact a4⟩, by show (50 - ((i : Int) + 1)).toNat < (50 - (i : Int)).toNat; omega⟩)
  rw [e1]
  refine ⟨e, by rw [bsm], e2, e3, ?_⟩
  have : pre (KK B) N 5 0 0 = dD (KK B) N 5 := by
    unfold pre
    show dD (KK B) N 5 ++ [] ++ [] = _
    rw [List.append_nil, List.append_nil]
  rw [← this]
  exact e4
