/-! PIECES: sittings and duties of a day, the class' side -/
theorem rl_to {p : Nat → Bool} : ∀ (k t : Nat), t + k ≤ 48 → (∀ u, t ≤ u → u < t + k → p u = true) → (t + k < 48 → p (t + k) = false) → rl p (48 - t) t = k
  | 0, t, h, _, h2 => by
    by_cases e : t < 48
    · rw [rl_s e, show p t = false from h2 e, bf]
    · rw [show 48 - t = 0 by omega]; rfl
  | k + 1, t, h, h1, h2 => by
    rw [rl_s (show t < 48 by omega), h1 t (Nat.le_refl _) (by omega), bt, rl_to k (t + 1) (by omega) (fun u u1 u2 => h1 u (by omega) (by omega)) (fun z => by rw [show t + 1 + k = t + (k + 1) by omega]; exact h2 (by omega))]
theorem rl_congr {p q : Nat → Bool} : ∀ (f t : Nat), (∀ u, t ≤ u → u < t + f → p u = q u) → rl p f t = rl q f t
  | 0, _, _ => rfl
  | f + 1, t, h => by
    show (if p t then rl p f (t + 1) + 1 else 0) = (if q t then rl q f (t + 1) + 1 else 0)
    rw [h t (Nat.le_refl _) (by omega), rl_congr f (t + 1) fun u u1 u2 => h u (by omega) (by omega)]
theorem bg_sep {B : Bk} (w : WF B) {c f : Int} (hc : 0 ≤ c) (hc2 : c < B 8 1) (hf : 0 ≤ f ∧ f ≤ 60) {q : Nat → Nat} {n : Nat} (hq : ∀ k, k < n → (q k : Int) < B 8 0) {i : Nat} : ∀ j, i < j → j < n → en B c f q i + 1 ≤ bg B c f q j
  | 0, h, _ => absurd h (Nat.not_lt_zero _)
  | j + 1, h, hj => by
    have hr := rs_b w hc hc2
    have h1 := (bg_b w hc hc2 hf hq hj).2.2.2.2.2
    rw [nx_s] at h1
    by_cases e : i = j
    · rw [e]; omega
    · have h2 := bg_sep w hc hc2 hf hq j (show i < j by omega) (by omega)
      have h3 := (bg_b w hc hc2 hf hq (show j < n by omega)).2.2.2.1
      omega
theorem bg_f {B : Bk} (w : WF B) {c f : Int} (hc : 0 ≤ c) (hc2 : c < B 8 1) (hf : 0 ≤ f ∧ f ≤ 60) {q : Nat → Nat} {n : Nat} (hq : ∀ k, k < n → (q k : Int) < B 8 0) {j : Nat} (hj : j < n) : f ≤ bg B c f q j := by
  by_cases e : j = 0
  · have := (bg_b w hc hc2 hf hq hj).2.2.2.2.2
    rw [e] at this ⊢
    exact this
  · have h1 := bg_sep w hc hc2 hf hq (i := 0) j (by omega) hj
    have h2 := bg_b w hc hc2 hf hq (show 0 < n by omega)
    have h3 : f ≤ bg B c f q 0 := h2.2.2.2.2.2
    omega
theorem ahd_fre {B : Bk} (w : WF B) {c : Int} (hc : 0 ≤ c) (hc2 : c < B 8 1) {o : Int} (ho : o < B 8 0) : (ahd B c o : Int) ≤ fre B c o := by
  unfold ahd fre
  by_cases e : o < 0
  · rw [if_pos e, if_pos e]; exact Int.le_refl _
  · rw [if_neg e, if_neg e]
    have h1 := tm_b w hc hc2 (show 0 ≤ o by omega) ho
    have h2 := rs_b w hc hc2
    omega
/-- what one does, slot by slot -/
theorem DD_some {B : Bk} (w : WF B) {c : Int} (hc : 0 ≤ c) (hc2 : c < B 8 1) {d : Nat} {v o' : Int} {m : Nat} {l : List Nat} (hx : dpl B c d (ovr B c d) = some (v, (o', m, l))) (t : Nat) : (t < ahd B c (ovr B c d) → DD B c d t = ovr B c d) ∧ (∀ j, j < nof m → bg B c (fre B c (ovr B c d)) (lq m l) j ≤ t → (t : Int) < en B c (fre B c (ovr B c d)) (lq m l) j → DD B c d t = (lq m l j : Int)) ∧ (¬ t < ahd B c (ovr B c d) → (∀ j, j < nof m → ¬ (bg B c (fre B c (ovr B c d)) (lq m l) j ≤ t ∧ (t : Int) < en B c (fre B c (ovr B c d)) (lq m l) j)) → DD B c d t = 20 ∨ DD B c d t = -1) := by
  obtain ⟨hm, -, -, hl, -, -, -⟩ := dpl_some w hc hc2 hx
  have ho := (ovr_b w hc hc2 d).2
  have hfr := fre_b w hc hc2 ho
  have haf := ahd_fre w hc hc2 ho
  have hq : ∀ k, k < nof m → (lq m l k : Int) < B 8 0 := fun k hk => hm.2.2 _ (lq_in hm.2.1 hl hk).2
  obtain ⟨a, ha⟩ : ∃ a, a = ahd B c (ovr B c d) := ⟨_, rfl⟩
  obtain ⟨f, hfd⟩ : ∃ f, f = fre B c (ovr B c d) := ⟨_, rfl⟩
  have e : DD B c d t = if t < a then ovr B c d else (match fstN (sitN B c f (lq m l) t) (nof m) with
      | some k => (lq m l k : Int)
      | none => if wtB (woB B o') B c f (lq m l) (nof m) t then 20 else -1) := by
    unfold DD dd
    rw [hx, ← ha, ← hfd]
    rfl
  rw [← ha, ← hfd]
  rw [← ha, ← hfd] at haf
  rw [← hfd] at hfr
  refine ⟨fun h => by rw [e, if_pos h], fun j hj h1 h2 => ?_, fun h1 h2 => ?_⟩
  · have h3 := bg_f w hc hc2 hfr hq hj
    have hfs : fstN (sitN B c f (lq m l) t) (nof m) = some j := fstN_some hj (fun i hi => by
      have h4 := bg_sep w hc hc2 hfr hq (i := i) j hi hj
      unfold sitN
      rw [decide_eq_false (show ¬ (t : Int) < en B c f (lq m l) i by omega), Bool.and_false]) (by
      unfold sitN
      rw [decide_eq_true h1, decide_eq_true h2]
      rfl)
    rw [e, if_neg (by omega), hfs]
  · have hfs : fstN (sitN B c f (lq m l) t) (nof m) = none := fstN_none fun k hk => by
      unfold sitN
      have := h2 k hk
      by_cases g : bg B c f (lq m l) k ≤ t
      · rw [decide_eq_false (show ¬ (t : Int) < en B c f (lq m l) k from fun z => this ⟨g, z⟩), Bool.and_false]
      · rw [decide_eq_false g, Bool.false_and]
    rw [e, if_neg h1, hfs]
    show (if _ then (20 : Int) else -1) = 20 ∨ (if _ then (20 : Int) else -1) = -1
    cases wtB (woB B o') B c f (lq m l) (nof m) t
    · exact Or.inr rfl
    · exact Or.inl rfl
theorem DD_none {B : Bk} {c : Int} {d : Nat} (hx : dpl B c d (ovr B c d) = none) (t : Nat) : DD B c d t = if t < ahd B c (ovr B c d) then ovr B c d else -1 := by
  unfold DD dd
  rw [hx]
/-- where a piece begins, how long it is -/
def nwP (q : Nat → Int) (t : Nat) : Bool := decide (q t ≠ -1) && (decide (t = 0) || decide (q (t - 1) ≠ q t))
def rvn (q : Nat → Int) (t : Nat) : Nat := rl (fun u => decide (q u = q t)) (48 - t) t
def pcs (q : Nat → Int) : Nat → List (Nat × Nat)
  | 0 => []
  | t + 1 => if nwP q t then pcs q t ++ [(t, rvn q t)] else pcs q t
theorem len_pcs (q : Nat → Int) : ∀ t, (pcs q t).length = cnt (nwP q) t
  | 0 => rfl
  | t + 1 => by
    rw [cnt_s, ← len_pcs q t]
    show (if nwP q t then pcs q t ++ [(t, rvn q t)] else pcs q t).length = _
    cases nwP q t with
    | true => rw [bt, bt, List.length_append]; rfl
    | false => rw [bf, bf]
/-- what came over is no paper of the day -/
theorem ovr_day {B : Bk} (w : WF B) {c : Int} (hc : 0 ≤ c) (hc2 : c < B 8 1) {d : Nat} (h : 0 ≤ ovr B c d) : ∃ e : Nat, d = e + 1 ∧ B 0 (ovr B c d) = (e : Int) := by
  cases d with
  | zero => exact absurd h (by show ¬ (0 : Int) ≤ -1; decide)
  | succ e =>
    refine ⟨e, rfl, ?_⟩
    have h : 0 ≤ ov (dpl B c e (ovr B c e)) := h
    show B 0 (ov (dpl B c e (ovr B c e))) = _
    cases hx : dpl B c e (ovr B c e) with
    | none => rw [hx] at h; exact absurd h (by show ¬ (0 : Int) ≤ -1; decide)
    | some y =>
      obtain ⟨v, o', m, l⟩ := y
      rw [hx] at h
      have h : 0 ≤ o' := h
      show B 0 o' = _
      obtain ⟨-, -, -, -, -, -, hor⟩ := dpl_some w hc hc2 hx
      rcases hor with ⟨e1, -⟩ | ⟨p, e1, hp, -⟩
      · omega
      · rw [od_tb] at hp
        simp only [Bool.and_eq_true, decide_eq_true_eq] at hp
        rw [e1]
        exact hp.2.1.2
theorem sub_od {B : Bk} (w : WF B) {c : Int} (hc : 0 ≤ c) (hc2 : c < B 8 1) {d : Nat} {v o' : Int} {m : Nat} {l : List Nat} (hx : dpl B c d (ovr B c d) = some (v, (o', m, l))) {p : Nat} (hp : m.testBit p = true) : B 0 p = (d : Int) := by
  obtain ⟨-, -, -, -, -, -, hor⟩ := dpl_some w hc hc2 hx
  have : (od B c d).testBit p = true := by
    rcases hor with ⟨-, e⟩ | ⟨p', -, -, e⟩
    · rw [← e]; exact hp
    · rw [e, clr_tb] at hp
      simp only [Bool.and_eq_true] at hp
      exact hp.1
  rw [od_tb] at this
  simp only [Bool.and_eq_true, decide_eq_true_eq] at this
  exact this.2.1.2
/-- a day's slots, in general: what came over, sittings, kept or nothing -/
def dayQ (q : Nat → Int) (a n : Nat) (o : Int) (b e : Nat → Int) (p : Nat → Int) : Prop := a ≤ 48 ∧ (0 < a → 0 ≤ o ∧ o < 20) ∧ (∀ j, j < n → (a : Int) ≤ b j ∧ b j < e j ∧ e j ≤ 48 ∧ 0 ≤ p j ∧ p j < 20 ∧ (0 < a → p j ≠ o)) ∧ (∀ i j, i < j → j < n → e i ≤ b j ∧ p i ≠ p j) ∧ (∀ t : Nat, t < a → q t = o) ∧ (∀ t j : Nat, j < n → b j ≤ (t : Int) → (t : Int) < e j → q t = p j) ∧ ∀ t : Nat, ¬ t < a → (∀ j, j < n → ¬ (b j ≤ (t : Int) ∧ (t : Int) < e j)) → q t = 20 ∨ q t = -1
theorem dayQ_DD {B : Bk} (w : WF B) {c : Int} (hc : 0 ≤ c) (hc2 : c < B 8 1) {d : Nat} {v o' : Int} {m : Nat} {l : List Nat} (hx : dpl B c d (ovr B c d) = some (v, (o', m, l))) : dayQ (DD B c d) (ahd B c (ovr B c d)) (nof m) (ovr B c d) (bg B c (fre B c (ovr B c d)) (lq m l)) (en B c (fre B c (ovr B c d)) (lq m l)) (fun j => (lq m l j : Int)) := by
  have hn := w.1
  unfold WFn at hn
  obtain ⟨hm, -, -, hl, hlw, -, -⟩ := dpl_some w hc hc2 hx
  have ho := ovr_b w hc hc2 d
  have hfr := fre_b w hc hc2 ho.2
  have haf := ahd_fre w hc hc2 ho.2
  have hq : ∀ k, k < nof m → (lq m l k : Int) < B 8 0 := fun k hk => hm.2.2 _ (lq_in hm.2.1 hl hk).2
  have hfit : fitN B c (fre B c (ovr B c d)) (lq m l) (nof m) = true := by
    unfold lwS at hlw
    simp only [Bool.and_eq_true] at hlw
    exact hlw.2
  have ha0 : 0 < ahd B c (ovr B c d) → 0 ≤ ovr B c d := fun h => by
    unfold ahd at h
    by_cases e : ovr B c d < 0
    · rw [if_pos e] at h; omega
    · omega
  refine ⟨ahd_b w hc hc2 ho.2, fun h => ⟨ha0 h, by omega⟩, fun j hj => ?_, fun i j hij hj => ⟨?_, ?_⟩, fun t h => (DD_some w hc hc2 hx t).1 h, fun t j hj h1 h2 => (DD_some w hc hc2 hx t).2.1 j hj h1 h2, fun t h1 h2 => (DD_some w hc hc2 hx t).2.2 h1 h2⟩
  · have h1 := bg_f w hc hc2 hfr hq hj
    have h2 := bg_b w hc hc2 hfr hq hj
    have h3 := fitN_at hj hfit
    have h4 := lq_in hm.2.1 hl hj
    refine ⟨by omega, by omega, h3, by show 0 ≤ ((lq m l j : Nat) : Int); omega, by show ((lq m l j : Nat) : Int) < 20; omega, fun ha e => ?_⟩
    obtain ⟨e0, he1, he2⟩ := ovr_day w hc hc2 (ha0 ha)
    have h5 := sub_od w hc hc2 hx h4.2
    rw [show ((lq m l j : Nat) : Int) = ovr B c d from e, he2] at h5
    omega
  · have := bg_sep w hc hc2 hfr hq (i := i) j hij hj
    omega
  · intro e
    have := lq_inj hm.2.1 hl (j := i) (k := j) (by omega) hj (by
      have e : ((lq m l i : Nat) : Int) = ((lq m l j : Nat) : Int) := e
      omega)
    omega
section
variable {q : Nat → Int} {a n : Nat} {o : Int} {b e p : Nat → Int}
theorem dq_sit (h : dayQ q a n o b e p) {t j : Nat} (hj : j < n) (hb : b j ≤ (t : Int)) (ht : (t : Int) < e j) : q t = p j := h.2.2.2.2.2.1 t j hj hb ht
/-- a slot is new: what came over, a sitting's first, or a duty's first -/
theorem dq_new (h : dayQ q a n o b e p) {t : Nat} (ht : nwP q t = true) : (t = 0 ∧ 0 < a) ∨ (∃ j, j < n ∧ b j = (t : Int)) ∨ (q t = 20 ∧ stB (fun u => decide (q u = 20)) t = true) := by
  unfold nwP at ht
  simp only [Bool.and_eq_true, Bool.or_eq_true, decide_eq_true_eq] at ht
  obtain ⟨h1, h2⟩ := ht
  by_cases ha : t < a
  · left
    rcases h2 with h2 | h2
    · exact ⟨h2, by omega⟩
    · exfalso
      by_cases e0 : t = 0
      · subst e0; exact h2 rfl
      · rw [h.2.2.2.2.1 t ha, h.2.2.2.2.1 (t - 1) (by omega)] at h2
        exact h2 rfl
  · right
    by_cases hs : ∃ j, j < n ∧ b j ≤ (t : Int) ∧ (t : Int) < e j
    · left
      obtain ⟨j, j1, j2, j3⟩ := hs
      refine ⟨j, j1, ?_⟩
      have hj := h.2.2.1 j j1
      have hq := dq_sit h j1 j2 j3
      rcases h2 with h2 | h2
      · omega
      · by_cases g : b j = (t : Int)
        · exact g
        · exfalso
          by_cases e0 : t = 0
          · subst e0; exact h2 rfl
          · have := dq_sit h (t := t - 1) j1 (by omega) (by omega)
            rw [hq, this] at h2
            exact h2 rfl
    · right
      have h20 : q t = 20 := by
        rcases h.2.2.2.2.2.2 t ha (fun j hj g => hs ⟨j, hj, g.1, g.2⟩) with g | g
        · exact g
        · exact absurd g h1
      refine ⟨h20, ?_⟩
      show (decide (q t = 20) && !(decide (0 < t) && decide (q (t - 1) = 20))) = true
      rw [decide_eq_true h20, Bool.true_and]
      rcases h2 with h2 | h2
      · subst h2; rfl
      · by_cases e0 : 0 < t
        · rw [decide_eq_false (show ¬ q (t - 1) = 20 by rw [h20] at h2; exact h2)]
          simp
        · rw [decide_eq_false e0]; rfl
/-- no more than nine -/
theorem dq_9 (h : dayQ q a n o b e p) (h4 : n ≤ 4) (hk : cnt (stB (fun u => decide (q u = 20))) 48 ≤ 4) : cnt (nwP q) 48 ≤ 9 := by
  have h1 : cnt (fun t => nwP q t && !stB (fun u => decide (q u = 20)) t) 48 ≤ n + 1 := pigeon (g := fun j => if j = n then 1 else b j + 1) fun t ht hf => by
    simp only [Bool.and_eq_true, Bool.not_eq_true'] at hf
    rcases dq_new h hf.1 with ⟨g, -⟩ | ⟨j, j1, j2⟩ | ⟨-, g⟩
    · exact ⟨n, by omega, by show _ = (if n = n then 1 else _); rw [if_pos rfl, g]; rfl⟩
    · exact ⟨j, by omega, by show _ = (if j = n then 1 else b j + 1); rw [if_neg (by omega), j2]⟩
    · rw [hf.2] at g; cases g
  have h2 : ∀ N, cnt (nwP q) N ≤ cnt (fun t => nwP q t && !stB (fun u => decide (q u = 20)) t) N + cnt (stB (fun u => decide (q u = 20))) N := by
    intro N
    induction N with
    | zero => exact Nat.le_refl _
    | succ N ih =>
      rw [cnt_s, cnt_s, cnt_s]
      cases nwP q N <;> cases stB (fun u => decide (q u = 20)) N <;> simp <;> omega
  have := h2 48
  omega
theorem dq_rv_o (h : dayQ q a n o b e p) (ha : 0 < a) : nwP q 0 = true ∧ rvn q 0 = a := by
  have h0 := h.2.2.2.2.1 0 ha
  have ho := h.2.1 ha
  refine ⟨by unfold nwP; rw [h0, decide_eq_true (show o ≠ -1 by omega)]; rfl, ?_⟩
  unfold rvn
  refine rl_to a 0 (by have := h.1; omega) (fun u _ hu => ?_) fun hlt => ?_
  · show decide (q u = q 0) = true
    rw [h.2.2.2.2.1 u (by omega), h0]
    exact decide_eq_true rfl
  · rw [Nat.zero_add] at hlt ⊢
    show decide (q a = q 0) = false
    refine decide_eq_false fun g => ?_
    rw [h0] at g
    by_cases hs : ∃ j, j < n ∧ b j ≤ (a : Int) ∧ (a : Int) < e j
    · obtain ⟨j, j1, j2, j3⟩ := hs
      have := (h.2.2.1 j j1).2.2.2.2.2 ha
      rw [dq_sit h j1 j2 j3] at g
      exact this g
    · rcases h.2.2.2.2.2.2 a (by omega) (fun j hj g => hs ⟨j, hj, g.1, g.2⟩) with g2 | g2 <;> omega
theorem dq_rv_s (h : dayQ q a n o b e p) {j t : Nat} (hj : j < n) (ht : b j = (t : Int)) : nwP q t = true ∧ ((t + rvn q t : Nat) : Int) = e j ∧ ¬ t < a := by
  have hb := h.2.2.1 j hj
  have hta : ¬ t < a := by omega
  have hq := dq_sit h hj (Int.le_of_eq ht) (by omega)
  have hne : ∀ u : Nat, (¬ (b j ≤ (u : Int) ∧ (u : Int) < e j)) → q u ≠ p j := fun u hu g => by
    by_cases hua : u < a
    · rw [h.2.2.2.2.1 u hua] at g
      exact hb.2.2.2.2.2 (by omega) g.symm
    · by_cases hs : ∃ i, i < n ∧ b i ≤ (u : Int) ∧ (u : Int) < e i
      · obtain ⟨i, i1, i2, i3⟩ := hs
        rw [dq_sit h i1 i2 i3] at g
        rcases Nat.lt_trichotomy i j with z | z | z
        · exact (h.2.2.2.1 i j z hj).2 g
        · subst z; exact hu ⟨i2, i3⟩
        · exact (h.2.2.2.1 j i z i1).2 g.symm
      · rcases h.2.2.2.2.2.2 u hua (fun i hi g => hs ⟨i, hi, g.1, g.2⟩) with g2 | g2 <;> omega
  refine ⟨?_, ?_, hta⟩
  · unfold nwP
    rw [hq, decide_eq_true (show p j ≠ -1 by omega), Bool.true_and]
    by_cases e0 : t = 0
    · rw [decide_eq_true e0]; rfl
    · rw [decide_eq_true (show q (t - 1) ≠ p j from hne (t - 1) (by omega))]
      simp
  · obtain ⟨k, hk⟩ : ∃ k : Nat, e j = ((t + k : Nat) : Int) := ⟨(e j - t).toNat, by omega⟩
    have : rvn q t = k := by
      unfold rvn
      refine rl_to k t (by omega) (fun u u1 u2 => ?_) fun hlt => ?_
      · show decide (q u = q t) = true
        rw [hq, dq_sit h hj (show b j ≤ (u : Int) by omega) (by omega)]
        exact decide_eq_true rfl
      · show decide (q (t + k) = q t) = false
        rw [hq]
        exact decide_eq_false (hne (t + k) (by omega))
    rw [this, hk]
theorem dq_rv_k (h : dayQ q a n o b e p) {t : Nat} (ht : t < 48) (h0 : ¬ (t = 0 ∧ 0 < a)) (hs : ∀ j, j < n → b j ≠ (t : Int)) : nwP q t = stB (fun u => decide (q u = 20)) t ∧ (stB (fun u => decide (q u = 20)) t = true → rvn q t = rl (fun u => decide (q u = 20)) (48 - t) t) := by
  refine ⟨?_, fun hst => ?_⟩
  · cases hn : nwP q t with
    | true =>
      rcases dq_new h hn with g | ⟨j, j1, j2⟩ | ⟨-, g⟩
      · exact absurd g h0
      · exact absurd j2 (hs j j1)
      · exact g.symm
    | false =>
      cases hst : stB (fun u => decide (q u = 20)) t with
      | false => rfl
      | true =>
        exfalso
        unfold stB at hst
        simp only [Bool.and_eq_true, Bool.not_eq_true', Bool.and_eq_false_iff, decide_eq_true_eq, decide_eq_false_iff_not] at hst
        unfold nwP at hn
        rw [hst.1, decide_eq_true (show (20 : Int) ≠ -1 by decide), Bool.true_and] at hn
        simp only [Bool.or_eq_false_iff, decide_eq_false_iff_not] at hn
        rcases hst.2 with g | g
        · exact hn.1 (by omega)
        · exact hn.2 g
  · have : q t = 20 := by
      unfold stB at hst
      simp only [Bool.and_eq_true, decide_eq_true_eq] at hst
      exact hst.1
    unfold rvn
    rw [this]
end
