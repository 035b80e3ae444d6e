/-! WHEN ONE IS KEPT, and how often that begins -/
theorem fstN_f {p : Nat → Bool} : ∀ {n : Nat}, fstN p n = none → ∀ k, k < n → p k = false
  | 0, _, k, hk => absurd hk (Nat.not_lt_zero _)
  | n + 1, h, k, hk => by
    rw [fstN_s] at h
    cases h1 : fstN p n with
    | some j => rw [h1] at h; cases h
    | none =>
      rw [h1] at h
      cases h2 : p n with
      | true => rw [h2] at h; cases h
      | false =>
        by_cases e : k = n
        · rw [e]; exact h2
        · exact fstN_f h1 k (by omega)
theorem fstN_t {p : Nat → Bool} : ∀ {n k : Nat}, fstN p n = some k → k < n ∧ p k = true
  | 0, k, h => by cases h
  | n + 1, k, h => by
    rw [fstN_s] at h
    cases h1 : fstN p n with
    | some j =>
      rw [h1] at h
      cases h
      have := fstN_t h1
      exact ⟨by omega, this.2⟩
    | none =>
      rw [h1] at h
      cases h2 : p n with
      | true =>
        rw [h2] at h
        cases h
        exact ⟨by omega, h2⟩
      | false => rw [h2] at h; cases h
def kp (B : Bk) (c : Int) (d t : Nat) : Bool := decide (DD B c d t = 20)
theorem kp_none {B : Bk} (w : WF B) {c : Int} (hc : 0 ≤ c) (hc2 : c < B 8 1) {d : Nat} (hx : dpl B c d (ovr B c d) = none) (t : Nat) : kp B c d t = false := by
  have ho := ovr_b w hc hc2 d
  have hn := w.1
  unfold WFn at hn
  unfold kp DD dd
  rw [hx]
  refine decide_eq_false ?_
  show ¬ (if t < ahd B c (ovr B c d) then ovr B c d else (-1 : Int)) = 20
  split <;> omega
theorem kp_some {B : Bk} (w : WF B) {c : Int} (hc : 0 ≤ c) (hc2 : c < B 8 1) {d : Nat} {v o' : Int} {m : Nat} {l : List Nat} (hx : dpl B c d (ovr B c d) = some (v, (o', m, l))) (t : Nat) : kp B c d t = kpB (woB B o') (ahd B c (ovr B c d)) B c (fre B c (ovr B c d)) (lq m l) (nof m) t := by
  have ho := ovr_b w hc hc2 d
  have hn := w.1
  unfold WFn at hn
  obtain ⟨hm, -, -, hl, -, -, -⟩ := dpl_some w hc hc2 hx
  unfold kp DD dd
  rw [hx]
  unfold kpB saB
  by_cases ha : t < ahd B c (ovr B c d)
  · rw [if_pos ha, decide_eq_true ha, decide_eq_false (by omega)]
    simp
  · rw [if_neg ha, decide_eq_false ha, Bool.false_or]
    show decide ((match fstN (sitN B c (fre B c (ovr B c d)) (lq m l) t) (nof m) with
      | some k => (lq m l k : Int)
      | none => if wtB (woB B o') B c (fre B c (ovr B c d)) (lq m l) (nof m) t then 20 else -1) = 20) = _
    cases hf : fstN (sitN B c (fre B c (ovr B c d)) (lq m l) t) (nof m) with
    | some k =>
      obtain ⟨k1, k2⟩ := fstN_t hf
      have h12 := (lq_in hm.2.1 hl k1).1
      have hs : siB B c (fre B c (ovr B c d)) (lq m l) (nof m) t = true := anyN_t k1 k2
      rw [hs]
      show decide ((lq m l k : Int) = 20) = _
      rw [decide_eq_false (by omega)]
      simp
    | none =>
      have hs : siB B c (fre B c (ovr B c d)) (lq m l) (nof m) t = false := siB_none (fstN_f hf)
      rw [hs]
      show decide ((if wtB (woB B o') B c (fre B c (ovr B c d)) (lq m l) (nof m) t then (20 : Int) else -1) = 20) = _
      cases wtB (woB B o') B c (fre B c (ovr B c d)) (lq m l) (nof m) t <;> rfl
theorem mset_none {f : Nat → Bool} : ∀ {n : Nat}, (∀ i, i < n → f i = false) → mset f n = 0
  | 0, _ => rfl
  | n + 1, h => by
    show (if f n then _ else _) = 0
    rw [h n (by omega), if_neg (by decide)]
    exact mset_none fun i hi => h i (by omega)
/-- the class' bits of a day are these slots -/
theorem wk_kept {σ : Mem} {k : Int} {B : Bk} (w : WF B) {c : Int} (hc : 0 ≤ c) (hc2 : c < B 8 1) (h : isWk σ k B c) {d : Nat} (hd : d < 5) : σ (k + 6) d = ((mset (kp B c d) 48 : Nat) : Int) := by
  have hw := h d hd
  cases hx : dpl B c d (ovr B c d) with
  | none =>
    rw [hx] at hw
    rw [(hw.2.2.1 rfl).2.2.2, mset_none fun i _ => kp_none w hc hc2 hx i]
    rfl
  | some y =>
    obtain ⟨v, o', m, l⟩ := y
    rw [hx] at hw
    rw [(hw.2.2.2 v o' m l rfl).2.2.2.1, mset_congr fun i _ => (kp_some w hc hc2 hx i).symm]
/-- where runs begin, where they end -/
def stB (p : Nat → Bool) (t : Nat) : Bool := p t && !(decide (0 < t) && p (t - 1))
theorem st_en (p : Nat → Bool) : ∀ n, cnt (stB p) (n + 1) = cnt (fun t => p t && !p (t + 1)) n + if p n then 1 else 0
  | 0 => by
    rw [cnt_s]
    unfold stB
    cases p 0 <;> rfl
  | n + 1 => by
    rw [cnt_s, st_en p n, cnt_s]
    have e : stB p (n + 1) = (p (n + 1) && !p n) := by
      unfold stB
      rw [decide_eq_true (Nat.succ_pos n)]
      rfl
    rw [e]
    cases p n <;> cases p (n + 1) <;> simp
theorem cnt_drop (f : Nat → Bool) (z : Int) : ∀ n : Nat, cnt f n ≤ cnt (fun t => f t && !decide ((t : Int) + 1 = z)) n + if z ≤ (n : Int) then 1 else 0
  | 0 => by simp [cnt]
  | n + 1 => by
    have ih := cnt_drop f z n
    rw [cnt_s, cnt_s]
    by_cases e : (n : Int) + 1 = z
    · rw [if_neg (show ¬ z ≤ (n : Int) by omega)] at ih
      rw [if_pos (show z ≤ ((n + 1 : Nat) : Int) by omega), decide_eq_true e]
      simp only [Bool.not_true, Bool.and_false, Bool.false_eq_true, if_false]
      split <;> omega
    · rw [decide_eq_false e]
      simp only [Bool.not_false, Bool.and_true]
      by_cases q : z ≤ (n : Int)
      · rw [if_pos q] at ih
        rw [if_pos (show z ≤ ((n + 1 : Nat) : Int) by omega)]
        split <;> omega
      · rw [if_neg q] at ih
        split <;> split <;> omega
theorem pigeon {g : Nat → Int} {N : Nat} : ∀ {n : Nat} {f : Nat → Bool}, (∀ t, t < N → f t = true → ∃ j, j < n ∧ (t : Int) + 1 = g j) → cnt f N ≤ n
  | 0, f, h => by
    rw [cnt_none fun t ht => ?_]
    · exact Nat.le_refl _
    · cases hf : f t with
      | false => rfl
      | true =>
        obtain ⟨j, hj, -⟩ := h t ht hf
        exact absurd hj (Nat.not_lt_zero _)
  | n + 1, f, h => by
    have h1 := cnt_drop f (g n) N
    have h2 := pigeon (g := g) (N := N) (n := n) (f := fun t => f t && !decide ((t : Int) + 1 = g n)) fun t ht hf => by
      simp only [Bool.and_eq_true, Bool.not_eq_true', decide_eq_false_iff_not] at hf
      obtain ⟨j, hj, e⟩ := h t ht hf.1
      by_cases q : j = n
      · subst q
        exact absurd e hf.2
      · exact ⟨j, by omega, e⟩
    have h3 : (if g n ≤ (N : Int) then 1 else 0) ≤ 1 := by split <;> omega
    omega
theorem anyN_ex {p : Nat → Bool} : ∀ {n : Nat}, anyN p n = true → ∃ j, j < n ∧ p j = true
  | 0, h => by cases h
  | n + 1, h => by
    rw [anyN_s] at h
    cases h1 : anyN p n with
    | true =>
      obtain ⟨j, j1, j2⟩ := anyN_ex h1
      exact ⟨j, by omega, j2⟩
    | false =>
      rw [h1, Bool.false_or] at h
      exact ⟨n, by omega, h⟩
theorem nof_clr {m p : Nat} (hp : p < 12) (h : m.testBit p = true) : nof (clr m p) + 1 = nof m := by
  unfold nof
  have := cnt_ins (f := fun i => (clr m p).testBit i) (g := fun i => m.testBit i) (p := p) (by rw [clr_tb]; simp) (fun i => by
    rw [clr_tb]
    by_cases e : i = p
    · subst e; simp [h]
    · simp [e]) 12
  rw [if_pos hp] at this
  exact this.symm
/-- no more than four of them a day -/
theorem st_4 {B : Bk} (w : WF B) {c : Int} (hc : 0 ≤ c) (hc2 : c < B 8 1) {d : Nat} (hd : d < 5) : cnt (stB (kp B c d)) 48 ≤ 4 := by
  cases hx : dpl B c d (ovr B c d) with
  | none =>
    rw [cnt_none fun t _ => by unfold stB; rw [kp_none w hc hc2 hx]; rfl]
    omega
  | some y =>
    obtain ⟨v, o', m, l⟩ := y
    obtain ⟨hm, ho1, ho2, hl, hlw, -, hor⟩ := dpl_some w hc hc2 hx
    have hm4 := hm.2.1
    have hfr := fre_b w hc hc2 (ovr_b w hc hc2 d).2
    have hq : ∀ k, k < nof m → (lq m l k : Int) < B 8 0 := fun k hk => hm.2.2 _ (lq_in hm4 hl hk).2
    have hfit : fitN B c (fre B c (ovr B c d)) (lq m l) (nof m) = true := by
      unfold lwS at hlw
      simp only [Bool.and_eq_true] at hlw
      exact hlw.2
    have hb := fun k (hk : k < nof m) => bg_b w hc hc2 hfr hq hk
    have hK := kp_some w hc hc2 hx
    obtain ⟨K, hKd⟩ : ∃ K, K = kp B c d := ⟨_, rfl⟩
    rw [← hKd] at hK ⊢
    have hs := st_en K 47
    have hend : cnt (fun t => K t && !K (t + 1)) 47 ≤ nof m := pigeon (g := bg B c (fre B c (ovr B c d)) (lq m l)) fun t ht hf => by
      simp only [Bool.and_eq_true, Bool.not_eq_true'] at hf
      obtain ⟨h1, h2⟩ := hf
      rw [hK] at h1 h2
      unfold kpB at h1 h2
      simp only [Bool.and_eq_true, Bool.not_eq_true'] at h1
      obtain ⟨h3, h4⟩ := h1
      unfold saB at h4
      simp only [Bool.or_eq_false_iff, decide_eq_false_iff_not] at h4
      cases h5 : saB (ahd B c (ovr B c d)) B c (fre B c (ovr B c d)) (lq m l) (nof m) (t + 1) with
      | true =>
        unfold saB at h5
        simp only [Bool.or_eq_true, decide_eq_true_eq] at h5
        rcases h5 with h5 | h5
        · have := h4.1
          omega
        · obtain ⟨j, j1, j2⟩ := anyN_ex h5
          simp only [Bool.and_eq_true, decide_eq_true_eq] at j2
          have j3 := anyN_f h4.2 j j1
          simp only [Bool.and_eq_false_iff, decide_eq_false_iff_not] at j3
          exact ⟨j, j1, by omega⟩
      | false =>
        rw [h5] at h2
        simp only [Bool.not_false, Bool.and_true] at h2
        unfold wtB at h2 h3
        simp only [Bool.or_eq_true] at h3
        simp only [Bool.or_eq_false_iff] at h2
        rcases h3 with h3 | h3
        · exfalso
          have := h2.1
          unfold woB at this h3
          simp only [Bool.and_eq_true, decide_eq_true_eq] at h3
          simp only [Bool.and_eq_false_iff, decide_eq_false_iff_not] at this
          omega
        · obtain ⟨j, j1, j2⟩ := anyN_ex h3
          simp only [Bool.and_eq_true, decide_eq_true_eq] at j2
          have j3 := anyN_f h2.2 j j1
          simp only [Bool.and_eq_false_iff, decide_eq_false_iff_not] at j3
          exact ⟨j, j1, by omega⟩
    rw [hs]
    cases h47 : K 47 with
    | false =>
      rw [if_neg (by decide)]
      omega
    | true =>
      rw [if_pos rfl]
      rw [hK] at h47
      unfold kpB wtB at h47
      simp only [Bool.and_eq_true, Bool.or_eq_true] at h47
      rcases h47.1 with h | h
      · unfold woB at h
        simp only [Bool.and_eq_true, decide_eq_true_eq] at h
        rcases hor with ⟨e, -⟩ | ⟨p, e, hp, em⟩
        · omega
        · have h12 : p < 12 := by
            rw [od_tb] at hp
            simp only [Bool.and_eq_true, decide_eq_true_eq] at hp
            exact hp.1
          have := nof_clr h12 hp
          have h4 := (okm_od w hc hc2 (d : Int)).2.1
          rw [em] at hend
          omega
      · obtain ⟨j, j1, j2⟩ := anyN_ex h
        simp only [Bool.and_eq_true, decide_eq_true_eq] at j2
        have h1 := hb j j1
        have h2 := fitN_at j1 hfit
        omega
