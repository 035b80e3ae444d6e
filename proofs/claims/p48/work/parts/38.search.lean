/-! THE BEST ORDER: all orders of the papers of a mask, one behind the other -/
section
variable {α : Type}
/-- one more, if it is lawful and better than what there is -/
def stp (lw : α → Bool) (ms : α → Int) (l : α) (a : Option (Int × α)) : Option (Int × α) := if lw l then (match a with
  | none => some (ms l, l)
  | some x => if ms l < x.1 then some (ms l, l) else some x) else a
def bst (lw : α → Bool) (ms : α → Int) : List α → Option (Int × α) → Option (Int × α)
  | [], a => a
  | l :: ls, a => bst lw ms ls (stp lw ms l a)
def nlw (lw : α → Bool) : List α → Nat
  | [] => 0
  | l :: ls => (if lw l then 1 else 0) + nlw lw ls
theorem bst_app (lw : α → Bool) (ms : α → Int) (x : α) : ∀ (l : List α) (a : Option (Int × α)), bst lw ms (l ++ [x]) a = stp lw ms x (bst lw ms l a)
  | [], _ => rfl
  | y :: l, a => bst_app lw ms x l (stp lw ms y a)
theorem nlw_app (lw : α → Bool) (x : α) : ∀ l : List α, nlw lw (l ++ [x]) = nlw lw l + if lw x then 1 else 0
  | [] => by simp [nlw]
  | y :: l => by
    have := nlw_app lw x l
    show (if lw y then 1 else 0) + nlw lw (l ++ [x]) = (if lw y then 1 else 0) + nlw lw l + _
    omega
theorem take_s {l : List α} {i : Nat} (d : α) (h : i < l.length) : l.take (i + 1) = l.take i ++ [l.getD i d] := by
  rw [List.take_succ_eq_append_getElem h, List.getD_eq_getElem?_getD, List.getElem?_eq_getElem h]
  rfl
theorem bst_in {lw : α → Bool} {ms : α → Int} : ∀ {l : List α} {a : Option (Int × α)} {v : Int} {x : α}, bst lw ms l a = some (v, x) → a = some (v, x) ∨ (x ∈ l ∧ lw x = true ∧ v = ms x)
  | [], a, v, x, h => Or.inl h
  | y :: l, a, v, x, h => by
    rcases bst_in (l := l) (a := stp lw ms y a) h with q | ⟨q1, q2, q3⟩
    · unfold stp at q
      split at q
      · rename_i hl
        split at q
        · cases q; exact Or.inr ⟨List.mem_cons_self, hl, rfl⟩
        · split at q
          · cases q; exact Or.inr ⟨List.mem_cons_self, hl, rfl⟩
          · exact Or.inl q
      · exact Or.inl q
    · exact Or.inr ⟨List.mem_cons_of_mem _ q1, q2, q3⟩
end
def lq (m : Nat) (l : List Nat) : Nat → Nat := fun k => nth m (l.getD k 0)
theorem PT_ok : ∀ n, n ≤ 4 → (PT n).length ≤ 24 ∧ 0 < (PT n).length ∧ ∀ l ∈ PT n, l.length = n ∧ ∀ k, k < n → l.getD k 0 < n := by decide +kernel
theorem PT_0 : ∀ n, n ≤ 4 → ∀ k, k < n → ((PT n).getD 0 []).getD k 0 = k := by decide +kernel
/-- the measures -/
def jn (by_ acc late e : Int) : Int := if by_ = 1 then e else if by_ = 2 then acc + late else if by_ = 3 then acc + (if 0 < late then 1 else 0) else if late < acc then acc else late
def mj (B : Bk) (c f by_ : Int) (q : Nat → Nat) : Nat → Int
  | 0 => 0
  | k + 1 => jn by_ (mj B c f by_ q k) (bg B c f q k - B 1 (q k)) (en B c f q k)
def msC (B : Bk) (c f by_ : Int) (wo : Nat → Bool) (a n : Nat) (q : Nat → Nat) : Int := if by_ = 0 then (cnt (kpB wo a B c f q n) 48 : Int) else mj B c f by_ q n
theorem X3_join {σ : Mem} {by_ acc late e : Int} (h : 1 ≤ by_ ∧ by_ ≤ 4) (h1 : 0 ≤ acc ∧ acc ≤ 1000000) (h2 : 0 ≤ late ∧ late ≤ 1000000) : f_X3_join σ by_ acc late e = some (jn by_ acc late e) := by
  unfold f_X3_join jn
  by_cases e1 : by_ = 1
  · rw [if_pos e1, if_pos e1]
  rw [if_neg e1, if_neg e1]
  by_cases e2 : by_ = 2
  · rw [if_pos e2, if_pos e2, jadd_ok (by omega) (by omega)]
  rw [if_neg e2, if_neg e2]
  by_cases e3 : by_ = 3
  · rw [if_pos e3, if_pos e3]
    by_cases e4 : late ≤ 0
    · rw [if_pos e4, if_neg (by omega)]
      unfold f_X3_join_44
      rw [jadd_ok (by omega) (by omega)]
    · rw [if_neg e4, if_pos (by omega)]
      unfold f_X3_join_44
      rw [jadd_ok (by omega) (by omega)]
  rw [if_neg e3, if_neg e3]
  by_cases e4 : acc ≤ late
  · rw [if_pos e4, if_neg (by omega)]
  · rw [if_neg e4, if_pos (by omega)]
theorem jn_b {by_ acc late e : Int} (h1 : 0 ≤ acc ∧ acc ≤ 100000) (h2 : 0 ≤ late ∧ late ≤ 200) (h3 : 0 ≤ e ∧ e ≤ 300) : 0 ≤ jn by_ acc late e ∧ jn by_ acc late e ≤ acc + 300 := by
  unfold jn
  split
  · omega
  · split
    · omega
    · split
      · split <;> omega
      · split <;> omega
theorem mj_b {B : Bk} (w : WF B) {c f : Int} (hc : 0 ≤ c) (hc2 : c < B 8 1) (hf : 0 ≤ f ∧ f ≤ 60) {q : Nat → Nat} {n : Nat} (hn4 : n ≤ 4) (hq : ∀ k, k < n → (q k : Int) < B 8 0) (by_ : Int) : ∀ k, k ≤ n → 0 ≤ mj B c f by_ q k ∧ mj B c f by_ q k ≤ 300 * k
  | 0, _ => ⟨by simp [mj], by simp [mj]⟩
  | k + 1, h => by
    have ih := mj_b w hc hc2 hf hn4 hq by_ k (by omega)
    have hb := bg_b w hc hc2 hf hq (k := k) (by omega)
    have hst := (w.2.1 (q k) (by omega) (hq k (by omega))).2.1
    have := jn_b (by_ := by_) (acc := mj B c f by_ q k) (late := bg B c f q k - B 1 (q k)) (e := en B c f q k) (by omega) (by omega) (by omega)
    unfold mj
    omega
theorem X3_measured {σ : Mem} {B : Bk} {c f by_ : Int} {m a : Nat} (hO : isOr σ B c m f a) (hm : okm B m) (w : WF B) (hc : 0 ≤ c) (hc2 : c < B 8 1) (hf : 0 ≤ f ∧ f ≤ 60) (hby : 0 ≤ by_ ∧ by_ ≤ 4) {l : Nat → Nat} (hl : ∀ k, k < nof m → l k < nof m ∧ σ 40 k = (l k : Int)) {wo : Nat → Bool} (h11 : σ 36 11 = ((mset (kpB wo a B c f (fun k => nth m (l k)) (nof m)) 48 : Nat) : Int)) (h42 : ∀ k, k < nof m → σ 42 k = bg B c f (fun k => nth m (l k)) k) : f_X3_measured σ by_ = some (msC B c f by_ wo a (nof m) (fun k => nth m (l k))) := by
  obtain ⟨o6, o7, o8, -, o10, oj⟩ := hO
  obtain ⟨q, hq⟩ : ∃ q : Nat → Nat, q = fun k => nth m (l k) := ⟨_, rfl⟩
  rw [← hq] at h11 h42 ⊢
  have h4 := hm.2.1
  have hqP : ∀ k, k < nof m → (q k : Int) < B 8 0 := fun k hk => by
    rw [hq]; exact hm.2.2 _ (nth_in (hl k hk).1).2.1
  unfold f_X3_measured msC
  by_cases h0 : by_ = 0
  · rw [if_neg (by simpa using h0), if_pos h0, h11, bind_some' (bitCount48_n (mset_lt _ _))]
    congr 2
    refine cnt_congr fun i hi => ?_
    rw [mset_tb]; simp [hi]
  · rw [if_pos h0, if_neg h0]
    unfold f_X3_measured_16
    have key := loop_is (f := f_X3_measured_16B σ by_) (P := fun s => ∃ k : Nat, s = (mj B c f by_ q k, (k : Int)) ∧ k ≤ nof m) (μ := fun s => (4 - s.2).toNat) (r := mj B c f by_ q (nof m)) ?_ (a := (0, 0)) ⟨0, rfl, Nat.zero_le _⟩ (by decide)
    · rw [key]; rfl
    · rintro s ⟨k, rfl, hk⟩
      show (∃ a', f_X3_measured_16C σ by_ _ _ = _ ∧ _) ∨ f_X3_measured_16C σ by_ _ _ = _
      unfold f_X3_measured_16C
      rw [o6]
      by_cases hkn : (nof m : Int) ≤ k
      · right
        rw [if_pos hkn]
        have : k = nof m := by omega
        subst this; rfl
      · left
        obtain ⟨hl1, hl2⟩ := hl k (by omega)
        obtain ⟨-, b38, b39⟩ := oj (l k) hl1
        have hbg := bg_b w hc hc2 hf hqP (k := k) (by omega)
        have hst := (w.2.1 (q k) (by omega) (hqP k (by omega))).2.1
        have hmj := mj_b w hc hc2 hf h4 hqP by_ k (by omega)
        have eq1 : B 1 (nth m (l k)) = B 1 (q k) := by rw [hq]
        have eq2 : bg B c f q k + tm B c (nth m (l k)) = en B c f q k := by unfold en; rw [hq]
        rw [if_neg hkn, hl2, b38, b39, h42 k (by omega), eq1, chk_pos (by omega), chk_pos (by omega), chk_pos (by omega)]
        simp only [Option.bind_some]
        rw [chk_pos (by omega), chk_pos (by omega), chk_pos (by omega), jsub_ok (by omega) (by omega), jadd_ok (a := bg B c f q k) (by omega) (by omega), eq2, bind_some' (X3_join (by omega) (by omega) (by omega)), jadd_ok (by omega) (by omega)]
        exact ⟨_, rfl, ⟨k + 1, by show (_, (k : Int) + 1) = (_, ((k + 1 : Nat) : Int)); rw [Int.natCast_succ]; rfl, by omega⟩, by show (4 - ((k : Int) + 1)).toNat < (4 - (k : Int)).toNat; omega⟩
theorem isOr.keep {σ τ : Mem} {B : Bk} {c f : Int} {m a : Nat} (h : isOr σ B c m f a) (h36 : ∀ j, j ≠ 11 → j ≠ 12 → j ≠ 13 → τ 36 j = σ 36 j) (h37 : τ 37 = σ 37) (h38 : τ 38 = σ 38) (h39 : τ 39 = σ 39) : isOr τ B c m f a := by
  unfold isOr
  rw [h36 6 (by decide) (by decide) (by decide), h36 7 (by decide) (by decide) (by decide), h36 8 (by decide) (by decide) (by decide), h36 9 (by decide) (by decide) (by decide), h36 10 (by decide) (by decide) (by decide), h37, h38, h39]
  exact h
/-- lawful: fits in the day, and in the hours -/
def lwS (B : Bk) (c : Int) (m : Nat) (f : Int) (a : Nat) (l : List Nat) : Bool := decide (a + smt B c m (nof m) ≤ B 8 3) && fitN B c f (lq m l) (nof m)
def msS (B : Bk) (c : Int) (m : Nat) (f : Int) (a : Nat) (by_ : Int) (wo : Nat → Bool) (l : List Nat) : Int := msC B c f by_ wo a (nof m) (lq m l)
theorem nlw_no {α : Type} {lw : α → Bool} : ∀ {l : List α}, (∀ x ∈ l, lw x = false) → nlw lw l = 0
  | [], _ => rfl
  | y :: l, h => by
    show (if lw y then 1 else 0) + nlw lw l = 0
    rw [h y List.mem_cons_self, nlw_no fun x hx => h x (List.mem_cons_of_mem _ hx)]; rfl
theorem bst_no {α : Type} {lw : α → Bool} {ms : α → Int} : ∀ {l : List α} {a : Option (Int × α)}, (∀ x ∈ l, lw x = false) → bst lw ms l a = a
  | [], _, _ => rfl
  | y :: l, a, h => by
    show bst lw ms l (stp lw ms y a) = a
    have : stp lw ms y a = a := by unfold stp; rw [h y List.mem_cons_self]; rfl
    rw [this]
    exact bst_no fun x hx => h x (List.mem_cons_of_mem _ hx)
theorem X3_search {σ : Mem} {B : Bk} {c f by_ : Int} {m a : Nat} (hO : isOr σ B c m f a) (hm : okm B m) (w : WF B) (hc : 0 ≤ c) (hc2 : c < B 8 1) (hf : 0 ≤ f ∧ f ≤ 60) (ha : a ≤ 48) (hby : 0 ≤ by_ ∧ by_ ≤ 4) (wo : Nat → Bool) :
    ∃ r τ, f_X3_search σ by_ ((mset wo 48 : Nat) : Int) = some (r, τ) ∧ (∀ x, x ≠ 36 → x ≠ 40 → x ≠ 41 → x ≠ 42 → τ x = σ x) ∧ (∀ j, j ≠ 11 → j ≠ 12 → j ≠ 13 → τ 36 j = σ 36 j) ∧ τ 36 12 = (nlw (lwS B c m f a) (PT (nof m)) : Int) ∧ (bst (lwS B c m f a) (msS B c m f a by_ wo) (PT (nof m)) none = none → r = 0) ∧ ∀ v l, bst (lwS B c m f a) (msS B c m f a by_ wo) (PT (nof m)) none = some (v, l) → r = 1 ∧ τ 36 13 = v ∧ τ 36 11 = ((mset (kpB wo a B c f (lq m l) (nof m)) 48 : Nat) : Int) ∧ ∀ k, k < nof m → τ 41 k = (l.getD k 0 : Int) ∧ τ 42 k = bg B c f (lq m l) k := by
  have h4 := hm.2.1
  obtain ⟨pl, p0, pin⟩ := PT_ok (nof m) h4
  have hn := w.1
  unfold WFn at hn
  have hs := smt_b w hc hc2 hm (nof m) (Nat.le_refl _)
  unfold f_X3_search
  simp only [Option.bind_some]
  obtain ⟨σ2, hσ2⟩ : ∃ z, z = mup (mup σ 36 12 0) 36 13 0 := ⟨_, rfl⟩
  have r2 : ∀ x, x ≠ 36 → σ2 x = σ x := fun x hx => by rw [hσ2, mup_row hx, mup_row hx]
  have s2 : ∀ j, j ≠ 11 → j ≠ 12 → j ≠ 13 → σ2 36 j = σ 36 j := fun j _ h1 h2 => by rw [hσ2, mup_miss (by omega), mup_miss (by omega)]
  have e12 : σ2 36 12 = 0 := by rw [hσ2, mup_miss (by omega), mup_hit rfl rfl]
  have hO2 : isOr σ2 B c m f a := hO.keep s2 (r2 37 (by decide)) (r2 38 (by decide)) (r2 39 (by decide))
  rw [← hσ2, hO2.2.2.2.1]
  by_cases hsp : 0 ≤ B 8 3 - a - smt B c m (nof m)
  rotate_left
  · rw [if_neg hsp]
    have hno : ∀ l ∈ PT (nof m), lwS B c m f a l = false := fun l _ => by
      unfold lwS
      rw [decide_eq_false (by omega)]; rfl
    refine ⟨0, σ2, rfl, fun x h1 _ _ _ => r2 x h1, s2, by rw [e12, nlw_no hno]; rfl, fun _ => rfl, fun v l h => ?_⟩
    rw [bst_no hno] at h; cases h
  rw [if_pos hsp]
  have elw : ∀ l, lwS B c m f a l = fitN B c f (lq m l) (nof m) := fun l => by
    unfold lwS
    rw [decide_eq_true (by omega), Bool.true_and]
  obtain ⟨lw, hlw⟩ : ∃ z, z = lwS B c m f a := ⟨_, rfl⟩
  obtain ⟨ms, hms⟩ : ∃ z, z = msS B c m f a by_ wo := ⟨_, rfl⟩
  rw [← hlw, ← hms]
  unfold f_X3_search_22
  -- the first row
  obtain ⟨σ3, g1, g2, g3⟩ := loop_ex (f := f_X3_search_22B by_ ((mset wo 48 : Nat) : Int)) (fun s => ∃ k : Nat, s.1 = (k : Int) ∧ k ≤ nof m ∧ (∀ x, x ≠ 40 → s.2 x = σ2 x) ∧ ∀ j : Nat, j < k → s.2 40 j = (j : Int)) (fun s => (4 - s.1).toNat) (fun τ => (∀ x, x ≠ 40 → τ x = σ2 x) ∧ ∀ j : Nat, j < nof m → τ 40 j = (j : Int)) (a := (0, σ2)) ⟨0, rfl, Nat.zero_le _, fun _ _ => rfl, fun j hj => absurd hj (Nat.not_lt_zero _)⟩ (Nat.le_of_ble_eq_true rfl) (by
    rintro ⟨_, τ⟩ ⟨k, rfl, hk, grow, gj⟩
    have grow : ∀ x, x ≠ 40 → τ x = σ2 x := grow
    have gj : ∀ j : Nat, j < k → τ 40 j = (j : Int) := gj
    show (∃ a', f_X3_search_22C by_ ((mset wo 48 : Nat) : Int) (k : Int) τ = _ ∧ _) ∨ ∃ a', f_X3_search_22C by_ ((mset wo 48 : Nat) : Int) (k : Int) τ = _ ∧ _
    unfold f_X3_search_22C
    rw [grow 36 (by decide), hO2.1]
    by_cases hkn : (nof m : Int) ≤ k
    · right
      rw [if_pos hkn]
      have : k = nof m := by omega
      subst this
      exact ⟨_, rfl, grow, gj⟩
    · left
      rw [if_neg hkn, chk_pos (by omega)]
      simp only [Option.bind_some]
      rw [jadd_ok (by omega) (by omega)]
      refine ⟨_, rfl, ⟨k + 1, by show (k : Int) + 1 = _; omega, by omega, fun x hx => by dsimp only; rw [mup_row hx, grow x hx], fun j hj => ?_⟩, by show (4 - ((k : Int) + 1)).toNat < (4 - (k : Int)).toNat; omega⟩
      dsimp only
      by_cases ej : j = k
      · subst ej; rw [mup_hit rfl rfl]
      · rw [mup_miss (by omega)]; exact gj j (by omega))
  rw [g1]
  show ∃ r τ, f_X3_search_46 σ3 by_ _ = some (r, τ) ∧ _
  unfold f_X3_search_46 f_X3_search_52
  have hO3 : isOr σ3 B c m f a := hO2.keep (fun j _ _ _ => by rw [g2 36 (by decide)]) (g2 37 (by decide)) (g2 38 (by decide)) (g2 39 (by decide))
  obtain ⟨σ4, q1, q2, q3, q4, q5, q6⟩ := loop_ex (f := f_X3_search_52B by_ ((mset wo 48 : Nat) : Int)) (fun s => ∃ i : Nat, s.2.1 = (i : Int) ∧ i ≤ (PT (nof m)).length ∧ (∀ x, x ≠ 36 → x ≠ 40 → x ≠ 41 → x ≠ 42 → s.2.2 x = σ x) ∧ (∀ j, j ≠ 11 → j ≠ 12 → j ≠ 13 → s.2.2 36 j = σ 36 j) ∧ (i < (PT (nof m)).length → s.1 = 1 ∧ ∀ k : Nat, k < nof m → s.2.2 40 k = ((((PT (nof m)).getD i []).getD k 0 : Nat) : Int)) ∧ (¬ i < (PT (nof m)).length → s.1 = 0) ∧ s.2.2 36 12 = (nlw lw ((PT (nof m)).take i) : Int) ∧ (bst lw ms ((PT (nof m)).take i) none = none → nlw lw ((PT (nof m)).take i) = 0) ∧ ∀ v l, bst lw ms ((PT (nof m)).take i) none = some (v, l) → 0 < nlw lw ((PT (nof m)).take i) ∧ s.2.2 36 13 = v ∧ ∀ k : Nat, k < nof m → s.2.2 41 k = (l.getD k 0 : Int)) (fun s => (25 - s.2.1).toNat)
    (fun τ => (∀ x, x ≠ 36 → x ≠ 40 → x ≠ 41 → x ≠ 42 → τ x = σ x) ∧ (∀ j, j ≠ 11 → j ≠ 12 → j ≠ 13 → τ 36 j = σ 36 j) ∧ τ 36 12 = (nlw lw (PT (nof m)) : Int) ∧ (bst lw ms (PT (nof m)) none = none → nlw lw (PT (nof m)) = 0) ∧ ∀ v l, bst lw ms (PT (nof m)) none = some (v, l) → 0 < nlw lw (PT (nof m)) ∧ τ 36 13 = v ∧ ∀ k : Nat, k < nof m → τ 41 k = (l.getD k 0 : Int)) (a := (1, 0, σ3))
    ⟨0, rfl, Nat.zero_le _, fun x h1 h2 h3 h5 => by show σ3 x = _; rw [g2 x h2, r2 x h1], fun j h1 h2 h3 => by show σ3 36 j = _; rw [g2 36 (by decide), s2 j h1 h2 h3], fun _ => ⟨rfl, fun k hk => by show σ3 40 k = _; rw [g3 k hk, PT_0 _ h4 k hk]⟩, fun h => absurd p0 h, by show σ3 36 12 = _; rw [g2 36 (by decide), e12]; rfl, fun _ => rfl, fun v l h => by cases h⟩ (Nat.le_of_ble_eq_true rfl) (by
    rintro ⟨x4, _, τ⟩ ⟨i, rfl, hi, k1, k2, k3, k4, k5, k6, k7⟩
    have k1 : ∀ x, x ≠ 36 → x ≠ 40 → x ≠ 41 → x ≠ 42 → τ x = σ x := k1
    have k2 : ∀ j, j ≠ 11 → j ≠ 12 → j ≠ 13 → τ 36 j = σ 36 j := k2
    have k3 : i < (PT (nof m)).length → x4 = 1 ∧ ∀ k : Nat, k < nof m → τ 40 k = ((((PT (nof m)).getD i []).getD k 0 : Nat) : Int) := k3
    have k4 : ¬ i < (PT (nof m)).length → x4 = 0 := k4
    have k5 : τ 36 12 = _ := k5
    have k7 : ∀ v l, bst lw ms ((PT (nof m)).take i) none = some (v, l) → 0 < nlw lw ((PT (nof m)).take i) ∧ τ 36 13 = v ∧ ∀ k : Nat, k < nof m → τ 41 k = (l.getD k 0 : Int) := k7
    show (∃ a', f_X3_search_52C by_ ((mset wo 48 : Nat) : Int) x4 (i : Int) τ = _ ∧ _) ∨ ∃ a', f_X3_search_52C by_ ((mset wo 48 : Nat) : Int) x4 (i : Int) τ = _ ∧ _
    unfold f_X3_search_52C
    by_cases hiN : i < (PT (nof m)).length
    rotate_left
    · right
      rw [if_neg (by omega), if_pos (k4 hiN)]
      have e : (PT (nof m)).take i = PT (nof m) := List.take_of_length_le (by omega)
      rw [e] at k5 k6 k7
      exact ⟨_, rfl, k1, k2, k5, k6, k7⟩
    · left
      obtain ⟨e4, krow⟩ := k3 hiN
      obtain ⟨L, hL⟩ : ∃ L, L = (PT (nof m)).getD i [] := ⟨_, rfl⟩
      have hLin : L ∈ PT (nof m) := by
        rw [hL, List.getD_eq_getElem?_getD, List.getElem?_eq_getElem hiN]; exact List.getElem_mem hiN
      rw [← hL] at krow
      have hOt : isOr τ B c m f a := hO.keep k2 (k1 37 (by decide) (by decide) (by decide) (by decide)) (k1 38 (by decide) (by decide) (by decide) (by decide)) (k1 39 (by decide) (by decide) (by decide) (by decide))
      rw [if_neg (by omega), if_neg (by omega)]
      obtain ⟨r, τ5, w1, w2, w3, w4, w5⟩ := X3_walk hOt hm w hc hc2 hf ha (Or.inl rfl) (l := fun k => L.getD k 0) (fun k hk => ⟨(pin L hLin).2 k hk, krow k hk⟩) wo
      rw [bind_some' w1]
      have etk : (PT (nof m)).take (i + 1) = (PT (nof m)).take i ++ [L] := by rw [hL]; exact take_s [] hiN
      -- behind the row: the next one
      have nextOf : ∀ (τ6 : Mem), (∀ x, x ≠ 36 → x ≠ 40 → x ≠ 41 → x ≠ 42 → τ6 x = σ x) → (∀ j, j ≠ 11 → j ≠ 12 → j ≠ 13 → τ6 36 j = σ 36 j) → (∀ k : Nat, k < nof m → τ6 40 k = (L.getD k 0 : Int)) → τ6 36 12 = (nlw lw ((PT (nof m)).take (i + 1)) : Int) → (bst lw ms ((PT (nof m)).take (i + 1)) none = none → nlw lw ((PT (nof m)).take (i + 1)) = 0) → (∀ v l, bst lw ms ((PT (nof m)).take (i + 1)) none = some (v, l) → 0 < nlw lw ((PT (nof m)).take (i + 1)) ∧ τ6 36 13 = v ∧ ∀ k : Nat, k < nof m → τ6 41 k = (l.getD k 0 : Int)) →
          ∃ a', f_X3_search_129 τ6 by_ ((mset wo 48 : Nat) : Int) (i : Int) = some (.inl a') ∧ (∃ i' : Nat, a'.2.1 = (i' : Int) ∧ i' ≤ (PT (nof m)).length ∧ (∀ x, x ≠ 36 → x ≠ 40 → x ≠ 41 → x ≠ 42 → a'.2.2 x = σ x) ∧ (∀ j, j ≠ 11 → j ≠ 12 → j ≠ 13 → a'.2.2 36 j = σ 36 j) ∧ (i' < (PT (nof m)).length → a'.1 = 1 ∧ ∀ k : Nat, k < nof m → a'.2.2 40 k = ((((PT (nof m)).getD i' []).getD k 0 : Nat) : Int)) ∧ (¬ i' < (PT (nof m)).length → a'.1 = 0) ∧ a'.2.2 36 12 = (nlw lw ((PT (nof m)).take i') : Int) ∧ (bst lw ms ((PT (nof m)).take i') none = none → nlw lw ((PT (nof m)).take i') = 0) ∧ ∀ v l, bst lw ms ((PT (nof m)).take i') none = some (v, l) → 0 < nlw lw ((PT (nof m)).take i') ∧ a'.2.2 36 13 = v ∧ ∀ k : Nat, k < nof m → a'.2.2 41 k = (l.getD k 0 : Int)) ∧ (25 - a'.2.1).toNat < (25 - (i : Int)).toNat := by
        intro τ6 z1 z2 z3 z5 z6 z7
        have h66 : τ6 36 6 = (nof m : Int) := by rw [z2 6 (by decide) (by decide) (by decide)]; exact hO.1
        obtain ⟨r7, τ7, y1, y2, y3, y4⟩ := X3_next h4 hiN h66 (fun k hk => by rw [z3 k hk, hL])
        unfold f_X3_search_129
        rw [bind_some' y1]
        simp only [Option.bind_some]
        rw [jadd_ok (by omega) (by omega)]
        refine ⟨_, rfl, ⟨i + 1, by show (i : Int) + 1 = _; omega, hiN, fun x h1 h2 h3 h5 => by show τ7 x = _; rw [y2 x h2, z1 x h1 h2 h3 h5], fun j h1 h2 h3 => by show τ7 36 j = _; rw [y2 36 (by decide), z2 j h1 h2 h3], y3, y4, by show τ7 36 12 = _; rw [y2 36 (by decide), z5], z6, fun v l h => ?_⟩, by show (25 - ((i : Int) + 1)).toNat < (25 - (i : Int)).toNat; omega⟩
        obtain ⟨v1, v2, v3⟩ := z7 v l h
        exact ⟨v1, by show τ7 36 13 = _; rw [y2 36 (by decide)]; exact v2, fun k hk => by show τ7 41 k = _; rw [y2 41 (by decide)]; exact v3 k hk⟩
      have b5 : ∀ x, x ≠ 36 → x ≠ 40 → x ≠ 41 → x ≠ 42 → τ5 x = σ x := fun x h1 h2 h3 h5 => by rw [w2 x h1 h5, k1 x h1 h2 h3 h5]
      have c5 : ∀ j, j ≠ 11 → j ≠ 12 → j ≠ 13 → τ5 36 j = σ 36 j := fun j h1 h2 h3 => by rw [w3 j h1, k2 j h1 h2 h3]
      have d5 : ∀ k : Nat, k < nof m → τ5 40 k = (L.getD k 0 : Int) := fun k hk => by rw [w2 40 (by decide) (by decide)]; exact krow k hk
      have el : lw L = fitN B c f (lq m L) (nof m) := by rw [hlw]; exact elw L
      have f12 : τ5 36 12 = (nlw lw ((PT (nof m)).take i) : Int) := by rw [w3 12 (by decide), k5]
      have f13 : τ5 36 13 = τ 36 13 := w3 13 (by decide)
      have f41 : τ5 41 = τ 41 := w2 41 (by decide) (by decide)
      cases hfit : fitN B c f (lq m L) (nof m) with
      | false =>
        have hr0 : r = 0 := w5 hfit
        rw [hr0]
        show ∃ a', (if (0 : Int) = 0 then _ else _) = _ ∧ _
        rw [if_pos rfl]
        have en0 : nlw lw ((PT (nof m)).take (i + 1)) = nlw lw ((PT (nof m)).take i) := by rw [etk, nlw_app, el, hfit]; rfl
        have eb0 : bst lw ms ((PT (nof m)).take (i + 1)) none = bst lw ms ((PT (nof m)).take i) none := by
          rw [etk, bst_app]; unfold stp; rw [el, hfit]; rfl
        exact nextOf τ5 b5 c5 d5 (by rw [en0, f12]) (by rw [en0, eb0]; exact k6) (by rw [en0, eb0, f13, f41]; exact k7)
      | true =>
        obtain ⟨hr1, w11, w42⟩ := w4 hfit
        rw [hr1]
        show ∃ a', (if (1 : Int) = 0 then _ else _) = _ ∧ _
        rw [if_neg (by decide)]
        have hO5 : isOr τ5 B c m f a := hO.keep c5 (b5 37 (by decide) (by decide) (by decide) (by decide)) (b5 38 (by decide) (by decide) (by decide) (by decide)) (b5 39 (by decide) (by decide) (by decide) (by decide))
        rw [bind_some' (X3_measured hO5 hm w hc hc2 hf hby (l := fun k => L.getD k 0) (fun k hk => ⟨(pin L hLin).2 k hk, d5 k hk⟩) w11 w42)]
        have em : msC B c f by_ wo a (nof m) (fun k => nth m (L.getD k 0)) = ms L := by rw [hms]; rfl
        rw [em, show ((1 : Int), τ5).2 = τ5 from rfl, f12, f13]
        have en1 : nlw lw ((PT (nof m)).take (i + 1)) = nlw lw ((PT (nof m)).take i) + 1 := by rw [etk, nlw_app, el, hfit]; rfl
        have eb1 : bst lw ms ((PT (nof m)).take (i + 1)) none = stp lw ms L (bst lw ms ((PT (nof m)).take i) none) := by rw [etk, bst_app]
        -- what is counted
        have cntd : ∀ (τ6 : Mem), (∀ x, x ≠ 36 → x ≠ 40 → x ≠ 41 → x ≠ 42 → τ6 x = σ x) → (∀ j, j ≠ 11 → j ≠ 12 → j ≠ 13 → τ6 36 j = σ 36 j) → (∀ k : Nat, k < nof m → τ6 40 k = (L.getD k 0 : Int)) → τ6 36 12 = (nlw lw ((PT (nof m)).take i) : Int) → (∃ v l, bst lw ms ((PT (nof m)).take (i + 1)) none = some (v, l) ∧ τ6 36 13 = v ∧ ∀ k : Nat, k < nof m → τ6 41 k = (l.getD k 0 : Int)) → ∃ a', f_X3_search_119 τ6 by_ ((mset wo 48 : Nat) : Int) (i : Int) = some (.inl a') ∧ (∃ i' : Nat, a'.2.1 = (i' : Int) ∧ i' ≤ (PT (nof m)).length ∧ (∀ x, x ≠ 36 → x ≠ 40 → x ≠ 41 → x ≠ 42 → a'.2.2 x = σ x) ∧ (∀ j, j ≠ 11 → j ≠ 12 → j ≠ 13 → a'.2.2 36 j = σ 36 j) ∧ (i' < (PT (nof m)).length → a'.1 = 1 ∧ ∀ k : Nat, k < nof m → a'.2.2 40 k = ((((PT (nof m)).getD i' []).getD k 0 : Nat) : Int)) ∧ (¬ i' < (PT (nof m)).length → a'.1 = 0) ∧ a'.2.2 36 12 = (nlw lw ((PT (nof m)).take i') : Int) ∧ (bst lw ms ((PT (nof m)).take i') none = none → nlw lw ((PT (nof m)).take i') = 0) ∧ ∀ v l, bst lw ms ((PT (nof m)).take i') none = some (v, l) → 0 < nlw lw ((PT (nof m)).take i') ∧ a'.2.2 36 13 = v ∧ ∀ k : Nat, k < nof m → a'.2.2 41 k = (l.getD k 0 : Int)) ∧ (25 - a'.2.1).toNat < (25 - (i : Int)).toNat := by
          intro τ6 z1 z2 z3 z5 ⟨v, l, zb, z13, z41⟩
          unfold f_X3_search_119
          simp only [Option.bind_some]
          have hle : nlw lw ((PT (nof m)).take i) ≤ 24 := by
            have : ∀ l : List (List Nat), nlw lw l ≤ l.length := by
              intro l
              induction l with
              | nil => exact Nat.le_refl _
              | cons y l ih => show (if lw y then 1 else 0) + nlw lw l ≤ l.length + 1; split <;> omega
            have h1 := this ((PT (nof m)).take i)
            rw [List.length_take] at h1
            omega
          rw [z5, jadd_ok (by omega) (by omega)]
          refine nextOf _ (fun x h1 h2 h3 h5 => by rw [mup_row h1, z1 x h1 h2 h3 h5]) (fun j h1 h2 h3 => by rw [mup_miss (by omega), z2 j h1 h2 h3]) (fun k hk => by rw [mup_miss (by omega)]; exact z3 k hk) (by rw [mup_hit rfl rfl, en1]; omega) (fun h => by rw [zb] at h; cases h) (fun v' l' h => ?_)
          rw [zb] at h
          cases h
          exact ⟨by rw [en1]; omega, by rw [mup_miss (by omega)]; exact z13, fun k hk => by rw [mup_miss (by omega)]; exact z41 k hk⟩
        -- a better one
        have betr : bst lw ms ((PT (nof m)).take (i + 1)) none = some (ms L, L) → ∃ a', f_X3_search_99 τ5 by_ ((mset wo 48 : Nat) : Int) (i : Int) (ms L) = some (.inl a') ∧ (∃ i' : Nat, a'.2.1 = (i' : Int) ∧ i' ≤ (PT (nof m)).length ∧ (∀ x, x ≠ 36 → x ≠ 40 → x ≠ 41 → x ≠ 42 → a'.2.2 x = σ x) ∧ (∀ j, j ≠ 11 → j ≠ 12 → j ≠ 13 → a'.2.2 36 j = σ 36 j) ∧ (i' < (PT (nof m)).length → a'.1 = 1 ∧ ∀ k : Nat, k < nof m → a'.2.2 40 k = ((((PT (nof m)).getD i' []).getD k 0 : Nat) : Int)) ∧ (¬ i' < (PT (nof m)).length → a'.1 = 0) ∧ a'.2.2 36 12 = (nlw lw ((PT (nof m)).take i') : Int) ∧ (bst lw ms ((PT (nof m)).take i') none = none → nlw lw ((PT (nof m)).take i') = 0) ∧ ∀ v l, bst lw ms ((PT (nof m)).take i') none = some (v, l) → 0 < nlw lw ((PT (nof m)).take i') ∧ a'.2.2 36 13 = v ∧ ∀ k : Nat, k < nof m → a'.2.2 41 k = (l.getD k 0 : Int)) ∧ (25 - a'.2.1).toNat < (25 - (i : Int)).toNat := by
          intro hb
          unfold f_X3_search_99
          simp only [Option.bind_some]
          rw [chk_pos (by decide)]
          refine cntd _ (fun x h1 h2 h3 h5 => by rw [mcp_row h3, mup_row h1, b5 x h1 h2 h3 h5]) (fun j h1 h2 h3 => by rw [mcp_miss (by omega), mup_miss (by omega), c5 j h1 h2 h3]) (fun k hk => by rw [mcp_miss (by omega), mup_miss (by omega)]; exact d5 k hk) (by rw [mcp_miss (by omega), mup_miss (by omega), f12]) ⟨_, _, hb, by rw [mcp_miss (by omega), mup_hit rfl rfl], fun k hk => ?_⟩
          rw [mcp_hit rfl (by omega) (by omega), mup_miss (by omega), show (0 : Int) + ((k : Int) - 0) = (k : Int) by omega]
          exact d5 k hk
        by_cases hz : (nlw lw ((PT (nof m)).take i) : Int) = 0
        · rw [if_pos hz]
          refine betr ?_
          rw [eb1]
          cases hbb : bst lw ms ((PT (nof m)).take i) none with
          | none => unfold stp; rw [el, hfit]; rfl
          | some x =>
            have := (k7 x.1 x.2 hbb).1
            omega
        · rw [if_neg hz]
          cases hbb : bst lw ms ((PT (nof m)).take i) none with
          | none => exact absurd (by rw [k6 hbb]; rfl) hz
          | some x =>
            obtain ⟨x1, x2, x3⟩ := k7 x.1 x.2 hbb
            rw [x2]
            by_cases hlt : x.1 ≤ ms L
            · rw [if_pos hlt]
              refine cntd τ5 b5 c5 d5 f12 ⟨x.1, x.2, ?_, by rw [f13, x2], fun k hk => by rw [f41]; exact x3 k hk⟩
              rw [eb1, hbb]
              unfold stp
              rw [el, hfit, if_pos rfl]
              show (if ms L < x.1 then _ else _) = _
              rw [if_neg (by omega)]
            · rw [if_neg hlt]
              refine betr ?_
              rw [eb1, hbb]
              unfold stp
              rw [el, hfit, if_pos rfl]
              show (if ms L < x.1 then _ else _) = _
              rw [if_pos (by omega)])
  rw [q1]
  show ∃ r τ, f_X3_search_141 σ4 _ = some (r, τ) ∧ _
  unfold f_X3_search_141
  rw [q4]
  have hO4 : isOr σ4 B c m f a := hO.keep q3 (q2 37 (by decide) (by decide) (by decide) (by decide)) (q2 38 (by decide) (by decide) (by decide) (by decide)) (q2 39 (by decide) (by decide) (by decide) (by decide))
  cases hbb : bst lw ms (PT (nof m)) none with
  | none =>
    have hz := q5 hbb
    rw [if_pos (by omega)]
    exact ⟨0, σ4, rfl, q2, q3, q4, fun _ => rfl, fun v l h => by cases h⟩
  | some x =>
    obtain ⟨x1, x2, x3⟩ := q6 x.1 x.2 hbb
    rw [if_neg (by omega)]
    rcases bst_in hbb with hh | ⟨hin, hl, -⟩
    · cases hh
    have hfit : fitN B c f (lq m x.2) (nof m) = true := by rw [← elw x.2, ← hlw]; exact hl
    obtain ⟨r, τ5, w1, w2, w3, w4, w5⟩ := X3_walk hO4 hm w hc hc2 hf ha (Or.inr rfl) (l := fun k => x.2.getD k 0) (fun k hk => ⟨(pin x.2 hin).2 k hk, x3 k hk⟩) wo
    obtain ⟨hr1, w11, w42⟩ := w4 hfit
    rw [bind_some' w1, hr1]
    refine ⟨1, τ5, rfl, fun x h1 h2 h3 h5 => by rw [w2 x h1 h5, q2 x h1 h2 h3 h5], fun j h1 h2 h3 => by rw [w3 j h1, q3 j h1 h2 h3], by rw [w3 12 (by decide), q4], fun h => (by cases h), fun v l h => ?_⟩
    cases h
    exact ⟨rfl, by rw [w3 13 (by decide), x2], w11, fun k hk => ⟨by rw [w2 41 (by decide) (by decide)]; exact x3 k hk, w42 k hk⟩⟩
