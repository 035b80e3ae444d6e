/-! WATCHERS: as many as most at once; none in two duties too near -/
theorem cnt_inj {N : Nat} : ∀ (n : Nat) (f : Nat → Bool) (h : Nat → Nat), (∀ i, i < n → h i < N ∧ f (h i) = true) → (∀ i j, i < j → j < n → h i ≠ h j) → n ≤ cnt f N
  | 0, _, _, _, _ => Nat.zero_le _
  | n + 1, f, h, h1, h2 => by
    have hn := h1 n (by omega)
    have hins := cnt_ins (f := fun t => f t && !decide (t = h n)) (g := f) (p := h n) (by simp) (fun i => by
      by_cases e : i = h n
      · rw [e, hn.2]; simp
      · simp [e]) N
    rw [if_pos hn.1] at hins
    have ih := cnt_inj n (fun t => f t && !decide (t = h n)) h (fun i hi => ⟨(h1 i (by omega)).1, by
      have := h2 i n hi (by omega)
      show (f (h i) && !decide (h i = h n)) = true
      rw [(h1 i (by omega)).2, decide_eq_false this]
      rfl⟩) (fun i j hij hj => h2 i j hij (by omega))
    omega
theorem skol {P : Nat → Nat → Prop} : ∀ n : Nat, (∀ w, w < n → ∃ j, P w j) → ∃ h : Nat → Nat, ∀ w, w < n → P w (h w)
  | 0, _ => ⟨fun _ => 0, fun w hw => absurd hw (Nat.not_lt_zero _)⟩
  | n + 1, H => by
    obtain ⟨h, hh⟩ := skol n fun w hw => H w (by omega)
    obtain ⟨j, hj⟩ := H n (by omega)
    refine ⟨fun w => if w = n then j else h w, fun w hw => ?_⟩
    by_cases e : w = n
    · subst e
      show P w (if w = w then j else h w)
      rw [if_pos rfl]; exact hj
    · show P w (if w = n then j else h w)
      rw [if_neg e]; exact hh w (by omega)
def dend (x : Du) : Int := dbg x + (x.2.2.2 : Int)
theorem bsW_ok {T : Int} {L : Nat → Int} {a : Int} : ∀ {n w : Nat}, bsW T L a n = some w → L w + T ≤ a
  | 0, w, h => by cases h
  | n + 1, w, h => by
    rw [bsW_s] at h
    cases hb : bsW T L a n with
    | none =>
      rw [hb] at h
      have h : (if L n + T ≤ a then some n else none) = some w := h
      by_cases e : L n + T ≤ a
      · rw [if_pos e] at h; cases h; exact e
      · rw [if_neg e] at h; cases h
    | some b =>
      have := bsW_ok hb
      rw [hb] at h
      have h : (if L n + T ≤ a ∧ L b < L n then some n else some b) = some w := h
      by_cases e : L n + T ≤ a ∧ L b < L n
      · rw [if_pos e] at h; cases h; exact e.1
      · rw [if_neg e] at h; cases h; exact this
theorem bsW_no {T : Int} {L : Nat → Int} {a : Int} : ∀ {n : Nat}, bsW T L a n = none → ∀ w, w < n → a < L w + T
  | 0, _, w, hw => absurd hw (Nat.not_lt_zero _)
  | n + 1, h, w, hw => by
    rw [bsW_s] at h
    cases hb : bsW T L a n with
    | none =>
      rw [hb] at h
      have h : (if L n + T ≤ a then some n else none) = none := h
      by_cases e : L n + T ≤ a
      · rw [if_pos e] at h; cases h
      · by_cases q : w = n
        · subst q; omega
        · exact bsW_no hb w (by omega)
    | some b =>
      rw [hb] at h
      have h : (if L n + T ≤ a ∧ L b < L n then some n else some b) = none := h
      split at h <;> cases h
/-- what holds of the first n duties -/
def wOK (T : Int) (l : List Du) (n : Nat) (s : Ws) : Prop := s.2.2.length = n ∧ (∀ j, j < n → s.2.2.getD j 0 < s.1) ∧ (∀ j, j < n → dend (l.getD j du0) ≤ s.2.1 (s.2.2.getD j 0)) ∧ (∀ i j, j < i → i < n → s.2.2.getD i 0 = s.2.2.getD j 0 → dend (l.getD j du0) + T ≤ dbg (l.getD i du0)) ∧ (∀ w, w < s.1 → ∃ j, j < n ∧ s.2.2.getD j 0 = w ∧ s.2.1 w = dend (l.getD j du0)) ∧ s.1 ≤ aoN l T n
section
variable {T : Int} {l : List Du}
theorem near_iff {i j : Nat} : near l T i j = true ↔ dbg (l.getD j du0) ≤ dbg (l.getD i du0) ∧ dbg (l.getD i du0) < dbg (l.getD j du0) + ((l.getD j du0).2.2.2 : Int) + T := by
  unfold near
  rw [Bool.and_eq_true]
  exact ⟨fun h => ⟨of_decide_eq_true h.1, of_decide_eq_true h.2⟩, fun h => ⟨decide_eq_true h.1, decide_eq_true h.2⟩⟩
theorem wOK_s (hT : 0 ≤ T) (hs : ∀ i j, i < j → j < l.length → dbg (l.getD i du0) ≤ dbg (l.getD j du0)) (hp : ∀ i, i < l.length → 0 < (l.getD i du0).2.2.2) {n : Nat} {s : Ws} (hn : n < l.length) (h : wOK T l n s) : wOK T l (n + 1) (wG T s (l.getD n du0)) := by
  obtain ⟨h1, h2, h3, h4, h5, h6⟩ := h
  obtain ⟨x, hx⟩ : ∃ x, x = l.getD n du0 := ⟨_, rfl⟩
  have hpx := hp n hn
  rw [← hx] at hpx ⊢
  obtain ⟨q1, q2, q3⟩ := wW_lt (T := T) (s := s) (x := x)
  obtain ⟨w, hw⟩ : ∃ w, w = wW T s x := ⟨_, rfl⟩
  have e1 : (wG T s x).2.2 = s.2.2 ++ [w] := by rw [hw]; rfl
  have e2 : ∀ j, (wG T s x).2.1 j = if j = w then dend x else s.2.1 j := fun j => by rw [hw]; rfl
  have g1 : ∀ j, j < n → (s.2.2 ++ [w]).getD j 0 = s.2.2.getD j 0 := fun j hj => gd1 (by omega)
  have g2 : (s.2.2 ++ [w]).getD n 0 = w := by rw [← h1]; exact gd2
  have hlast : ∀ j, j < n → s.2.2.getD j 0 = w → dend (l.getD j du0) + T ≤ dbg x := fun j hj he => by
    have b1 := h2 j hj
    have b2 := h3 j hj
    rw [he] at b1 b2
    unfold wW at hw
    cases hb : bsW T s.2.1 (dbg x) s.1 with
    | none => rw [hb] at hw; have hw : w = s.1 := hw; omega
    | some v =>
      rw [hb] at hw
      have hw : w = v := hw
      have := bsW_ok hb
      rw [← hw] at this
      omega
  have hde : dend x = dbg x + (x.2.2.2 : Int) := rfl
  unfold wOK
  rw [e1]
  refine ⟨by rw [List.length_append, h1]; rfl, fun j hj => ?_, fun j hj => ?_, fun i j hij hi he => ?_, fun v hv => ?_, ?_⟩
  · by_cases e : j = n
    · rw [e, g2, hw]; exact q1
    · rw [g1 j (by omega)]
      have := h2 j (by omega)
      omega
  · by_cases e : j = n
    · rw [e, g2, e2, if_pos rfl, ← hx]
      exact Int.le_refl _
    · rw [g1 j (by omega), e2]
      by_cases q : s.2.2.getD j 0 = w
      · rw [if_pos q]
        have := hlast j (by omega) q
        omega
      · rw [if_neg q]
        exact h3 j (by omega)
  · by_cases e : i = n
    · subst e
      rw [g2, g1 j (by omega)] at he
      rw [← hx]
      exact hlast j (by omega) he.symm
    · rw [g1 i (by omega), g1 j (by omega)] at he
      exact h4 i j hij (by omega) he
  · by_cases e : v = w
    · subst e
      exact ⟨n, by omega, g2, by rw [e2, if_pos rfl, hx]⟩
    · have hv2 : v < s.1 := by
        unfold wW at hw
        unfold wG at hv
        cases hb : bsW T s.2.1 (dbg x) s.1 with
        | none =>
          rw [hb] at hw hv
          have hw : w = s.1 := hw
          have hv : v < s.1 + 1 := hv
          omega
        | some u => rw [hb] at hv; exact hv
      obtain ⟨j, j1, j2, j3⟩ := h5 v hv2
      exact ⟨j, by omega, by rw [g1 j j1]; exact j2, by rw [e2, if_neg e]; exact j3⟩
  · have ea : aoN l T (n + 1) = max (aoN l T n) (cnt (near l T n) l.length) := rfl
    rw [ea]
    cases hb : bsW T s.2.1 (dbg x) s.1 with
    | some v =>
      have e : (wG T s x).1 = s.1 := by unfold wG; rw [hb]
      omega
    | none =>
      have e : (wG T s x).1 = s.1 + 1 := by unfold wG; rw [hb]
      obtain ⟨h, hh⟩ := skol s.1 h5
      have hno := bsW_no hb
      have hin := cnt_inj (N := l.length) (s.1 + 1) (near l T n) (fun v => if v = s.1 then n else h v) (fun v hv => ?_) (fun i j hij hj => ?_)
      · omega
      · show (if v = s.1 then n else h v) < l.length ∧ near l T n (if v = s.1 then n else h v) = true
        by_cases q : v = s.1
        · rw [if_pos q]
          refine ⟨hn, near_iff.mpr ?_⟩
          rw [← hx]
          omega
        · rw [if_neg q]
          obtain ⟨j1, j2, j3⟩ := hh v (by omega)
          have b1 := hno v (by omega)
          have b2 := hs (h v) n j1 hn
          rw [j3] at b1
          unfold dend at b1
          refine ⟨by omega, near_iff.mpr ?_⟩
          rw [← hx] at b2 ⊢
          omega
      · show (if i = s.1 then n else h i) ≠ (if j = s.1 then n else h j)
        rw [if_neg (show ¬ i = s.1 by omega)]
        obtain ⟨j1, j2, j3⟩ := hh i (by omega)
        by_cases q : j = s.1
        · rw [if_pos q]
          omega
        · rw [if_neg q]
          obtain ⟨k1, k2, k3⟩ := hh j (by omega)
          intro z
          rw [z] at j2
          omega
theorem wOK_all (hT : 0 ≤ T) (hs : ∀ i j, i < j → j < l.length → dbg (l.getD i du0) ≤ dbg (l.getD j du0)) (hp : ∀ i, i < l.length → 0 < (l.getD i du0).2.2.2) : ∀ n, n ≤ l.length → wOK T l n (wgv T (l.take n))
  | 0, _ => ⟨rfl, fun j hj => absurd hj (Nat.not_lt_zero _), fun j hj => absurd hj (Nat.not_lt_zero _), fun i j _ hj => absurd hj (Nat.not_lt_zero _), fun w hw => absurd hw (Nat.not_lt_zero _), Nat.le_refl _⟩
  | n + 1, h => by
    rw [wgv_s T (by omega)]
    exact wOK_s hT hs hp (by omega) (wOK_all hT hs hp n (by omega))
theorem w_all (hT : 0 ≤ T) (hs : ∀ i j, i < j → j < l.length → dbg (l.getD i du0) ≤ dbg (l.getD j du0)) (hp : ∀ i, i < l.length → 0 < (l.getD i du0).2.2.2) : wOK T l l.length (wgv T l) := by
  have := wOK_all hT hs hp l.length (Nat.le_refl _)
  rw [List.take_length] at this
  exact this
theorem near_le (hs : wOK T l l.length (wgv T l)) {i : Nat} (hi : i < l.length) : cnt (near l T i) l.length ≤ (wgv T l).1 := by
  obtain ⟨h1, h2, h3, h4, h5, h6⟩ := hs
  have key : ∀ w, w < (wgv T l).1 → ∃ g : Nat, ∀ j, j < l.length → near l T i j = true → (wgv T l).2.2.getD j 0 = w → g = j := fun w hw => by
    by_cases e : ∃ j, j < l.length ∧ near l T i j = true ∧ (wgv T l).2.2.getD j 0 = w
    · obtain ⟨j, j1, j2, j3⟩ := e
      refine ⟨j, fun j' k1 k2 k3 => ?_⟩
      have a1 : ∀ a b, a < b → b < l.length → near l T i a = true → near l T i b = true → (wgv T l).2.2.getD a 0 = w → (wgv T l).2.2.getD b 0 = w → False := fun a b hab hb n1 n2 w1 w2 => by
        have := h4 b a hab hb (by rw [w1, w2])
        unfold dend at this
        have n3 := near_iff.mp n1
        have n4 := near_iff.mp n2
        omega
      rcases Nat.lt_trichotomy j j' with q | q | q
      · exact (a1 j j' q k1 j2 k2 j3 k3).elim
      · exact q
      · exact (a1 j' j q j1 k2 j2 k3 j3).elim
    · exact ⟨0, fun j j1 j2 j3 => absurd ⟨j, j1, j2, j3⟩ e⟩
  obtain ⟨g, hg⟩ := skol (P := fun w g => ∀ j, j < l.length → near l T i j = true → (wgv T l).2.2.getD j 0 = w → g = j) _ key
  refine pigeon (g := fun w : Nat => ((g w : Nat) : Int) + 1) fun t ht hn => ?_
  exact ⟨(wgv T l).2.2.getD t 0, h2 t ht, by rw [hg _ (h2 t ht) t ht hn rfl]⟩
end
