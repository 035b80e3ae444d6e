/-! TEXTS: what they say, and the class that reads them -/
def byt (f : Int → Int) (S a : Nat) : Int := if a < S then f a else -1
def run (p : Nat → Bool) : Nat → Nat → Nat
  | 0, a => a
  | n + 1, a => if p a then run p n (a + 1) else a
def go (p : Nat → Bool) (S a : Nat) : Nat := run p (S - a) a
theorem go_s {p : Nat → Bool} {S a : Nat} (h : a < S) : go p S a = if p a then go p S (a + 1) else a := by
  unfold go
  rw [show S - a = (S - (a + 1)) + 1 by omega]
  rfl
theorem go_ge {p : Nat → Bool} {S a : Nat} (h : S ≤ a) : go p S a = a := by
  unfold go
  rw [show S - a = 0 by omega]
  rfl
theorem go_t {p : Nat → Bool} {S a : Nat} (h : a < S) (hp : p a = true) : go p S (a + 1) = go p S a := by rw [go_s h, hp]; rfl
theorem go_f {p : Nat → Bool} {S a : Nat} (hp : p a = false) : go p S a = a := by
  by_cases h : a < S
  · rw [go_s h, hp]; rfl
  · exact go_ge (by omega)
theorem go_ok (p : Nat → Bool) (S : Nat) : ∀ n a, S - a = n → a ≤ S → a ≤ go p S a ∧ go p S a ≤ S ∧ ∀ j, a ≤ j → j < go p S a → p j = true
  | 0, a, hn, ha => by
    rw [go_ge (by omega)]
    exact ⟨Nat.le_refl _, ha, fun j h1 h2 => absurd h1 (by omega)⟩
  | n + 1, a, hn, ha => by
    rw [go_s (by omega)]
    cases hp : p a with
    | false => exact ⟨Nat.le_refl _, ha, fun j h1 h2 => absurd h1 (by rw [bf] at h2; omega)⟩
    | true =>
      obtain ⟨h1, h2, h3⟩ := go_ok p S n (a + 1) (by omega) (by omega)
      rw [bt]
      refine ⟨by omega, h2, fun j j1 j2 => ?_⟩
      by_cases e : j = a
      · rw [e]; exact hp
      · exact h3 j (by omega) j2
def txB (f : Int → Int) (S a : Nat) : Bool := decide (byt f S a = 32)
def pL (f : Int → Int) (S a : Nat) : Bool := decide (97 ≤ byt f S a ∧ byt f S a ≤ 122)
def pD (f : Int → Int) (S a : Nat) : Bool := decide (48 ≤ byt f S a ∧ byt f S a ≤ 57)
def fB (f : Int → Int) : Prop := ∀ i, 0 ≤ i → i < 250 → 0 ≤ f i ∧ f i ≤ 255
theorem byt_in {f : Int → Int} {S a : Nat} (h : a < S) : byt f S a = f a := if_pos h
theorem byt_out {f : Int → Int} {S a : Nat} (h : S ≤ a) : byt f S a = -1 := if_neg (by omega)
/-- a number -/
def dv2 (f : Int → Int) (b k : Nat) : Int := if k = 0 then 0 else if k = 1 then f b - 48 else 10 * (f b - 48) + (f (b + 1 : Nat) - 48)
def nb (f : Int → Int) (S a : Nat) : Nat := go (txB f S) S a
def ne' (f : Int → Int) (S a : Nat) : Nat := go (pD f S) S (nb f S a)
def nv (f : Int → Int) (S a : Nat) : Int := dv2 f (nb f S a) (ne' f S a - nb f S a)
def nm (f : Int → Int) (S : Nat) (lo hi : Int) (a : Nat) : Nat ⊕ (Int × Nat) := if 1 ≤ ne' f S a - nb f S a ∧ ne' f S a - nb f S a ≤ 2 ∧ lo ≤ nv f S a ∧ nv f S a ≤ hi then .inr (nv f S a, ne' f S a) else .inl (nb f S a)
theorem nml {f : Int → Int} {S : Nat} {lo hi : Int} {a q : Nat} (h : nm f S lo hi a = .inl q) (ha : a ≤ S) : q = nb f S a ∧ q ≤ S := by
  unfold nm at h
  split at h
  · cases h
  · cases h
    exact ⟨rfl, (go_ok _ S _ a rfl ha).2.1⟩
theorem nmr {f : Int → Int} {S : Nat} {lo hi : Int} {a : Nat} {y : Int × Nat} (h : nm f S lo hi a = .inr y) (ha : a ≤ S) : lo ≤ y.1 ∧ y.1 ≤ hi ∧ a < y.2 ∧ y.2 ≤ S := by
  unfold nm at h
  split at h
  · next g =>
    cases h
    have h1 := go_ok (txB f S) S _ a rfl ha
    have h2 := go_ok (pD f S) S _ (nb f S a) rfl h1.2.1
    have h3 : a ≤ nb f S a := h1.1
    have h4 : ne' f S a ≤ S := h2.2.1
    exact ⟨g.2.2.1, g.2.2.2, by show a < ne' f S a; omega, h4⟩
  · cases h
/-- words -/
def txl (w : Nat) : Nat := lenST.getD w 0
def al (p : Nat → Bool) : Nat → Bool
  | 0 => true
  | n + 1 => al p n && p n
theorem al_f {p : Nat → Bool} {k : Nat} (h : p k = false) : ∀ {n : Nat}, k < n → al p n = false
  | n + 1, hk => by
    show (al p n && p n) = false
    by_cases e : k = n
    · rw [← e, h, Bool.and_false]
    · rw [al_f h (n := n) (by omega), Bool.false_and]
theorem al_t {p : Nat → Bool} : ∀ {n : Nat}, al p n = true → ∀ j, j < n → p j = true
  | n + 1, h, j, hj => by
    have h : (al p n && p n) = true := h
    rw [Bool.and_eq_true] at h
    by_cases e : j = n
    · rw [e]; exact h.2
    · exact al_t h.1 j (by omega)
theorem al_of {p : Nat → Bool} : ∀ {n : Nat}, (∀ j, j < n → p j = true) → al p n = true
  | 0, _ => rfl
  | n + 1, h => by
    show (al p n && p n) = true
    rw [al_of fun j hj => h j (by omega), h n (by omega)]
    rfl
def txW (f : Int → Int) (S t n w : Nat) : Bool := decide (n = txl w) && al (fun j => decide (byt f S (t + j) = chS w j)) (txl w)
def wdx (p : Nat → Bool) : Option Nat := if p 0 then some 0 else if p 1 then some 1 else if p 2 then some 2 else if p 3 then some 3 else if p 4 then some 4 else if p 5 then some 5 else if p 6 then some 6 else if p 7 then some 7 else none
/-- statements: a fault, or the next book and where one goes on -/
abbrev St : Type := Nat ⊕ (Bk × Nat)
def stP (f : Int → Int) (S : Nat) (B : Bk) (e t : Nat) : St := if 12 ≤ B 8 0 then .inl t else match nm f S 0 4 e with
  | .inl q => .inl q
  | .inr d => match nm f S 0 47 d.2 with
    | .inl q => .inl q
    | .inr s => match nm f S 1 12 s.2 with
      | .inl q => .inl q
      | .inr l => .inr (addP B d.1 s.1 l.1, l.2)
def stC (f : Int → Int) (S : Nat) (B : Bk) (e t : Nat) : St := if 10 ≤ B 8 1 then .inl t else match nm f S 0 5 e with
  | .inl q => .inl q
  | .inr k => match nm f S 0 9 k.2 with
    | .inl q => .inl q
    | .inr a => .inr (addC B k.1 a.1, a.2)
def stT (f : Int → Int) (S : Nat) (B : Bk) (e : Nat) : St := match nm f S 0 (B 8 1 - 1) e with
  | .inl q => .inl q
  | .inr c => match nm f S 0 (B 8 0 - 1) c.2 with
    | .inl q => .inl q
    | .inr p => if tk B c.1 p.1.toNat then .inr (B, p.2) else if fifth B c.1 p.1.toNat then .inl (nb f S c.2) else .inr (flp B c.1 p.1.toNat, p.2)
def stD (f : Int → Int) (S : Nat) (B : Bk) (e : Nat) : St := match nm f S 0 (B 8 1 - 1) e with
  | .inl q => .inl q
  | .inr c => match nm f S 0 (B 8 0 - 1) c.2 with
    | .inl q => .inl q
    | .inr p => if tk B c.1 p.1.toNat then .inr (flp B c.1 p.1.toNat, p.2) else .inr (B, p.2)
def stN (f : Int → Int) (S : Nat) (B : Bk) (e : Nat) : St := match nm f S 0 (B 8 1 - 1) e with
  | .inl q => .inl q
  | .inr c => .inr (mup B 5 c.1 1, c.2)
def stR (f : Int → Int) (S : Nat) (B : Bk) (e t : Nat) : St := if 6 ≤ B 8 2 then .inl t else match nm f S 1 9 e with
  | .inl q => .inl q
  | .inr s => .inr (addR B s.1, s.2)
def stH (f : Int → Int) (S : Nat) (B : Bk) (e : Nat) : St := match nm f S 8 40 e with
  | .inl q => .inl q
  | .inr s => .inr (mup B 8 3 s.1, s.2)
def stU (f : Int → Int) (S : Nat) (B : Bk) (e : Nat) : St := match nm f S 0 8 e with
  | .inl q => .inl q
  | .inr s => .inr (mup B 8 4 s.1, s.2)
def stW (f : Int → Int) (S : Nat) (B : Bk) (e t : Nat) (w : Option Nat) : St := match w with
  | none => .inl t
  | some 0 => stP f S B e t
  | some 1 => stC f S B e t
  | some 2 => stT f S B e
  | some 3 => stD f S B e
  | some 4 => stN f S B e
  | some 5 => stR f S B e t
  | some 6 => stH f S B e
  | some _ => stU f S B e
def stS (f : Int → Int) (S : Nat) (B : Bk) (a : Nat) : St := stW f S B (go (pL f S) S (nb f S a)) (nb f S a) (wdx (txW f S (nb f S a) (go (pL f S) S (nb f S a) - nb f S a)))
/-- what comes out is a book -/
def okO (S : Nat) (B : Bk) (e : Nat) (o : St) : Prop := match o with
  | .inl q => q ≤ S
  | .inr y => WF y.1 ∧ e < y.2 ∧ y.2 ≤ S ∧ B 8 1 ≤ y.1 8 1
theorem WF_m5 {B : Bk} (w : WF B) (c : Int) : WF (mup B 5 c 1) := by
  have e8 : mup B 5 c 1 8 = B 8 := mup_row (by decide)
  obtain ⟨w1, w2, w3, w4⟩ := w
  refine ⟨by unfold WFn; rw [e8]; exact w1, w2.of (mup_row (by decide)) (mup_row (by decide)) (mup_row (by decide)) (by rw [e8]), fun q q1 q2 => ?_, w4.of (mup_row (by decide)) (by rw [e8])⟩
  rw [e8] at q2
  obtain ⟨g1, g2, g3, g4, g5, g6⟩ := w3 q q1 q2
  rw [mup_row (show (3 : Int) ≠ 5 by decide), mup_row (show (4 : Int) ≠ 5 by decide), mup_row (show (6 : Int) ≠ 5 by decide), e8]
  refine ⟨g1, g2, ?_, g4, fun p hp => g5 p ?_, fun d => ?_⟩
  · by_cases e : q = c
    · rw [mup_hit rfl e]; exact Or.inr rfl
    · rw [mup_miss (fun z => e z.2)]; exact g3
  · unfold tk at hp ⊢
    rw [mup_row (by decide)] at hp
    exact hp
  · rw [od_congr (by rw [e8]) (mup_row (by decide)) (by rw [mup_row (by decide)])]
    exact g6 d
theorem WF_m83 {B : Bk} (w : WF B) {v : Int} (h : 8 ≤ v ∧ v ≤ 40) : WF (mup B 8 3 v) := by
  have e8 : ∀ i, i ≠ 3 → mup B 8 3 v 8 i = B 8 i := fun i hi => mup_miss (fun z => hi z.2)
  have hn := w.1
  unfold WFn at hn
  obtain ⟨w1, w2, w3, w4⟩ := w
  refine ⟨?_, w2.of (mup_row (by decide)) (mup_row (by decide)) (mup_row (by decide)) (e8 _ (by decide)), w3.of (mup_row (by decide)) (mup_row (by decide)) (mup_row (by decide)) (mup_row (by decide)) (mup_row (by decide)) (e8 _ (by decide)) (e8 _ (by decide)), w4.of (mup_row (by decide)) (e8 _ (by decide))⟩
  unfold WFn
  rw [e8 0 (by decide), e8 1 (by decide), e8 2 (by decide), e8 4 (by decide), e8 5 (by decide), mup_hit rfl rfl]
  exact ⟨hn.1, hn.2.1, hn.2.2.1, h, hn.2.2.2.2⟩
theorem WF_m84 {B : Bk} (w : WF B) {v : Int} (h : 0 ≤ v ∧ v ≤ 8) : WF (mup B 8 4 v) := by
  have e8 : ∀ i, i ≠ 4 → mup B 8 4 v 8 i = B 8 i := fun i hi => mup_miss (fun z => hi z.2)
  have hn := w.1
  unfold WFn at hn
  obtain ⟨w1, w2, w3, w4⟩ := w
  refine ⟨?_, w2.of (mup_row (by decide)) (mup_row (by decide)) (mup_row (by decide)) (e8 _ (by decide)), w3.of (mup_row (by decide)) (mup_row (by decide)) (mup_row (by decide)) (mup_row (by decide)) (mup_row (by decide)) (e8 _ (by decide)) (e8 _ (by decide)), w4.of (mup_row (by decide)) (e8 _ (by decide))⟩
  unfold WFn
  rw [e8 0 (by decide), e8 1 (by decide), e8 2 (by decide), e8 3 (by decide), e8 5 (by decide), mup_hit rfl rfl]
  exact ⟨hn.1, hn.2.1, hn.2.2.1, hn.2.2.2.1, h, hn.2.2.2.2.2⟩
theorem okO_W {f : Int → Int} {S : Nat} {B : Bk} (w : WF B) {e t : Nat} (he : e ≤ S) (ht : t ≤ S) (x : Option Nat) : okO S B e (stW f S B e t x) := by
  have hn := w.1
  unfold WFn at hn
  have hP : okO S B e (stP f S B e t) := by
    unfold stP
    split
    · exact ht
    · cases h1 : nm f S 0 4 e with
      | inl q => exact (nml h1 he).2
      | inr d =>
        obtain ⟨d1, d2, d3, d4⟩ := nmr h1 he
        show okO S B e (match nm f S 0 47 d.2 with | .inl q => .inl q | .inr s => _)
        cases h2 : nm f S 0 47 d.2 with
        | inl q => exact (nml h2 d4).2
        | inr s =>
          obtain ⟨s1, s2, s3, s4⟩ := nmr h2 d4
          show okO S B e (match nm f S 1 12 s.2 with | .inl q => .inl q | .inr s => _)
          cases h3 : nm f S 1 12 s.2 with
          | inl q => exact (nml h3 s4).2
          | inr l =>
            obtain ⟨l1, l2, l3, l4⟩ := nmr h3 s4
            exact ⟨WF_addP w (by omega) (by omega) (by omega) (by omega), by show e < l.2; omega, l4, by show B 8 1 ≤ addP B d.1 s.1 l.1 8 1; rw [addP_8.2 1 (by decide)]; exact Int.le_refl _⟩
  have hC : okO S B e (stC f S B e t) := by
    unfold stC
    split
    · exact ht
    · cases h1 : nm f S 0 5 e with
      | inl q => exact (nml h1 he).2
      | inr d =>
        obtain ⟨d1, d2, d3, d4⟩ := nmr h1 he
        show okO S B e (match nm f S 0 9 d.2 with | .inl q => .inl q | .inr s => _)
        cases h2 : nm f S 0 9 d.2 with
        | inl q => exact (nml h2 d4).2
        | inr s =>
          obtain ⟨s1, s2, s3, s4⟩ := nmr h2 d4
          exact ⟨WF_addC w (by omega) (by omega) (by omega), by show e < s.2; omega, s4, by show B 8 1 ≤ addC B d.1 s.1 8 1; rw [addC_8.1]; omega⟩
  have e8 : ∀ (c : Int) (p : Nat), B 8 1 ≤ flp B c p 8 1 := fun c p => by rw [flp_r (by decide)]; exact Int.le_refl _
  have hT : okO S B e (stT f S B e) := by
    unfold stT
    cases h1 : nm f S 0 (B 8 1 - 1) e with
    | inl q => exact (nml h1 he).2
    | inr d =>
      obtain ⟨d1, d2, d3, d4⟩ := nmr h1 he
      show okO S B e (match nm f S 0 (B 8 0 - 1) d.2 with | .inl q => .inl q | .inr s => _)
      cases h2 : nm f S 0 (B 8 0 - 1) d.2 with
      | inl q => exact (nml h2 d4).2
      | inr s =>
        obtain ⟨s1, s2, s3, s4⟩ := nmr h2 d4
        show okO S B e (if tk B d.1 s.1.toNat = true then _ else _)
        split
        · exact ⟨w, by show e < s.2; omega, s4, Int.le_refl _⟩
        · split
          · exact (go_ok _ S _ _ rfl d4).2.1
          · next hf => exact ⟨WF_flp w d1 (by omega) (by omega) (by rw [Bool.not_eq_true] at hf; exact hf), by show e < s.2; omega, s4, e8 d.1 s.1.toNat⟩
  have hD : okO S B e (stD f S B e) := by
    unfold stD
    cases h1 : nm f S 0 (B 8 1 - 1) e with
    | inl q => exact (nml h1 he).2
    | inr d =>
      obtain ⟨d1, d2, d3, d4⟩ := nmr h1 he
      show okO S B e (match nm f S 0 (B 8 0 - 1) d.2 with | .inl q => .inl q | .inr s => _)
      cases h2 : nm f S 0 (B 8 0 - 1) d.2 with
      | inl q => exact (nml h2 d4).2
      | inr s =>
        obtain ⟨s1, s2, s3, s4⟩ := nmr h2 d4
        show okO S B e (if tk B d.1 s.1.toNat = true then _ else _)
        split
        · next hk => exact ⟨WF_flp w d1 (by omega) (by omega) (by unfold fifth; rw [hk]; rfl), by show e < s.2; omega, s4, e8 d.1 s.1.toNat⟩
        · exact ⟨w, by show e < s.2; omega, s4, Int.le_refl _⟩
  have hN : okO S B e (stN f S B e) := by
    unfold stN
    cases h1 : nm f S 0 (B 8 1 - 1) e with
    | inl q => exact (nml h1 he).2
    | inr d =>
      obtain ⟨d1, d2, d3, d4⟩ := nmr h1 he
      exact ⟨WF_m5 w _, d3, d4, by show B 8 1 ≤ mup B 5 d.1 1 8 1; rw [mup_row (by decide)]; exact Int.le_refl _⟩
  have hR : okO S B e (stR f S B e t) := by
    unfold stR
    split
    · exact ht
    · cases h1 : nm f S 1 9 e with
      | inl q => exact (nml h1 he).2
      | inr d =>
        obtain ⟨d1, d2, d3, d4⟩ := nmr h1 he
        exact ⟨WF_addR w (by omega) (by omega), d3, d4, by show B 8 1 ≤ addR B d.1 8 1; rw [addR_8.2 1 (by decide)]; exact Int.le_refl _⟩
  have hH : okO S B e (stH f S B e) := by
    unfold stH
    cases h1 : nm f S 8 40 e with
    | inl q => exact (nml h1 he).2
    | inr d =>
      obtain ⟨d1, d2, d3, d4⟩ := nmr h1 he
      exact ⟨WF_m83 w (by omega), d3, d4, by show B 8 1 ≤ mup B 8 3 d.1 8 1; rw [mup_miss (by decide)]; exact Int.le_refl _⟩
  have hU : okO S B e (stU f S B e) := by
    unfold stU
    cases h1 : nm f S 0 8 e with
    | inl q => exact (nml h1 he).2
    | inr d =>
      obtain ⟨d1, d2, d3, d4⟩ := nmr h1 he
      exact ⟨WF_m84 w (by omega), d3, d4, by show B 8 1 ≤ mup B 8 4 d.1 8 1; rw [mup_miss (by decide)]; exact Int.le_refl _⟩
  unfold stW
  split
  · exact ht
  · exact hP
  · exact hC
  · exact hT
  · exact hD
  · exact hN
  · exact hR
  · exact hH
  · exact hU
theorem okO_S {f : Int → Int} {S : Nat} {B : Bk} (w : WF B) {a : Nat} (ha : a ≤ S) : okO S B a (stS f S B a) := by
  have h1 := go_ok (txB f S) S _ a rfl ha
  have h2 := go_ok (pL f S) S _ (nb f S a) rfl h1.2.1
  have h3 : a ≤ nb f S a := h1.1
  have h := okO_W (f := f) w (e := go (pL f S) S (nb f S a)) (t := nb f S a) h2.2.1 h1.2.1 (wdx (txW f S (nb f S a) (go (pL f S) S (nb f S a) - nb f S a)))
  show okO S B a (stW f S B (go (pL f S) S (nb f S a)) (nb f S a) (wdx (txW f S (nb f S a) (go (pL f S) S (nb f S a) - nb f S a))))
  cases hs : stW f S B (go (pL f S) S (nb f S a)) (nb f S a) (wdx (txW f S (nb f S a) (go (pL f S) S (nb f S a) - nb f S a))) with
  | inl q => rw [hs] at h; exact h
  | inr y =>
    rw [hs] at h
    obtain ⟨g1, g2, g3, g4⟩ := h
    exact ⟨g1, by have := h2.1; omega, g3, g4⟩
