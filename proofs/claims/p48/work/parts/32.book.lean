/-! THE BOOK as numbers: B 0 p day, B 1 p start, B 2 p length, B 3 c kind, B 4 c a, B 5 c night, B 6 c takes, B 7 r seats, B 8 0.. papers, cands, rooms, hours, turn, seed -/
abbrev Bk : Type := Int → Int → Int
def isBk (σ : Mem) (b : Int) (B : Bk) : Prop := (∀ i, 0 ≤ i → i < 12 → σ (b + 1) i = B 0 i) ∧ (∀ i, 0 ≤ i → i < 12 → σ (b + 2) i = B 1 i) ∧ (∀ i, 0 ≤ i → i < 12 → σ (b + 3) i = B 2 i) ∧ (∀ i, 0 ≤ i → i < 10 → σ (b + 4) i = B 3 i) ∧ (∀ i, 0 ≤ i → i < 10 → σ (b + 5) i = B 4 i) ∧ (∀ i, 0 ≤ i → i < 10 → σ (b + 6) i = B 5 i) ∧ (∀ i, 0 ≤ i → i < 10 → σ (b + 7) i = B 6 i) ∧ (∀ i, 0 ≤ i → i < 6 → σ (b + 8) i = B 7 i) ∧ σ b 8 = B 8 0 ∧ σ b 9 = B 8 1 ∧ σ b 10 = B 8 2 ∧ σ b 11 = B 8 3 ∧ σ b 12 = B 8 4 ∧ σ b 13 = B 8 5
def isRk (_σ : Mem) (_k : Int) (_B : Bk) : Prop := True
section
variable {σ : Mem} {b k : Int} {B : Bk}
theorem isBk.day (h : isBk σ b B) {i : Int} (h1 : 0 ≤ i) (h2 : i < 12) : σ (b + 1) i = B 0 i := h.1 i h1 h2
theorem isBk.start (h : isBk σ b B) {i : Int} (h1 : 0 ≤ i) (h2 : i < 12) : σ (b + 2) i = B 1 i := h.2.1 i h1 h2
theorem isBk.len (h : isBk σ b B) {i : Int} (h1 : 0 ≤ i) (h2 : i < 12) : σ (b + 3) i = B 2 i := h.2.2.1 i h1 h2
theorem isBk.kind (h : isBk σ b B) {i : Int} (h1 : 0 ≤ i) (h2 : i < 10) : σ (b + 4) i = B 3 i := h.2.2.2.1 i h1 h2
theorem isBk.a (h : isBk σ b B) {i : Int} (h1 : 0 ≤ i) (h2 : i < 10) : σ (b + 5) i = B 4 i := h.2.2.2.2.1 i h1 h2
theorem isBk.night (h : isBk σ b B) {i : Int} (h1 : 0 ≤ i) (h2 : i < 10) : σ (b + 6) i = B 5 i := h.2.2.2.2.2.1 i h1 h2
theorem isBk.takes (h : isBk σ b B) {i : Int} (h1 : 0 ≤ i) (h2 : i < 10) : σ (b + 7) i = B 6 i := h.2.2.2.2.2.2.1 i h1 h2
theorem isBk.seats (h : isBk σ b B) {i : Int} (h1 : 0 ≤ i) (h2 : i < 6) : σ (b + 8) i = B 7 i := h.2.2.2.2.2.2.2.1 i h1 h2
theorem isBk.nP (h : isBk σ b B) : σ b 8 = B 8 0 := h.2.2.2.2.2.2.2.2.1
theorem isBk.nC (h : isBk σ b B) : σ b 9 = B 8 1 := h.2.2.2.2.2.2.2.2.2.1
theorem isBk.nR (h : isBk σ b B) : σ b 10 = B 8 2 := h.2.2.2.2.2.2.2.2.2.2.1
theorem isBk.hours (h : isBk σ b B) : σ b 11 = B 8 3 := h.2.2.2.2.2.2.2.2.2.2.2.1
theorem isBk.turn (h : isBk σ b B) : σ b 12 = B 8 4 := h.2.2.2.2.2.2.2.2.2.2.2.2.1
theorem isBk.seed (h : isBk σ b B) : σ b 13 = B 8 5 := h.2.2.2.2.2.2.2.2.2.2.2.2.2
theorem isBk.rows {τ : Mem} (h : isBk σ b B) (e : ∀ x, b ≤ x → x ≤ b + 8 → τ x = σ x) : isBk τ b B := by
  unfold isBk
  rw [e b (by omega) (by omega), e (b + 1) (by omega) (by omega), e (b + 2) (by omega) (by omega), e (b + 3) (by omega) (by omega), e (b + 4) (by omega) (by omega), e (b + 5) (by omega) (by omega), e (b + 6) (by omega) (by omega), e (b + 7) (by omega) (by omega), e (b + 8) (by omega) (by omega)]
  exact h
theorem isRk.row {σ τ : Mem} {k : Int} {B : Bk} (_h : isRk σ k B) (_e : τ k = σ k) : isRk τ k B := trivial
end
/-- what a candidate takes -/
def tk (B : Bk) (c : Int) (p : Nat) : Bool := (B 6 c).toNat.testBit p
/-- the papers of a day that one takes, as a mask -/
def od (B : Bk) (c d : Int) : Nat := mset (fun p => decide ((p : Int) < B 8 0) && decide (B 0 p = d) && tk B c p) 12
def ppl (B : Bk) (d : Int) : Nat := mset (fun p => decide ((p : Int) < B 8 0) && decide (B 0 p = d)) 12
def fifth (B : Bk) (c : Int) (p : Nat) : Bool := !tk B c p && decide (cnt (fun i => (od B c (B 0 p)).testBit i) 12 = 4)
def WFp (B : Bk) : Prop := ∀ p, 0 ≤ p → p < B 8 0 → (0 ≤ B 0 p ∧ B 0 p < 5) ∧ (0 ≤ B 1 p ∧ B 1 p < 48) ∧ (1 ≤ B 2 p ∧ B 2 p ≤ 12)
def WFc (B : Bk) : Prop := ∀ c, 0 ≤ c → c < B 8 1 → (0 ≤ B 3 c ∧ B 3 c ≤ 5) ∧ (0 ≤ B 4 c ∧ B 4 c ≤ 9) ∧ (B 5 c = 0 ∨ B 5 c = 1) ∧ (0 ≤ B 6 c ∧ B 6 c < 4096) ∧ (∀ p : Nat, tk B c p = true → (p : Int) < B 8 0) ∧ ∀ d, cnt (fun i => (od B c d).testBit i) 12 ≤ 4
def WFr (B : Bk) : Prop := ∀ r, 0 ≤ r → r < B 8 2 → 1 ≤ B 7 r ∧ B 7 r ≤ 9
def WFn (B : Bk) : Prop := (0 ≤ B 8 0 ∧ B 8 0 ≤ 12) ∧ (0 ≤ B 8 1 ∧ B 8 1 ≤ 10) ∧ (0 ≤ B 8 2 ∧ B 8 2 ≤ 6) ∧ (8 ≤ B 8 3 ∧ B 8 3 ≤ 40) ∧ (0 ≤ B 8 4 ∧ B 8 4 ≤ 8) ∧ in32 (B 8 5)
def WF (B : Bk) : Prop := WFn B ∧ WFp B ∧ WFc B ∧ WFr B
/-- TIME and REST -/
def tmK (kind a len : Int) : Int := if kind = 1 then len + (len * a + 9) / 10 else if kind = 3 then len + (len * a + 9) / 10 + 1 else if kind = 5 then len + 2 else len
def rsK (kind a : Int) : Int := if kind = 2 then 1 + a / 3 else if kind = 4 then 2 * (1 + a / 3) else if kind = 5 then 2 else 1
def tm (B : Bk) (c p : Int) : Int := tmK (B 3 c) (B 4 c) (B 2 p)
def rs (B : Bk) (c : Int) : Int := rsK (B 3 c) (B 4 c)
theorem X2_timeOf {σ : Mem} {k a l : Int} (hk : 0 ≤ k ∧ k ≤ 5) (ha : 0 ≤ a ∧ a ≤ 9) (hl : 1 ≤ l ∧ l ≤ 12) : f_X2_timeOf σ k a l = some (tmK k a l) := by
  obtain ⟨k, rfl⟩ := n_of hk.1; obtain ⟨a, rfl⟩ := n_of ha.1; obtain ⟨l, rfl⟩ := n_of (show 0 ≤ l by omega)
  show f_X2_timeOf (fun _ _ => 0) k a l = _
  exact (by decide +kernel : ∀ k : Nat, k < 6 → ∀ a : Nat, a < 10 → ∀ l : Nat, l < 13 → f_X2_timeOf (fun _ _ => 0) k a l = some (tmK k a l)) k (by omega) a (by omega) l (by omega)
theorem X2_restOf {σ : Mem} {k a : Int} (hk : 0 ≤ k ∧ k ≤ 5) (ha : 0 ≤ a ∧ a ≤ 9) : f_X2_restOf σ k a = some (rsK k a) := by
  obtain ⟨k, rfl⟩ := n_of hk.1; obtain ⟨a, rfl⟩ := n_of ha.1
  show f_X2_restOf (fun _ _ => 0) k a = _
  exact (by decide +kernel : ∀ k : Nat, k < 6 → ∀ a : Nat, a < 10 → f_X2_restOf (fun _ _ => 0) k a = some (rsK k a)) k (by omega) a (by omega)
theorem tmK_b {k a l : Int} (hk : 0 ≤ k ∧ k ≤ 5) (ha : 0 ≤ a ∧ a ≤ 9) (hl : 1 ≤ l ∧ l ≤ 12) : 1 ≤ tmK k a l ∧ tmK k a l ≤ 24 := by
  obtain ⟨k, rfl⟩ := n_of hk.1; obtain ⟨a, rfl⟩ := n_of ha.1; obtain ⟨l, rfl⟩ := n_of (show 0 ≤ l by omega)
  have := (by decide +kernel : ∀ k : Nat, k < 6 → ∀ a : Nat, a < 10 → ∀ l : Nat, l < 13 → 1 ≤ l → 1 ≤ tmK k a l ∧ tmK k a l ≤ 24) k (by omega) a (by omega) l (by omega) (by omega)
  exact this
theorem rsK_b {k a : Int} (hk : 0 ≤ k ∧ k ≤ 5) (ha : 0 ≤ a ∧ a ≤ 9) : 1 ≤ rsK k a ∧ rsK k a ≤ 8 := by
  obtain ⟨k, rfl⟩ := n_of hk.1; obtain ⟨a, rfl⟩ := n_of ha.1
  exact (by decide +kernel : ∀ k : Nat, k < 6 → ∀ a : Nat, a < 10 → 1 ≤ rsK k a ∧ rsK k a ≤ 8) k (by omega) a (by omega)
section
variable {σ : Mem} {b : Int} {B : Bk}
theorem tm_b (w : WF B) {c p : Int} (hc : 0 ≤ c) (hc2 : c < B 8 1) (hp : 0 ≤ p) (hp2 : p < B 8 0) : 1 ≤ tm B c p ∧ tm B c p ≤ 24 := tmK_b (w.2.2.1 c hc hc2).1 (w.2.2.1 c hc hc2).2.1 (w.2.1 p hp hp2).2.2
theorem rs_b (w : WF B) {c : Int} (hc : 0 ≤ c) (hc2 : c < B 8 1) : 1 ≤ rs B c ∧ rs B c ≤ 8 := rsK_b (w.2.2.1 c hc hc2).1 (w.2.2.1 c hc hc2).2.1
theorem X0_timeFor (hB : isBk σ b B) (w : WF B) {c p : Int} (hc : 0 ≤ c) (hc2 : c < B 8 1) (hp : 0 ≤ p) (hp2 : p < B 8 0) : f_X0_timeFor σ b c p = some (tm B c p) := by
  have hn := w.1
  unfold WFn at hn
  unfold f_X0_timeFor
  rw [chk_pos (by omega), chk_pos (by omega), chk_pos (by omega), hB.kind hc (by omega), hB.a hc (by omega), hB.len hp (by omega), X2_timeOf (w.2.2.1 c hc hc2).1 (w.2.2.1 c hc hc2).2.1 (w.2.1 p hp hp2).2.2]
  rfl
theorem X0_restFor (hB : isBk σ b B) (w : WF B) {c : Int} (hc : 0 ≤ c) (hc2 : c < B 8 1) : f_X0_restFor σ b c = some (rs B c) := by
  have hn := w.1
  unfold WFn at hn
  unfold f_X0_restFor
  rw [chk_pos (by omega), chk_pos (by omega), hB.kind hc (by omega), hB.a hc (by omega), X2_restOf (w.2.2.1 c hc hc2).1 (w.2.2.1 c hc hc2).2.1]
  rfl
theorem tk_n {B : Bk} {c : Int} (h : 0 ≤ B 6 c) : ∃ m : Nat, B 6 c = m := n_of h
theorem X0_doesTake (hB : isBk σ b B) (w : WF B) {c : Int} {p : Nat} (hc : 0 ≤ c) (hc2 : c < B 8 1) (hp : p < 31) : f_X0_doesTake σ b c p = some (if tk B c p then 1 else 0) := by
  have hn := w.1
  unfold WFn at hn
  have hk := (w.2.2.1 c hc hc2).2.2.2.1
  unfold f_X0_doesTake
  rw [chk_pos (by omega), hB.takes hc (by omega)]
  obtain ⟨m, hm⟩ := n_of hk.1
  unfold tk
  rw [hm, Int.toNat_natCast, hasBit_n (by omega) hp]
  show chk _ _ = _
  rw [chk_pos (by split <;> simp)]
theorem mset_cut {f : Nat → Bool} {n : Nat} (h : ∀ i, n ≤ i → f i = false) : ∀ m, n ≤ m → mset f m = mset f n
  | 0, hm => by have : n = 0 := by omega
                subst this; rfl
  | m + 1, hm => by
    by_cases e : n = m + 1
    · subst e; rfl
    · show (if f m then mset f m ||| 2 ^ m else mset f m) = _
      rw [h m (by omega), if_neg (by decide)]
      exact mset_cut h m (by omega)
theorem X0_papersOf (hB : isBk σ b B) (w : WF B) (d : Int) : f_X0_papersOf σ b d = some ((ppl B d : Nat) : Int) := by
  have hn := w.1
  unfold WFn at hn
  obtain ⟨n, en⟩ := n_of hn.1.1
  have hres : ppl B d = mset (fun p => decide ((p : Int) < B 8 0) && decide (B 0 p = d)) n := mset_cut (fun i hi => by simp; omega) 12 (by omega)
  rw [hres]
  unfold f_X0_papersOf f_X0_papersOf_4
  have key := loop_is (f := f_X0_papersOf_4B σ b d) (P := fun a => ∃ k : Nat, a = (((mset (fun p => decide ((p : Int) < B 8 0) && decide (B 0 p = d)) k : Nat) : Int), (k : Int)) ∧ k ≤ n) (μ := fun a => (12 - a.2).toNat) (r := ((mset (fun p => decide ((p : Int) < B 8 0) && decide (B 0 p = d)) n : Nat) : Int)) ?_ (a := (0, 0)) ⟨0, rfl, by omega⟩ (by decide)
  · rw [key]; rfl
  · rintro a ⟨k, rfl, hk⟩
    show (∃ a', f_X0_papersOf_4C σ b d _ _ = _ ∧ _) ∨ f_X0_papersOf_4C σ b d _ _ = _
    unfold f_X0_papersOf_4C
    rw [hB.nP]
    by_cases hkn : B 8 0 ≤ k
    · right
      rw [if_pos hkn]
      have : k = n := by omega
      subst this; rfl
    · left
      have hm := mset_lt (fun p => decide ((p : Int) < B 8 0) && decide (B 0 p = d)) k
      have hp12 : (2 : Nat) ^ k ≤ 2 ^ 12 := Nat.pow_le_pow_right (by decide) (by omega)
      rw [if_neg hkn, chk_pos (by omega), hB.day (by omega) (by omega)]
      refine ⟨(((mset (fun p => decide ((p : Int) < B 8 0) && decide (B 0 p = d)) (k + 1) : Nat) : Int), ((k + 1 : Nat) : Int)), ?_, ⟨k + 1, rfl, by omega⟩, by show (12 - ((k + 1 : Nat) : Int)).toNat < (12 - (k : Int)).toNat; omega⟩
      have e1 : jadd (k : Int) 1 = ((k + 1 : Nat) : Int) := by rw [jadd_ok (by omega) (by omega)]; omega
      by_cases hd : B 0 k = d
      · rw [if_neg (by simpa using hd), jshl_n (by omega), jor_n (by omega) (by omega)]
        unfold f_X0_papersOf_28
        rw [e1]
        have : mset (fun p => decide ((p : Int) < B 8 0) && decide (B 0 p = d)) (k + 1) = mset (fun p => decide ((p : Int) < B 8 0) && decide (B 0 p = d)) k ||| 2 ^ k := by
          show (if _ then _ else _) = _
          rw [if_pos (by simp [hd]; omega)]
        rw [this]; rfl
      · rw [if_pos hd]
        unfold f_X0_papersOf_28
        rw [e1]
        have : mset (fun p => decide ((p : Int) < B 8 0) && decide (B 0 p = d)) (k + 1) = mset (fun p => decide ((p : Int) < B 8 0) && decide (B 0 p = d)) k := by
          show (if _ then _ else _) = _
          rw [if_neg (by simp [hd])]
        rw [this]; rfl
theorem msk_n {a n : Nat} (h : ∀ i, a.testBit i = true → i < n) : a < 2 ^ n := by
  apply Nat.lt_pow_two_of_testBit
  intro i hi
  cases hb : a.testBit i with
  | false => rfl
  | true => have := h i hb; omega
theorem od_lt (B : Bk) (c d : Int) : od B c d < 4096 := mset_lt _ 12
theorem od_tb (B : Bk) (c d : Int) (i : Nat) : (od B c d).testBit i = (decide (i < 12) && (decide ((i : Int) < B 8 0) && decide (B 0 i = d) && tk B c i)) := mset_tb _ _ _
theorem od_and (w : WF B) {c : Int} (hc : 0 ≤ c) (hc2 : c < B 8 1) (d : Int) : (B 6 c).toNat &&& ppl B d = od B c d := by
  have hk := (w.2.2.1 c hc hc2).2.2.2.1
  apply Nat.eq_of_testBit_eq
  intro i
  rw [Nat.testBit_and, od_tb]
  unfold ppl tk
  rw [mset_tb]
  cases (B 6 c).toNat.testBit i <;> simp
theorem takes_od (hB : isBk σ b B) (w : WF B) {c d : Int} (hc : 0 ≤ c) (hc2 : c < B 8 1) : jand (σ (b + 7) c) ((ppl B d : Nat) : Int) = ((od B c d : Nat) : Int) := by
  have hn := w.1
  unfold WFn at hn
  have hk := (w.2.2.1 c hc hc2).2.2.2.1
  have hp := mset_lt (fun p => decide ((p : Int) < B 8 0) && decide (B 0 p = d)) 12
  rw [hB.takes hc (by omega), ← od_and w hc hc2]
  obtain ⟨m, hm⟩ := n_of hk.1
  rw [hm, Int.toNat_natCast, jand_n (by omega) (by unfold ppl; omega)]
theorem X0_mayFlip (hB : isBk σ b B) (w : WF B) {c : Int} {p : Nat} (hc : 0 ≤ c) (hc2 : c < B 8 1) (hp2 : (p : Int) < B 8 0) : f_X0_mayFlip σ b c p = some (if fifth B c p then 0 else 1) := by
  have hn := w.1
  unfold WFn at hn
  have h4 := (w.2.2.1 c hc hc2).2.2.2.2.2 (B 0 p)
  unfold f_X0_mayFlip
  rw [bind_some' (X0_doesTake hB w hc hc2 (by omega))]
  unfold fifth
  cases ht : tk B c p with
  | true => rfl
  | false =>
    simp only [Bool.not_false, Bool.true_and, Bool.false_eq_true, if_false]
    rw [if_neg (by decide), chk_pos (by omega), chk_pos (by omega), hB.day (by omega) (by omega), bind_some' (X0_papersOf hB w _), takes_od hB w hc hc2, bind_some' (bitCount32_n (od_lt _ _ _))]
    by_cases h : cnt (fun i => (od B c (B 0 p)).testBit i) 12 = 4
    · rw [h]; rfl
    · rw [if_neg (by omega), if_neg (by simpa using h)]; rfl
theorem jxor_bit {m p : Nat} (hm : m < 4096) (hp : p < 12) : jxor (m : Int) (jshl 1 (p : Int)) = ((m ^^^ 2 ^ p : Nat) : Int) := by
  have h2 : (2 : Nat) ^ p < 2 ^ 12 := Nat.pow_lt_pow_right (by decide) hp
  rw [jshl_n (by omega), jxor_n (by omega) (by omega)]
/-- a paper taken, or not any more -/
def flp (B : Bk) (c : Int) (p : Nat) : Bk := mup B 6 c (((B 6 c).toNat ^^^ 2 ^ p : Nat) : Int)
theorem X0_flip (hB : isBk σ b B) (w : WF B) {c : Int} {p : Nat} (hc : 0 ≤ c) (hc2 : c < B 8 1) (hp : p < 12) : f_X0_flip σ b c p = some (mup σ (b + 7) c (((B 6 c).toNat ^^^ 2 ^ p : Nat) : Int)) := by
  have hn := w.1
  unfold WFn at hn
  have hk := (w.2.2.1 c hc hc2).2.2.2.1
  unfold f_X0_flip
  rw [chk_pos (by omega), chk_pos (by omega), hB.takes hc (by omega)]
  obtain ⟨m, hm⟩ := n_of hk.1
  rw [hm, jxor_bit (by omega) hp, Int.toNat_natCast]
  rfl
theorem isBk.put (hB : isBk σ b B) {t i v : Int} (ht : 0 ≤ t) (ht2 : t < 8) : isBk (mup σ (b + 1 + t) i v) b (mup B t i v) := by
  have q : ∀ (a u j : Int), a = b + 1 + u → σ a j = B u j → mup σ (b + 1 + t) i v a j = mup B t i v u j := fun a u j e h => by
    by_cases g : u = t ∧ j = i
    · rw [mup_hit (by omega) g.2, mup_hit g.1 g.2]
    · rw [mup_miss (by omega), mup_miss g, h]
  have q8 : ∀ (j u : Int), σ b j = B 8 u → mup σ (b + 1 + t) i v b j = mup B t i v 8 u := fun j u h => by rw [mup_miss (by omega), mup_miss (by omega), h]
  exact ⟨fun j h1 h2 => q _ 0 j (by omega) (hB.day h1 h2), fun j h1 h2 => q _ 1 j (by omega) (hB.start h1 h2), fun j h1 h2 => q _ 2 j (by omega) (hB.len h1 h2), fun j h1 h2 => q _ 3 j (by omega) (hB.kind h1 h2), fun j h1 h2 => q _ 4 j (by omega) (hB.a h1 h2), fun j h1 h2 => q _ 5 j (by omega) (hB.night h1 h2), fun j h1 h2 => q _ 6 j (by omega) (hB.takes h1 h2), fun j h1 h2 => q _ 7 j (by omega) (hB.seats h1 h2), q8 _ _ hB.nP, q8 _ _ hB.nC, q8 _ _ hB.nR, q8 _ _ hB.hours, q8 _ _ hB.turn, q8 _ _ hB.seed⟩
theorem isBk.putn (hB : isBk σ b B) {i v : Int} : isBk (mup σ b (8 + i) v) b (mup B 8 i v) := by
  have q : ∀ (a u j : Int), b < a → u ≠ 8 → σ a j = B u j → mup σ b (8 + i) v a j = mup B 8 i v u j := fun a u j e1 e2 h => by rw [mup_miss (by omega), mup_miss (by omega), h]
  have q8 : ∀ (j u : Int), j = 8 + u → σ b j = B 8 u → mup σ b (8 + i) v b j = mup B 8 i v 8 u := fun j u e h => by
    by_cases g : u = i
    · rw [mup_hit rfl (by omega), mup_hit rfl g]
    · rw [mup_miss (by omega), mup_miss (by omega), h]
  exact ⟨fun j h1 h2 => q _ 0 j (by omega) (by decide) (hB.day h1 h2), fun j h1 h2 => q _ 1 j (by omega) (by decide) (hB.start h1 h2), fun j h1 h2 => q _ 2 j (by omega) (by decide) (hB.len h1 h2), fun j h1 h2 => q _ 3 j (by omega) (by decide) (hB.kind h1 h2), fun j h1 h2 => q _ 4 j (by omega) (by decide) (hB.a h1 h2), fun j h1 h2 => q _ 5 j (by omega) (by decide) (hB.night h1 h2), fun j h1 h2 => q _ 6 j (by omega) (by decide) (hB.takes h1 h2), fun j h1 h2 => q _ 7 j (by omega) (by decide) (hB.seats h1 h2), q8 _ 0 (by omega) hB.nP, q8 _ 1 (by omega) hB.nC, q8 _ 2 (by omega) hB.nR, q8 _ 3 (by omega) hB.hours, q8 _ 4 (by omega) hB.turn, q8 _ 5 (by omega) hB.seed⟩
end
