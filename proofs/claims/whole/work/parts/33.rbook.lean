/-! THE BOOK, the reference's side -/
section
variable {σ : Mem} {B : Bk}
theorem X11_isIn (x lo hi : Int) : f_X11_isIn σ x lo hi = some (if lo ≤ x ∧ x ≤ hi then 1 else 0) := by
  unfold f_X11_isIn
  by_cases h1 : x < lo
  · rw [if_pos h1, if_neg (by omega)]
  · rw [if_neg h1]
    by_cases h2 : hi < x
    · rw [if_pos h2, if_neg (by omega)]
    · rw [if_neg h2, if_pos (by omega)]
theorem b01 {c : Prop} [Decidable c] : (if c then (1 : Int) else 0) = 0 ∨ (if c then (1 : Int) else 0) = 1 := by split <;> simp
theorem X11_isPaper (hR : isRk σ 182 B) (w : WF B) (p : Int) : f_X11_isPaper σ p = some (if 0 ≤ p ∧ p < B 8 0 then 1 else 0) := by
  have hn := w.1
  unfold WFn at hn
  unfold f_X11_isPaper
  rw [chk_pos (by decide), hR.nP, jsub_ok (by omega) (by omega), bind_some' (X11_isIn _ _ _), chk_pos b01]
  by_cases h : 0 ≤ p ∧ p < B 8 0
  · rw [if_pos h, if_pos (by omega)]
  · rw [if_neg h, if_neg (by omega)]
theorem X11_isCand (hR : isRk σ 182 B) (w : WF B) (p : Int) : f_X11_isCand σ p = some (if 0 ≤ p ∧ p < B 8 1 then 1 else 0) := by
  have hn := w.1
  unfold WFn at hn
  unfold f_X11_isCand
  rw [chk_pos (by decide), hR.nC, jsub_ok (by omega) (by omega), bind_some' (X11_isIn _ _ _), chk_pos b01]
  by_cases h : 0 ≤ p ∧ p < B 8 1
  · rw [if_pos h, if_pos (by omega)]
  · rw [if_neg h, if_neg (by omega)]
theorem X11_isDay (d : Int) : f_X11_isDay σ d = some (if 0 ≤ d ∧ d < 5 then 1 else 0) := by
  unfold f_X11_isDay
  rw [bind_some' (X11_isIn _ _ _), chk_pos b01]
  by_cases h : 0 ≤ d ∧ d < 5
  · rw [if_pos h, if_pos (by omega)]
  · rw [if_neg h, if_neg (by omega)]
theorem X11_isSlot (d : Int) : f_X11_isSlot σ d = some (if 0 ≤ d ∧ d < 48 then 1 else 0) := by
  unfold f_X11_isSlot
  rw [bind_some' (X11_isIn _ _ _), chk_pos b01]
  by_cases h : 0 ≤ d ∧ d < 48
  · rw [if_pos h, if_pos (by omega)]
  · rw [if_neg h, if_neg (by omega)]
theorem X11_isShelf (d : Int) : f_X11_isShelf σ d = some (if 0 ≤ d ∧ d < 8 then 1 else 0) := by
  unfold f_X11_isShelf
  rw [bind_some' (X11_isIn _ _ _), chk_pos b01]
  by_cases h : 0 ≤ d ∧ d < 8
  · rw [if_pos h, if_pos (by omega)]
  · rw [if_neg h, if_neg (by omega)]
theorem X10_isDay (d : Int) : f_X10_isDay σ d = some (if 0 ≤ d ∧ d < 5 then 1 else 0) := by
  unfold f_X10_isDay
  by_cases h1 : d < 0
  · rw [if_pos h1, if_neg (by omega)]
  · rw [if_neg h1]
    by_cases h2 : 5 ≤ d
    · rw [if_pos h2, if_neg (by omega)]
    · rw [if_neg h2, if_pos (by omega)]
theorem X10_isSlot (d : Int) : f_X10_isSlot σ d = some (if 0 ≤ d ∧ d < 48 then 1 else 0) := by
  unfold f_X10_isSlot
  by_cases h1 : d < 0
  · rw [if_pos h1, if_neg (by omega)]
  · rw [if_neg h1]
    by_cases h2 : 48 ≤ d
    · rw [if_pos h2, if_neg (by omega)]
    · rw [if_neg h2, if_pos (by omega)]
theorem X0_hasPaper {b : Int} (hB : isBk σ b B) (p : Int) : f_X0_hasPaper σ b p = some (if 0 ≤ p ∧ p < B 8 0 then 1 else 0) := by
  unfold f_X0_hasPaper
  rw [hB.nP]
  by_cases h1 : p < 0
  · rw [if_pos h1, if_neg (by omega)]
  · rw [if_neg h1]
    by_cases h2 : B 8 0 ≤ p
    · rw [if_pos h2, if_neg (by omega)]
    · rw [if_neg h2, if_pos (by omega)]
theorem X0_hasCand {b : Int} (hB : isBk σ b B) (p : Int) : f_X0_hasCand σ b p = some (if 0 ≤ p ∧ p < B 8 1 then 1 else 0) := by
  unfold f_X0_hasCand
  rw [hB.nC]
  by_cases h1 : p < 0
  · rw [if_pos h1, if_neg (by omega)]
  · rw [if_neg h1]
    by_cases h2 : B 8 1 ≤ p
    · rw [if_pos h2, if_neg (by omega)]
    · rw [if_neg h2, if_pos (by omega)]
theorem X0_hasRoom {b : Int} (hB : isBk σ b B) (p : Int) : f_X0_hasRoom σ b p = some (if 0 ≤ p ∧ p < B 8 2 then 1 else 0) := by
  unfold f_X0_hasRoom
  rw [hB.nR]
  by_cases h1 : p < 0
  · rw [if_pos h1, if_neg (by omega)]
  · rw [if_neg h1]
    by_cases h2 : B 8 2 ≤ p
    · rw [if_pos h2, if_neg (by omega)]
    · rw [if_neg h2, if_pos (by omega)]
theorem j3 {p : Int} (h : 0 ≤ p ∧ p < 12) : jadd 0 (jmul 3 p) = 3 * p := by rw [jmul_ok (by omega) (by omega), jadd_ok (by omega) (by omega), Int.zero_add]
theorem j4 {c t : Int} (h : 0 ≤ c ∧ c < 10) (ht : 0 ≤ t ∧ t < 4) : jadd (jadd 36 (jmul 4 c)) t = 36 + 4 * c + t := by rw [jmul_ok (by omega) (by omega), jadd_ok (a := 36) (by omega) (by omega), jadd_ok (by omega) (by omega)]
theorem X11_day (hR : isRk σ 182 B) {p : Int} (h : 0 ≤ p ∧ p < 12) : f_X11_day σ p = some (B 0 p) := by
  unfold f_X11_day
  rw [j3 h, chk_pos (by omega), hR.day h.1 h.2]
theorem X11_start (hR : isRk σ 182 B) {p : Int} (h : 0 ≤ p ∧ p < 12) : f_X11_start σ p = some (B 1 p) := by
  unfold f_X11_start
  rw [j3 h, jadd_ok (by omega) (by omega), chk_pos (by omega), hR.start h.1 h.2]
theorem X11_length (hR : isRk σ 182 B) {p : Int} (h : 0 ≤ p ∧ p < 12) : f_X11_length σ p = some (B 2 p) := by
  unfold f_X11_length
  rw [j3 h, jadd_ok (by omega) (by omega), chk_pos (by omega), hR.len h.1 h.2]
theorem X11_who0 (hR : isRk σ 182 B) {c : Int} (h : 0 ≤ c ∧ c < 10) : f_X11_who σ c 0 = some (B 3 c) := by
  unfold f_X11_who
  rw [j4 h (by omega), chk_pos (by omega), Int.add_zero, hR.kind h.1 h.2]
theorem X11_who1 (hR : isRk σ 182 B) {c : Int} (h : 0 ≤ c ∧ c < 10) : f_X11_who σ c 1 = some (B 4 c) := by
  unfold f_X11_who
  rw [j4 h (by omega), chk_pos (by omega), hR.a h.1 h.2]
theorem X11_who2 (hR : isRk σ 182 B) {c : Int} (h : 0 ≤ c ∧ c < 10) : f_X11_who σ c 2 = some (B 5 c) := by
  unfold f_X11_who
  rw [j4 h (by omega), chk_pos (by omega), hR.night h.1 h.2]
theorem X11_who3 (hR : isRk σ 182 B) {c : Int} (h : 0 ≤ c ∧ c < 10) : f_X11_who σ c 3 = some (B 6 c) := by
  unfold f_X11_who
  rw [j4 h (by omega), chk_pos (by omega), hR.takes h.1 h.2]
theorem jbit {a p : Nat} (ha : a < 2 ^ 31) (hp : p < 31) : jand (jshr (a : Int) (p : Int)) 1 = if a.testBit p then 1 else 0 := by
  have h1 : a >>> p < 2 ^ 31 := Nat.lt_of_le_of_lt (by rw [Nat.shiftRight_eq_div_pow]; exact Nat.div_le_self _ _) ha
  rw [jshr_n ha hp, show (1 : Int) = ((1 : Nat) : Int) from rfl, jand_n h1 (by decide)]
  rw [Nat.testBit_eq_decide_div_mod_eq, Nat.and_one_is_mod, Nat.shiftRight_eq_div_pow]
  have h2 : a / 2 ^ p % 2 = 0 ∨ a / 2 ^ p % 2 = 1 := by omega
  rcases h2 with h | h <;> rw [h] <;> rfl
theorem X11_has (hR : isRk σ 182 B) (w : WF B) {c : Int} {p : Nat} (hc : 0 ≤ c) (hc2 : c < B 8 1) (hp : p < 31) : f_X11_has σ c p = some (if tk B c p then 1 else 0) := by
  have hn := w.1
  unfold WFn at hn
  have hk := (w.2.2.1 c hc hc2).2.2.2.1
  unfold f_X11_has
  rw [bind_some' (X11_who3 hR (by omega))]
  obtain ⟨m, hm⟩ := n_of hk.1
  unfold tk
  rw [hm, Int.toNat_natCast, jbit (by omega) hp]
  cases m.testBit p <;> rfl
theorem X11_timed (hR : isRk σ 182 B) (w : WF B) {c p : Int} (hc : 0 ≤ c) (hc2 : c < B 8 1) (hp : 0 ≤ p) (hp2 : p < B 8 0) : f_X11_timed σ c p = some (tm B c p) := by
  have hn := w.1
  unfold WFn at hn
  unfold f_X11_timed
  rw [bind_some' (X11_who0 hR (by omega)), bind_some' (X11_who1 hR (by omega)), bind_some' (X11_length hR (by omega)), bind_some' (X11_timeOf (w.2.2.1 c hc hc2).1 (w.2.2.1 c hc hc2).2.1 (w.2.1 p hp hp2).2.2)]
  rfl
theorem X11_rest (hR : isRk σ 182 B) (w : WF B) {c : Int} (hc : 0 ≤ c) (hc2 : c < B 8 1) : f_X11_rest σ c = some (rs B c) := by
  have hn := w.1
  unfold WFn at hn
  unfold f_X11_rest
  rw [bind_some' (X11_who0 hR (by omega)), bind_some' (X11_who1 hR (by omega)), bind_some' (X11_restOf (w.2.2.1 c hc hc2).1 (w.2.2.1 c hc hc2).2.1)]
  rfl
theorem X11_many {m : Nat} (hm : m < 4096) : f_X11_many σ (m : Int) = some ((cnt (fun i => m.testBit i) 12 : Nat) : Int) := by
  show f_X11_many (fun _ _ => 0) (m : Int) = _
  unfold f_X11_many f_X11_many_4
  have key := loop_is (f := f_X11_many_4B (fun _ _ => 0) m) (P := fun a => ∃ k : Nat, a = (((cnt (fun i => m.testBit i) k : Nat) : Int), (k : Int)) ∧ k ≤ 12) (μ := fun a => (12 - a.2).toNat) (r := ((cnt (fun i => m.testBit i) 12 : Nat) : Int)) ?_ (a := (0, 0)) ⟨0, rfl, by omega⟩ (by decide)
  · rw [key]; rfl
  · rintro a ⟨k, rfl, hk⟩
    show (∃ a', f_X11_many_4C _ _ _ _ = _ ∧ _) ∨ f_X11_many_4C _ _ _ _ = _
    unfold f_X11_many_4C
    by_cases hkn : (12 : Int) ≤ k
    · right
      rw [if_pos hkn]
      have : k = 12 := by omega
      subst this; rfl
    · left
      have hc := cnt_le (fun i => m.testBit i) k
      rw [if_neg hkn, jbit (by omega) (by omega)]
      refine ⟨(((cnt (fun i => m.testBit i) (k + 1) : Nat) : Int), ((k + 1 : Nat) : Int)), ?_, ⟨k + 1, rfl, by omega⟩, by show (12 - ((k + 1 : Nat) : Int)).toNat < (12 - (k : Int)).toNat; omega⟩
      have e1 : jadd (k : Int) 1 = ((k + 1 : Nat) : Int) := by rw [jadd_ok (by omega) (by omega)]; omega
      have e2 : cnt (fun i => m.testBit i) (k + 1) = if m.testBit k then cnt (fun i => m.testBit i) k + 1 else cnt (fun i => m.testBit i) k := rfl
      rw [e1, e2]
      cases m.testBit k with
      | true => rw [if_pos rfl, if_pos rfl, jadd_ok (by omega) (by omega)]; rfl
      | false => rw [if_neg (by decide), if_neg (by decide), jadd_ok (by omega) (by omega), Int.add_zero]; rfl
theorem X11_ofDay (hR : isRk σ 182 B) (w : WF B) {c : Int} (hc : 0 ≤ c) (hc2 : c < B 8 1) (d : Int) : f_X11_ofDay σ c d = some ((od B c d : Nat) : Int) := by
  have hn := w.1
  unfold WFn at hn
  obtain ⟨n, en⟩ := n_of hn.1.1
  obtain ⟨g, hg⟩ : ∃ g : Nat → Bool, g = fun p : Nat => decide ((p : Int) < B 8 0) && decide (B 0 p = d) && tk B c p := ⟨_, rfl⟩
  have hres : od B c d = mset g n := by
    unfold od
    rw [hg]
    exact mset_cut (fun i hi => by simp; omega) 12 (by omega)
  rw [hres]
  unfold f_X11_ofDay f_X11_ofDay_5
  have key := loop_is (f := f_X11_ofDay_5B σ c d) (P := fun a => ∃ k : Nat, a = (((mset g k : Nat) : Int), (k : Int)) ∧ k ≤ n) (μ := fun a => (12 - a.2).toNat) (r := ((mset g n : Nat) : Int)) ?_ (a := (0, 0)) ⟨0, rfl, by omega⟩ (by decide)
  · rw [key]; rfl
  · rintro a ⟨k, rfl, hk⟩
    show (∃ a', f_X11_ofDay_5C σ c d _ _ = _ ∧ _) ∨ f_X11_ofDay_5C σ c d _ _ = _
    unfold f_X11_ofDay_5C
    rw [chk_pos (by decide), hR.nP]
    by_cases hkn : B 8 0 ≤ k
    · right
      rw [if_pos hkn]
      have : k = n := by omega
      subst this; rfl
    · left
      have hm := mset_lt g k
      have hp12 : (2 : Nat) ^ k ≤ 2 ^ 12 := Nat.pow_le_pow_right (by decide) (by omega)
      rw [if_neg hkn, bind_some' (X11_has hR w hc hc2 (by omega)), bind_some' (X11_day hR (by omega))]
      refine ⟨(((mset g (k + 1) : Nat) : Int), ((k + 1 : Nat) : Int)), ?_, ⟨k + 1, rfl, by omega⟩, by show (12 - ((k + 1 : Nat) : Int)).toNat < (12 - (k : Int)).toNat; omega⟩
      have e1 : jadd (k : Int) 1 = ((k + 1 : Nat) : Int) := by rw [jadd_ok (by omega) (by omega)]; omega
      have e2 : mset g (k + 1) = if g k then mset g k ||| 2 ^ k else mset g k := rfl
      have e3 : jor ((mset g k : Nat) : Int) 0 = ((mset g k : Nat) : Int) := by
        rw [show (0 : Int) = ((0 : Nat) : Int) from rfl, jor_n (by omega) (by decide), Nat.or_zero]
      have eg : g k = (decide (B 0 k = d) && tk B c k) := by
        rw [hg]
        show (decide ((k : Int) < B 8 0) && _ && _) = _
        rw [decide_eq_true (show (k : Int) < B 8 0 by omega), Bool.true_and]
      rw [e2, eg]
      cases ht : tk B c k with
      | false =>
        rw [if_pos (by decide), Bool.and_false, if_neg (by decide)]
        unfold f_X11_ofDay_45 f_X11_ofDay_46
        rw [e1, e3]; rfl
      | true =>
        rw [if_neg (by decide), Bool.and_true]
        by_cases hd : B 0 k = d
        · rw [if_neg (by simpa using hd), jshl_n (by omega), if_pos (by simpa using hd)]
          unfold f_X11_ofDay_46
          rw [e1, jor_n (by omega) (by omega)]; rfl
        · rw [if_pos hd, if_neg (by simpa using hd)]
          unfold f_X11_ofDay_45 f_X11_ofDay_46
          rw [e1, e3]; rfl
theorem X11_isFifth (hR : isRk σ 182 B) (w : WF B) {c : Int} {p : Nat} (hc : 0 ≤ c) (hc2 : c < B 8 1) (hp2 : (p : Int) < B 8 0) : f_X11_isFifth σ c p = some (if fifth B c p then 1 else 0) := by
  have hn := w.1
  unfold WFn at hn
  unfold f_X11_isFifth
  rw [bind_some' (X11_has hR w hc hc2 (by omega))]
  unfold fifth
  cases ht : tk B c p with
  | true => rfl
  | false =>
    simp only [Bool.not_false, Bool.true_and]
    rw [if_neg (by decide), bind_some' (X11_day hR (by omega)), bind_some' (X11_ofDay hR w hc hc2 _), bind_some' (X11_many (od_lt _ _ _))]
    by_cases h : cnt (fun i => (od B c (B 0 p)).testBit i) 12 = 4
    · rw [h]; rfl
    · rw [if_pos (by omega), if_neg (by simpa using h)]
theorem X11_toggles (hR : isRk σ 182 B) (w : WF B) {c : Int} {p : Nat} (hc : 0 ≤ c) (hc2 : c < B 8 1) (hp : p < 12) : f_X11_toggles σ c p = some (mup σ 182 (36 + 4 * c + 3) (((B 6 c).toNat ^^^ 2 ^ p : Nat) : Int)) := by
  have hn := w.1
  unfold WFn at hn
  have hk := (w.2.2.1 c hc hc2).2.2.2.1
  unfold f_X11_toggles
  rw [j4 (by omega) (by omega), chk_pos (by omega), chk_pos (by omega), hR.takes hc (by omega)]
  obtain ⟨m, hm⟩ := n_of hk.1
  rw [hm, jxor_bit (by omega) hp, Int.toNat_natCast]
  rfl
end
/-- refusals: both count alike -/
theorem X10_refuse {σ : Mem} {x : Int} (h : -56 ≤ x ∧ x ≤ -52) : f_X10_refuse σ x = some (x, mup σ 34 (-52 - x) (jadd (σ 34 (-52 - x)) 1)) := by
  unfold f_X10_refuse
  rw [jsub_ok (by omega) (by omega)]
  show (if -52 - x < 0 then _ else _) = _
  rw [if_neg (by omega), if_neg (by omega), chk_pos (by omega), chk_pos (by omega)]
  rfl
theorem X11_no {σ : Mem} {x : Int} (h : -56 ≤ x ∧ x ≤ -52) : f_X11_no σ x = some (x, mup σ 184 (-52 - x) (jadd (σ 184 (-52 - x)) 1)) := by
  unfold f_X11_no
  rw [jsub_ok (by omega) (by omega), chk_pos (by omega), chk_pos (by omega)]
  rfl
