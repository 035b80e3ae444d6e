/-! CLASH: the fewest papers that can't be sat together, both sides -/
theorem jandn_n {a b : Nat} (ha : a < 2 ^ 31) (hb : b < 2 ^ 31) : jand (a : Int) (jxor (b : Int) (-1)) = ((andn a b : Nat) : Int) := by
  unfold jand jxor
  rw [of_nI hb, Int32.ofInt_toInt, of_nI ha]
  have e : nI a &&& (nI b ^^^ Int32.ofInt (-1)) = nI (andn a b) := by
    apply Int32.toBitVec_inj.1
    show BitVec.ofNat 32 a &&& (BitVec.ofNat 32 b ^^^ BitVec.allOnes 32) = BitVec.ofNat 32 (andn a b)
    apply BitVec.eq_of_getLsbD_eq
    intro i hi
    simp only [BitVec.getLsbD_and, BitVec.getLsbD_xor, BitVec.getLsbD_ofNat, BitVec.getLsbD_allOnes, hi, decide_true, Bool.true_and, andn_tb]
    cases a.testBit i <;> cases b.testBit i <;> rfl
  rw [e, nI_toInt (by have := andn_lt (b := b) ha; omega)]
theorem bst_nlw {α : Type} {lw : α → Bool} {ms : α → Int} : ∀ {l : List α} {x : Option (Int × α)}, bst lw ms l x = none ↔ x = none ∧ nlw lw l = 0
  | [], x => ⟨fun h => ⟨h, rfl⟩, fun h => h.1⟩
  | y :: l, x => by
    have e : stp lw ms y x = none ↔ x = none ∧ lw y = false := by
      unfold stp
      cases lw y with
      | false => simp
      | true =>
        cases x with
        | none => simp
        | some z => rw [if_pos rfl]; constructor
                    · intro h; exfalso; revert h; show (if ms y < z.1 then _ else _) = none → False; split <;> (intro h; cases h)
                    · intro h; cases h.1
    show bst lw ms l (stp lw ms y x) = none ↔ _
    rw [bst_nlw, e, nlw_cons]
    cases lw y with
    | false => simp
    | true => simp
theorem nlw_pos {α : Type} {lw : α → Bool} : ∀ {l : List α} {x : α}, x ∈ l → lw x = true → 0 < nlw lw l
  | y :: l, x, h, hx => by
    rw [nlw_cons]
    rcases List.mem_cons.mp h with q | q
    · subst q; rw [hx, if_pos rfl]; omega
    · have := nlw_pos q hx
      omega
def sub (s m : Nat) : Prop := ∀ i, s.testBit i = true → m.testBit i = true
theorem sub_andn {s m : Nat} : andn s m = 0 ↔ sub s m := by
  constructor
  · intro h i hi
    have := andn_tb s m i
    rw [h, Nat.zero_testBit, hi, Bool.true_and] at this
    cases hb : m.testBit i with
    | true => rfl
    | false => rw [hb] at this; cases this
  · intro h
    refine Nat.eq_of_testBit_eq fun i => ?_
    rw [andn_tb, Nat.zero_testBit]
    cases hs : s.testBit i with
    | false => rfl
    | true => rw [h i hs]; rfl
theorem sub_and {s m : Nat} (h : sub s m) : s &&& m = s := by
  refine Nat.eq_of_testBit_eq fun i => ?_
  rw [Nat.testBit_and]
  cases hs : s.testBit i with
  | false => rfl
  | true => rw [h i hs]; rfl
theorem sub_le {s m : Nat} (h : sub s m) : s ≤ m := by
  have := sub_and h
  rw [← this]
  exact Nat.and_le_right
theorem and_sub (x m : Nat) : sub (x &&& m) m := fun i hi => by
  rw [Nat.testBit_and, Bool.and_eq_true] at hi
  exact hi.2
theorem and2 (h l H L : Nat) (hl : l < 2) (hL : L < 2) : (2 * h + l) &&& (2 * H + L) = 2 * (h &&& H) + (l &&& L) := by
  have h1 := Nat.and_div_two_pow (a := 2 * h + l) (b := 2 * H + L) (n := 1)
  have h2 := Nat.and_mod_two_pow (a := 2 * h + l) (b := 2 * H + L) (n := 1)
  rw [show (2 : Nat) ^ 1 = 2 from rfl] at h1 h2
  rw [show (2 * h + l) / 2 = h by omega, show (2 * H + L) / 2 = H by omega] at h1
  rw [show (2 * h + l) % 2 = l by omega, show (2 * H + L) % 2 = L by omega] at h2
  have h3 := Nat.div_add_mod ((2 * h + l) &&& (2 * H + L)) 2
  rw [h1, h2] at h3
  omega
theorem and1' : ∀ a, a < 2 → ∀ b, b < 2 → (a &&& b = a ↔ a ≤ b) ∧ (1 &&& b = b) := by decide
theorem and1 (a b : Nat) (ha : a < 2) (hb : b < 2) : (a &&& b = a ↔ a ≤ b) ∧ (1 &&& b = b) := and1' a ha b hb
/-- the submask ahead of one -/
theorem sub_pred : ∀ (n m x s : Nat), m < 2 ^ n → x &&& m = x → s &&& m = s → s < x → s ≤ (x - 1) &&& m
  | 0, m, x, s, hm, hx, hs, h => by
    have : m = 0 := by omega
    subst this
    rw [Nat.and_zero] at hx
    omega
  | n + 1, m, x, s, hm, hx, hs, h => by
    obtain ⟨m', mb, hmb, em⟩ : ∃ q b, b < 2 ∧ m = 2 * q + b := ⟨m / 2, m % 2, by omega, by omega⟩
    obtain ⟨x', xb, hxb, ex⟩ : ∃ q b, b < 2 ∧ x = 2 * q + b := ⟨x / 2, x % 2, by omega, by omega⟩
    obtain ⟨s', sb, hsb, es⟩ : ∃ q b, b < 2 ∧ s = 2 * q + b := ⟨s / 2, s % 2, by omega, by omega⟩
    subst em ex es
    rw [and2 _ _ _ _ hxb hmb] at hx
    rw [and2 _ _ _ _ hsb hmb] at hs
    have hx1 : xb &&& mb < 2 := Nat.lt_of_le_of_lt Nat.and_le_left hxb
    have hs1 : sb &&& mb < 2 := Nat.lt_of_le_of_lt Nat.and_le_left hsb
    have hx2 : x' &&& m' = x' := by omega
    have hs2 : s' &&& m' = s' := by omega
    have hs3 : sb ≤ mb := ((and1 sb mb hsb hmb).1).mp (by omega)
    by_cases hxz : xb = 0
    · subst hxz
      have ih := sub_pred n m' x' s' (by rw [Nat.pow_succ] at hm; omega) hx2 hs2 (by omega)
      rw [show 2 * x' + 0 - 1 = 2 * (x' - 1) + 1 by omega, and2 _ _ _ _ (by omega) hmb, (and1 0 mb (by omega) hmb).2]
      omega
    · have : xb = 1 := by omega
      subst this
      rw [show 2 * x' + 1 - 1 = 2 * x' + 0 by omega, and2 _ _ _ _ (by omega) hmb, hx2]
      have : 0 &&& mb = 0 := Nat.zero_and _
      rw [this]
      omega
