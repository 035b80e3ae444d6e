/-! TOOLS: memory, loops -/
theorem mup_hit {σ : Mem} {k i v a b : Int} (h1 : a = k) (h2 : b = i) : mup σ k i v a b = v := by unfold mup; rw [if_pos ⟨h1, h2⟩]
theorem mup_miss {σ : Mem} {k i v a b : Int} (h : ¬ (a = k ∧ b = i)) : mup σ k i v a b = σ a b := by unfold mup; rw [if_neg h]
theorem mup_row {σ : Mem} {k i v a : Int} (h : a ≠ k) : mup σ k i v a = σ a := by funext b; exact mup_miss (fun q => h q.1)
theorem mcp_hit {σ : Mem} {a i b j n x y : Int} (h1 : x = b) (h2 : j ≤ y) (h3 : y < j + n) : mcp σ a i b j n x y = σ a (i + (y - j)) := by unfold mcp; rw [if_pos ⟨h1, h2, h3⟩]
theorem mcp_miss {σ : Mem} {a i b j n x y : Int} (h : ¬ (x = b ∧ j ≤ y ∧ y < j + n)) : mcp σ a i b j n x y = σ x y := by unfold mcp; rw [if_neg h]
theorem mcp_row {σ : Mem} {a i b j n x : Int} (h : x ≠ b) : mcp σ a i b j n x = σ x := by funext y; exact mcp_miss (fun q => h q.1)
/-- the loop's rule: an invariant, and a number that falls -/
theorem loop_rule {α β : Type} {f : α → Option (α ⊕ β)} {P : α → Prop} {μ : α → Nat} {Q : β → Prop} (hs : ∀ a, P a → (∃ a', f a = some (.inl a') ∧ P a' ∧ μ a' < μ a) ∨ ∃ b, f a = some (.inr b) ∧ Q b) : ∀ (n : Nat) (a : α), P a → μ a < n → ∃ b, loop f n a = some b ∧ Q b
  | 0, _, _, h => absurd h (Nat.not_lt_zero _)
  | n + 1, a, ha, hm => by
    unfold loop
    rcases hs a ha with ⟨a', h1, h2, h3⟩ | ⟨b, h1, h2⟩
    · rw [h1]
      exact loop_rule hs n a' h2 (by omega)
    · rw [h1]
      exact ⟨b, rfl, h2⟩
/-- with what the loop comes to named -/
theorem loop_is {α β : Type} {f : α → Option (α ⊕ β)} {P : α → Prop} {μ : α → Nat} {r : β} (hs : ∀ a, P a → (∃ a', f a = some (.inl a') ∧ P a' ∧ μ a' < μ a) ∨ f a = some (.inr r)) {a : α} (ha : P a) (hm : μ a < 1000000) : loop f FU a = some r := by
  obtain ⟨b, h1, rfl⟩ := loop_rule (Q := fun b => b = r) (fun a ha => (hs a ha).imp_right fun h => ⟨r, h, rfl⟩) FU a ha hm
  exact h1
theorem loop_ex {α β : Type} {f : α → Option (α ⊕ β)} (P : α → Prop) (μ : α → Nat) (Q : β → Prop) {a : α} (ha : P a) (hm : μ a < 1000000) (hs : ∀ a, P a → (∃ a', f a = some (.inl a') ∧ P a' ∧ μ a' < μ a) ∨ ∃ b, f a = some (.inr b) ∧ Q b) : ∃ b, loop f FU a = some b ∧ Q b := loop_rule hs FU a ha hm
theorem loop_step {α β : Type} {f : α → Option (α ⊕ β)} {n : Nat} {a a' : α} (h : f a = some (.inl a')) : loop f (n + 1) a = loop f n a' := by
  show (f a).bind _ = _
  rw [h]; rfl
theorem loop_end {α β : Type} {f : α → Option (α ⊕ β)} {n : Nat} {a : α} {b : β} (h : f a = some (.inr b)) : loop f (n + 1) a = some b := by
  show (f a).bind _ = _
  rw [h]; rfl
theorem FU_9 : FU = 999991 + 9 := rfl
theorem bind_some' {α β : Type} {x : Option α} {a : α} {f : α → Option β} (h : x = some a) : x.bind f = f a := by rw [h]; rfl
theorem in32_1 {x : Int} (h : in32 x) : -2147483648 ≤ x := h.1
theorem in32_2 {x : Int} (h : in32 x) : x ≤ 2147483647 := h.2
/-- Math.max, Math.min -/
theorem mx_eq (x y : Int) : mx x y = max x y := by unfold mx; split <;> omega
theorem mn_eq (x y : Int) : mn x y = min x y := by unfold mn; split <;> omega
theorem hasSlot_n {σ : Mem} {a p : Nat} (ha : a < 2 ^ 48) (hp : p < 48) : f_X10_hasSlot σ (a : Int) (p : Int) = some (if a.testBit p then 1 else 0) := by
  unfold f_X10_hasSlot
  have e : kshr (a : Int) (p : Int) = ((a / 2 ^ p : Nat) : Int) := by
    unfold kshr
    have h2 : a / 2 ^ p < 2 ^ 63 := Nat.lt_of_le_of_lt (Nat.div_le_self _ _) (by omega)
    rw [of_lN (by omega), of_nI (by omega), wb_c p (by omega)]
    have e2 : lN a >>> lN p = lN (a / 2 ^ p) := by
      apply wb_inj
      rw [Int64.toBitVec_shiftRight]
      show (lN a).toBitVec.sshiftRight (((lN p).toBitVec.smod 64).toNat) = _
      rw [wb_tb, wb_tb, wb_sm p (by omega), wb_tb, BitVec.toNat_ofNat, Nat.mod_eq_of_lt (show p < 2 ^ 64 by omega)]
      apply BitVec.eq_of_toInt_eq
      rw [BitVec.toInt_sshiftRight]
      have e3 : (BitVec.ofNat 64 a).toInt = (a : Int) := lN_ti (by omega)
      have e4 : (BitVec.ofNat 64 (a / 2 ^ p)).toInt = ((a / 2 ^ p : Nat) : Int) := lN_ti h2
      rw [e3, e4, ← Nat.shiftRight_eq_div_pow]
      rfl
    rw [e2, lN_ti h2]
  have h2 : a / 2 ^ p < 2 ^ 63 := Nat.lt_of_le_of_lt (Nat.div_le_self _ _) (by omega)
  rw [e, show (1 : Int) = ((1 : Nat) : Int) from rfl, kand_n h2 (by decide), Nat.testBit_eq_decide_div_mod_eq, Nat.and_one_is_mod]
  have h3 : a / 2 ^ p % 2 = 0 ∨ a / 2 ^ p % 2 = 1 := by omega
  rcases h3 with h | h <;> rw [h] <;> rfl
