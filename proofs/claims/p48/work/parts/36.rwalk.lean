/-! AN ORDER, laid by the reference -/
def smq (B : Bk) (c : Int) (q : Nat → Nat) : Nat → Int
  | 0 => 0
  | k + 1 => smq B c q k + tm B c (q k)
theorem smq_b {B : Bk} (w : WF B) {c : Int} (hc : 0 ≤ c) (hc2 : c < B 8 1) {q : Nat → Nat} {n : Nat} (hq : ∀ k, k < n → (q k : Int) < B 8 0) : ∀ k, k ≤ n → 0 ≤ smq B c q k ∧ smq B c q k ≤ 24 * k
  | 0, _ => ⟨by simp [smq], by simp [smq]⟩
  | k + 1, h => by
    have ih := smq_b w hc hc2 hq k (by omega)
    have h1 := tm_b w hc hc2 (p := (q k : Int)) (by omega) (hq k (by omega))
    unfold smq
    omega
theorem i01 {b : Bool} : (if b then (1 : Int) else 0) = 0 ∨ (if b then (1 : Int) else 0) = 1 := by cases b <;> simp
theorem anyN_s (p : Nat → Bool) (n : Nat) : anyN p (n + 1) = (anyN p n || p n) := rfl
/-- what goes over is waited for -/
def woB (B : Bk) (o : Int) (t : Nat) : Bool := decide (0 ≤ o) && decide (B 1 o ≤ t)