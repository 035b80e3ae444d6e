/-! THE BEST ORDER, by the reference -/
theorem loop_rn {α β : Type} {f : α → Option (α ⊕ β)} {P : Nat → α → Prop} {Q : β → Prop} (hs : ∀ k a, P k a → (∃ a' k', f a = some (.inl a') ∧ k' < k ∧ P k' a') ∨ ∃ b, f a = some (.inr b) ∧ Q b) : ∀ (n k : Nat) (a : α), P k a → k < n → ∃ b, loop f n a = some b ∧ Q b
  | 0, _, _, _, h => absurd h (Nat.not_lt_zero _)
  | n + 1, k, a, ha, hm => by
    unfold loop
    rcases hs k a ha with ⟨a', k', h1, h2, h3⟩ | ⟨b, h1, h2⟩
    · rw [h1]
      exact loop_rn hs n k' a' h3 (by omega)
    · rw [h1]
      exact ⟨b, rfl, h2⟩
theorem smq_pt {B : Bk} {c : Int} {m n : Nat} (hn : n ≤ 4) {l : List Nat} (hl : l ∈ PT n) : smq B c (lq m l) n = smt B c m n := by
  match n, hn with
  | 0, _ => rfl
  | 1, _ =>
    simp only [PT, List.mem_cons, List.not_mem_nil, or_false] at hl
    subst hl; rfl
  | 2, _ =>
    simp only [PT, List.mem_cons, List.not_mem_nil, or_false] at hl
    rcases hl with rfl | rfl <;> (show 0 + tm B c (nth m _) + tm B c (nth m _) = 0 + tm B c (nth m 0) + tm B c (nth m 1); simp only [List.getD_cons_zero, List.getD_cons_succ] <;> omega)
  | 3, _ =>
    simp only [PT, List.mem_cons, List.not_mem_nil, or_false] at hl
    rcases hl with rfl | rfl | rfl | rfl | rfl | rfl <;> (show 0 + tm B c (nth m _) + tm B c (nth m _) + tm B c (nth m _) = 0 + tm B c (nth m 0) + tm B c (nth m 1) + tm B c (nth m 2); simp only [List.getD_cons_zero, List.getD_cons_succ] <;> omega)
  | 4, _ =>
    simp only [PT, List.mem_cons, List.not_mem_nil, or_false] at hl
    rcases hl with rfl | rfl | rfl | rfl | rfl | rfl | rfl | rfl | rfl | rfl | rfl | rfl | rfl | rfl | rfl | rfl | rfl | rfl | rfl | rfl | rfl | rfl | rfl | rfl <;> (show 0 + tm B c (nth m _) + tm B c (nth m _) + tm B c (nth m _) + tm B c (nth m _) = 0 + tm B c (nth m 0) + tm B c (nth m 1) + tm B c (nth m 2) + tm B c (nth m 3); simp only [List.getD_cons_zero, List.getD_cons_succ] <;> omega)
  | k + 5, h => omega
/-- an order that is tried: what goes over, the mask of the others, their order -/
abbrev Tr : Type := Int × Nat × List Nat
def lwD (B : Bk) (c f : Int) (a : Nat) (x : Tr) : Bool := lwS B c x.2.1 f a x.2.2
def msD (B : Bk) (c f : Int) (a : Nat) (x : Tr) : Int := msS B c x.2.1 f a 0 (woB B x.1) x.2.2
def its (o : Int) (m : Nat) : List Tr := (PT (nof m)).map fun l => (o, m, l)
/-- the reference's rows of a day hold the best so far -/
def isRd (σ : Mem) (B : Bk) (c f : Int) (d : Int) (x : Option (Int × Tr)) : Prop := (x = none → σ 195 d = 0 ∧ σ 196 d = 0 ∧ σ 197 d = -1 ∧ σ 200 d = 0) ∧ ∀ v o m l, x = some (v, (o, m, l)) → σ 195 d = 1 ∧ σ 196 d = v ∧ σ 197 d = o ∧ σ 200 d = (nof m : Int) ∧ ∀ k : Nat, k < nof m → σ 201 (4 * d + k) = (lq m l k : Int) ∧ σ 202 (4 * d + k) = bg B c f (lq m l) k
/-- what trying leaves alone -/
def trS (x : Int) : Prop := ¬ (192 ≤ x ∧ x ≤ 197) ∧ x ≠ 200 ∧ x ≠ 201 ∧ x ≠ 202
theorem bst_map {α β : Type} {lw : β → Bool} {ms : β → Int} {g : α → β} : ∀ (l : List α) (a : Option (Int × α)), bst lw ms (l.map g) (a.map fun x => (x.1, g x.2)) = (bst (fun x => lw (g x)) (fun x => ms (g x)) l a).map fun x => (x.1, g x.2)
  | [], a => rfl
  | y :: l, a => by
    have e : stp lw ms (g y) (a.map fun x => (x.1, g x.2)) = (stp (fun x => lw (g x)) (fun x => ms (g x)) y a).map fun x => (x.1, g x.2) := by
      unfold stp
      cases a with
      | none => by_cases h : lw (g y) = true <;> simp [h]
      | some x =>
        by_cases h : lw (g y) = true
        · simp only [h, if_true, Option.map_some]
          split <;> rfl
        · simp [h]
    show bst lw ms (l.map g) (stp lw ms (g y) _) = _
    rw [e, bst_map l]
    rfl