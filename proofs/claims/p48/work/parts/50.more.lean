/-! THE CLASS' ORDERS of a day; the reference's walk through all orders -/
theorem X4_ordersOf {ρ : Mem} {B : Bk} (hB : isBk ρ 1 B) (w : WF B) {c : Int} (hc : 0 ≤ c) (hc2 : c < B 8 1) {k : Int} {d : Nat} (hd : d < 5) {f : Int} {a : Nat} (ha : a ≤ 48) {x : Option (Int × Tr)} (h : isWd ρ k B c d f a x) : ∃ τ, f_X4_ordersOf ρ 1 c d k = some τ ∧ isOr τ B c (od B c d) f a ∧ ∀ x, ¬ (36 ≤ x ∧ x ≤ 39) → τ x = ρ x := by
  have hn := w.1
  unfold WFn at hn
  obtain ⟨τ, t1, t2, t3⟩ := X3_gather (Or.inl rfl) hB w hc hc2 (okm_od w hc hc2 d) f ha
  refine ⟨τ, ?_, t2, t3⟩
  unfold f_X4_ordersOf
  rw [chk_pos (by omega), bind_some' (X0_papersOf hB w d)]
  simp only [Option.bind_some]
  rw [chk_pos (by omega), chk_pos (by omega), takes_od hB w hc hc2, h.1, h.2.1, bind_some' t1]
theorem nlw_cons {α : Type} (lw : α → Bool) (y : α) (l : List α) : nlw lw (y :: l) = (if lw y then 1 else 0) + nlw lw l := rfl
theorem nlw_len {α : Type} (lw : α → Bool) : ∀ l : List α, nlw lw l ≤ l.length
  | [] => Nat.le_refl _
  | y :: l => by
    have := nlw_len lw l
    rw [nlw_cons, List.length_cons]
    split <;> omega
theorem nlw_take {α : Type} {lw : α → Bool} {l : List α} {i : Nat} (d : α) (hi : i < l.length) : nlw lw (l.take (i + 1)) = nlw lw (l.take i) + if lw (l.getD i d) then 1 else 0 := by rw [take_s d hi, nlw_app]
theorem getD_mem {α : Type} {l : List α} {i : Nat} (d : α) (hi : i < l.length) : l.getD i d ∈ l := by
  rw [List.getD_eq_getElem?_getD, List.getElem?_eq_getElem hi]; exact List.getElem_mem hi