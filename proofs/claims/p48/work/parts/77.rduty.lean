/-! DUTIES, the reference's side -/
def isDo (σ : Mem) (B : Bk) (N : Nat) : Prop := ∀ c k : Nat, c < N → k < 240 → σ 204 (240 * (c : Int) + (k : Int)) = DD B c (k / 48) (k % 48)
/-- the reference's list -/
def isRdu (σ : Mem) (T : Int) (l : List Du) : Prop := σ 181 29 = (l.length : Int) ∧ (∀ i : Nat, i < l.length → σ 205 i = ((l.getD i du0).1 : Int) ∧ σ 206 i = ((l.getD i du0).2.1 : Int) ∧ σ 207 i = ((l.getD i du0).2.2.1 : Int) ∧ σ 208 i = ((l.getD i du0).2.2.2 : Int) ∧ σ 209 i = ((wgv T l).2.2.getD i 0 : Int)) ∧ σ 181 35 = ((wgv T l).1 : Int) ∧ ∀ w : Nat, w < (wgv T l).1 → σ 210 w = (wgv T l).2.1 w
/-- what may have changed -/
def RDF (σ τ : Mem) : Prop := ∀ y i, ¬ (205 ≤ y ∧ y ≤ 210) → (y = 181 → i ≠ 29 ∧ i ≠ 35) → τ y i = σ y i