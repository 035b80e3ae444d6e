/-! BEST: the reference's search -/
theorem msS_b {B : Bk} (w : WF B) {c : Int} (hc : 0 ≤ c) (hc2 : c < B 8 1) {m : Nat} (hm : okm B m) {f : Int} (hf : 0 ≤ f ∧ f ≤ 60) {a : Nat} {by_ : Int} {wo : Nat → Bool} {L : List Nat} (hL : L ∈ PT (nof m)) : 0 ≤ msS B c m f a by_ wo L ∧ msS B c m f a by_ wo L ≤ 5000 := by
  have h4 := hm.2.1
  obtain ⟨-, -, pin⟩ := PT_ok (nof m) h4
  unfold msS msC
  split
  · have := cnt_le (kpB wo a B c f (lq m L) (nof m)) 48
    omega
  · have := mj_b w hc hc2 hf h4 (q := lq m L) (n := nof m) (fun k hk => hm.2.2 _ (nth_in ((pin L hL).2 k hk)).2.1) by_ (nof m) (Nat.le_refl _)
    omega