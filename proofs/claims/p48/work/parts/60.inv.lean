/-! WHAT HOLDS BETWEEN TWO CALLS (but for what the class keeps of duties and seats) -/
def SHF (σ : Mem) (B : Bk) : Prop := ∀ s, 0 ≤ s → s < 8 → σ 185 s = σ 31 s ∧ ((σ 31 s = -1 ∧ σ 32 s = 0) ∨ (0 ≤ σ 31 s ∧ σ 31 s ≤ 4 ∧ 0 ≤ σ 32 s ∧ σ 32 s ≤ 40 ∧ σ 186 s = σ 32 s) ∨ (10 ≤ σ 31 s ∧ σ 31 s < 10 + B 8 1 ∧ σ 32 s = 0))
def ELS (σ : Mem) : Prop := ∀ i, 0 ≤ i → i < 320 → σ 187 i = σ 33 i
def TAP (σ : Mem) : Prop := σ 181 9 = σ 28 1 ∧ 0 ≤ σ 28 1 ∧ σ 28 1 ≤ 250 ∧ ∀ i, 0 ≤ i → i < 250 → σ 189 i = σ 29 i ∧ 0 ≤ σ 29 i ∧ σ 29 i ≤ 255
def RFS (σ : Mem) : Prop := ∀ j, 0 ≤ j → j < 5 → σ 184 j = σ 34 j
def wrdL : List Int := [112, 97, 112, 101, 114, 99, 97, 110, 100, 32, 116, 97, 107, 101, 115, 100, 114, 111, 112, 115, 110, 105, 103, 104, 116, 114, 111, 111, 109, 32, 104, 111, 117, 114, 115, 116, 117, 114, 110, 32]
def WRD (σ : Mem) : Prop := ∀ k : Nat, k < 40 → σ 190 k = wrdL.getD k 0
def IMG (σ : Mem) : Prop := σ 181 2 = σ 0 3 ∧ (σ 0 3 = 0 ∨ (σ 0 3 = 1 ∧ ∃ I, WF I ∧ isBk σ 19 I ∧ isRk σ 183 I))
def EDN (n : Nat) (σ : Mem) : Prop := 1 ≤ σ 43 3 ∧ σ 43 3 ≤ 1 + n
def INV0 (n : Nat) (σ : Mem) (B : Bk) : Prop := ST σ B ∧ IMG σ ∧ SHF σ B ∧ ELS σ ∧ TAP σ ∧ RFS σ ∧ WRD σ ∧ EDN n σ
/-- two books with the same plans, watchers and rooms -/
def SAMEB (B B' : Bk) : Prop := B' 8 1 = B 8 1 ∧ B' 8 2 = B 8 2 ∧ B' 8 4 = B 8 4 ∧ (∀ r, 0 ≤ r → r < B 8 2 → B' 7 r = B 7 r) ∧ ∀ c d, 0 ≤ c → c < B 8 1 → agr B B' c d
theorem SAMEB.rfl {B : Bk} : SAMEB B B := ⟨Eq.refl _, Eq.refl _, Eq.refl _, fun _ _ _ => Eq.refl _, fun _ _ _ _ => ⟨Eq.refl _, Eq.refl _, Eq.refl _, Eq.refl _, fun _ _ _ => Eq.refl _, Eq.refl _, fun _ _ => Eq.refl _⟩⟩
def EDT (σ τ : Mem) (B B' : Bk) : Prop := (∀ x i, 164 ≤ x → x ≤ 178 → τ x i = σ x i) ∧ (τ 43 3 = σ 43 3 + 1 ∨ (τ 43 3 = σ 43 3 ∧ SAMEB B B'))
def CALL0 (n : Nat) (σ : Mem) (B : Bk) (a : Option (Int × Mem)) (r : Mem → Option (Int × Mem)) : Prop := ∃ v ρ τ B', a = some (v, ρ) ∧ r ρ = some (v, τ) ∧ INV0 (n + 1) τ B' ∧ EDT σ τ B B'
theorem isBk.pt {σ τ : Mem} {b : Int} {B : Bk} (h : isBk σ b B) (e : ∀ x i, b ≤ x → x ≤ b + 8 → τ x i = σ x i) : isBk τ b B := h.rows fun x h1 h2 => funext fun i => e x i h1 h2
theorem isRk.pt {σ τ : Mem} {k : Int} {B : Bk} (_h : isRk σ k B) (_e : ∀ i, τ k i = σ k i) : isRk τ k B := trivial
theorem IMG.pt {σ τ : Mem} (h : IMG σ) (e1 : τ 181 2 = σ 181 2) (e2 : τ 0 3 = σ 0 3) (e3 : ∀ x i, 19 ≤ x → x ≤ 27 → τ x i = σ x i) (e4 : ∀ i, τ 183 i = σ 183 i) : IMG τ := by
  refine ⟨by rw [e1, e2]; exact h.1, ?_⟩
  rw [e2]
  exact h.2.imp_right fun ⟨g, I, a, b, c⟩ => ⟨g, I, a, b.pt e3, c.pt e4⟩
theorem SHF.pt {σ τ : Mem} {B B' : Bk} (h : SHF σ B) (e1 : ∀ i, τ 31 i = σ 31 i) (e2 : ∀ i, τ 32 i = σ 32 i) (e3 : ∀ i, τ 185 i = σ 185 i) (e4 : ∀ i, τ 186 i = σ 186 i) (hc : B 8 1 ≤ B' 8 1) : SHF τ B' := fun s h1 h2 => by
  have := h s h1 h2
  rw [e1, e2, e3, e4]
  omega
theorem ELS.pt {σ τ : Mem} (h : ELS σ) (e1 : ∀ i, τ 33 i = σ 33 i) (e2 : ∀ i, τ 187 i = σ 187 i) : ELS τ := fun i h1 h2 => by rw [e1, e2]; exact h i h1 h2
theorem TAP.pt {σ τ : Mem} (h : TAP σ) (e1 : τ 181 9 = σ 181 9) (e2 : τ 28 1 = σ 28 1) (e3 : ∀ i, τ 29 i = σ 29 i) (e4 : ∀ i, τ 189 i = σ 189 i) : TAP τ := by
  refine ⟨by rw [e1, e2]; exact h.1, by rw [e2]; exact h.2.1, by rw [e2]; exact h.2.2.1, fun i h1 h2 => ?_⟩
  rw [e3, e4]; exact h.2.2.2 i h1 h2
theorem RFS.ref {σ τ : Mem} (h : RFS σ) (g : REF σ τ) : RFS τ := fun j h1 h2 => by
  rcases g with ⟨g1, g2⟩ | ⟨i, i1, i2, g1, g2⟩
  · rw [g1, g2]; exact h j h1 h2
  · rw [g1, g2, h i i1 i2, h j h1 h2]
theorem RFS.pt {σ τ : Mem} (h : RFS σ) (e1 : ∀ i, τ 34 i = σ 34 i) (e2 : ∀ i, τ 184 i = σ 184 i) : RFS τ := fun i h1 h2 => by rw [e1, e2]; exact h i h1 h2
theorem WRD.pt {σ τ : Mem} (h : WRD σ) (e : ∀ i, τ 190 i = σ 190 i) : WRD τ := fun k hk => by rw [e]; exact h k hk
theorem EDN.s {n : Nat} {σ τ : Mem} (h : EDN n σ) (e : τ 43 3 = σ 43 3 ∨ τ 43 3 = σ 43 3 + 1) : EDN (n + 1) τ := by
  unfold EDN at h ⊢
  omega
theorem same.call {n : Nat} {σ : Mem} {B : Bk} (h : INV0 n σ B) {a : Option (Int × Mem)} {r : Mem → Option (Int × Mem)} (g : same σ B a r) : CALL0 n σ B a r := by
  obtain ⟨v, ρ, τ, a1, a2, s1, s2, s3⟩ := g
  obtain ⟨⟨hB, hR, w, hW⟩, h2, h3, h4, h5, h6, h7, h8⟩ := h
  have q : ∀ x i, ¬ SC x → x ≠ 181 → τ x i = σ x i := fun x i hx hx2 => s1 x i hx fun e => absurd e hx2
  have e43 : τ 43 3 = σ 43 3 := q 43 3 (by unfold SC; decide) (by decide)
  refine ⟨v, ρ, τ, B, a1, a2, ⟨⟨hB.pt fun x i g1 g2 => q x i (by unfold SC; omega) (by omega), hR.pt fun i => q 182 i (by unfold SC; decide) (by decide), w, s2⟩, h2.pt (s1 181 2 (by unfold SC; decide) fun _ => Or.inl rfl) (q 0 3 (by unfold SC; decide) (by decide)) (fun x i g1 g2 => q x i (by unfold SC; omega) (by omega)) (fun i => q 183 i (by unfold SC; decide) (by decide)), h3.pt (fun i => q _ i (by unfold SC; decide) (by decide)) (fun i => q _ i (by unfold SC; decide) (by decide)) (fun i => q _ i (by unfold SC; decide) (by decide)) (fun i => q _ i (by unfold SC; decide) (by decide)) (Int.le_refl _), h4.pt (fun i => q _ i (by unfold SC; decide) (by decide)) (fun i => q _ i (by unfold SC; decide) (by decide)), h5.pt (s1 181 9 (by unfold SC; decide) fun _ => Or.inr rfl) (q 28 1 (by unfold SC; decide) (by decide)) (fun i => q _ i (by unfold SC; decide) (by decide)) (fun i => q _ i (by unfold SC; decide) (by decide)), h6.ref s3, h7.pt (fun i => q _ i (by unfold SC; decide) (by decide)), h8.s (Or.inl e43)⟩, fun x i g1 g2 => q x i (by unfold SC; omega) (by omega), Or.inr ⟨e43, SAMEB.rfl⟩⟩
/-- a call that writes a few places: what is behind it, place by place -/
def keepS (σ τ : Mem) (L : List Int) : Prop := ∀ x i, x ∉ L → τ x i = σ x i
theorem keepS.mup {σ τ : Mem} {L : List Int} {k i v : Int} (h : keepS σ τ L) (hk : k ∈ L) : keepS σ (mup τ k i v) L := fun x j hx => by
  rw [mup_miss (fun e => hx (by rw [e.1]; exact hk))]; exact h x j hx
theorem keepS.rfl {σ : Mem} {L : List Int} : keepS σ σ L := fun _ _ _ => Eq.refl _
theorem keepS.trans {σ τ ρ : Mem} {L : List Int} (h : keepS σ τ L) (g : keepS τ ρ L) : keepS σ ρ L := fun x i hx => by rw [g x i hx, h x i hx]
theorem keepS.sub {σ τ : Mem} {L M : List Int} (h : keepS σ τ L) (hs : ∀ x, x ∈ L → x ∈ M) : keepS σ τ M := fun x i hx => h x i fun e => hx (hs x e)
/-- only shelves were written -/
theorem call_shelf {n : Nat} {σ ρ τ : Mem} {B : Bk} {v : Int} {a : Option (Int × Mem)} {r : Mem → Option (Int × Mem)} (h : INV0 n σ B) (a1 : a = some (v, ρ)) (a2 : r ρ = some (v, τ)) (k : keepS σ τ [31, 32, 33, 185, 186, 187, 188]) (h3 : SHF τ B) (h4 : ELS τ) : CALL0 n σ B a r := by
  obtain ⟨⟨hB, hR, w, hW⟩, h2, -, -, h5, h6, h7, h8⟩ := h
  have hn := w.1
  unfold WFn at hn
  have q : ∀ x i, ¬ (31 ≤ x ∧ x ≤ 33) → ¬ (185 ≤ x ∧ x ≤ 188) → τ x i = σ x i := fun x i g1 g2 => k x i (by simp only [List.mem_cons, List.not_mem_nil, or_false]; omega)
  refine ⟨v, ρ, τ, B, a1, a2, ⟨⟨hB.pt fun x i g1 g2 => q x i (by omega) (by omega), hR.pt fun i => q 182 i (by decide) (by decide), w, hW.keep (by omega) fun x g1 g2 => funext fun i => q x i (by omega) (by omega)⟩, h2.pt (q _ _ (by decide) (by decide)) (q _ _ (by decide) (by decide)) (fun x i g1 g2 => q x i (by omega) (by omega)) (fun i => q _ _ (by decide) (by decide)), h3, h4, h5.pt (q _ _ (by decide) (by decide)) (q _ _ (by decide) (by decide)) (fun i => q _ _ (by decide) (by decide)) (fun i => q _ _ (by decide) (by decide)), h6.pt (fun i => q _ _ (by decide) (by decide)) (fun i => q _ _ (by decide) (by decide)), h7.pt (fun i => q _ _ (by decide) (by decide)), h8.s (Or.inl (q _ _ (by decide) (by decide)))⟩, fun x i g1 g2 => q x i (by omega) (by omega), Or.inr ⟨q _ _ (by decide) (by decide), SAMEB.rfl⟩⟩
/-- only the tape was written -/
theorem call_tape {n : Nat} {σ ρ τ : Mem} {B : Bk} {v : Int} {a : Option (Int × Mem)} {r : Mem → Option (Int × Mem)} (h : INV0 n σ B) (a1 : a = some (v, ρ)) (a2 : r ρ = some (v, τ)) (k : ∀ x i, ¬ (28 ≤ x ∧ x ≤ 29) → (x = 181 → i = 2) → x ≠ 189 → τ x i = σ x i) (h5 : TAP τ) : CALL0 n σ B a r := by
  obtain ⟨⟨hB, hR, w, hW⟩, h2, h3, h4, -, h6, h7, h8⟩ := h
  have hn := w.1
  unfold WFn at hn
  have q : ∀ x i, ¬ (28 ≤ x ∧ x ≤ 29) → x ≠ 181 → x ≠ 189 → τ x i = σ x i := fun x i g1 g2 g3 => k x i g1 (fun e => absurd e g2) g3
  refine ⟨v, ρ, τ, B, a1, a2, ⟨⟨hB.pt fun x i g1 g2 => q x i (by omega) (by omega) (by omega), hR.pt fun i => q 182 i (by decide) (by decide) (by decide), w, hW.keep (by omega) fun x g1 g2 => funext fun i => q x i (by omega) (by omega) (by omega)⟩, h2.pt (k 181 2 (by decide) (fun _ => rfl) (by decide)) (q _ _ (by decide) (by decide) (by decide)) (fun x i g1 g2 => q x i (by omega) (by omega) (by omega)) (fun i => q _ _ (by decide) (by decide) (by decide)), h3.pt (fun i => q _ _ (by decide) (by decide) (by decide)) (fun i => q _ _ (by decide) (by decide) (by decide)) (fun i => q _ _ (by decide) (by decide) (by decide)) (fun i => q _ _ (by decide) (by decide) (by decide)) (Int.le_refl _), h4.pt (fun i => q _ _ (by decide) (by decide) (by decide)) (fun i => q _ _ (by decide) (by decide) (by decide)), h5, h6.pt (fun i => q _ _ (by decide) (by decide) (by decide)) (fun i => q _ _ (by decide) (by decide) (by decide)), h7.pt (fun i => q _ _ (by decide) (by decide) (by decide)), h8.s (Or.inl (q _ _ (by decide) (by decide) (by decide)))⟩, fun x i g1 g2 => q x i (by omega) (by omega) (by omega), Or.inr ⟨q _ _ (by decide) (by decide) (by decide), SAMEB.rfl⟩⟩
