/-! A DAY'S PLAN, slot by slot -/
/-- the law's arrays hold the book -/
def AR (m n : Nat) (ξ : Mem) (B : Bk) : Prop := B 8 0 = m ∧ B 8 1 = n ∧ m ≤ 10 ∧ n ≤ 4 ∧ (∀ p : Nat, p < m → ξ (2 + p) 0 = B 0 p ∧ ξ (2 + p) 1 = B 1 p) ∧ (∀ c : Nat, c < n → ξ (3 + m + c) 3 = B 6 c) ∧ ξ 0 1 = B 8 4
def FIN (v : Int) (k : Nat) (B : Bk) (J : Option Bk) (ξ : Mem) (r : Int × M2) : Prop := r.1 = v ∧ r.2.2 = ξ ∧ KS k r.2.1 B J
section
variable {m n N : Nat} {xs : Nat → Int32} {k : Nat} {σ ξ : Mem} {B : Bk} {J : Option Bk} {c D : Nat}
/-- what sits says, of nq papers -/
def SIS (k : Nat) (B : Bk) (J : Option Bk) (c D : Nat) (nq : Nat) (f : Int) (q : Nat → Nat) : Prop := ∀ σ, KS k σ B J → ∀ j : Nat, j < nq → GIVES (f_X10_sits σ c D j 0) (q j) k B J ∧ GIVES (f_X10_sits σ c D j 1) (bg B c f q j) k B J ∧ GIVES (f_X10_sits σ c D j 2) (en B c f q j) k B J
theorem p_575 {x3 x4 x5 x6 x8 x9 x10 x14 x15 x16 x17 x18 s0 : Int} {j : Nat} (hj : j < 100) {μ : M2} : f_L_isPlanned_575 m n N xs μ x3 x4 x5 x6 x8 x9 x10 x14 x15 x16 x17 x18 (j : Int) s0 = some (.inl (x18, s0, ((j + 1 : Nat) : Int), μ)) := by
  unfold f_L_isPlanned_575
  simp only [Option.bind_some]
  rw [jadd_ok (by omega) (by omega)]
  rfl
theorem p_536 (K : KS k σ B J) {nq : Nat} {f : Int} {q : Nat → Nat} (hs : SIS k B J c D nq f q) {j : Nat} (hj : j < nq) (hn : nq ≤ 4) {x5 x6 x8 x9 x10 x14 x15 x17 x19 s0 : Int} {T : Nat} : RUN (f_L_isPlanned_536 m n N xs (σ, ξ) c D x5 x6 x8 x9 x10 x14 x15 T x17 x19 j (q j) s0) (fun r => ∃ ρ s, r = .inl (s0, s, ((j + 1 : Nat) : Int), (ρ, ξ)) ∧ KS k ρ B J ∧ s = if bg B c f q j ≤ T ∧ (T : Int) < en B c f q j then (q j : Int) else x19) := by
  unfold f_L_isPlanned_536
  refine RUN.call (hs σ K j hj).2.1 fun ρ K1 => ?_
  by_cases h1 : (T : Int) < bg B c f q j
  · refine RUN.pos h1 ?_
    unfold f_L_isPlanned_573
    exact RUN.eq (p_575 (by omega)) ⟨ρ, x19, rfl, K1, by rw [if_neg (by omega)]⟩
  · refine RUN.neg h1 ?_
    refine RUN.call (hs ρ K1 j hj).2.2 fun ρ2 K2 => ?_
    by_cases h2 : en B c f q j ≤ T
    · refine RUN.pos h2 ?_
      unfold f_L_isPlanned_573
      exact RUN.eq (p_575 (by omega)) ⟨ρ2, x19, rfl, K2, by rw [if_neg (by omega)]⟩
    · refine RUN.neg h2 ?_
      exact RUN.eq (p_575 (by omega)) ⟨ρ2, (q j : Int), rfl, K2, by rw [if_pos (by omega)]⟩
/-- who sits in a slot, as the law finds it -/
def SIT (base : Int) (T : Nat) (b e : Nat → Int) (q : Nat → Nat) (j : Nat) (s : Int) : Prop := (s = base ∧ ∀ i, i < j → ¬ (b i ≤ (T : Int) ∧ (T : Int) < e i)) ∨ ∃ i, i < j ∧ b i ≤ (T : Int) ∧ (T : Int) < e i ∧ s = (q i : Int)
theorem SIT.s {base : Int} {T : Nat} {b e : Nat → Int} {q : Nat → Nat} {j : Nat} {s : Int} (h : SIT base T b e q j s) : SIT base T b e q (j + 1) (if b j ≤ (T : Int) ∧ (T : Int) < e j then (q j : Int) else s) := by
  by_cases g : b j ≤ (T : Int) ∧ (T : Int) < e j
  · rw [if_pos g]
    exact Or.inr ⟨j, by omega, g.1, g.2, rfl⟩
  · rw [if_neg g]
    rcases h with ⟨h1, h2⟩ | ⟨i, h1, h2⟩
    · refine Or.inl ⟨h1, fun i hi => ?_⟩
      by_cases e : i = j
      · rw [e]; exact g
      · exact h2 i (by omega)
    · exact Or.inr ⟨i, by omega, h2⟩
theorem p_583 {x3 x4 x5 x6 x8 x9 x14 x15 w s does : Int} {T : Nat} (hT : T < 100) {μ : M2} {W : Bool} (hw : w = if W then 1 else 0) (hd : does = if 0 ≤ s then s else if W then 20 else -1) : f_L_isPlanned_583 m n N xs μ x3 x4 x5 x6 x8 x9 1 x14 x15 T does w s = some (.inl (1, x15, ((T + 1 : Nat) : Int), μ)) := by
  have fin : f_L_isPlanned_619 m n N xs μ x3 x4 x5 x6 x8 x9 x14 x15 T 1 = some (.inl (1, x15, ((T + 1 : Nat) : Int), μ)) := by
    unfold f_L_isPlanned_619
    simp only [Option.bind_some]
    rw [jadd_ok (by omega) (by omega)]
    rfl
  unfold f_L_isPlanned_583 f_L_isPlanned_611
  rw [if_neg (by decide)]
  by_cases h : s < 0
  · rw [if_neg (by omega)] at hd
    rw [if_pos h]
    cases W with
    | true =>
      rw [show w = 1 from hw, if_neg (by decide), show does = 20 from hd, if_neg (by decide)]
      exact fin
    | false =>
      rw [show w = 0 from hw, if_pos rfl, show does = -1 from hd, if_neg (by decide)]
      exact fin
  · rw [if_pos (by omega)] at hd
    rw [if_neg h, hd, if_neg (by simp)]
    exact fin
theorem p_481 (K : KS k σ B J) (A : AR m n ξ B) {nq : Nat} {f : Int} {q : Nat → Nat} (hs : SIS k B J c D nq f q) (hn : nq ≤ 4) (hq : ∀ j, j < nq → q j < m) {T : Nat} (hT : T < 48) {wo : Nat → Bool} {base does w0 : Int} (hw0 : w0 = if wo T then 1 else 0) (hd : ∀ s, SIT base T (bg B c f q) (en B c f q) q nq s → does = if 0 ≤ s then s else if wtB wo B c f q nq T then 20 else -1) {x5 x6 x9 x14 x15 : Int} : RUN (f_L_isPlanned_481 m n N xs (σ, ξ) c D x5 x6 (nq : Int) x9 1 x14 x15 T does w0 base 0) (fun r => ∃ ρ, KS k ρ B J ∧ r = .inl (1, x15, ((T + 1 : Nat) : Int), (ρ, ξ))) := by
  unfold f_L_isPlanned_481
  refine RUN.bind (P := fun e => ∃ ρ s, KS k ρ B J ∧ SIT base T (bg B c f q) (en B c f q) q nq s ∧ e = ((if wtB wo B c f q nq T then 1 else 0), s, (ρ, ξ))) ?_ ?_
  · refine RUN.loop (fun s => ∃ (j : Nat) (ρ : Mem) (t : Int), j ≤ nq ∧ KS k ρ B J ∧ SIT base T (bg B c f q) (en B c f q) q j t ∧ s = ((if wtB wo B c f q j T then 1 else 0), t, (j : Int), (ρ, ξ))) (fun s => (10 - s.2.2.1).toNat) ⟨0, σ, base, Nat.zero_le _, K, Or.inl ⟨rfl, fun i hi => absurd hi (Nat.not_lt_zero _)⟩, ?_⟩ (Nat.le_of_ble_eq_true rfl) ?_
    · rw [hw0]
      unfold wtB anyN
      simp
    · rintro _ ⟨j, ρ, t, hj, K1, hs1, rfl⟩
      show RUN (f_L_isPlanned_481C m n N xs c D x5 x6 (nq : Int) x9 1 x14 x15 T does (if wtB wo B c f q j T then 1 else 0) t (j : Int) (ρ, ξ)) _
      unfold f_L_isPlanned_481C
      by_cases hend : (nq : Int) ≤ j
      · have : j = nq := by omega
        subst this
        refine RUN.pos hend ?_
        exact RUN.ok ⟨ρ, t, K1, hs1, rfl⟩
      · have hjn : j < nq := by omega
        have hqm := hq j hjn
        have hst := (A.2.2.2.2.1 (q j) hqm).2
        refine RUN.neg hend ?_
        refine RUN.call (hs ρ K1 j hjn).1 fun ρ2 K2 => ?_
        refine RUN.to ?_
        obtain ⟨jj, hjj⟩ : ∃ jj, jj = j := ⟨_, rfl⟩
        have fin : ∀ (ρ3 : Mem) (w : Int) (P : (Int × Int × Int × M2) ⊕ (Int × Int × M2) → Prop), KS k ρ3 B J → (∀ ρ4 s, KS k ρ4 B J → SIT base T (bg B c f q) (en B c f q) q (j + 1) s → P (.inl (w, s, ((j + 1 : Nat) : Int), (ρ4, ξ)))) → RUN (f_L_isPlanned_536 m n N xs (ρ3, ξ) c D x5 x6 (nq : Int) x9 1 x14 x15 T does t j (q j) w) P := fun ρ3 w P K3 hP => by
          refine (p_536 K3 hs hjn hn).mono ?_
          rintro _ ⟨ρ4, s, rfl, K4, hs4⟩
          refine hP ρ4 s K4 ?_
          rw [hs4]
          exact hs1.s
        have stp : ∀ w : Int, w = (if wtB wo B c f q (j + 1) T then 1 else 0) → ∀ ρ4 s, KS k ρ4 B J → SIT base T (bg B c f q) (en B c f q) q (j + 1) s → (∃ (j : Nat) (ρ : Mem) (t : Int), j ≤ nq ∧ KS k ρ B J ∧ SIT base T (bg B c f q) (en B c f q) q j t ∧ (w, s, ((jj + 1 : Nat) : Int), ((ρ4, ξ) : M2)) = ((if wtB wo B c f q j T then 1 else 0), t, (j : Int), (ρ, ξ))) ∧ (10 - ((j + 1 : Nat) : Int)).toNat < (10 - (j : Int)).toNat := fun w hw ρ4 s K4 hs4 => ⟨⟨j + 1, ρ4, s, by omega, K4, hs4, by rw [hw, hjj]⟩, by omega⟩
        cases hW : wtB wo B c f q j T with
        | true =>
          refine RUN.pos (show (1 : Int) ≠ 0 by decide) ?_
          unfold f_L_isPlanned_531
          exact fin ρ2 1 _ K2 (hjj ▸ stp 1 (by rw [wtB_s, hW]; rfl))
        | false =>
          refine RUN.neg (show ¬ (0 : Int) ≠ 0 by decide) ?_
          refine RUN.chk ⟨by omega, by omega⟩ (RUN.chk ⟨by decide, by decide⟩ ?_)
          by_cases h1 : (T : Int) < B 1 (q j)
          · refine RUN.pos (show (T : Int) < ξ (2 + (q j : Int)) 1 by rw [hst]; exact h1) ?_
            unfold f_L_isPlanned_535
            exact fin ρ2 0 _ K2 (hjj ▸ stp 0 (by rw [if_neg]; rw [wtB_s, hW]; simp; omega))
          · refine RUN.neg (show ¬ (T : Int) < ξ (2 + (q j : Int)) 1 by rw [hst]; exact h1) ?_
            refine RUN.call (hs ρ2 K2 j hjn).2.1 fun ρ3 K3 => ?_
            by_cases h2 : bg B c f q j ≤ T
            · refine RUN.pos h2 ?_
              unfold f_L_isPlanned_535
              exact fin ρ3 0 _ K3 (hjj ▸ stp 0 (by rw [if_neg]; rw [wtB_s, hW]; simp; omega))
            · refine RUN.neg h2 ?_
              unfold f_L_isPlanned_531
              exact fin ρ3 1 _ K3 (hjj ▸ stp 1 (by rw [if_pos]; rw [wtB_s, hW]; simp; omega))
  · rintro _ ⟨ρ, s, K1, hs1, rfl⟩
    exact RUN.eq (p_583 (by omega) rfl (hd s hs1)) ⟨ρ, K1, rfl⟩
end
