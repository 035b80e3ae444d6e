/-! ALL THAT CAN BE LOOKED AT, in one number of the book -/
def itF (g : Int → Nat → Int) : Nat → Int → Int
  | 0, x => x
  | i + 1, x => g (itF g i x) i
def lkC (B : Bk) (c : Nat) (x : Int) (i : Nat) : Int := kadd (kmul 31 x) (cdV B c i)
def lkD (B : Bk) (c : Nat) (x : Int) (d : Nat) : Int := kadd (kmul 31 (kadd (kmul 31 x) (plV B c d 1))) (plV B c d 2)
def lkQ (B : Bk) (x : Int) (c : Nat) : Int := itF (lkD B c) 5 (itF (lkC B c) 6 x)
def lkP (B : Bk) (p : Nat) (x : Int) (i : Nat) : Int := kadd (kmul 31 x) (paV B p i)
def lkR (B : Bk) (x : Int) (p : Nat) : Int := itF (lkP B p) 5 x
def lkS (B : Bk) (x : Int) (i : Nat) : Int := kadd (kmul 31 x) (saV B i)
def lkV (B : Bk) : Int := itF (lkS B) 9 (itF (lkR B) (B 8 0).toNat (itF (lkQ B) (B 8 1).toNat 5))
section
variable {m n N : Nat} {xs : Nat → Int32} {k : Nat} {σ ξ : Mem} {B : Bk} {J : Option Bk}
theorem loop_it {f : (Int × Int × M2) → Option ((Int × Int × M2) ⊕ (Int × M2))} {g : Int → Nat → Int} {a : Nat} (ha : a ≤ 1000) (hs : ∀ (ρ : Mem) (x : Int) (i : Nat), KS k ρ B J → i < a → RUN (f (x, (i : Int), (ρ, ξ))) (fun r => ∃ ρ2, KS k ρ2 B J ∧ r = .inl (g x i, ((i + 1 : Nat) : Int), (ρ2, ξ)))) (he : ∀ (ρ : Mem) (x : Int), KS k ρ B J → RUN (f (x, (a : Int), (ρ, ξ))) (fun r => ∃ ρ2, KS k ρ2 B J ∧ r = .inr (x, (ρ2, ξ)))) (K : KS k σ B J) (x0 : Int) : RUN (loop f FU (x0, 0, (σ, ξ))) (fun e => ∃ ρ, KS k ρ B J ∧ e = (itF g a x0, (ρ, ξ))) := by
  refine RUN.loop (fun s => ∃ (i : Nat) (ρ : Mem), i ≤ a ∧ KS k ρ B J ∧ s = (itF g i x0, (i : Int), (ρ, ξ))) (fun s => (2000 - s.2.1).toNat) ⟨0, σ, Nat.zero_le _, K, rfl⟩ (Nat.le_of_ble_eq_true rfl) ?_
  rintro _ ⟨i, ρ, hi, K1, rfl⟩
  by_cases e : i = a
  · subst e
    refine (he ρ _ K1).mono ?_
    rintro _ ⟨ρ2, K2, rfl⟩
    exact ⟨ρ2, K2, rfl⟩
  · refine (hs ρ _ i K1 (by omega)).mono ?_
    rintro _ ⟨ρ2, K2, rfl⟩
    exact ⟨⟨i + 1, ρ2, by omega, K2, rfl⟩, by show (2000 - ((i + 1 : Nat) : Int)).toNat < (2000 - (i : Int)).toNat; omega⟩
theorem j_s {i : Nat} (h : i < 1000) : jadd (i : Int) 1 = ((i + 1 : Nat) : Int) := by rw [jadd_ok (by omega) (by omega)]; omega
theorem k_49 (K : KS k σ B J) {c : Nat} (hc2 : (c : Int) < B 8 1) (hc10 : c < 100) (x : Int) : RUN (f_L_looks_49 m n N xs (σ, ξ) x c 0) (fun r => ∃ ρ, KS k ρ B J ∧ r = .inl (itF (lkD B c) 5 x, ((c + 1 : Nat) : Int), (ρ, ξ))) := by
  unfold f_L_looks_49
  refine RUN.bind (loop_it (a := 5) (g := lkD B c) (by decide) (fun ρ x i K1 hi => ?_) (fun ρ x K1 => ?_) K x) ?_
  · show RUN (f_L_looks_49C m n N xs c x (i : Int) (ρ, ξ)) _
    unfold f_L_looks_49C
    refine RUN.neg (by omega) ?_
    refine RUN.call (a_plan K1 (by omega) hc2 (show i < 5 from hi) (x := 1) ⟨by decide, by decide⟩) fun ρ2 K2 => ?_
    refine RUN.call (a_plan K2 (by omega) hc2 (show i < 5 from hi) (x := 2) ⟨by decide, by decide⟩) fun ρ3 K3 => ?_
    refine RUN.to (RUN.to ?_)
    rw [j_s (by omega)]
    exact RUN.ok ⟨ρ3, K3, rfl⟩
  · show RUN (f_L_looks_49C m n N xs c x ((5 : Nat) : Int) (ρ, ξ)) _
    unfold f_L_looks_49C
    refine RUN.pos (by decide) ?_
    exact RUN.ok ⟨ρ, K1, rfl⟩
  · rintro _ ⟨ρ, K1, rfl⟩
    unfold f_L_looks_91
    refine RUN.to ?_
    refine RUN.ok ⟨ρ, K1, ?_⟩
    rw [j_s (by omega)]
theorem k_18 (K : KS k σ B J) {c : Nat} (hc2 : (c : Int) < B 8 1) (hc10 : c < 100) (x : Int) : RUN (f_L_looks_18 m n N xs (σ, ξ) x c 0) (fun r => ∃ ρ, KS k ρ B J ∧ r = .inl (lkQ B x c, ((c + 1 : Nat) : Int), (ρ, ξ))) := by
  unfold f_L_looks_18
  refine RUN.bind (loop_it (a := 6) (g := lkC B c) (by decide) (fun ρ x i K1 hi => ?_) (fun ρ x K1 => ?_) K x) ?_
  · show RUN (f_L_looks_18C m n N xs c x (i : Int) (ρ, ξ)) _
    unfold f_L_looks_18C
    refine RUN.neg (by omega) ?_
    refine RUN.call (a_candOf K1 (by omega) hc2 (x := (i : Int)) (by omega)) fun ρ2 K2 => ?_
    refine RUN.to (RUN.to ?_)
    rw [j_s (by omega)]
    exact RUN.ok ⟨ρ2, K2, rfl⟩
  · show RUN (f_L_looks_18C m n N xs c x ((6 : Nat) : Int) (ρ, ξ)) _
    unfold f_L_looks_18C
    refine RUN.pos (by decide) ?_
    exact RUN.ok ⟨ρ, K1, rfl⟩
  · rintro _ ⟨ρ, K1, rfl⟩
    unfold f_L_looks_46
    exact k_49 K1 hc2 hc10 _
theorem k_111 (K : KS k σ B J) {p : Nat} (hp : (p : Int) < B 8 0) (hp10 : p < 100) (x : Int) : RUN (f_L_looks_111 m n N xs (σ, ξ) x p 0) (fun r => ∃ ρ, KS k ρ B J ∧ r = .inl (lkR B x p, ((p + 1 : Nat) : Int), (ρ, ξ))) := by
  unfold f_L_looks_111
  refine RUN.bind (loop_it (a := 5) (g := lkP B p) (by decide) (fun ρ x i K1 hi => ?_) (fun ρ x K1 => ?_) K x) ?_
  · show RUN (f_L_looks_111C m n N xs p x (i : Int) (ρ, ξ)) _
    unfold f_L_looks_111C
    refine RUN.neg (by omega) ?_
    refine RUN.call (a_paperOf K1 hp (x := (i : Int)) (by omega)) fun ρ2 K2 => ?_
    refine RUN.to (RUN.to ?_)
    rw [j_s (by omega)]
    exact RUN.ok ⟨ρ2, K2, rfl⟩
  · show RUN (f_L_looks_111C m n N xs p x ((5 : Nat) : Int) (ρ, ξ)) _
    unfold f_L_looks_111C
    refine RUN.pos (by decide) ?_
    exact RUN.ok ⟨ρ, K1, rfl⟩
  · rintro _ ⟨ρ, K1, rfl⟩
    unfold f_L_looks_138
    refine RUN.to ?_
    refine RUN.ok ⟨ρ, K1, ?_⟩
    rw [j_s (by omega)]
    rfl
theorem l_looks (K : KS k σ B J) : RUN (f_L_looks m n N xs (σ, ξ)) (FIN (lkV B) k B J ξ) := by
  have hn := K.1.2.2.1.1
  unfold WFn at hn
  have e0 : B 8 0 = (((B 8 0).toNat : Nat) : Int) := by omega
  have e1 : B 8 1 = (((B 8 1).toNat : Nat) : Int) := by omega
  have s0 : saV B 0 = B 8 0 := rfl
  have s1 : saV B 1 = B 8 1 := rfl
  unfold f_L_looks f_L_looks_6
  refine RUN.bind (loop_it (a := (B 8 1).toNat) (g := lkQ B) (by omega) (fun ρ x i K1 hi => ?_) (fun ρ x K1 => ?_) K 5) ?_
  · show RUN (f_L_looks_6C m n N xs x (i : Int) (ρ, ξ)) _
    unfold f_L_looks_6C
    refine RUN.call (a_status K1 (x := 1) (by decide)) fun ρ2 K2 => ?_
    refine RUN.neg (show ¬ saV B 1 ≤ (i : Int) by rw [s1]; omega) ?_
    exact k_18 K2 (by omega) (by omega) x
  · show RUN (f_L_looks_6C m n N xs x (((B 8 1).toNat : Nat) : Int) (ρ, ξ)) _
    unfold f_L_looks_6C
    refine RUN.call (a_status K1 (x := 1) (by decide)) fun ρ2 K2 => ?_
    refine RUN.pos (show saV B 1 ≤ (((B 8 1).toNat : Nat) : Int) by rw [s1]; omega) ?_
    exact RUN.ok ⟨ρ2, K2, rfl⟩
  rintro _ ⟨ρ1, K1, rfl⟩
  unfold f_L_looks_97 f_L_looks_99
  refine RUN.bind (loop_it (a := (B 8 0).toNat) (g := lkR B) (by omega) (fun ρ x i K2 hi => ?_) (fun ρ x K2 => ?_) K1 _) ?_
  · show RUN (f_L_looks_99C m n N xs x (i : Int) (ρ, ξ)) _
    unfold f_L_looks_99C
    refine RUN.call (a_status K2 (x := 0) (by decide)) fun ρ2 K3 => ?_
    refine RUN.neg (show ¬ saV B 0 ≤ (i : Int) by rw [s0]; omega) ?_
    exact k_111 K3 (by omega) (by omega) x
  · show RUN (f_L_looks_99C m n N xs x (((B 8 0).toNat : Nat) : Int) (ρ, ξ)) _
    unfold f_L_looks_99C
    refine RUN.call (a_status K2 (x := 0) (by decide)) fun ρ2 K3 => ?_
    refine RUN.pos (show saV B 0 ≤ (((B 8 0).toNat : Nat) : Int) by rw [s0]; omega) ?_
    exact RUN.ok ⟨ρ2, K3, rfl⟩
  rintro _ ⟨ρ2, K2, rfl⟩
  unfold f_L_looks_144 f_L_looks_146
  refine RUN.bind (loop_it (a := 9) (g := lkS B) (by decide) (fun ρ x i K3 hi => ?_) (fun ρ x K3 => ?_) K2 _) ?_
  · show RUN (f_L_looks_146C m n N xs x (i : Int) (ρ, ξ)) _
    unfold f_L_looks_146C
    refine RUN.neg (by omega) ?_
    refine RUN.call (a_status K3 (x := (i : Int)) (by omega)) fun ρ3 K4 => ?_
    refine RUN.to (RUN.to ?_)
    rw [j_s (by omega)]
    exact RUN.ok ⟨ρ3, K4, rfl⟩
  · show RUN (f_L_looks_146C m n N xs x ((9 : Nat) : Int) (ρ, ξ)) _
    unfold f_L_looks_146C
    refine RUN.pos (by decide) ?_
    exact RUN.ok ⟨ρ, K3, rfl⟩
  rintro _ ⟨ρ3, K3, rfl⟩
  exact RUN.ok ⟨rfl, rfl, K3⟩
end
