/-! THE LAW'S START: papers and candidates by the script, the object made; from the entry (by mkstart.py) -/
def pkv (N : Nat) (xs : Nat → Int32) (i k : Int) : Int := (f_L_pick N xs i k).getD 0
theorem cell_is {N : Nat} {xs : Nat → Int32} {i : Int} (hi : 0 ≤ i) : ∃ v, f_L_cell N xs i = some v := by
  unfold f_L_cell
  split
  · exact ⟨_, rfl⟩
  · rename_i h
    rw [chk_pos ⟨hi, by omega⟩]
    exact ⟨_, rfl⟩
theorem pk_v {N : Nat} {xs : Nat → Int32} {i k : Int} (hi : 0 ≤ i) (hk : k ≠ 0) : ∃ v, f_L_pick N xs i k = some (jrem (jushr v 8) k) := by
  obtain ⟨v, hv⟩ := cell_is (N := N) (xs := xs) hi
  refine ⟨v, ?_⟩
  unfold f_L_pick
  rw [hv]
  simp only [Option.bind_some]
  rw [chk_pos hk]
theorem pk_is {N : Nat} {xs : Nat → Int32} {i k : Int} (hi : 0 ≤ i) (hk : k ≠ 0) : f_L_pick N xs i k = some (pkv N xs i k) := by
  obtain ⟨v, hv⟩ := pk_v (N := N) (xs := xs) hi hk
  unfold pkv
  rw [hv]
  rfl
theorem jushr8 (a : Int) : 0 ≤ jushr a 8 ∧ jushr a 8 ≤ 16777215 := by
  unfold jushr
  obtain ⟨u, hu⟩ : ∃ u : UInt32, u = (Int32.ofInt a).toUInt32 := ⟨_, rfl⟩
  rw [← hu, show (Int32.ofInt 8).toUInt32 &&& Int32.toUInt32 31 = UInt32.ofNat 8 from by decide +kernel]
  have e : (u >>> UInt32.ofNat 8).toBitVec.toNat = u.toNat / 256 := by
    show (u >>> UInt32.ofNat 8).toNat = _
    rw [UInt32.toNat_shiftRight, show (UInt32.ofNat 8).toNat % 32 = 8 from by decide +kernel, Nat.shiftRight_eq_div_pow]
  have hu2 : u.toNat < 4294967296 := u.toBitVec.isLt
  have e2 : (u >>> UInt32.ofNat 8).toInt32.toInt = ((u.toNat / 256 : Nat) : Int) := by
    show (u >>> UInt32.ofNat 8).toBitVec.toInt = _
    rw [BitVec.toInt_eq_toNat_of_lt (by rw [e]; omega), e]
  rw [e2]
  omega
theorem pk_b {N : Nat} {xs : Nat → Int32} {i k : Int} (hi : 0 ≤ i) (hk : 0 < k ∧ k ≤ 1000) : 0 ≤ pkv N xs i k ∧ pkv N xs i k < k := by
  obtain ⟨v, hv⟩ := pk_v (N := N) (xs := xs) hi (show k ≠ 0 by omega)
  have := jushr8 v
  unfold pkv
  rw [hv]
  show 0 ≤ jrem (jushr v 8) k ∧ jrem (jushr v 8) k < k
  rw [jrem_ok this.1 (by omega) hk.1 (by omega)]
  exact ⟨Int.emod_nonneg _ (by omega), Int.emod_lt_of_pos _ hk.1⟩
/-- the papers and the candidates that the script tells -/
def pdy (N : Nat) (xs : Nat → Int32) (p : Int) : Int := if pkv N xs (10 + 4 * p) 3 = 0 then pkv N xs (10 + 4 * p + 1) 5 else pkv N xs (10 + 4 * p + 1) 2
def pst (N : Nat) (xs : Nat → Int32) (p : Int) : Int := if pkv N xs (10 + 4 * p + 2) 4 = 0 then pkv N xs (10 + 4 * p + 3) 48 else pkv N xs (10 + 4 * p + 3) 30
def pln (N : Nat) (xs : Nat → Int32) (p : Int) : Int := 1 + pkv N xs (10 + 4 * p + 2) 12
def xiP (N : Nat) (xs : Nat → Int32) (p : Int) : Mem := fun x j => if x = 0 then (if j = 0 then 8 + pkv N xs 0 33 else if j = 1 then pkv N xs 1 9 else 0) else if 2 ≤ x ∧ x < 2 + p then (if j = 0 then pdy N xs (x - 2) else if j = 1 then pst N xs (x - 2) else if j = 2 then pln N xs (x - 2) else 0) else 0
def xiQ (N : Nat) (xs : Nat → Int32) (m : Nat) (c : Int) : Mem := fun x j => if 3 + (m : Int) ≤ x ∧ x < 3 + m + c then (if j = 0 then pkv N xs (70 + 3 * (x - 3 - m)) 6 else if j = 1 then pkv N xs (70 + 3 * (x - 3 - m) + 1) 10 else if j = 2 then pkv N xs (70 + 3 * (x - 3 - m) + 2) 2 else 0) else xiP N xs m x j
def etP (p : Int) : Mem := fun x j => if x = 1 ∧ 0 ≤ j ∧ j < p then 2 + j else -1
def etQ (m : Nat) (c : Int) : Mem := fun x j => if x = 1 ∧ 0 ≤ j ∧ j < m then 2 + j else if x = 2 + (m : Int) ∧ 0 ≤ j ∧ j < c then 3 + (m : Int) + j else -1
theorem etP_0 : etP 0 = fun _ _ => -1 := by
  funext x j
  unfold etP
  rw [if_neg (by omega)]
theorem etP_s {p : Int} (h : 0 ≤ p) : mup (etP p) 1 p (2 + p) = etP (p + 1) := by
  funext x j
  unfold mup etP
  by_cases e : x = 1 ∧ j = p
  · rw [if_pos e, if_pos (by omega), e.2]
  · rw [if_neg e]
    by_cases g : x = 1 ∧ 0 ≤ j ∧ j < p
    · rw [if_pos g, if_pos (by omega)]
    · rw [if_neg g, if_neg (by omega)]
theorem xiP_s {N : Nat} {xs : Nat → Int32} {p : Int} (h : 0 ≤ p) : mup (mup (mup (xiP N xs p) (2 + p) 0 (pdy N xs p)) (2 + p) 1 (pst N xs p)) (2 + p) 2 (pln N xs p) = xiP N xs (p + 1) := by
  funext x j
  by_cases e : x = 2 + p
  · subst e
    have g1 : ∀ j, xiP N xs p (2 + p) j = 0 := fun j => by unfold xiP; rw [if_neg (by omega), if_neg (by omega)]
    have g2 : xiP N xs (p + 1) (2 + p) j = if j = 0 then pdy N xs p else if j = 1 then pst N xs p else if j = 2 then pln N xs p else 0 := by
      unfold xiP
      rw [if_neg (by omega), if_pos (by omega), show 2 + p - 2 = p by omega]
    rw [g2]
    by_cases j0 : j = 0
    · subst j0; rw [mup_miss (fun z => absurd z.2 (by decide)), mup_miss (fun z => absurd z.2 (by decide)), mup_hit rfl rfl, if_pos rfl]
    · by_cases j1 : j = 1
      · subst j1; rw [mup_miss (fun z => absurd z.2 (by decide)), mup_hit rfl rfl, if_neg (by decide), if_pos rfl]
      · by_cases j2 : j = 2
        · subst j2; rw [mup_hit rfl rfl, if_neg (by decide), if_neg (by decide), if_pos rfl]
        · rw [mup_miss (fun z => j2 z.2), mup_miss (fun z => j1 z.2), mup_miss (fun z => j0 z.2), g1, if_neg j0, if_neg j1, if_neg j2]
  · rw [mup_miss (fun z => e z.1), mup_miss (fun z => e z.1), mup_miss (fun z => e z.1)]
    unfold xiP
    by_cases q0 : x = 0
    · rw [if_pos q0, if_pos q0]
    · rw [if_neg q0, if_neg q0]
      by_cases g : 2 ≤ x ∧ x < 2 + p
      · rw [if_pos g, if_pos (show 2 ≤ x ∧ x < 2 + (p + 1) by omega)]
      · rw [if_neg g, if_neg (show ¬ (2 ≤ x ∧ x < 2 + (p + 1)) by omega)]
theorem etQ_0 {m : Nat} : etQ m 0 = etP m := by
  funext x j
  unfold etQ etP
  by_cases e : x = 1 ∧ 0 ≤ j ∧ j < m
  · rw [if_pos e, if_pos e]
  · rw [if_neg e, if_neg e, if_neg (by omega)]
theorem etQ_s {m : Nat} {c : Int} (h : 0 ≤ c) : mup (etQ m c) (2 + (m : Int)) c (3 + (m : Int) + c) = etQ m (c + 1) := by
  funext x j
  unfold mup etQ
  by_cases e : x = 2 + (m : Int) ∧ j = c
  · rw [if_pos e, if_neg (by omega), if_pos (by omega), e.2]
  · rw [if_neg e]
    by_cases g : x = 1 ∧ 0 ≤ j ∧ j < m
    · rw [if_pos g, if_pos g]
    · rw [if_neg g, if_neg g]
      by_cases q : x = 2 + (m : Int) ∧ 0 ≤ j ∧ j < c
      · rw [if_pos q, if_pos (by omega)]
      · rw [if_neg q, if_neg (by omega)]
theorem xiQ_0 {N : Nat} {xs : Nat → Int32} {m : Nat} : xiQ N xs m 0 = xiP N xs m := by
  funext x j
  unfold xiQ
  rw [if_neg (by omega)]
theorem xiQ_s {N : Nat} {xs : Nat → Int32} {m : Nat} {c : Int} (h : 0 ≤ c) : mup (mup (mup (mup (xiQ N xs m c) (3 + (m : Int) + c) 0 (pkv N xs (70 + 3 * c) 6)) (3 + (m : Int) + c) 1 (pkv N xs (70 + 3 * c + 1) 10)) (3 + (m : Int) + c) 2 (pkv N xs (70 + 3 * c + 2) 2)) (3 + (m : Int) + c) 3 0 = xiQ N xs m (c + 1) := by
  funext x j
  by_cases e : x = 3 + (m : Int) + c
  · subst e
    have g1 : ∀ j, xiQ N xs m c (3 + (m : Int) + c) j = 0 := fun j => by unfold xiQ xiP; rw [if_neg (by omega), if_neg (by omega), if_neg (by omega)]
    have g2 : xiQ N xs m (c + 1) (3 + (m : Int) + c) j = if j = 0 then pkv N xs (70 + 3 * c) 6 else if j = 1 then pkv N xs (70 + 3 * c + 1) 10 else if j = 2 then pkv N xs (70 + 3 * c + 2) 2 else 0 := by
      unfold xiQ
      rw [if_pos (by omega), show 3 + (m : Int) + c - 3 - m = c by omega]
    rw [g2]
    by_cases j0 : j = 0
    · subst j0; rw [mup_miss (fun z => absurd z.2 (by decide)), mup_miss (fun z => absurd z.2 (by decide)), mup_miss (fun z => absurd z.2 (by decide)), mup_hit rfl rfl, if_pos rfl]
    · by_cases j1 : j = 1
      · subst j1; rw [mup_miss (fun z => absurd z.2 (by decide)), mup_miss (fun z => absurd z.2 (by decide)), mup_hit rfl rfl, if_neg (by decide), if_pos rfl]
      · by_cases j2 : j = 2
        · subst j2; rw [mup_miss (fun z => absurd z.2 (by decide)), mup_hit rfl rfl, if_neg (by decide), if_neg (by decide), if_pos rfl]
        · rw [if_neg j0, if_neg j1, if_neg j2]
          by_cases j3 : j = 3
          · subst j3; rw [mup_hit rfl rfl]
          · rw [mup_miss (fun z => j3 z.2), mup_miss (fun z => j2 z.2), mup_miss (fun z => j1 z.2), mup_miss (fun z => j0 z.2), g1]
  · rw [mup_miss (fun z => e z.1), mup_miss (fun z => e z.1), mup_miss (fun z => e z.1), mup_miss (fun z => e z.1)]
    unfold xiQ
    by_cases g : 3 + (m : Int) ≤ x ∧ x < 3 + m + c
    · rw [if_pos g, if_pos (show 3 + (m : Int) ≤ x ∧ x < 3 + m + (c + 1) by omega)]
    · rw [if_neg g, if_neg (show ¬ (3 + (m : Int) ≤ x ∧ x < 3 + m + (c + 1)) by omega)]
theorem eta_is {m n : Nat} : etQ m n = eta m n := rfl
theorem ml_L_87z : ML RL 87 yL_papers M0_L_papers := ⟨inWS 819 (by decide +kernel) (by decide +kernel), inWS 21 (by decide +kernel) (by decide +kernel), inWS 821 (by decide +kernel) (by decide +kernel), by decide +kernel⟩
theorem ml_L_87 {N : Nat} {xs : Nat → Int32} : ML RL 87 yL_papers (M_L_papers N xs) := ml_L_87z
theorem ml_L_91z : ML RL 91 yL_cands M0_L_cands := ⟨inWS 824 (by decide +kernel) (by decide +kernel), inWS 21 (by decide +kernel) (by decide +kernel), inWS 826 (by decide +kernel) (by decide +kernel), by decide +kernel⟩
theorem ml_L_91 {N : Nat} {xs : Nat → Int32} : ML RL 91 yL_cands (M_L_cands N xs) := ml_L_91z
theorem ml_L_94 : ML RL 94 yX10_init M_X10_init := ⟨inWS 39 (by decide +kernel) (by decide +kernel), inWS 22 (by decide +kernel) (by decide +kernel), inWS 41 (by decide +kernel) (by decide +kernel), by decide +kernel⟩
theorem mt_L_papers : Cond.static yL_papers ∈ WS := inWS 820 (by decide +kernel) (by decide +kernel)
theorem mt_L_cands : Cond.static yL_cands ∈ WS := inWS 825 (by decide +kernel) (by decide +kernel)
theorem wk_L_15 : Cond.classLink RL 15 "[I" ∈ WS := inWS 822 (by decide +kernel) (by decide +kernel)
theorem wk_L_22 : Cond.classLink RL 22 RX10 ∈ WS := inWS 37 (by decide +kernel) (by decide +kernel)
theorem wi_X10 : Cond.instantiable RX10 14 ∈ WS := inWS 38 (by decide +kernel) (by decide +kernel)
theorem wz_X10 : Cond.initialized RX10 ∈ WS := inWS 22 (by decide +kernel) (by decide +kernel)
theorem mi_X10_init : Cond.instanceMethod yX10_init ∈ WS := inWS 40 (by decide +kernel) (by decide +kernel)
theorem xs_np {m n p : Nat} (h : p < m) : xsh m n (2 + p) = (0, 3) := by
  unfold xsh
  rw [if_neg (by omega), if_neg (by omega), if_pos (by omega)]
theorem xs_nQ {m n : Nat} : xsh m n (2 + m) = (3, n) := by
  unfold xsh
  rw [if_neg (by omega), if_neg (by omega), if_neg (by omega), if_pos rfl]
theorem xs_nq {m n c : Nat} : xsh m n (3 + m + c) = (0, 4) := by
  unfold xsh
  rw [if_neg (by omega), if_neg (by omega), if_neg (by omega), if_neg (by omega)]
theorem chk_u {i : Int} {N : Nat} (h : 0 ≤ i ∧ i < N) : chk (0 ≤ i ∧ i < N) (some ()) = some () := chk_pos h
theorem ite_u {c : Prop} [Decidable c] : (if c then some () else some ()) = some () := by split <;> rfl
set_option maxHeartbeats 4000000 in
set_option maxRecDepth 20000 in
theorem e_papers_99 {m n N : Nat} {xs : Nat → Int32} (hmn : m ≤ 10 ∧ n ≤ 4) (hN : (N : Int) ≤ 2147483647) {ρ σ : Mem} {p : Nat} (hp : p < m) (ih : El (xsh m n) (M_L_papers N xs) (true, true) (0, 1) (0, 2 + m) (some (3, (1 : Int)), (0, ρ, σ, 2 + m, etP m, xiP N xs m)) 8 (0, ρ, σ, 2 + (p + 1), etP ((p + 1 : Nat) : Int), xiP N xs ((p + 1 : Nat) : Int)) [(3, (200000 : Int)), (0, (10 : Int)), (0, (m : Int)), (3, (1 : Int)), (0, ((p + 1 : Nat) : Int)), (9, 0)] []) : El (xsh m n) (M_L_papers N xs) (true, true) (0, 1) (0, 2 + m) (some (3, (1 : Int)), (0, ρ, σ, 2 + m, etP m, xiP N xs m)) 99 (0, ρ, σ, 2 + p + 1, etP p, mup (xiP N xs p) (2 + (p : Int)) 0 (pdy N xs p)) [(3, (200000 : Int)), (0, (10 : Int)), (0, (m : Int)), (3, (1 : Int)), (0, (p : Int)), (0, (10 + 4 * (p : Int)))] [(0, (pst N xs p)), (0, (1 : Int)), (3, 2 + (p : Int)), (3, 2 + (p : Int)), (0, (p : Int)), (3, (1 : Int))] := by
  refine el_xast (X := some ()) (q := ()) dL_papers_99 (xs_p (n := n) (isPp_at ⟨by omega, by omega⟩)) (by omega) (by omega) (chk_u ⟨by decide, by decide⟩) (fun _ => ?_)
  show El _ _ _ _ _ _ 100 (0, ρ, σ, 2 + p + 1, etP p, mup (mup (xiP N xs p) (2 + (p : Int)) 0 (pdy N xs p)) (2 + (p : Int)) (1 : Int) (pst N xs p)) [(3, (200000 : Int)), (0, (10 : Int)), (0, (m : Int)), (3, (1 : Int)), (0, (p : Int)), (0, (10 + 4 * (p : Int)))] [(3, 2 + (p : Int)), (0, (p : Int)), (3, (1 : Int))]
  refine el_dup dL_papers_100 (show (3 : Nat) ≠ 1 by decide) ?_
  refine el_iconst dL_papers_101 (by decide) ?_
  show El _ _ _ _ _ _ 102 (0, ρ, σ, 2 + p + 1, etP p, mup (mup (xiP N xs p) (2 + (p : Int)) 0 (pdy N xs p)) (2 + (p : Int)) (1 : Int) (pst N xs p)) [(3, (200000 : Int)), (0, (10 : Int)), (0, (m : Int)), (3, (1 : Int)), (0, (p : Int)), (0, (10 + 4 * (p : Int)))] [(0, (2 : Int)), (3, 2 + (p : Int)), (3, 2 + (p : Int)), (0, (p : Int)), (3, (1 : Int))]
  refine el_iconst dL_papers_102 (by decide) ?_
  show El _ _ _ _ _ _ 103 (0, ρ, σ, 2 + p + 1, etP p, mup (mup (xiP N xs p) (2 + (p : Int)) 0 (pdy N xs p)) (2 + (p : Int)) (1 : Int) (pst N xs p)) [(3, (200000 : Int)), (0, (10 : Int)), (0, (m : Int)), (3, (1 : Int)), (0, (p : Int)), (0, (10 + 4 * (p : Int)))] [(0, (1 : Int)), (0, (2 : Int)), (3, 2 + (p : Int)), (3, 2 + (p : Int)), (0, (p : Int)), (3, (1 : Int))]
  refine el_aloadS dL_papers_103 rfl ?_
  refine el_iload dL_papers_104 rfl ?_
  refine el_iconst dL_papers_106 (by decide) ?_
  show El _ _ _ _ _ _ 107 (0, ρ, σ, 2 + p + 1, etP p, mup (mup (xiP N xs p) (2 + (p : Int)) 0 (pdy N xs p)) (2 + (p : Int)) (1 : Int) (pst N xs p)) [(3, (200000 : Int)), (0, (10 : Int)), (0, (m : Int)), (3, (1 : Int)), (0, (p : Int)), (0, (10 + 4 * (p : Int)))] [(0, (2 : Int)), (0, (10 + 4 * (p : Int))), (3, (200000 : Int)), (0, (1 : Int)), (0, (2 : Int)), (3, 2 + (p : Int)), (3, 2 + (p : Int)), (0, (p : Int)), (3, (1 : Int))]
  refine el_iadd dL_papers_107 ?_
  rw [show jadd (10 + 4 * (p : Int)) (2 : Int) = (10 + 4 * (p : Int) + 2) from jadd_ok (by omega) (by omega)]
  refine el_bipush dL_papers_108 (by decide) (by decide) ?_
  show El _ _ _ _ _ _ 110 (0, ρ, σ, 2 + p + 1, etP p, mup (mup (xiP N xs p) (2 + (p : Int)) 0 (pdy N xs p)) (2 + (p : Int)) (1 : Int) (pst N xs p)) [(3, (200000 : Int)), (0, (10 : Int)), (0, (m : Int)), (3, (1 : Int)), (0, (p : Int)), (0, (10 + 4 * (p : Int)))] [(0, (12 : Int)), (0, (10 + 4 * (p : Int) + 2)), (3, (200000 : Int)), (0, (1 : Int)), (0, (2 : Int)), (3, 2 + (p : Int)), (3, 2 + (p : Int)), (0, (p : Int)), (3, (1 : Int))]
  refine el_call (av := [(3, (200000 : Int)), (0, (10 + 4 * (p : Int) + 2)), (0, (12 : Int))]) (st := [(0, (1 : Int)), (0, (2 : Int)), (3, 2 + (p : Int)), (3, 2 + (p : Int)), (0, (p : Int)), (3, (1 : Int))]) (z2 := (0, 2 + p + 1)) (r2 := (some (0, (pkv N xs (10 + 4 * (p : Int) + 2) (12 : Int))), (0, ρ, σ, 2 + p + 1, etP p, mup (mup (xiP N xs p) (2 + (p : Int)) 0 (pdy N xs p)) (2 + (p : Int)) (1 : Int) (pst N xs p)))) dL_papers_110 rfl ml_L_17 mt_L_pick rfl ⟨Nat.le_of_ble_eq_true rfl, Nat.le_of_ble_eq_true rfl⟩ (Nat.le_of_ble_eq_true rfl) (c_L_pick hN (pk_is (by omega) (by decide))) ⟨Nat.le_refl _, Nat.zero_le _, Nat.le_refl _, by omega⟩ ⟨rfl, rfl⟩ (Or.inl rfl) (fun _ => rfl) ?_
  show El _ _ _ _ _ _ 113 (0, ρ, σ, 2 + p + 1, etP p, mup (mup (xiP N xs p) (2 + (p : Int)) 0 (pdy N xs p)) (2 + (p : Int)) (1 : Int) (pst N xs p)) [(3, (200000 : Int)), (0, (10 : Int)), (0, (m : Int)), (3, (1 : Int)), (0, (p : Int)), (0, (10 + 4 * (p : Int)))] [(0, (pkv N xs (10 + 4 * (p : Int) + 2) (12 : Int))), (0, (1 : Int)), (0, (2 : Int)), (3, 2 + (p : Int)), (3, 2 + (p : Int)), (0, (p : Int)), (3, (1 : Int))]
  refine el_iadd dL_papers_113 ?_
  rw [show jadd (1 : Int) (pkv N xs (10 + 4 * (p : Int) + 2) (12 : Int)) = (pln N xs p) from by have := pk_b (N := N) (xs := xs) (i := 10 + 4 * (p : Int) + 2) (k := 12) (by omega) ⟨by decide, by decide⟩; exact jadd_ok (by omega) (by omega)]
  refine el_xast (X := some ()) (q := ()) dL_papers_114 (xs_p (n := n) (isPp_at ⟨by omega, by omega⟩)) (by omega) (by omega) (chk_u ⟨by decide, by decide⟩) (fun _ => ?_)
  show El _ _ _ _ _ _ 115 (0, ρ, σ, 2 + p + 1, etP p, mup (mup (mup (xiP N xs p) (2 + (p : Int)) 0 (pdy N xs p)) (2 + (p : Int)) (1 : Int) (pst N xs p)) (2 + (p : Int)) (2 : Int) (pln N xs p)) [(3, (200000 : Int)), (0, (10 : Int)), (0, (m : Int)), (3, (1 : Int)), (0, (p : Int)), (0, (10 + 4 * (p : Int)))] [(3, 2 + (p : Int)), (0, (p : Int)), (3, (1 : Int))]
  rw [xiP_s (by omega)]
  refine el_xaast dL_papers_115 xs_P x0_P (by omega) (xs_p (n := n) (isPp_at ⟨by omega, by omega⟩)) (by omega) (by omega) ⟨by omega, by omega⟩ ?_
  rw [etP_s (by omega)]
  refine el_iinc dL_papers_116 rfl rfl ?_
  rw [show jadd (p : Int) 1 = ((p + 1 : Nat) : Int) from by rw [jadd_ok (by omega) (by omega)]; omega]
  refine el_goto (tgt := 8) dL_papers_119 rfl ?_
  rw [show (p : Int) + 1 = ((p + 1 : Nat) : Int) from by omega]
  exact el_sub ih ⟨.inr rfl, .inr rfl, .inr rfl, .inr rfl, .inr rfl, .inl rfl, trivial⟩
set_option maxHeartbeats 4000000 in
set_option maxRecDepth 20000 in
theorem e_papers_61 {m n N : Nat} {xs : Nat → Int32} (hmn : m ≤ 10 ∧ n ≤ 4) (hN : (N : Int) ≤ 2147483647) {ρ σ : Mem} {p : Nat} (hp : p < m) (ih : El (xsh m n) (M_L_papers N xs) (true, true) (0, 1) (0, 2 + m) (some (3, (1 : Int)), (0, ρ, σ, 2 + m, etP m, xiP N xs m)) 8 (0, ρ, σ, 2 + (p + 1), etP ((p + 1 : Nat) : Int), xiP N xs ((p + 1 : Nat) : Int)) [(3, (200000 : Int)), (0, (10 : Int)), (0, (m : Int)), (3, (1 : Int)), (0, ((p + 1 : Nat) : Int)), (9, 0)] []) : El (xsh m n) (M_L_papers N xs) (true, true) (0, 1) (0, 2 + m) (some (3, (1 : Int)), (0, ρ, σ, 2 + m, etP m, xiP N xs m)) 61 (0, ρ, σ, 2 + p + 1, etP p, xiP N xs p) [(3, (200000 : Int)), (0, (10 : Int)), (0, (m : Int)), (3, (1 : Int)), (0, (p : Int)), (0, (10 + 4 * (p : Int)))] [(0, (pdy N xs p)), (0, (0 : Int)), (3, 2 + (p : Int)), (3, 2 + (p : Int)), (0, (p : Int)), (3, (1 : Int))] := by
  refine el_xast (X := some ()) (q := ()) dL_papers_61 (xs_p (n := n) (isPp_at ⟨by omega, by omega⟩)) (by omega) (by omega) (chk_u ⟨by decide, by decide⟩) (fun _ => ?_)
  show El _ _ _ _ _ _ 62 (0, ρ, σ, 2 + p + 1, etP p, mup (xiP N xs p) (2 + (p : Int)) (0 : Int) (pdy N xs p)) [(3, (200000 : Int)), (0, (10 : Int)), (0, (m : Int)), (3, (1 : Int)), (0, (p : Int)), (0, (10 + 4 * (p : Int)))] [(3, 2 + (p : Int)), (0, (p : Int)), (3, (1 : Int))]
  refine el_dup dL_papers_62 (show (3 : Nat) ≠ 1 by decide) ?_
  refine el_iconst dL_papers_63 (by decide) ?_
  show El _ _ _ _ _ _ 64 (0, ρ, σ, 2 + p + 1, etP p, mup (xiP N xs p) (2 + (p : Int)) (0 : Int) (pdy N xs p)) [(3, (200000 : Int)), (0, (10 : Int)), (0, (m : Int)), (3, (1 : Int)), (0, (p : Int)), (0, (10 + 4 * (p : Int)))] [(0, (1 : Int)), (3, 2 + (p : Int)), (3, 2 + (p : Int)), (0, (p : Int)), (3, (1 : Int))]
  refine el_aloadS dL_papers_64 rfl ?_
  refine el_iload dL_papers_65 rfl ?_
  refine el_iconst dL_papers_67 (by decide) ?_
  show El _ _ _ _ _ _ 68 (0, ρ, σ, 2 + p + 1, etP p, mup (xiP N xs p) (2 + (p : Int)) (0 : Int) (pdy N xs p)) [(3, (200000 : Int)), (0, (10 : Int)), (0, (m : Int)), (3, (1 : Int)), (0, (p : Int)), (0, (10 + 4 * (p : Int)))] [(0, (2 : Int)), (0, (10 + 4 * (p : Int))), (3, (200000 : Int)), (0, (1 : Int)), (3, 2 + (p : Int)), (3, 2 + (p : Int)), (0, (p : Int)), (3, (1 : Int))]
  refine el_iadd dL_papers_68 ?_
  rw [show jadd (10 + 4 * (p : Int)) (2 : Int) = (10 + 4 * (p : Int) + 2) from jadd_ok (by omega) (by omega)]
  refine el_iconst dL_papers_69 (by decide) ?_
  show El _ _ _ _ _ _ 70 (0, ρ, σ, 2 + p + 1, etP p, mup (xiP N xs p) (2 + (p : Int)) (0 : Int) (pdy N xs p)) [(3, (200000 : Int)), (0, (10 : Int)), (0, (m : Int)), (3, (1 : Int)), (0, (p : Int)), (0, (10 + 4 * (p : Int)))] [(0, (4 : Int)), (0, (10 + 4 * (p : Int) + 2)), (3, (200000 : Int)), (0, (1 : Int)), (3, 2 + (p : Int)), (3, 2 + (p : Int)), (0, (p : Int)), (3, (1 : Int))]
  refine el_call (av := [(3, (200000 : Int)), (0, (10 + 4 * (p : Int) + 2)), (0, (4 : Int))]) (st := [(0, (1 : Int)), (3, 2 + (p : Int)), (3, 2 + (p : Int)), (0, (p : Int)), (3, (1 : Int))]) (z2 := (0, 2 + p + 1)) (r2 := (some (0, (pkv N xs (10 + 4 * (p : Int) + 2) (4 : Int))), (0, ρ, σ, 2 + p + 1, etP p, mup (xiP N xs p) (2 + (p : Int)) (0 : Int) (pdy N xs p)))) dL_papers_70 rfl ml_L_17 mt_L_pick rfl ⟨Nat.le_of_ble_eq_true rfl, Nat.le_of_ble_eq_true rfl⟩ (Nat.le_of_ble_eq_true rfl) (c_L_pick hN (pk_is (by omega) (by decide))) ⟨Nat.le_refl _, Nat.zero_le _, Nat.le_refl _, by omega⟩ ⟨rfl, rfl⟩ (Or.inl rfl) (fun _ => rfl) ?_
  show El _ _ _ _ _ _ 73 (0, ρ, σ, 2 + p + 1, etP p, mup (xiP N xs p) (2 + (p : Int)) (0 : Int) (pdy N xs p)) [(3, (200000 : Int)), (0, (10 : Int)), (0, (m : Int)), (3, (1 : Int)), (0, (p : Int)), (0, (10 + 4 * (p : Int)))] [(0, (pkv N xs (10 + 4 * (p : Int) + 2) (4 : Int))), (0, (1 : Int)), (3, 2 + (p : Int)), (3, 2 + (p : Int)), (0, (p : Int)), (3, (1 : Int))]
  refine el_if_ne (X := some ()) (Y := some ()) (q := ()) (tgt := 89) dL_papers_73 rfl ite_u (fun hz _ => ?_) (fun hz _ => ?_)
  · refine el_aloadS dL_papers_89 rfl ?_
    refine el_iload dL_papers_90 rfl ?_
    refine el_iconst dL_papers_92 (by decide) ?_
    show El _ _ _ _ _ _ 93 (0, ρ, σ, 2 + p + 1, etP p, mup (xiP N xs p) (2 + (p : Int)) (0 : Int) (pdy N xs p)) [(3, (200000 : Int)), (0, (10 : Int)), (0, (m : Int)), (3, (1 : Int)), (0, (p : Int)), (0, (10 + 4 * (p : Int)))] [(0, (3 : Int)), (0, (10 + 4 * (p : Int))), (3, (200000 : Int)), (0, (1 : Int)), (3, 2 + (p : Int)), (3, 2 + (p : Int)), (0, (p : Int)), (3, (1 : Int))]
    refine el_iadd dL_papers_93 ?_
    rw [show jadd (10 + 4 * (p : Int)) (3 : Int) = (10 + 4 * (p : Int) + 3) from jadd_ok (by omega) (by omega)]
    refine el_bipush dL_papers_94 (by decide) (by decide) ?_
    show El _ _ _ _ _ _ 96 (0, ρ, σ, 2 + p + 1, etP p, mup (xiP N xs p) (2 + (p : Int)) (0 : Int) (pdy N xs p)) [(3, (200000 : Int)), (0, (10 : Int)), (0, (m : Int)), (3, (1 : Int)), (0, (p : Int)), (0, (10 + 4 * (p : Int)))] [(0, (30 : Int)), (0, (10 + 4 * (p : Int) + 3)), (3, (200000 : Int)), (0, (1 : Int)), (3, 2 + (p : Int)), (3, 2 + (p : Int)), (0, (p : Int)), (3, (1 : Int))]
    refine el_call (av := [(3, (200000 : Int)), (0, (10 + 4 * (p : Int) + 3)), (0, (30 : Int))]) (st := [(0, (1 : Int)), (3, 2 + (p : Int)), (3, 2 + (p : Int)), (0, (p : Int)), (3, (1 : Int))]) (z2 := (0, 2 + p + 1)) (r2 := (some (0, (pkv N xs (10 + 4 * (p : Int) + 3) (30 : Int))), (0, ρ, σ, 2 + p + 1, etP p, mup (xiP N xs p) (2 + (p : Int)) (0 : Int) (pdy N xs p)))) dL_papers_96 rfl ml_L_17 mt_L_pick rfl ⟨Nat.le_of_ble_eq_true rfl, Nat.le_of_ble_eq_true rfl⟩ (Nat.le_of_ble_eq_true rfl) (c_L_pick hN (pk_is (by omega) (by decide))) ⟨Nat.le_refl _, Nat.zero_le _, Nat.le_refl _, by omega⟩ ⟨rfl, rfl⟩ (Or.inl rfl) (fun _ => rfl) ?_
    show El _ _ _ _ _ _ 99 (0, ρ, σ, 2 + p + 1, etP p, mup (xiP N xs p) (2 + (p : Int)) (0 : Int) (pdy N xs p)) [(3, (200000 : Int)), (0, (10 : Int)), (0, (m : Int)), (3, (1 : Int)), (0, (p : Int)), (0, (10 + 4 * (p : Int)))] [(0, (pkv N xs (10 + 4 * (p : Int) + 3) (30 : Int))), (0, (1 : Int)), (3, 2 + (p : Int)), (3, 2 + (p : Int)), (0, (p : Int)), (3, (1 : Int))]
    rw [show pkv N xs (10 + 4 * (p : Int) + 3) (30 : Int) = pst N xs p from by unfold pst; rw [if_neg hz]]
    exact e_papers_99 hmn hN hp ih
  · refine el_aloadS dL_papers_76 rfl ?_
    refine el_iload dL_papers_77 rfl ?_
    refine el_iconst dL_papers_79 (by decide) ?_
    show El _ _ _ _ _ _ 80 (0, ρ, σ, 2 + p + 1, etP p, mup (xiP N xs p) (2 + (p : Int)) (0 : Int) (pdy N xs p)) [(3, (200000 : Int)), (0, (10 : Int)), (0, (m : Int)), (3, (1 : Int)), (0, (p : Int)), (0, (10 + 4 * (p : Int)))] [(0, (3 : Int)), (0, (10 + 4 * (p : Int))), (3, (200000 : Int)), (0, (1 : Int)), (3, 2 + (p : Int)), (3, 2 + (p : Int)), (0, (p : Int)), (3, (1 : Int))]
    refine el_iadd dL_papers_80 ?_
    rw [show jadd (10 + 4 * (p : Int)) (3 : Int) = (10 + 4 * (p : Int) + 3) from jadd_ok (by omega) (by omega)]
    refine el_bipush dL_papers_81 (by decide) (by decide) ?_
    show El _ _ _ _ _ _ 83 (0, ρ, σ, 2 + p + 1, etP p, mup (xiP N xs p) (2 + (p : Int)) (0 : Int) (pdy N xs p)) [(3, (200000 : Int)), (0, (10 : Int)), (0, (m : Int)), (3, (1 : Int)), (0, (p : Int)), (0, (10 + 4 * (p : Int)))] [(0, (48 : Int)), (0, (10 + 4 * (p : Int) + 3)), (3, (200000 : Int)), (0, (1 : Int)), (3, 2 + (p : Int)), (3, 2 + (p : Int)), (0, (p : Int)), (3, (1 : Int))]
    refine el_call (av := [(3, (200000 : Int)), (0, (10 + 4 * (p : Int) + 3)), (0, (48 : Int))]) (st := [(0, (1 : Int)), (3, 2 + (p : Int)), (3, 2 + (p : Int)), (0, (p : Int)), (3, (1 : Int))]) (z2 := (0, 2 + p + 1)) (r2 := (some (0, (pkv N xs (10 + 4 * (p : Int) + 3) (48 : Int))), (0, ρ, σ, 2 + p + 1, etP p, mup (xiP N xs p) (2 + (p : Int)) (0 : Int) (pdy N xs p)))) dL_papers_83 rfl ml_L_17 mt_L_pick rfl ⟨Nat.le_of_ble_eq_true rfl, Nat.le_of_ble_eq_true rfl⟩ (Nat.le_of_ble_eq_true rfl) (c_L_pick hN (pk_is (by omega) (by decide))) ⟨Nat.le_refl _, Nat.zero_le _, Nat.le_refl _, by omega⟩ ⟨rfl, rfl⟩ (Or.inl rfl) (fun _ => rfl) ?_
    show El _ _ _ _ _ _ 86 (0, ρ, σ, 2 + p + 1, etP p, mup (xiP N xs p) (2 + (p : Int)) (0 : Int) (pdy N xs p)) [(3, (200000 : Int)), (0, (10 : Int)), (0, (m : Int)), (3, (1 : Int)), (0, (p : Int)), (0, (10 + 4 * (p : Int)))] [(0, (pkv N xs (10 + 4 * (p : Int) + 3) (48 : Int))), (0, (1 : Int)), (3, 2 + (p : Int)), (3, 2 + (p : Int)), (0, (p : Int)), (3, (1 : Int))]
    rw [show pkv N xs (10 + 4 * (p : Int) + 3) (48 : Int) = pst N xs p from by unfold pst; rw [if_pos (Decidable.not_not.mp hz)]]
    refine el_goto (tgt := 99) dL_papers_86 rfl ?_
    exact e_papers_99 hmn hN hp ih
set_option maxHeartbeats 4000000 in
set_option maxRecDepth 20000 in
theorem e_papers_8 {m n N : Nat} {xs : Nat → Int32} (hmn : m ≤ 10 ∧ n ≤ 4) (hN : (N : Int) ≤ 2147483647) {ρ σ : Mem} : ∀ k p : Nat, p + k = m → El (xsh m n) (M_L_papers N xs) (true, true) (0, 1) (0, 2 + m) (some (3, (1 : Int)), (0, ρ, σ, 2 + m, etP m, xiP N xs m)) 8 (0, ρ, σ, 2 + p, etP p, xiP N xs p) [(3, (200000 : Int)), (0, (10 : Int)), (0, (m : Int)), (3, (1 : Int)), (0, (p : Int)), (9, 0)] [] := by
  intro k
  induction k with
  | zero =>
    intro p hp
    obtain rfl : p = m := by omega
    refine el_iload dL_papers_8 rfl ?_
    refine el_iload_n dL_papers_10 rfl ?_
    refine el_icmp_ge (X := some ()) (Y := some ()) (q := ()) (tgt := 122) dL_papers_11 rfl ite_u (fun _ _ => ?_) (fun hz _ => absurd (Int.le_refl _) hz)
    refine el_aloadS dL_papers_122 rfl ?_
    exact el_aret dL_papers_123 rfl (fun z => z) ⟨rfl, rfl⟩ rfl
  | succ k ih =>
    intro p hpk
    have hp : p < m := by omega
    have ih := ih (p + 1) (by omega)
    refine el_iload dL_papers_8 rfl ?_
    refine el_iload_n dL_papers_10 rfl ?_
    refine el_icmp_ge (X := some ()) (Y := some ()) (q := ()) (tgt := 122) dL_papers_11 rfl ite_u (fun hz _ => absurd hz (by omega)) (fun _ _ => ?_)
    show El _ _ _ _ _ _ 14 (0, ρ, σ, 2 + p, etP p, xiP N xs p) [(3, (200000 : Int)), (0, (10 : Int)), (0, (m : Int)), (3, (1 : Int)), (0, (p : Int)), (9, 0)] []
    refine el_iload_n dL_papers_14 rfl ?_
    refine el_iconst dL_papers_15 (by decide) ?_
    show El _ _ _ _ _ _ 16 (0, ρ, σ, 2 + p, etP p, xiP N xs p) [(3, (200000 : Int)), (0, (10 : Int)), (0, (m : Int)), (3, (1 : Int)), (0, (p : Int)), (9, 0)] [(0, (4 : Int)), (0, (10 : Int))]
    refine el_iload dL_papers_16 rfl ?_
    refine el_imul dL_papers_18 ?_
    rw [show jmul (4 : Int) (p : Int) = (4 * (p : Int)) from jmul_ok (by omega) (by omega)]
    refine el_iadd dL_papers_19 ?_
    rw [show jadd (10 : Int) (4 * (p : Int)) = (10 + 4 * (p : Int)) from jadd_ok (by omega) (by omega)]
    refine el_istore dL_papers_20 rfl (Nat.le_of_ble_eq_true rfl) ?_
    show El _ _ _ _ _ _ 22 (0, ρ, σ, 2 + p, etP p, xiP N xs p) [(3, (200000 : Int)), (0, (10 : Int)), (0, (m : Int)), (3, (1 : Int)), (0, (p : Int)), (0, (10 + 4 * (p : Int)))] []
    refine el_aloadS dL_papers_22 rfl ?_
    refine el_iload dL_papers_23 rfl ?_
    refine el_iconst dL_papers_25 (by decide) ?_
    show El _ _ _ _ _ _ 26 (0, ρ, σ, 2 + p, etP p, xiP N xs p) [(3, (200000 : Int)), (0, (10 : Int)), (0, (m : Int)), (3, (1 : Int)), (0, (p : Int)), (0, (10 + 4 * (p : Int)))] [(0, (3 : Int)), (0, (p : Int)), (3, (1 : Int))]
    refine el_newi (N := 3) dL_papers_26 wyint (xs_np hp) (by decide) rfl (by show 2 + p < 2 + m; omega) ?_
    rw [show ((2 + p : Nat) : Int) = 2 + (p : Int) from by omega]
    show El _ _ _ _ _ _ 28 (0, ρ, σ, 2 + p + 1, etP p, xiP N xs p) [(3, (200000 : Int)), (0, (10 : Int)), (0, (m : Int)), (3, (1 : Int)), (0, (p : Int)), (0, (10 + 4 * (p : Int)))] [(3, 2 + (p : Int)), (0, (p : Int)), (3, (1 : Int))]
    refine el_dup dL_papers_28 (show (3 : Nat) ≠ 1 by decide) ?_
    refine el_iconst dL_papers_29 (by decide) ?_
    show El _ _ _ _ _ _ 30 (0, ρ, σ, 2 + p + 1, etP p, xiP N xs p) [(3, (200000 : Int)), (0, (10 : Int)), (0, (m : Int)), (3, (1 : Int)), (0, (p : Int)), (0, (10 + 4 * (p : Int)))] [(0, (0 : Int)), (3, 2 + (p : Int)), (3, 2 + (p : Int)), (0, (p : Int)), (3, (1 : Int))]
    refine el_aloadS dL_papers_30 rfl ?_
    refine el_iload dL_papers_31 rfl ?_
    refine el_iconst dL_papers_33 (by decide) ?_
    show El _ _ _ _ _ _ 34 (0, ρ, σ, 2 + p + 1, etP p, xiP N xs p) [(3, (200000 : Int)), (0, (10 : Int)), (0, (m : Int)), (3, (1 : Int)), (0, (p : Int)), (0, (10 + 4 * (p : Int)))] [(0, (3 : Int)), (0, (10 + 4 * (p : Int))), (3, (200000 : Int)), (0, (0 : Int)), (3, 2 + (p : Int)), (3, 2 + (p : Int)), (0, (p : Int)), (3, (1 : Int))]
    refine el_call (av := [(3, (200000 : Int)), (0, (10 + 4 * (p : Int))), (0, (3 : Int))]) (st := [(0, (0 : Int)), (3, 2 + (p : Int)), (3, 2 + (p : Int)), (0, (p : Int)), (3, (1 : Int))]) (z2 := (0, 2 + p + 1)) (r2 := (some (0, (pkv N xs (10 + 4 * (p : Int)) (3 : Int))), (0, ρ, σ, 2 + p + 1, etP p, xiP N xs p))) dL_papers_34 rfl ml_L_17 mt_L_pick rfl ⟨Nat.le_of_ble_eq_true rfl, Nat.le_of_ble_eq_true rfl⟩ (Nat.le_of_ble_eq_true rfl) (c_L_pick hN (pk_is (by omega) (by decide))) ⟨Nat.le_refl _, Nat.zero_le _, Nat.le_refl _, by omega⟩ ⟨rfl, rfl⟩ (Or.inl rfl) (fun _ => rfl) ?_
    show El _ _ _ _ _ _ 37 (0, ρ, σ, 2 + p + 1, etP p, xiP N xs p) [(3, (200000 : Int)), (0, (10 : Int)), (0, (m : Int)), (3, (1 : Int)), (0, (p : Int)), (0, (10 + 4 * (p : Int)))] [(0, (pkv N xs (10 + 4 * (p : Int)) (3 : Int))), (0, (0 : Int)), (3, 2 + (p : Int)), (3, 2 + (p : Int)), (0, (p : Int)), (3, (1 : Int))]
    refine el_if_ne (X := some ()) (Y := some ()) (q := ()) (tgt := 52) dL_papers_37 rfl ite_u (fun hz _ => ?_) (fun hz _ => ?_)
    · refine el_aloadS dL_papers_52 rfl ?_
      refine el_iload dL_papers_53 rfl ?_
      refine el_iconst dL_papers_55 (by decide) ?_
      show El _ _ _ _ _ _ 56 (0, ρ, σ, 2 + p + 1, etP p, xiP N xs p) [(3, (200000 : Int)), (0, (10 : Int)), (0, (m : Int)), (3, (1 : Int)), (0, (p : Int)), (0, (10 + 4 * (p : Int)))] [(0, (1 : Int)), (0, (10 + 4 * (p : Int))), (3, (200000 : Int)), (0, (0 : Int)), (3, 2 + (p : Int)), (3, 2 + (p : Int)), (0, (p : Int)), (3, (1 : Int))]
      refine el_iadd dL_papers_56 ?_
      rw [show jadd (10 + 4 * (p : Int)) (1 : Int) = (10 + 4 * (p : Int) + 1) from jadd_ok (by omega) (by omega)]
      refine el_iconst dL_papers_57 (by decide) ?_
      show El _ _ _ _ _ _ 58 (0, ρ, σ, 2 + p + 1, etP p, xiP N xs p) [(3, (200000 : Int)), (0, (10 : Int)), (0, (m : Int)), (3, (1 : Int)), (0, (p : Int)), (0, (10 + 4 * (p : Int)))] [(0, (2 : Int)), (0, (10 + 4 * (p : Int) + 1)), (3, (200000 : Int)), (0, (0 : Int)), (3, 2 + (p : Int)), (3, 2 + (p : Int)), (0, (p : Int)), (3, (1 : Int))]
      refine el_call (av := [(3, (200000 : Int)), (0, (10 + 4 * (p : Int) + 1)), (0, (2 : Int))]) (st := [(0, (0 : Int)), (3, 2 + (p : Int)), (3, 2 + (p : Int)), (0, (p : Int)), (3, (1 : Int))]) (z2 := (0, 2 + p + 1)) (r2 := (some (0, (pkv N xs (10 + 4 * (p : Int) + 1) (2 : Int))), (0, ρ, σ, 2 + p + 1, etP p, xiP N xs p))) dL_papers_58 rfl ml_L_17 mt_L_pick rfl ⟨Nat.le_of_ble_eq_true rfl, Nat.le_of_ble_eq_true rfl⟩ (Nat.le_of_ble_eq_true rfl) (c_L_pick hN (pk_is (by omega) (by decide))) ⟨Nat.le_refl _, Nat.zero_le _, Nat.le_refl _, by omega⟩ ⟨rfl, rfl⟩ (Or.inl rfl) (fun _ => rfl) ?_
      show El _ _ _ _ _ _ 61 (0, ρ, σ, 2 + p + 1, etP p, xiP N xs p) [(3, (200000 : Int)), (0, (10 : Int)), (0, (m : Int)), (3, (1 : Int)), (0, (p : Int)), (0, (10 + 4 * (p : Int)))] [(0, (pkv N xs (10 + 4 * (p : Int) + 1) (2 : Int))), (0, (0 : Int)), (3, 2 + (p : Int)), (3, 2 + (p : Int)), (0, (p : Int)), (3, (1 : Int))]
      rw [show pkv N xs (10 + 4 * (p : Int) + 1) (2 : Int) = pdy N xs p from by unfold pdy; rw [if_neg hz]]
      exact e_papers_61 hmn hN hp ih
    · refine el_aloadS dL_papers_40 rfl ?_
      refine el_iload dL_papers_41 rfl ?_
      refine el_iconst dL_papers_43 (by decide) ?_
      show El _ _ _ _ _ _ 44 (0, ρ, σ, 2 + p + 1, etP p, xiP N xs p) [(3, (200000 : Int)), (0, (10 : Int)), (0, (m : Int)), (3, (1 : Int)), (0, (p : Int)), (0, (10 + 4 * (p : Int)))] [(0, (1 : Int)), (0, (10 + 4 * (p : Int))), (3, (200000 : Int)), (0, (0 : Int)), (3, 2 + (p : Int)), (3, 2 + (p : Int)), (0, (p : Int)), (3, (1 : Int))]
      refine el_iadd dL_papers_44 ?_
      rw [show jadd (10 + 4 * (p : Int)) (1 : Int) = (10 + 4 * (p : Int) + 1) from jadd_ok (by omega) (by omega)]
      refine el_iconst dL_papers_45 (by decide) ?_
      show El _ _ _ _ _ _ 46 (0, ρ, σ, 2 + p + 1, etP p, xiP N xs p) [(3, (200000 : Int)), (0, (10 : Int)), (0, (m : Int)), (3, (1 : Int)), (0, (p : Int)), (0, (10 + 4 * (p : Int)))] [(0, (5 : Int)), (0, (10 + 4 * (p : Int) + 1)), (3, (200000 : Int)), (0, (0 : Int)), (3, 2 + (p : Int)), (3, 2 + (p : Int)), (0, (p : Int)), (3, (1 : Int))]
      refine el_call (av := [(3, (200000 : Int)), (0, (10 + 4 * (p : Int) + 1)), (0, (5 : Int))]) (st := [(0, (0 : Int)), (3, 2 + (p : Int)), (3, 2 + (p : Int)), (0, (p : Int)), (3, (1 : Int))]) (z2 := (0, 2 + p + 1)) (r2 := (some (0, (pkv N xs (10 + 4 * (p : Int) + 1) (5 : Int))), (0, ρ, σ, 2 + p + 1, etP p, xiP N xs p))) dL_papers_46 rfl ml_L_17 mt_L_pick rfl ⟨Nat.le_of_ble_eq_true rfl, Nat.le_of_ble_eq_true rfl⟩ (Nat.le_of_ble_eq_true rfl) (c_L_pick hN (pk_is (by omega) (by decide))) ⟨Nat.le_refl _, Nat.zero_le _, Nat.le_refl _, by omega⟩ ⟨rfl, rfl⟩ (Or.inl rfl) (fun _ => rfl) ?_
      show El _ _ _ _ _ _ 49 (0, ρ, σ, 2 + p + 1, etP p, xiP N xs p) [(3, (200000 : Int)), (0, (10 : Int)), (0, (m : Int)), (3, (1 : Int)), (0, (p : Int)), (0, (10 + 4 * (p : Int)))] [(0, (pkv N xs (10 + 4 * (p : Int) + 1) (5 : Int))), (0, (0 : Int)), (3, 2 + (p : Int)), (3, 2 + (p : Int)), (0, (p : Int)), (3, (1 : Int))]
      rw [show pkv N xs (10 + 4 * (p : Int) + 1) (5 : Int) = pdy N xs p from by unfold pdy; rw [if_pos (Decidable.not_not.mp hz)]]
      refine el_goto (tgt := 61) dL_papers_49 rfl ?_
      exact e_papers_61 hmn hN hp ih
set_option maxHeartbeats 4000000 in
set_option maxRecDepth 20000 in
theorem c_L_papers {m n N : Nat} {xs : Nat → Int32} (hmn : m ≤ 10 ∧ n ≤ 4) (hN : (N : Int) ≤ 2147483647) {ρ σ : Mem} : MsL (xsh m n) N xs yL_papers (M_L_papers N xs) true (0, 2 + m) [(3, (200000 : Int)), (0, (10 : Int)), (0, (m : Int))] (0, ρ, σ, 1, fun _ _ => -1, xiP N xs 0) (some (3, (1 : Int)), (0, ρ, σ, 2 + m, etP m, xiP N xs m)) := by
  refine MsL.of 3 (by decide +kernel) rfl rfl rfl rfl rfl ?_
  show El (xsh m n) (M_L_papers N xs) (true, true) (0, 1) (0, 2 + m) (some (3, (1 : Int)), (0, ρ, σ, 2 + m, etP m, xiP N xs m)) 0 (0, ρ, σ, 1, fun _ _ => -1, xiP N xs 0) [(3, (200000 : Int)), (0, (10 : Int)), (0, (m : Int)), (9, 0), (9, 0), (9, 0)] []
  refine el_iload_n dL_papers_0 rfl ?_
  refine el_newa dL_papers_1 wk_L_15 (show xsh m n 1 = (3, m) from rfl) (by omega) rfl (by show 1 < 2 + m; omega) ?_
  show El _ _ _ _ _ _ 4 (0, ρ, σ, 2, fun _ _ => -1, xiP N xs 0) _ [(3, (1 : Int))]
  refine el_astoreS_n dL_papers_4 rfl (Nat.le_of_ble_eq_true rfl) ?_
  refine el_iconst dL_papers_5 (by decide) ?_
  refine el_istore dL_papers_6 rfl (Nat.le_of_ble_eq_true rfl) ?_
  have key := e_papers_8 (n := n) (N := N) (xs := xs) hmn hN (ρ := ρ) (σ := σ) m 0 (by omega)
  rw [show ((0 : Nat) : Int) = 0 from rfl, etP_0] at key
  exact key
set_option maxHeartbeats 4000000 in
set_option maxRecDepth 20000 in
theorem e_cands_8 {m n N : Nat} {xs : Nat → Int32} (hmn : m ≤ 10 ∧ n ≤ 4) (hN : (N : Int) ≤ 2147483647) {ρ σ : Mem} : ∀ k c : Nat, c + k = n → El (xsh m n) (M_L_cands N xs) (true, true) (0, 2 + m) (0, 3 + m + n) (some (3, 2 + (m : Int)), (0, ρ, σ, 3 + m + n, etQ m n, xiQ N xs m n)) 8 (0, ρ, σ, 3 + m + c, etQ m c, xiQ N xs m c) [(3, (200000 : Int)), (0, (70 : Int)), (0, (n : Int)), (3, 2 + (m : Int)), (0, (c : Int)), (9, 0)] [] := by
  intro k
  induction k with
  | zero =>
    intro c hc
    obtain rfl : c = n := by omega
    refine el_iload dL_cands_8 rfl ?_
    refine el_iload_n dL_cands_10 rfl ?_
    refine el_icmp_ge (X := some ()) (Y := some ()) (q := ()) (tgt := 75) dL_cands_11 rfl ite_u (fun _ _ => ?_) (fun hz _ => absurd (Int.le_refl _) hz)
    refine el_aloadS dL_cands_75 rfl ?_
    exact el_aret dL_cands_76 rfl (fun z => z) ⟨rfl, rfl⟩ rfl
  | succ k ih =>
    intro c hck
    have hc : c < n := by omega
    have ih := ih (c + 1) (by omega)
    refine el_iload dL_cands_8 rfl ?_
    refine el_iload_n dL_cands_10 rfl ?_
    refine el_icmp_ge (X := some ()) (Y := some ()) (q := ()) (tgt := 75) dL_cands_11 rfl ite_u (fun hz _ => absurd hz (by omega)) (fun _ _ => ?_)
    show El _ _ _ _ _ _ 14 (0, ρ, σ, 3 + m + c, etQ m c, xiQ N xs m c) [(3, (200000 : Int)), (0, (70 : Int)), (0, (n : Int)), (3, 2 + (m : Int)), (0, (c : Int)), (9, 0)] []
    refine el_iload_n dL_cands_14 rfl ?_
    refine el_iconst dL_cands_15 (by decide) ?_
    show El _ _ _ _ _ _ 16 (0, ρ, σ, 3 + m + c, etQ m c, xiQ N xs m c) [(3, (200000 : Int)), (0, (70 : Int)), (0, (n : Int)), (3, 2 + (m : Int)), (0, (c : Int)), (9, 0)] [(0, (3 : Int)), (0, (70 : Int))]
    refine el_iload dL_cands_16 rfl ?_
    refine el_imul dL_cands_18 ?_
    rw [show jmul (3 : Int) (c : Int) = (3 * (c : Int)) from jmul_ok (by omega) (by omega)]
    refine el_iadd dL_cands_19 ?_
    rw [show jadd (70 : Int) (3 * (c : Int)) = (70 + 3 * (c : Int)) from jadd_ok (by omega) (by omega)]
    refine el_istore dL_cands_20 rfl (Nat.le_of_ble_eq_true rfl) ?_
    show El _ _ _ _ _ _ 22 (0, ρ, σ, 3 + m + c, etQ m c, xiQ N xs m c) [(3, (200000 : Int)), (0, (70 : Int)), (0, (n : Int)), (3, 2 + (m : Int)), (0, (c : Int)), (0, (70 + 3 * (c : Int)))] []
    refine el_aloadS dL_cands_22 rfl ?_
    refine el_iload dL_cands_23 rfl ?_
    refine el_iconst dL_cands_25 (by decide) ?_
    show El _ _ _ _ _ _ 26 (0, ρ, σ, 3 + m + c, etQ m c, xiQ N xs m c) [(3, (200000 : Int)), (0, (70 : Int)), (0, (n : Int)), (3, 2 + (m : Int)), (0, (c : Int)), (0, (70 + 3 * (c : Int)))] [(0, (4 : Int)), (0, (c : Int)), (3, 2 + (m : Int))]
    refine el_newi (N := 4) dL_cands_26 wyint xs_nq (by decide) rfl (by show 3 + m + c < 3 + m + n; omega) ?_
    rw [show ((3 + m + c : Nat) : Int) = 3 + (m : Int) + (c : Int) from by omega]
    show El _ _ _ _ _ _ 28 (0, ρ, σ, 3 + m + c + 1, etQ m c, xiQ N xs m c) [(3, (200000 : Int)), (0, (70 : Int)), (0, (n : Int)), (3, 2 + (m : Int)), (0, (c : Int)), (0, (70 + 3 * (c : Int)))] [(3, 3 + (m : Int) + (c : Int)), (0, (c : Int)), (3, 2 + (m : Int))]
    refine el_dup dL_cands_28 (show (3 : Nat) ≠ 1 by decide) ?_
    refine el_iconst dL_cands_29 (by decide) ?_
    show El _ _ _ _ _ _ 30 (0, ρ, σ, 3 + m + c + 1, etQ m c, xiQ N xs m c) [(3, (200000 : Int)), (0, (70 : Int)), (0, (n : Int)), (3, 2 + (m : Int)), (0, (c : Int)), (0, (70 + 3 * (c : Int)))] [(0, (0 : Int)), (3, 3 + (m : Int) + (c : Int)), (3, 3 + (m : Int) + (c : Int)), (0, (c : Int)), (3, 2 + (m : Int))]
    refine el_aloadS dL_cands_30 rfl ?_
    refine el_iload dL_cands_31 rfl ?_
    refine el_bipush dL_cands_33 (by decide) (by decide) ?_
    show El _ _ _ _ _ _ 35 (0, ρ, σ, 3 + m + c + 1, etQ m c, xiQ N xs m c) [(3, (200000 : Int)), (0, (70 : Int)), (0, (n : Int)), (3, 2 + (m : Int)), (0, (c : Int)), (0, (70 + 3 * (c : Int)))] [(0, (6 : Int)), (0, (70 + 3 * (c : Int))), (3, (200000 : Int)), (0, (0 : Int)), (3, 3 + (m : Int) + (c : Int)), (3, 3 + (m : Int) + (c : Int)), (0, (c : Int)), (3, 2 + (m : Int))]
    refine el_call (av := [(3, (200000 : Int)), (0, (70 + 3 * (c : Int))), (0, (6 : Int))]) (st := [(0, (0 : Int)), (3, 3 + (m : Int) + (c : Int)), (3, 3 + (m : Int) + (c : Int)), (0, (c : Int)), (3, 2 + (m : Int))]) (z2 := (0, 3 + m + c + 1)) (r2 := (some (0, (pkv N xs (70 + 3 * (c : Int)) (6 : Int))), (0, ρ, σ, 3 + m + c + 1, etQ m c, xiQ N xs m c))) dL_cands_35 rfl ml_L_17 mt_L_pick rfl ⟨Nat.le_of_ble_eq_true rfl, Nat.le_of_ble_eq_true rfl⟩ (Nat.le_of_ble_eq_true rfl) (c_L_pick hN (pk_is (by omega) (by decide))) ⟨Nat.le_refl _, Nat.zero_le _, Nat.le_refl _, by omega⟩ ⟨rfl, rfl⟩ (Or.inl rfl) (fun _ => rfl) ?_
    show El _ _ _ _ _ _ 38 (0, ρ, σ, 3 + m + c + 1, etQ m c, xiQ N xs m c) [(3, (200000 : Int)), (0, (70 : Int)), (0, (n : Int)), (3, 2 + (m : Int)), (0, (c : Int)), (0, (70 + 3 * (c : Int)))] [(0, (pkv N xs (70 + 3 * (c : Int)) (6 : Int))), (0, (0 : Int)), (3, 3 + (m : Int) + (c : Int)), (3, 3 + (m : Int) + (c : Int)), (0, (c : Int)), (3, 2 + (m : Int))]
    refine el_xast (X := some ()) (q := ()) dL_cands_38 (xs_q (isQ_at ⟨by omega, by omega⟩)) (by omega) (by omega) (chk_u ⟨by decide, by decide⟩) (fun _ => ?_)
    show El _ _ _ _ _ _ 39 (0, ρ, σ, 3 + m + c + 1, etQ m c, mup (xiQ N xs m c) (3 + (m : Int) + (c : Int)) (0 : Int) (pkv N xs (70 + 3 * (c : Int)) (6 : Int))) [(3, (200000 : Int)), (0, (70 : Int)), (0, (n : Int)), (3, 2 + (m : Int)), (0, (c : Int)), (0, (70 + 3 * (c : Int)))] [(3, 3 + (m : Int) + (c : Int)), (0, (c : Int)), (3, 2 + (m : Int))]
    refine el_dup dL_cands_39 (show (3 : Nat) ≠ 1 by decide) ?_
    refine el_iconst dL_cands_40 (by decide) ?_
    show El _ _ _ _ _ _ 41 (0, ρ, σ, 3 + m + c + 1, etQ m c, mup (xiQ N xs m c) (3 + (m : Int) + (c : Int)) (0 : Int) (pkv N xs (70 + 3 * (c : Int)) (6 : Int))) [(3, (200000 : Int)), (0, (70 : Int)), (0, (n : Int)), (3, 2 + (m : Int)), (0, (c : Int)), (0, (70 + 3 * (c : Int)))] [(0, (1 : Int)), (3, 3 + (m : Int) + (c : Int)), (3, 3 + (m : Int) + (c : Int)), (0, (c : Int)), (3, 2 + (m : Int))]
    refine el_aloadS dL_cands_41 rfl ?_
    refine el_iload dL_cands_42 rfl ?_
    refine el_iconst dL_cands_44 (by decide) ?_
    show El _ _ _ _ _ _ 45 (0, ρ, σ, 3 + m + c + 1, etQ m c, mup (xiQ N xs m c) (3 + (m : Int) + (c : Int)) (0 : Int) (pkv N xs (70 + 3 * (c : Int)) (6 : Int))) [(3, (200000 : Int)), (0, (70 : Int)), (0, (n : Int)), (3, 2 + (m : Int)), (0, (c : Int)), (0, (70 + 3 * (c : Int)))] [(0, (1 : Int)), (0, (70 + 3 * (c : Int))), (3, (200000 : Int)), (0, (1 : Int)), (3, 3 + (m : Int) + (c : Int)), (3, 3 + (m : Int) + (c : Int)), (0, (c : Int)), (3, 2 + (m : Int))]
    refine el_iadd dL_cands_45 ?_
    rw [show jadd (70 + 3 * (c : Int)) (1 : Int) = (70 + 3 * (c : Int) + 1) from jadd_ok (by omega) (by omega)]
    refine el_bipush dL_cands_46 (by decide) (by decide) ?_
    show El _ _ _ _ _ _ 48 (0, ρ, σ, 3 + m + c + 1, etQ m c, mup (xiQ N xs m c) (3 + (m : Int) + (c : Int)) (0 : Int) (pkv N xs (70 + 3 * (c : Int)) (6 : Int))) [(3, (200000 : Int)), (0, (70 : Int)), (0, (n : Int)), (3, 2 + (m : Int)), (0, (c : Int)), (0, (70 + 3 * (c : Int)))] [(0, (10 : Int)), (0, (70 + 3 * (c : Int) + 1)), (3, (200000 : Int)), (0, (1 : Int)), (3, 3 + (m : Int) + (c : Int)), (3, 3 + (m : Int) + (c : Int)), (0, (c : Int)), (3, 2 + (m : Int))]
    refine el_call (av := [(3, (200000 : Int)), (0, (70 + 3 * (c : Int) + 1)), (0, (10 : Int))]) (st := [(0, (1 : Int)), (3, 3 + (m : Int) + (c : Int)), (3, 3 + (m : Int) + (c : Int)), (0, (c : Int)), (3, 2 + (m : Int))]) (z2 := (0, 3 + m + c + 1)) (r2 := (some (0, (pkv N xs (70 + 3 * (c : Int) + 1) (10 : Int))), (0, ρ, σ, 3 + m + c + 1, etQ m c, mup (xiQ N xs m c) (3 + (m : Int) + (c : Int)) (0 : Int) (pkv N xs (70 + 3 * (c : Int)) (6 : Int))))) dL_cands_48 rfl ml_L_17 mt_L_pick rfl ⟨Nat.le_of_ble_eq_true rfl, Nat.le_of_ble_eq_true rfl⟩ (Nat.le_of_ble_eq_true rfl) (c_L_pick hN (pk_is (by omega) (by decide))) ⟨Nat.le_refl _, Nat.zero_le _, Nat.le_refl _, by omega⟩ ⟨rfl, rfl⟩ (Or.inl rfl) (fun _ => rfl) ?_
    show El _ _ _ _ _ _ 51 (0, ρ, σ, 3 + m + c + 1, etQ m c, mup (xiQ N xs m c) (3 + (m : Int) + (c : Int)) (0 : Int) (pkv N xs (70 + 3 * (c : Int)) (6 : Int))) [(3, (200000 : Int)), (0, (70 : Int)), (0, (n : Int)), (3, 2 + (m : Int)), (0, (c : Int)), (0, (70 + 3 * (c : Int)))] [(0, (pkv N xs (70 + 3 * (c : Int) + 1) (10 : Int))), (0, (1 : Int)), (3, 3 + (m : Int) + (c : Int)), (3, 3 + (m : Int) + (c : Int)), (0, (c : Int)), (3, 2 + (m : Int))]
    refine el_xast (X := some ()) (q := ()) dL_cands_51 (xs_q (isQ_at ⟨by omega, by omega⟩)) (by omega) (by omega) (chk_u ⟨by decide, by decide⟩) (fun _ => ?_)
    show El _ _ _ _ _ _ 52 (0, ρ, σ, 3 + m + c + 1, etQ m c, mup (mup (xiQ N xs m c) (3 + (m : Int) + (c : Int)) (0 : Int) (pkv N xs (70 + 3 * (c : Int)) (6 : Int))) (3 + (m : Int) + (c : Int)) (1 : Int) (pkv N xs (70 + 3 * (c : Int) + 1) (10 : Int))) [(3, (200000 : Int)), (0, (70 : Int)), (0, (n : Int)), (3, 2 + (m : Int)), (0, (c : Int)), (0, (70 + 3 * (c : Int)))] [(3, 3 + (m : Int) + (c : Int)), (0, (c : Int)), (3, 2 + (m : Int))]
    refine el_dup dL_cands_52 (show (3 : Nat) ≠ 1 by decide) ?_
    refine el_iconst dL_cands_53 (by decide) ?_
    show El _ _ _ _ _ _ 54 (0, ρ, σ, 3 + m + c + 1, etQ m c, mup (mup (xiQ N xs m c) (3 + (m : Int) + (c : Int)) (0 : Int) (pkv N xs (70 + 3 * (c : Int)) (6 : Int))) (3 + (m : Int) + (c : Int)) (1 : Int) (pkv N xs (70 + 3 * (c : Int) + 1) (10 : Int))) [(3, (200000 : Int)), (0, (70 : Int)), (0, (n : Int)), (3, 2 + (m : Int)), (0, (c : Int)), (0, (70 + 3 * (c : Int)))] [(0, (2 : Int)), (3, 3 + (m : Int) + (c : Int)), (3, 3 + (m : Int) + (c : Int)), (0, (c : Int)), (3, 2 + (m : Int))]
    refine el_aloadS dL_cands_54 rfl ?_
    refine el_iload dL_cands_55 rfl ?_
    refine el_iconst dL_cands_57 (by decide) ?_
    show El _ _ _ _ _ _ 58 (0, ρ, σ, 3 + m + c + 1, etQ m c, mup (mup (xiQ N xs m c) (3 + (m : Int) + (c : Int)) (0 : Int) (pkv N xs (70 + 3 * (c : Int)) (6 : Int))) (3 + (m : Int) + (c : Int)) (1 : Int) (pkv N xs (70 + 3 * (c : Int) + 1) (10 : Int))) [(3, (200000 : Int)), (0, (70 : Int)), (0, (n : Int)), (3, 2 + (m : Int)), (0, (c : Int)), (0, (70 + 3 * (c : Int)))] [(0, (2 : Int)), (0, (70 + 3 * (c : Int))), (3, (200000 : Int)), (0, (2 : Int)), (3, 3 + (m : Int) + (c : Int)), (3, 3 + (m : Int) + (c : Int)), (0, (c : Int)), (3, 2 + (m : Int))]
    refine el_iadd dL_cands_58 ?_
    rw [show jadd (70 + 3 * (c : Int)) (2 : Int) = (70 + 3 * (c : Int) + 2) from jadd_ok (by omega) (by omega)]
    refine el_iconst dL_cands_59 (by decide) ?_
    show El _ _ _ _ _ _ 60 (0, ρ, σ, 3 + m + c + 1, etQ m c, mup (mup (xiQ N xs m c) (3 + (m : Int) + (c : Int)) (0 : Int) (pkv N xs (70 + 3 * (c : Int)) (6 : Int))) (3 + (m : Int) + (c : Int)) (1 : Int) (pkv N xs (70 + 3 * (c : Int) + 1) (10 : Int))) [(3, (200000 : Int)), (0, (70 : Int)), (0, (n : Int)), (3, 2 + (m : Int)), (0, (c : Int)), (0, (70 + 3 * (c : Int)))] [(0, (2 : Int)), (0, (70 + 3 * (c : Int) + 2)), (3, (200000 : Int)), (0, (2 : Int)), (3, 3 + (m : Int) + (c : Int)), (3, 3 + (m : Int) + (c : Int)), (0, (c : Int)), (3, 2 + (m : Int))]
    refine el_call (av := [(3, (200000 : Int)), (0, (70 + 3 * (c : Int) + 2)), (0, (2 : Int))]) (st := [(0, (2 : Int)), (3, 3 + (m : Int) + (c : Int)), (3, 3 + (m : Int) + (c : Int)), (0, (c : Int)), (3, 2 + (m : Int))]) (z2 := (0, 3 + m + c + 1)) (r2 := (some (0, (pkv N xs (70 + 3 * (c : Int) + 2) (2 : Int))), (0, ρ, σ, 3 + m + c + 1, etQ m c, mup (mup (xiQ N xs m c) (3 + (m : Int) + (c : Int)) (0 : Int) (pkv N xs (70 + 3 * (c : Int)) (6 : Int))) (3 + (m : Int) + (c : Int)) (1 : Int) (pkv N xs (70 + 3 * (c : Int) + 1) (10 : Int))))) dL_cands_60 rfl ml_L_17 mt_L_pick rfl ⟨Nat.le_of_ble_eq_true rfl, Nat.le_of_ble_eq_true rfl⟩ (Nat.le_of_ble_eq_true rfl) (c_L_pick hN (pk_is (by omega) (by decide))) ⟨Nat.le_refl _, Nat.zero_le _, Nat.le_refl _, by omega⟩ ⟨rfl, rfl⟩ (Or.inl rfl) (fun _ => rfl) ?_
    show El _ _ _ _ _ _ 63 (0, ρ, σ, 3 + m + c + 1, etQ m c, mup (mup (xiQ N xs m c) (3 + (m : Int) + (c : Int)) (0 : Int) (pkv N xs (70 + 3 * (c : Int)) (6 : Int))) (3 + (m : Int) + (c : Int)) (1 : Int) (pkv N xs (70 + 3 * (c : Int) + 1) (10 : Int))) [(3, (200000 : Int)), (0, (70 : Int)), (0, (n : Int)), (3, 2 + (m : Int)), (0, (c : Int)), (0, (70 + 3 * (c : Int)))] [(0, (pkv N xs (70 + 3 * (c : Int) + 2) (2 : Int))), (0, (2 : Int)), (3, 3 + (m : Int) + (c : Int)), (3, 3 + (m : Int) + (c : Int)), (0, (c : Int)), (3, 2 + (m : Int))]
    refine el_xast (X := some ()) (q := ()) dL_cands_63 (xs_q (isQ_at ⟨by omega, by omega⟩)) (by omega) (by omega) (chk_u ⟨by decide, by decide⟩) (fun _ => ?_)
    show El _ _ _ _ _ _ 64 (0, ρ, σ, 3 + m + c + 1, etQ m c, mup (mup (mup (xiQ N xs m c) (3 + (m : Int) + (c : Int)) (0 : Int) (pkv N xs (70 + 3 * (c : Int)) (6 : Int))) (3 + (m : Int) + (c : Int)) (1 : Int) (pkv N xs (70 + 3 * (c : Int) + 1) (10 : Int))) (3 + (m : Int) + (c : Int)) (2 : Int) (pkv N xs (70 + 3 * (c : Int) + 2) (2 : Int))) [(3, (200000 : Int)), (0, (70 : Int)), (0, (n : Int)), (3, 2 + (m : Int)), (0, (c : Int)), (0, (70 + 3 * (c : Int)))] [(3, 3 + (m : Int) + (c : Int)), (0, (c : Int)), (3, 2 + (m : Int))]
    refine el_dup dL_cands_64 (show (3 : Nat) ≠ 1 by decide) ?_
    refine el_iconst dL_cands_65 (by decide) ?_
    show El _ _ _ _ _ _ 66 (0, ρ, σ, 3 + m + c + 1, etQ m c, mup (mup (mup (xiQ N xs m c) (3 + (m : Int) + (c : Int)) (0 : Int) (pkv N xs (70 + 3 * (c : Int)) (6 : Int))) (3 + (m : Int) + (c : Int)) (1 : Int) (pkv N xs (70 + 3 * (c : Int) + 1) (10 : Int))) (3 + (m : Int) + (c : Int)) (2 : Int) (pkv N xs (70 + 3 * (c : Int) + 2) (2 : Int))) [(3, (200000 : Int)), (0, (70 : Int)), (0, (n : Int)), (3, 2 + (m : Int)), (0, (c : Int)), (0, (70 + 3 * (c : Int)))] [(0, (3 : Int)), (3, 3 + (m : Int) + (c : Int)), (3, 3 + (m : Int) + (c : Int)), (0, (c : Int)), (3, 2 + (m : Int))]
    refine el_iconst dL_cands_66 (by decide) ?_
    show El _ _ _ _ _ _ 67 (0, ρ, σ, 3 + m + c + 1, etQ m c, mup (mup (mup (xiQ N xs m c) (3 + (m : Int) + (c : Int)) (0 : Int) (pkv N xs (70 + 3 * (c : Int)) (6 : Int))) (3 + (m : Int) + (c : Int)) (1 : Int) (pkv N xs (70 + 3 * (c : Int) + 1) (10 : Int))) (3 + (m : Int) + (c : Int)) (2 : Int) (pkv N xs (70 + 3 * (c : Int) + 2) (2 : Int))) [(3, (200000 : Int)), (0, (70 : Int)), (0, (n : Int)), (3, 2 + (m : Int)), (0, (c : Int)), (0, (70 + 3 * (c : Int)))] [(0, (0 : Int)), (0, (3 : Int)), (3, 3 + (m : Int) + (c : Int)), (3, 3 + (m : Int) + (c : Int)), (0, (c : Int)), (3, 2 + (m : Int))]
    refine el_xast (X := some ()) (q := ()) dL_cands_67 (xs_q (isQ_at ⟨by omega, by omega⟩)) (by omega) (by omega) (chk_u ⟨by decide, by decide⟩) (fun _ => ?_)
    show El _ _ _ _ _ _ 68 (0, ρ, σ, 3 + m + c + 1, etQ m c, mup (mup (mup (mup (xiQ N xs m c) (3 + (m : Int) + (c : Int)) (0 : Int) (pkv N xs (70 + 3 * (c : Int)) (6 : Int))) (3 + (m : Int) + (c : Int)) (1 : Int) (pkv N xs (70 + 3 * (c : Int) + 1) (10 : Int))) (3 + (m : Int) + (c : Int)) (2 : Int) (pkv N xs (70 + 3 * (c : Int) + 2) (2 : Int))) (3 + (m : Int) + (c : Int)) (3 : Int) (0 : Int)) [(3, (200000 : Int)), (0, (70 : Int)), (0, (n : Int)), (3, 2 + (m : Int)), (0, (c : Int)), (0, (70 + 3 * (c : Int)))] [(3, 3 + (m : Int) + (c : Int)), (0, (c : Int)), (3, 2 + (m : Int))]
    rw [xiQ_s (by omega)]
    refine el_xaast dL_cands_68 xs_Q x0_Q (by omega) (xs_q (isQ_at ⟨by omega, by omega⟩)) (by omega) (by omega) ⟨by omega, by omega⟩ ?_
    rw [etQ_s (by omega)]
    refine el_iinc dL_cands_69 rfl rfl ?_
    rw [show jadd (c : Int) 1 = ((c + 1 : Nat) : Int) from by rw [jadd_ok (by omega) (by omega)]; omega]
    refine el_goto (tgt := 8) dL_cands_72 rfl ?_
    rw [show (c : Int) + 1 = ((c + 1 : Nat) : Int) from by omega]
    exact el_sub ih ⟨.inr rfl, .inr rfl, .inr rfl, .inr rfl, .inr rfl, .inl rfl, trivial⟩
set_option maxHeartbeats 4000000 in
set_option maxRecDepth 20000 in
theorem c_L_cands {m n N : Nat} {xs : Nat → Int32} (hmn : m ≤ 10 ∧ n ≤ 4) (hN : (N : Int) ≤ 2147483647) {ρ σ : Mem} : MsL (xsh m n) N xs yL_cands (M_L_cands N xs) true (0, 3 + m + n) [(3, (200000 : Int)), (0, (70 : Int)), (0, (n : Int))] (0, ρ, σ, 2 + m, etP m, xiP N xs m) (some (3, 2 + (m : Int)), (0, ρ, σ, 3 + m + n, etQ m n, xiQ N xs m n)) := by
  refine MsL.of 3 (by decide +kernel) rfl rfl rfl rfl rfl ?_
  show El (xsh m n) (M_L_cands N xs) (true, true) (0, 2 + m) (0, 3 + m + n) (some (3, 2 + (m : Int)), (0, ρ, σ, 3 + m + n, etQ m n, xiQ N xs m n)) 0 (0, ρ, σ, 2 + m, etP m, xiP N xs m) [(3, (200000 : Int)), (0, (70 : Int)), (0, (n : Int)), (9, 0), (9, 0), (9, 0)] []
  refine el_iload_n dL_cands_0 rfl ?_
  refine el_newa dL_cands_1 wk_L_15 xs_nQ (by omega) rfl (by show 2 + m < 3 + m + n; omega) ?_
  rw [show ((2 + m : Nat) : Int) = 2 + (m : Int) from by omega, show 2 + m + 1 = 3 + m + 0 from by omega]
  refine el_astoreS_n dL_cands_4 rfl (Nat.le_of_ble_eq_true rfl) ?_
  refine el_iconst dL_cands_5 (by decide) ?_
  refine el_istore dL_cands_6 rfl (Nat.le_of_ble_eq_true rfl) ?_
  have key := e_cands_8 (n := n) (N := N) (xs := xs) hmn hN (ρ := ρ) (σ := σ) n 0 (by omega)
  rw [show ((0 : Nat) : Int) = 0 from rfl, etQ_0, xiQ_0] at key
  exact key
