/-! SEATS, the class: the day's lay -/
def psD (B : Bk) (d c : Nat) : Pc := pcs (DD B c d) 48
def lfC (B : Bk) (R d : Nat) : Nat → Lf
  | 0 => fun r _ => B 7 r
  | c + 1 => lfF (lfC B R d c) R (psD B d c) (psD B d c).length
theorem lfC_b (B : Bk) (R d : Nat) : ∀ c, (∀ c', c' < c → (psD B d c').length ≤ 9) → lfB B (lfC B R d c) R (9 * c)
  | 0, _ => fun r t _ _ => by
    show 0 ≤ B 7 r - B 7 r ∧ B 7 r - B 7 r ≤ _
    omega
  | c + 1, h => fun r t hr ht => by
    have h1 := lfC_b B R d c (fun c' hc => h c' (by omega)) r t hr ht
    have h2 := lfF_b (lfC B R d c) R (psD B d c) r t (psD B d c).length
    have h3 := h c (by omega)
    show 0 ≤ B 7 r - lfF (lfC B R d c) R (psD B d c) (psD B d c).length r t ∧ B 7 r - lfF (lfC B R d c) R (psD B d c) (psD B d c).length r t ≤ _
    omega
theorem mem_pcs {q : Nat → Int} {x : Nat × Nat} : ∀ {t : Nat}, x ∈ pcs q t → x.1 < t ∧ x.2 = rvn q x.1
  | 0, h => by cases h
  | t + 1, h => by
    rw [pcs_s] at h
    by_cases e : nwP q t = true
    · rw [if_pos e] at h
      cases List.mem_append.1 h with
      | inl g =>
        have := mem_pcs g
        exact ⟨by omega, this.2⟩
      | inr g =>
        rw [List.mem_singleton] at g
        rw [g]
        exact ⟨Nat.lt_succ_self t, rfl⟩
    · rw [if_neg e] at h
      have := mem_pcs h
      exact ⟨by omega, this.2⟩
theorem okP_D {B : Bk} {d c : Nat} (h : (psD B d c).length ≤ 9) : okP9 (psD B d c) := ⟨h, fun i hi => by
  obtain ⟨h1, h2⟩ := mem_pcs (getD_mem (l := psD B d c) (0, 0) hi)
  have := rvn_b (DD B c d) h1
  rw [h2]
  omega⟩
theorem X5_lay36 {σ : Mem} {d : Nat} : ∃ τ, f_X5_lay_36 σ d 0 = f_X5_lay_58 τ d ∧ (∀ x, x ≠ 172 → τ x = σ x) ∧ ∀ i : Int, 0 ≤ i → i < 288 → τ 172 i = 0 := by
  unfold f_X5_lay_36
  obtain ⟨e, e1, e2, e3⟩ := loop_ex (f := f_X5_lay_36B d) (fun s => ∃ i : Nat, s.1 = (i : Int) ∧ i ≤ 288 ∧ (∀ x, x ≠ 172 → s.2 x = σ x) ∧ ∀ j : Int, 0 ≤ j → j < i → s.2 172 j = 0) (fun s => (300 - s.1).toNat) (fun e => (∀ x, x ≠ 172 → e x = σ x) ∧ ∀ j : Int, 0 ≤ j → j < 288 → e 172 j = 0) (a := (0, σ)) ⟨0, rfl, Nat.zero_le _, fun _ _ => rfl, fun j h1 h2 => by omega⟩ (Nat.le_of_ble_eq_true rfl) (by
    rintro ⟨_, τ⟩ ⟨i, rfl, hi, k1, k2⟩
    have k1 : ∀ x, x ≠ 172 → τ x = σ x := k1
    have k2 : ∀ j : Int, 0 ≤ j → j < i → τ 172 j = 0 := k2
    show (∃ a', f_X5_lay_36C d (i : Int) τ = _ ∧ _) ∨ ∃ a', f_X5_lay_36C d (i : Int) τ = _ ∧ _
    unfold f_X5_lay_36C
    by_cases hend : (288 : Int) ≤ i
    · right
      rw [if_pos hend]
      exact ⟨_, rfl, k1, fun j h1 h2 => k2 j h1 (by omega)⟩
    · left
      rw [if_neg hend, chk_pos (by omega)]
      simp only [Option.bind_some]
      rw [jadd_ok (by omega) (by omega)]
      refine ⟨_, rfl, ⟨i + 1, by show (i : Int) + 1 = _; omega, by omega, fun x hx => ?_, fun j h1 h2 => ?_⟩, by show (300 - ((i : Int) + 1)).toNat < (300 - (i : Int)).toNat; omega⟩
      · show mup τ 172 (i : Int) 0 x = _
        rw [mup_row hx, k1 x hx]
      · show mup τ 172 (i : Int) 0 172 j = _
        by_cases e : j = i
        · rw [mup_hit rfl e]
        · rw [mup_miss (by omega), k2 j h1 (by omega)])
  rw [e1]
  exact ⟨e, by rw [bsm], e2, e3⟩
theorem X5_lay61 {σ : Mem} {d : Nat} : ∃ τ, f_X5_lay_61 σ d 0 = f_X5_lay_82 τ d ∧ (∀ x, x ≠ 173 → τ x = σ x) ∧ ∀ i : Int, 0 ≤ i → i < 6 → τ 173 i = 0 := by
  unfold f_X5_lay_61
  obtain ⟨e, e1, e2, e3⟩ := loop_ex (f := f_X5_lay_61B d) (fun s => ∃ i : Nat, s.1 = (i : Int) ∧ i ≤ 6 ∧ (∀ x, x ≠ 173 → s.2 x = σ x) ∧ ∀ j : Int, 0 ≤ j → j < i → s.2 173 j = 0) (fun s => (300 - s.1).toNat) (fun e => (∀ x, x ≠ 173 → e x = σ x) ∧ ∀ j : Int, 0 ≤ j → j < 6 → e 173 j = 0) (a := (0, σ)) ⟨0, rfl, Nat.zero_le _, fun _ _ => rfl, fun j h1 h2 => by omega⟩ (Nat.le_of_ble_eq_true rfl) (by
    rintro ⟨_, τ⟩ ⟨i, rfl, hi, k1, k2⟩
    have k1 : ∀ x, x ≠ 173 → τ x = σ x := k1
    have k2 : ∀ j : Int, 0 ≤ j → j < i → τ 173 j = 0 := k2
    show (∃ a', f_X5_lay_61C d (i : Int) τ = _ ∧ _) ∨ ∃ a', f_X5_lay_61C d (i : Int) τ = _ ∧ _
    unfold f_X5_lay_61C
    by_cases hend : (6 : Int) ≤ i
    · right
      rw [if_pos hend]
      exact ⟨_, rfl, k1, fun j h1 h2 => k2 j h1 (by omega)⟩
    · left
      rw [if_neg hend, chk_pos (by omega)]
      simp only [Option.bind_some]
      rw [jadd_ok (by omega) (by omega)]
      refine ⟨_, rfl, ⟨i + 1, by show (i : Int) + 1 = _; omega, by omega, fun x hx => ?_, fun j h1 h2 => ?_⟩, by show (300 - ((i : Int) + 1)).toNat < (300 - (i : Int)).toNat; omega⟩
      · show mup τ 173 (i : Int) 0 x = _
        rw [mup_row hx, k1 x hx]
      · show mup τ 173 (i : Int) 0 173 j = _
        by_cases e : j = i
        · rw [mup_hit rfl e]
        · rw [mup_miss (by omega), k2 j h1 (by omega)])
  rw [e1]
  exact ⟨e, by rw [bsm], e2, e3⟩
def seC (σ : Mem) (B : Bk) (R d c : Nat) : Prop := ∀ c' : Nat, c' < c → σ 175 c' = ((psD B d c').length : Int) ∧ σ 176 c' = mvF (lfC B R d c') R (psD B d c') ∧ ∀ i : Nat, i < (psD B d c').length → σ 177 (9 * (c' : Int) + i) = oI (rmF (lfC B R d c') R (psD B d c') i)
theorem seC.keep {σ τ : Mem} {B : Bk} {R d c : Nat} (h : seC σ B R d c) (e : ∀ x i, 175 ≤ x → x ≤ 177 → τ x i = σ x i) : seC τ B R d c := fun c' hc => by
  obtain ⟨h1, h2, h3⟩ := h c' hc
  exact ⟨by rw [e _ _ (by decide) (by decide)]; exact h1, by rw [e _ _ (by decide) (by decide)]; exact h2, fun i hi => by rw [e _ _ (by decide) (by decide)]; exact h3 i hi⟩
theorem X5_lay85 {σ : Mem} {B : Bk} (h : ST σ B) {N R : Nat} (hN : B 8 1 = N) (hR : B 8 2 = R) {d : Nat} (hd : d < 5) (hU : isUs σ B (lfC B R d 0) R) (hF : isFu σ (lfC B R d 0) R) : ∃ τ, f_X5_lay_85 σ d 0 = some τ ∧ (∀ x, ¬ (35 ≤ x ∧ x ≤ 42) → ¬ (45 ≤ x ∧ x ≤ 153) → ¬ (172 ≤ x ∧ x ≤ 178) → τ x = σ x) ∧ ST τ B ∧ isUs τ B (lfC B R d N) R ∧ seC τ B R d N ∧ ∀ c, c < N → (psD B d c).length ≤ 9 := by
  have hn := h.2.2.1.1
  unfold WFn at hn
  have w := h.2.2.1
  unfold f_X5_lay_85
  obtain ⟨e, e1, e2, e3, e4, e5, e6⟩ := loop_ex (f := f_X5_lay_85B d) (fun s => ∃ c : Nat, s.1 = (c : Int) ∧ c ≤ N ∧ (∀ x, ¬ (35 ≤ x ∧ x ≤ 42) → ¬ (45 ≤ x ∧ x ≤ 153) → ¬ (172 ≤ x ∧ x ≤ 178) → s.2 x = σ x) ∧ ST s.2 B ∧ isUs s.2 B (lfC B R d c) R ∧ isFu s.2 (lfC B R d c) R ∧ seC s.2 B R d c ∧ ∀ c', c' < c → (psD B d c').length ≤ 9) (fun s => (20 - s.1).toNat) (fun e => (∀ x, ¬ (35 ≤ x ∧ x ≤ 42) → ¬ (45 ≤ x ∧ x ≤ 153) → ¬ (172 ≤ x ∧ x ≤ 178) → e x = σ x) ∧ ST e B ∧ isUs e B (lfC B R d N) R ∧ seC e B R d N ∧ ∀ c, c < N → (psD B d c).length ≤ 9) (a := (0, σ)) ⟨0, rfl, Nat.zero_le _, fun _ _ _ _ => rfl, h, hU, hF, fun c hc => absurd hc (Nat.not_lt_zero _), fun c hc => absurd hc (Nat.not_lt_zero _)⟩ (Nat.le_of_ble_eq_true rfl) (by
    rintro ⟨_, τ⟩ ⟨c, rfl, hc, k1, k2, k3, k4, k5, k6⟩
    have k1 : ∀ x, ¬ (35 ≤ x ∧ x ≤ 42) → ¬ (45 ≤ x ∧ x ≤ 153) → ¬ (172 ≤ x ∧ x ≤ 178) → τ x = σ x := k1
    have k2 : ST τ B := k2
    have k3 : isUs τ B (lfC B R d c) R := k3
    have k4 : isFu τ (lfC B R d c) R := k4
    have k5 : seC τ B R d c := k5
    show (∃ a', f_X5_lay_85C d (c : Int) τ = _ ∧ _) ∨ ∃ a', f_X5_lay_85C d (c : Int) τ = _ ∧ _
    unfold f_X5_lay_85C
    rw [k2.1.nC]
    by_cases hend : B 8 1 ≤ c
    · right
      rw [if_pos hend]
      have : c = N := by omega
      subst this
      exact ⟨_, rfl, k1, k2, k3, k5, k6⟩
    · left
      have hcN : c < N := by omega
      obtain ⟨ρ, a1, a2, a3, a4, a5⟩ := ask k2 (c := (c : Int)) (by omega) (by omega)
      have pp1 : ((54 + 10 * (c : Int), ρ) : Int × Mem).1 = 54 + 10 * (c : Int) := rfl
      have pp2 : ((54 + 10 * (c : Int), ρ) : Int × Mem).2 = ρ := rfl
      have h9 : (psD B d c).length ≤ 9 := pcs_9 w (by omega) (by omega) a5 hd (Nat.le_refl 48)
      obtain ⟨ρ1, b1, b2, b3⟩ := X8_piecesOf (k := 54 + 10 * (c : Int)) (by omega) w (by omega) (by omega) a5 hd
      have b3 : isPc ρ1 (psD B d c) := b3
      rw [if_neg hend, bind_some' a1, pp1, pp2, bind_some' b1]
      have b1' : (pcs (DD B c d) 48).length = (psD B d c).length := rfl
      rw [b1', chk_pos (by omega)]
      simp only [Option.bind_some]
      obtain ⟨σ1, hσ1⟩ : ∃ σ1, σ1 = mup ρ1 175 c ((psD B d c).length : Int) := ⟨_, rfl⟩
      rw [← hσ1]
      have f1 : ∀ x, x ≠ 174 → x ≠ 175 → σ1 x = ρ x := fun x x1 x2 => by rw [hσ1, mup_row x2, b2 x x1]
      have f2 : ∀ x, 172 ≤ x → x ≤ 178 → x ≠ 174 → x ≠ 175 → σ1 x = τ x := fun x x1 x2 x3 x4 => by rw [f1 x x3 x4, a3 x (by omega) (by omega)]
      have s1 : ST σ1 B := a4.of (fun x x1 x2 => f1 x (by omega) (by omega)) (f1 182 (by decide) (by decide)) (fun x x1 x2 => f1 x (by omega) (by omega))
      have hb := lfC_b B R d c k6
      have h167 : σ1 175 c = ((psD B d c).length : Int) := by rw [hσ1, mup_hit rfl rfl]
      obtain ⟨σ2, c1, c2, c3, c4, c5, c6, c7, c8⟩ := X5_seat s1.1 (by omega) hR (M := 9 * c) (by omega) hb (k3.keep (f2 172 (by decide) (by decide) (by decide) (by decide))) (k4.keep (f2 173 (by decide) (by decide) (by decide) (by decide))) (okP_D h9) (b3.keep (by rw [hσ1, mup_row (by decide)])) (c := c) (by omega) h167
      rw [bind_some' c1, jadd_ok (by omega) (by omega)]
      refine ⟨_, rfl, ⟨c + 1, by show (c : Int) + 1 = _; omega, by omega, fun x x1 x2 x3 => ?_, ?_, c3, c4, fun c' hc' => ?_, fun c' hc' => ?_⟩, by show (20 - ((c : Int) + 1)).toNat < (20 - (c : Int)).toNat; omega⟩
      · show σ2 x = _
        rw [c2 x (by omega) (by omega), f1 x (by omega) (by omega), a3 x (by omega) x2, k1 x x1 x2 x3]
      · exact s1.of (fun x x1 x2 => c2 x (by omega) (by omega)) (c2 182 (by decide) (by decide)) (fun x x1 x2 => c2 x (by omega) (by omega))
      · show σ2 175 c' = _ ∧ σ2 176 c' = _ ∧ ∀ i : Nat, i < (psD B d c').length → σ2 177 (9 * (c' : Int) + i) = _
        by_cases e : c' = c
        · subst e
          exact ⟨by rw [c2 175 (by decide) (by decide)]; exact h167, c5, c7⟩
        · obtain ⟨g1, g2, g3⟩ := k5 c' (by omega)
          refine ⟨?_, ?_, fun i hi => ?_⟩
          · rw [c2 175 (by decide) (by decide), hσ1, mup_miss (by omega), b2 175 (by decide), a3 175 (by decide) (by decide)]
            exact g1
          · rw [c6 _ (by omega), f2 176 (by decide) (by decide) (by decide) (by decide)]
            exact g2
          · have := k6 c' (by omega)
            rw [c8 _ (by omega), f2 177 (by decide) (by decide) (by decide) (by decide)]
            exact g3 i hi
      · by_cases e : c' = c
        · rw [e]; exact h9
        · exact k6 c' (by omega))
  rw [e1]
  exact ⟨e, rfl, e2, e3, e4, e5, e6⟩
/-- the day's lay is held -/
def seD (σ : Mem) (B : Bk) (d : Nat) : Prop := seC σ B (B 8 2).toNat d (B 8 1).toNat ∧ isUs σ B (lfC B (B 8 2).toNat d (B 8 1).toNat) (B 8 2).toNat ∧ ∀ c, c < (B 8 1).toNat → (psD B d c).length ≤ 9
theorem seD.keep {σ τ : Mem} {B : Bk} {d : Nat} (h : seD σ B d) (e : ∀ x i, 172 ≤ x → x ≤ 178 → τ x i = σ x i) : seD τ B d := ⟨h.1.keep fun x i x1 x2 => e x i (by omega) (by omega), h.2.1.keep (funext fun i => e 172 i (by decide) (by decide)), h.2.2⟩
def SEC (σ : Mem) (B : Bk) : Prop := σ 171 8 ≤ σ 43 3 ∧ (σ 171 8 = σ 43 3 → ∃ d : Nat, d < 5 ∧ σ 171 7 = (d : Int) ∧ seD σ B d)
theorem SEC.keep {σ τ : Mem} {B : Bk} (h : SEC σ B) (e : ∀ x i, 171 ≤ x → x ≤ 178 → τ x i = σ x i) (e43 : τ 43 3 = σ 43 3) : SEC τ B := by
  refine ⟨by rw [e _ _ (by decide) (by decide), e43]; exact h.1, fun g => ?_⟩
  rw [e _ _ (by decide) (by decide), e43] at g
  obtain ⟨d, h1, h2, h3⟩ := h.2 g
  exact ⟨d, h1, by rw [e _ _ (by decide) (by decide)]; exact h2, h3.keep fun x i x1 x2 => e x i (by omega) x2⟩
theorem lay_u {σ : Mem} {B : Bk} {R d : Nat} (hR : R ≤ 6) (h : ∀ i : Int, 0 ≤ i → i < 288 → σ 172 i = 0) : isUs σ B (lfC B R d 0) R := fun r t hr ht => by
  rw [h _ (by omega) (by omega)]
  show 0 = B 7 r - B 7 r
  omega
theorem lay_f {σ : Mem} {B : Bk} {R d : Nat} (hR : R ≤ 6) (hB : ∀ r : Nat, r < R → 1 ≤ B 7 r) (h : ∀ i : Int, 0 ≤ i → i < 6 → σ 173 i = 0) : isFu σ (lfC B R d 0) R := fun r hr => by
  have h1 := hB r hr
  have hm : fuM (lfC B R d 0) r = 0 := mset_none fun t _ => decide_eq_false (by show ¬ B 7 r ≤ 0; omega)
  rw [hm, h _ (by omega) (by omega)]
  rfl
theorem X5_lay20 {σ : Mem} {B : Bk} (h : ST σ B) {d : Nat} (hd : d < 5) : ∃ τ, f_X5_lay_20 σ d = some τ ∧ (∀ x, ¬ (35 ≤ x ∧ x ≤ 42) → ¬ (45 ≤ x ∧ x ≤ 153) → ¬ (171 ≤ x ∧ x ≤ 178) → τ x = σ x) ∧ ST τ B ∧ seD τ B d ∧ SEC τ B := by
  have hn := h.2.2.1.1
  unfold WFn at hn
  have w := h.2.2.1
  obtain ⟨N, hN⟩ := n_of hn.2.1.1
  obtain ⟨R, hR⟩ := n_of hn.2.2.1.1
  unfold f_X5_lay_20
  rw [bind_some' (show f_X9_edition σ = some (σ 43 3) from rfl), bsm, bsm]
  obtain ⟨σ1, hσ1⟩ : ∃ σ1, σ1 = mup (mup σ 171 8 (σ 43 3)) 171 7 d := ⟨_, rfl⟩
  rw [← hσ1]
  have f1 : ∀ x, x ≠ 171 → σ1 x = σ x := fun x hx => by rw [hσ1, mup_row hx, mup_row hx]
  obtain ⟨σ2, a1, a2, a3⟩ := X5_lay36 (σ := σ1) (d := d)
  obtain ⟨σ3, b1, b2, b3⟩ := X5_lay61 (σ := σ2) (d := d)
  have f3 : ∀ x, x ≠ 171 → x ≠ 172 → x ≠ 173 → σ3 x = σ x := fun x x1 x2 x3 => by rw [b2 x x3, a2 x x2, f1 x x1]
  have s3 : ST σ3 B := h.of (fun x x1 x2 => f3 x (by omega) (by omega) (by omega)) (f3 182 (by decide) (by decide) (by decide)) (fun x x1 x2 => f3 x (by omega) (by omega) (by omega))
  have hU : isUs σ3 B (lfC B R d 0) R := lay_u (by omega) fun i h1 h2 => by rw [b2 172 (by decide), a3 i h1 h2]
  have hF : isFu σ3 (lfC B R d 0) R := lay_f (by omega) (fun r hr => (w.2.2.2 r (by omega) (by omega)).1) b3
  obtain ⟨τ, c1, c2, c3, c4, c5, c6⟩ := X5_lay85 s3 hN hR hd hU hF
  rw [a1]
  unfold f_X5_lay_58
  rw [b1]
  unfold f_X5_lay_82
  have e7 : τ 171 7 = (d : Int) := by rw [c2 171 (by decide) (by decide) (by decide), b2 171 (by decide), a2 171 (by decide), hσ1, mup_hit rfl rfl]
  have e8 : τ 171 8 = σ 43 3 := by rw [c2 171 (by decide) (by decide) (by decide), b2 171 (by decide), a2 171 (by decide), hσ1, mup_miss (by omega), mup_hit rfl rfl]
  have e43 : τ 43 3 = σ 43 3 := by rw [c2 43 (by decide) (by decide) (by decide), f3 43 (by decide) (by decide) (by decide)]
  have hs : seD τ B d := by
    unfold seD
    rw [hN, hR, Int.toNat_natCast, Int.toNat_natCast]
    exact ⟨c5, c4, c6⟩
  exact ⟨τ, c1, fun x x1 x2 x3 => by rw [c2 x x1 x2 (by omega), f3 x (by omega) (by omega) (by omega)], c3, hs, ⟨by rw [e8, e43]; exact Int.le_refl _, fun _ => ⟨d, hd, e7, hs⟩⟩⟩
theorem X5_lay {σ : Mem} {B : Bk} (h : ST σ B) (hS : SEC σ B) {d : Nat} (hd : d < 5) : ∃ τ, f_X5_lay σ d = some τ ∧ (∀ x, ¬ (35 ≤ x ∧ x ≤ 42) → ¬ (45 ≤ x ∧ x ≤ 153) → ¬ (171 ≤ x ∧ x ≤ 178) → τ x = σ x) ∧ ST τ B ∧ seD τ B d ∧ SEC τ B := by
  have fin := X5_lay20 h hd
  unfold f_X5_lay
  rw [bind_some' (show f_X9_edition σ = some (σ 43 3) from rfl)]
  by_cases e : σ 171 8 = σ 43 3
  · rw [if_neg (by omega)]
    obtain ⟨d', h1, h2, h3⟩ := hS.2 e
    by_cases e2 : σ 171 7 = (d : Int)
    · rw [if_neg (by omega)]
      have : d' = d := by omega
      subst this
      exact ⟨σ, rfl, fun _ _ _ _ => rfl, h, h3, hS⟩
    · rw [if_pos e2]
      exact fin
  · rw [if_pos e]
    exact fin
