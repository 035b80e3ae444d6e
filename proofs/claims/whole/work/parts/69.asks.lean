/-! QUESTIONS: kinds (by mk69.py) -/
def okP (B : Bk) (E : Int → Int) (i : Nat) : Bool := decide (0 ≤ E (2 * (i : Int)) ∧ E (2 * (i : Int)) < B 8 0)
def okT (B : Bk) (a : Int) (E : Int → Int) (i k : Nat) : Bool := decide (E (2 * (i : Int) + 1) = tmK k a (B 2 (E (2 * (i : Int)))))
def allT (B : Bk) (a : Int) (E : Int → Int) (n k : Nat) : Bool := !anyN (fun i => !okT B a E i k) n
theorem allT_s (B : Bk) (a : Int) (E : Int → Int) (n k : Nat) : allT B a E (n + 1) k = (allT B a E n k && okT B a E n k) := by
  unfold allT
  rw [anyN_s]
  cases anyN (fun i => !okT B a E i k) n <;> cases okT B a E n k <;> rfl
theorem anyN_f {p : Nat → Bool} : ∀ {n : Nat}, anyN p n = false → ∀ i, i < n → p i = false
  | 0, _, i, hi => absurd hi (Nat.not_lt_zero _)
  | n + 1, h, i, hi => by
    rw [anyN_s] at h
    cases h1 : anyN p n with
    | true => rw [h1] at h; simp at h
    | false =>
      rw [h1, Bool.false_or] at h
      by_cases e : i = n
      · rw [e]; exact h
      · exact anyN_f h1 i (by omega)
theorem anyN_t {p : Nat → Bool} {i n : Nat} (hi : i < n) (h : p i = true) : anyN p n = true := by
  cases h1 : anyN p n with
  | true => rfl
  | false => rw [anyN_f h1 i hi] at h; cases h
section
variable {σ : Mem} {B : Bk} {c s : Int} {E : Int → Int}
theorem elE (hs : 0 ≤ s ∧ s < 8) (hz2 : σ 32 s ≤ 40) (hE : ∀ j, 0 ≤ j → j < 40 → σ 33 (40 * s + j) = E j) {j : Int} (h0 : 0 ≤ j) (h1 : j < σ 32 s) : f_X6_elementAt σ s j = some (E j) := by
  rw [X6_elementAt hs hz2 j, if_pos ⟨h0, h1⟩, hE j h0 (by omega)]
theorem X10_kinds79 (hB : isBk σ 1 B) (hs : 0 ≤ s ∧ s < 8) {m : Nat} (hz : 2 * (m : Int) ≤ σ 32 s) (hz2 : σ 32 s ≤ 40) (hE : ∀ j, 0 ≤ j → j < 40 → σ 33 (40 * s + j) = E j) : f_X10_kinds_79 σ c s m 0 = if anyN (fun i => !okP B E i) m then f_X10_kinds_107 σ else f_X10_kinds_120 σ c s m := by
  unfold f_X10_kinds_79
  obtain ⟨e, e1, e2⟩ := loop_ex (f := f_X10_kinds_79B σ c s m) (fun q => ∃ i : Nat, q = (i : Int) ∧ i ≤ m ∧ ∀ j, j < i → okP B E j = true) (fun q => (40 - q).toNat) (fun e => (e = .inl () ∧ ∃ j, j < m ∧ okP B E j = false) ∨ (e = .inr () ∧ ∀ j, j < m → okP B E j = true)) (a := 0) ⟨0, rfl, Nat.zero_le _, fun j hj => absurd hj (Nat.not_lt_zero _)⟩ (Nat.le_of_ble_eq_true rfl) (by
    rintro _ ⟨i, rfl, hi, k1⟩
    show (∃ a', f_X10_kinds_79C σ c s m (i : Int) = _ ∧ _) ∨ ∃ a', f_X10_kinds_79C σ c s m (i : Int) = _ ∧ _
    unfold f_X10_kinds_79C
    by_cases hend : (m : Int) ≤ i
    · right
      rw [if_pos hend]
      have : i = m := by omega
      subst this
      exact ⟨_, rfl, Or.inr ⟨rfl, k1⟩⟩
    · rw [if_neg hend, jmul_ok (by omega) (by omega), bind_some' (elE hs hz2 hE (by omega) (by omega)), bind_some' (X0_hasPaper hB _), if1]
      by_cases hp : 0 ≤ E (2 * (i : Int)) ∧ E (2 * (i : Int)) < B 8 0
      · left
        rw [if_pos hp, jadd_ok (by omega) (by omega)]
        refine ⟨_, rfl, ⟨i + 1, by omega, by omega, fun j hj => ?_⟩, by omega⟩
        by_cases e : j = i
        · subst e; unfold okP; exact decide_eq_true hp
        · exact k1 j (by omega)
      · right
        rw [if_neg hp]
        exact ⟨_, rfl, Or.inl ⟨rfl, i, by omega, by unfold okP; exact decide_eq_false hp⟩⟩)
  rw [e1]
  rcases e2 with ⟨g1, j, g2, g3⟩ | ⟨g1, g2⟩
  · rw [g1, if_pos (anyN_t g2 (by rw [g3]; rfl))]
    rfl
  · rw [g1]
    have : anyN (fun i => !okP B E i) m = false := by
      have := anyN_congr (p := fun i => !okP B E i) (q := fun _ => false) (n := m) fun k hk => by rw [g2 k hk]; rfl
      rw [this]
      clear this g2 e1 hz
      induction m with
      | zero => rfl
      | succ n ih => rw [anyN_s, ih]; rfl
    rw [this]
    rfl
theorem X10_told (hB : isBk σ 1 B) (w : WF B) (hs : 0 ≤ s ∧ s < 8) {m : Nat} (hz : 2 * (m : Int) ≤ σ 32 s) (hz2 : σ 32 s ≤ 40) (hE : ∀ j, 0 ≤ j → j < 40 → σ 33 (40 * s + j) = E j) (hok : ∀ j, j < m → okP B E j = true) {k : Nat} (hk : k < 6) {a : Int} (ha : 0 ≤ a ∧ a ≤ 9) : f_X10_hasToldTimes σ k a s m = some (if allT B a E m k then 1 else 0) := by
  have hn := w.1
  unfold WFn at hn
  unfold f_X10_hasToldTimes f_X10_hasToldTimes_3
  obtain ⟨e, e1, e2⟩ := loop_ex (f := f_X10_hasToldTimes_3B σ k a s m) (fun q => ∃ i : Nat, q = (i : Int) ∧ i ≤ m ∧ allT B a E i k = true) (fun q => (40 - q).toNat) (fun e => (e = .inr (.inl ()) ∧ allT B a E m k = false) ∨ (e = .inr (.inr ()) ∧ allT B a E m k = true)) (a := 0) ⟨0, rfl, Nat.zero_le _, rfl⟩ (Nat.le_of_ble_eq_true rfl) (by
    rintro _ ⟨i, rfl, hi, k1⟩
    show (∃ a', f_X10_hasToldTimes_3C σ k a s m (i : Int) = _ ∧ _) ∨ ∃ a', f_X10_hasToldTimes_3C σ k a s m (i : Int) = _ ∧ _
    unfold f_X10_hasToldTimes_3C
    by_cases hend : (m : Int) ≤ i
    · right
      rw [if_pos hend]
      have : i = m := by omega
      subst this
      exact ⟨_, rfl, Or.inr ⟨rfl, k1⟩⟩
    · have hp : 0 ≤ E (2 * (i : Int)) ∧ E (2 * (i : Int)) < B 8 0 := of_decide_eq_true (hok i (by omega))
      have hlen := (w.2.1 _ hp.1 hp.2).2.2
      rw [if_neg hend, jmul_ok (by omega) (by omega), bind_some' (elE hs hz2 hE (by omega) (by omega)), bind_some' (X0_hasPaper hB _), if1, if_pos hp, ljp (by omega), chk_pos (by omega), show σ 4 (E (2 * (i : Int))) = B 2 (E (2 * (i : Int))) from hB.len hp.1 (by omega), bind_some' (X2_timeOf (by omega) ha hlen), jadd_ok (by omega) (by omega), bind_some' (elE hs hz2 hE (by omega) (by omega))]
      by_cases ht : E (2 * (i : Int) + 1) = tmK k a (B 2 (E (2 * (i : Int))))
      · left
        rw [if_pos ht, jadd_ok (by omega) (by omega)]
        refine ⟨_, rfl, ⟨i + 1, by omega, by omega, ?_⟩, by omega⟩
        rw [allT_s, k1]
        unfold okT
        rw [decide_eq_true ht]
        rfl
      · right
        rw [if_neg ht]
        refine ⟨_, rfl, Or.inl ⟨rfl, ?_⟩⟩
        unfold allT
        rw [anyN_t (i := i) (by omega) (by unfold okT; rw [decide_eq_false ht]; rfl)]
        rfl)
  rw [e1]
  rcases e2 with ⟨g1, g2⟩ | ⟨g1, g2⟩
  · rw [g1, g2]; rfl
  · rw [g1, g2]; rfl
theorem X10_kinds120 (hB : isBk σ 1 B) (w : WF B) (hc : 0 ≤ c) (hc2 : c < B 8 1) (hs : 0 ≤ s ∧ s < 8) {m : Nat} (hz : 2 * (m : Int) ≤ σ 32 s) (hz2 : σ 32 s ≤ 40) (hE : ∀ j, 0 ≤ j → j < 40 → σ 33 (40 * s + j) = E j) (hok : ∀ j, j < m → okP B E j = true) : f_X10_kinds_120 σ c s m = some (((mset (allT B (B 4 c) E m) 6 : Nat) : Int), σ) := by
  have hn := w.1
  unfold WFn at hn
  unfold f_X10_kinds_120 f_X10_kinds_126
  rw [show loop (f_X10_kinds_126B σ c s m) FU (0, 0) = some ((mset (allT B (B 4 c) E m) 6 : Nat) : Int) from loop_is (P := fun q => ∃ i : Nat, q.2 = (i : Int) ∧ i ≤ 6 ∧ q.1 = ((mset (allT B (B 4 c) E m) i : Nat) : Int)) (μ := fun q => (10 - q.2).toNat) (by
    rintro ⟨x4, _⟩ ⟨i, rfl, hi, g4⟩
    have g4 : x4 = ((mset (allT B (B 4 c) E m) i : Nat) : Int) := g4
    show (∃ a', f_X10_kinds_126C σ c s m x4 (i : Int) = _ ∧ _) ∨ f_X10_kinds_126C σ c s m x4 (i : Int) = _
    unfold f_X10_kinds_126C
    by_cases hend : (6 : Int) ≤ i
    · right
      rw [if_pos hend, g4]
      have : i = 6 := by omega
      rw [this]
    · left
      rw [if_neg hend, chk_pos (by omega), show σ 6 c = B 4 c from hB.a hc (by omega), bind_some' (X10_told hB w hs hz hz2 hE hok (by omega) (w.2.2.1 c hc hc2).2.1)]
      have hl := mset_lt (allT B (B 4 c) E m) i
      have hp : 2 ^ i ≤ 2 ^ 6 := Nat.pow_le_pow_right (by decide) (by omega)
      have fin : ∀ z : Int, z = ((mset (allT B (B 4 c) E m) (i + 1) : Nat) : Int) → ∃ a', f_X10_kinds_162 σ c s m z (i : Int) = some (.inl a') ∧ (∃ i : Nat, a'.2 = (i : Int) ∧ i ≤ 6 ∧ a'.1 = ((mset (allT B (B 4 c) E m) i : Nat) : Int)) ∧ (10 - a'.2).toNat < (10 - (i : Int)).toNat := fun z hz => by
        unfold f_X10_kinds_162
        simp only [Option.bind_some]
        rw [jadd_ok (by omega) (by omega)]
        exact ⟨_, rfl, ⟨i + 1, by show (i : Int) + 1 = _; omega, by omega, hz⟩, by show (10 - ((i : Int) + 1)).toNat < (10 - (i : Int)).toNat; omega⟩
      have es : mset (allT B (B 4 c) E m) (i + 1) = if allT B (B 4 c) E m i then mset (allT B (B 4 c) E m) i ||| 2 ^ i else mset (allT B (B 4 c) E m) i := rfl
      cases ht : allT B (B 4 c) E m i with
      | true =>
        rw [if_neg (by simp), jshl_n (by omega), g4, jor_n (by omega) (by omega)]
        exact fin _ (by rw [es, ht]; rfl)
      | false =>
        rw [if_pos (by simp)]
        exact fin _ (by rw [g4, es, ht]; rfl)) ⟨0, rfl, Nat.zero_le _, rfl⟩ (Nat.le_of_ble_eq_true rfl)]
  rfl
theorem X11_kinds122 (hR : isRk σ 182 B) (w : WF B) (hc : 0 ≤ c) (hc2 : c < B 8 1) (hs : 0 ≤ s ∧ s < 8) {m i : Nat} (hi : i < 12) (hE : ∀ j, 0 ≤ j → j < 40 → σ 187 (40 * s + j) = E j) (hok : okP B E i = true) : f_X11_kinds_122 σ c s m ((mset (allT B (B 4 c) E i) 6 : Nat) : Int) 1 i (E (2 * (i : Int))) 0 = some (.inl (((mset (allT B (B 4 c) E (i + 1)) 6 : Nat) : Int), 1, (i : Int) + 1)) := by
  have hn := w.1
  unfold WFn at hn
  have hp : 0 ≤ E (2 * (i : Int)) ∧ E (2 * (i : Int)) < B 8 0 := of_decide_eq_true hok
  have hlen := (w.2.1 _ hp.1 hp.2).2.2
  unfold f_X11_kinds_122
  obtain ⟨G, hG⟩ : ∃ G : Nat → Nat → Bool, G = fun q k => allT B (B 4 c) E i k && (decide (q ≤ k) || okT B (B 4 c) E i k) := ⟨_, rfl⟩
  have hG0 : mset (allT B (B 4 c) E i) 6 = mset (G 0) 6 := mset_congr fun k hk => by rw [hG]; simp
  have hG6 : mset (allT B (B 4 c) E (i + 1)) 6 = mset (G 6) 6 := mset_congr fun k hk => by
    rw [hG, allT_s]
    show _ = (allT B (B 4 c) E i k && (decide (6 ≤ k) || okT B (B 4 c) E i k))
    rw [decide_eq_false (by omega), Bool.false_or]
  rw [show loop (f_X11_kinds_122B σ c s m 1 i (E (2 * (i : Int)))) FU (((mset (allT B (B 4 c) E i) 6 : Nat) : Int), 0) = some ((mset (allT B (B 4 c) E (i + 1)) 6 : Nat) : Int) from loop_is (P := fun q => ∃ k : Nat, q.2 = (k : Int) ∧ k ≤ 6 ∧ q.1 = ((mset (G k) 6 : Nat) : Int)) (μ := fun q => (10 - q.2).toNat) (by
    rintro ⟨x4, _⟩ ⟨k, rfl, hk, g4⟩
    have g4 : x4 = ((mset (G k) 6 : Nat) : Int) := g4
    show (∃ a', f_X11_kinds_122C σ c s m 1 i (E (2 * (i : Int))) x4 (k : Int) = _ ∧ _) ∨ f_X11_kinds_122C σ c s m 1 i (E (2 * (i : Int))) x4 (k : Int) = _
    unfold f_X11_kinds_122C
    by_cases hend : (6 : Int) ≤ k
    · right
      rw [if_pos hend, g4]
      have : k = 6 := by omega
      rw [this, hG6]
    · left
      have e1 : jadd (jadd (jmul 40 s) (jmul 2 (i : Int))) 1 = 40 * s + (2 * (i : Int) + 1) := by
        rw [jmul_ok (by omega) (by omega), jmul_ok (by omega) (by omega), jadd_ok (a := 40 * s) (by omega) (by omega), jadd_ok (by omega) (by omega)]
        omega
      rw [if_neg hend, if_neg (by decide), bind_some' (X11_who1 hR (by omega)), ljp (by omega), bind_some' (X11_length hR (by omega)), bind_some' (X11_timeOf (by omega) (w.2.2.1 c hc hc2).2.1 hlen), e1, chk_pos (by omega), hE _ (by omega) (by omega)]
      have hl := mset_lt (G k) 6
      have fin : ∀ z : Nat, z = mset (G (k + 1)) 6 → ∃ a', f_X11_kinds_199 σ c s m 1 i (E (2 * (i : Int))) (k : Int) (z : Int) = some (.inl a') ∧ (∃ k : Nat, a'.2 = (k : Int) ∧ k ≤ 6 ∧ a'.1 = ((mset (G k) 6 : Nat) : Int)) ∧ (10 - a'.2).toNat < (10 - (k : Int)).toNat := fun z hz => by
        unfold f_X11_kinds_199
        simp only [Option.bind_some]
        rw [jadd_ok (by omega) (by omega), hz]
        exact ⟨_, rfl, ⟨k + 1, by show (k : Int) + 1 = _; omega, by omega, rfl⟩, by show (10 - ((k : Int) + 1)).toNat < (10 - (k : Int)).toNat; omega⟩
      unfold f_X11_kinds_178
      by_cases ht : tmK k (B 4 c) (B 2 (E (2 * (i : Int)))) ≠ E (2 * (i : Int) + 1)
      · rw [if_pos ht, if_pos rfl, g4, jclr_n (by omega) (by omega)]
        refine fin _ (tb_ext (n := 6) (Nat.lt_of_le_of_lt (clr_le _ _) hl) (mset_lt _ _) fun j hj => ?_)
        have hf : okT B (B 4 c) E i k = false := decide_eq_false fun z => ht z.symm
        rw [clr_tb, mset_tb, mset_tb, decide_eq_true hj, hG]
        show ((true && (allT B (B 4 c) E i j && (decide (k ≤ j) || okT B (B 4 c) E i j))) && !decide (j = k)) = (true && (allT B (B 4 c) E i j && (decide (k + 1 ≤ j) || okT B (B 4 c) E i j)))
        by_cases e : j = k
        · subst e; rw [hf]; simp
        · have e2 : (k + 1 ≤ j) = (k ≤ j) := propext ⟨fun _ => by omega, fun _ => by omega⟩
          simp [e, e2]
      · rw [if_neg ht, if_neg (by decide), g4]
        refine fin _ (mset_congr fun j hj => ?_)
        have hf : okT B (B 4 c) E i k = true := decide_eq_true (by omega)
        rw [hG]
        show (allT B (B 4 c) E i j && (decide (k ≤ j) || okT B (B 4 c) E i j)) = (allT B (B 4 c) E i j && (decide (k + 1 ≤ j) || okT B (B 4 c) E i j))
        by_cases e : j = k
        · subst e; rw [hf]; simp
        · have e2 : decide (k + 1 ≤ j) = decide (k ≤ j) := decide_eq_decide.2 (by omega)
          rw [e2]) ⟨0, rfl, Nat.zero_le _, by show ((mset (allT B (B 4 c) E i) 6 : Nat) : Int) = _; rw [hG0]⟩ (Nat.le_of_ble_eq_true rfl)]
  show f_X11_kinds_207 σ c s m _ 1 i = _
  unfold f_X11_kinds_207
  simp only [Option.bind_some]
  rw [jadd_ok (by omega) (by omega)]
theorem X11_kinds66 (hR : isRk σ 182 B) (w : WF B) (hc : 0 ≤ c) (hc2 : c < B 8 1) (hs : 0 ≤ s ∧ s < 8) {m : Nat} (hm : m ≤ 12) (hE : ∀ j, 0 ≤ j → j < 40 → σ 187 (40 * s + j) = E j) : ∃ b, f_X11_kinds_66 σ c s m 63 1 0 = f_X11_kinds_213 σ b (if anyN (fun i => !okP B E i) m then 0 else 1) ∧ (anyN (fun i => !okP B E i) m = false → b = ((mset (allT B (B 4 c) E m) 6 : Nat) : Int)) := by
  have hn := w.1
  unfold WFn at hn
  have h63 : mset (allT B (B 4 c) E 0) 6 = 63 := by
    have : mset (allT B (B 4 c) E 0) 6 = mset (fun _ => true) 6 := mset_congr fun _ _ => rfl
    rw [this]; decide
  unfold f_X11_kinds_66
  obtain ⟨e, e1, e2, e3⟩ := loop_ex (f := f_X11_kinds_66B σ c s m) (fun q => ∃ i : Nat, q.2.2 = (i : Int) ∧ i ≤ m ∧ q.2.1 = (if anyN (fun i => !okP B E i) i then 0 else 1) ∧ (anyN (fun i => !okP B E i) i = false → q.1 = ((mset (allT B (B 4 c) E i) 6 : Nat) : Int))) (fun q => (40 - q.2.2).toNat) (fun e => e.2 = (if anyN (fun i => !okP B E i) m then 0 else 1) ∧ (anyN (fun i => !okP B E i) m = false → e.1 = ((mset (allT B (B 4 c) E m) 6 : Nat) : Int))) (a := (63, 1, 0)) ⟨0, rfl, Nat.zero_le _, rfl, fun _ => by rw [h63]; rfl⟩ (Nat.le_of_ble_eq_true rfl) (by
    rintro ⟨x5, x6, _⟩ ⟨i, rfl, hi, k1, k2⟩
    have k1 : x6 = (if anyN (fun i => !okP B E i) i then 0 else 1) := k1
    have k2 : anyN (fun i => !okP B E i) i = false → x5 = ((mset (allT B (B 4 c) E i) 6 : Nat) : Int) := k2
    show (∃ a', f_X11_kinds_66C σ c s m x5 x6 (i : Int) = _ ∧ _) ∨ ∃ a', f_X11_kinds_66C σ c s m x5 x6 (i : Int) = _ ∧ _
    unfold f_X11_kinds_66C
    by_cases hend : (m : Int) ≤ i
    · right
      rw [if_pos hend]
      have : i = m := by omega
      subst this
      exact ⟨_, rfl, k1, k2⟩
    · left
      have e1 : jadd (jmul 40 s) (jmul 2 (i : Int)) = 40 * s + 2 * (i : Int) := by
        rw [jmul_ok (by omega) (by omega), jmul_ok (by omega) (by omega), jadd_ok (by omega) (by omega)]
      rw [if_neg hend, e1, chk_pos (by omega), hE _ (by omega) (by omega)]
      simp only [Option.bind_some]
      have ea : anyN (fun i => !okP B E i) (i + 1) = (anyN (fun i => !okP B E i) i || !okP B E i) := anyN_s _ _
      have bad : anyN (fun i => !okP B E i) (i + 1) = true → ∃ a', f_X11_kinds_116 σ c s m x5 (i : Int) (E (2 * (i : Int))) = some (.inl a') ∧ (∃ i : Nat, a'.2.2 = (i : Int) ∧ i ≤ m ∧ a'.2.1 = (if anyN (fun i => !okP B E i) i then 0 else 1) ∧ (anyN (fun i => !okP B E i) i = false → a'.1 = ((mset (allT B (B 4 c) E i) 6 : Nat) : Int))) ∧ (40 - a'.2.2).toNat < (40 - (i : Int)).toNat := fun hb => by
        unfold f_X11_kinds_116 f_X11_kinds_117 f_X11_kinds_122
        rw [FU_9, show loop (f_X11_kinds_122B σ c s m 0 (i : Int) (E (2 * (i : Int)))) (999991 + 9) (x5, 0) = some x5 from loop_end (by
          show f_X11_kinds_122C σ c s m 0 (i : Int) (E (2 * (i : Int))) x5 0 = _
          unfold f_X11_kinds_122C
          rw [if_neg (by decide), if_pos rfl])]
        show ∃ a', f_X11_kinds_207 σ c s m x5 0 (i : Int) = _ ∧ _
        unfold f_X11_kinds_207
        simp only [Option.bind_some]
        rw [jadd_ok (by omega) (by omega)]
        exact ⟨_, rfl, ⟨i + 1, by show (i : Int) + 1 = _; omega, by omega, by show (0 : Int) = _; rw [hb]; rfl, fun z => by rw [hb] at z; cases z⟩, by show (40 - ((i : Int) + 1)).toNat < (40 - (i : Int)).toNat; omega⟩
      cases hany : anyN (fun i => !okP B E i) i with
      | true =>
        rw [k1, hany, bt, if_pos rfl]
        exact bad (by rw [ea, hany]; rfl)
      | false =>
        rw [k1, hany, bf, if_neg (by decide), chk_pos (by decide), hR.nP, jsub_ok (by omega) (by omega), bind_some' (X11_isIn _ _ _), if0]
        by_cases hp : 0 ≤ E (2 * (i : Int)) ∧ E (2 * (i : Int)) ≤ B 8 0 - 1
        · have hok : okP B E i = true := decide_eq_true (by omega)
          rw [if_pos hp, k2 hany]
          unfold f_X11_kinds_117
          rw [X11_kinds122 hR w hc hc2 hs (by omega) hE hok]
          exact ⟨_, rfl, ⟨i + 1, by show (i : Int) + 1 = _; omega, by omega, by show (1 : Int) = _; rw [ea, hany, hok]; rfl, fun _ => rfl⟩, by show (40 - ((i : Int) + 1)).toNat < (40 - (i : Int)).toNat; omega⟩
        · rw [if_neg hp]
          have hok : okP B E i = false := decide_eq_false (by omega)
          exact bad (by rw [ea, hok, hany]; rfl))
  rw [e1]
  exact ⟨e.1, by show f_X11_kinds_213 σ e.1 e.2 = _; rw [e2], e3⟩
end
/-- kinds -/
theorem k_kinds {n : Nat} {σ : Mem} {B : Bk} (h : INV0 n σ B) (hl : n < 1000) (c s m : Int) : CALL0 n σ B (f_X10_kinds σ c s m) (fun ρ => f_X11_kinds ρ c s m) := by
  have hst := h.1
  obtain ⟨hB, hR, w, hW⟩ := h.1
  have hn := w.1
  unfold WFn at hn
  have hR' : isRk (refd σ (-52)) 182 B := isRk_refd hR
  by_cases h1 : 0 ≤ c ∧ c < B 8 1
  rotate_left
  · refine same.call h (same.no (x := -52) (by omega) (by decide) ?_ CFr.rfl hW ?_ RFr.rfl)
    · unfold f_X10_kinds
      rw [bind_some' (X0_hasCand hB c), if0, if_neg h1]
      exact c_no (by decide)
    · show f_X11_kinds _ c s m = _
      unfold f_X11_kinds
      rw [bind_some' (X11_isCand hR' w c), if0, if_neg h1]
      exact r_no (by decide)
  by_cases h2 : 0 ≤ s ∧ s < 8
  rotate_left
  · refine same.call h (same.no (x := -52) (by omega) (by decide) ?_ CFr.rfl hW ?_ RFr.rfl)
    · unfold f_X10_kinds
      rw [bind_some' (X0_hasCand hB c), if0, if_pos h1, bind_some' (X6_isShelf s), if0, if_neg h2]
      exact c_no (by decide)
    · show f_X11_kinds _ c s m = _
      unfold f_X11_kinds
      rw [bind_some' (X11_isCand hR' w c), if0, if_pos h1, bind_some' (X11_isShelf s), if0, if_neg h2]
      exact r_no (by decide)
  by_cases h3 : 0 ≤ m ∧ m ≤ 12
  rotate_left
  · refine same.call h (same.no (x := -52) (by omega) (by decide) ?_ CFr.rfl hW ?_ RFr.rfl)
    · unfold f_X10_kinds
      rw [bind_some' (X0_hasCand hB c), if0, if_pos h1, bind_some' (X6_isShelf s), if0, if_pos h2, bind_some' (X10_isTold m), if1, if_neg h3]
      exact c_no (by decide)
    · show f_X11_kinds _ c s m = _
      unfold f_X11_kinds
      rw [bind_some' (X11_isCand hR' w c), if0, if_pos h1, bind_some' (X11_isShelf s), if0, if_pos h2, bind_some' (X11_isIn m 0 12), if1, if_neg h3]
      exact r_no (by decide)
  obtain ⟨e177, hc⟩ := h.2.2.1 s h2.1 h2.2
  have rr : ∀ x y : Int, y ≠ 34 → refd σ x y = σ y := fun x y hy => refd_row hy
  have em : jmul 2 m = 2 * m := jmul_ok (by omega) (by omega)
  by_cases ht : trb (σ 31 s) = 0
  rotate_left
  · have hx : -56 ≤ trb (σ 31 s) ∧ trb (σ 31 s) ≤ -52 := by unfold trb at ht ⊢; split <;> omega
    refine same.call h (same.no (x := trb (σ 31 s)) (by omega) hx ?_ CFr.rfl hW ?_ RFr.rfl)
    · unfold f_X10_kinds
      rw [bind_some' (X0_hasCand hB _), if0, if_pos h1, bind_some' (X6_isShelf _), if0, if_pos h2, bind_some' (X10_isTold _), if1, if_pos h3]
      rw [bind_some' (X6_rowTrouble h2), if_neg ht]
      exact c_no hx
    · have hR2 : isRk (refd σ (trb (σ 31 s))) 182 B := isRk_refd hR
      show f_X11_kinds _ _ _ _ = _
      unfold f_X11_kinds
      rw [bind_some' (X11_isCand hR2 w _), if0, if_pos h1, bind_some' (X11_isShelf _), if0, if_pos h2, bind_some' (X11_isIn _ 0 12), if1, if_pos h3]
      rw [em, bind_some' (X11_wrongShelf h h2 (rr _ _ (by decide)) (rr _ _ (by decide)) (by omega)), if_neg ht, if_neg ht]
      exact r_no hx
  have hz : 0 ≤ σ 32 s ∧ σ 32 s ≤ 40 := by omega
  by_cases hm : 2 * m ≤ σ 32 s
  rotate_left
  · refine same.call h (same.no (x := -52) (by omega) (by decide) ?_ CFr.rfl hW ?_ RFr.rfl)
    · unfold f_X10_kinds
      rw [bind_some' (X0_hasCand hB _), if0, if_pos h1, bind_some' (X6_isShelf _), if0, if_pos h2, bind_some' (X10_isTold _), if1, if_pos h3]
      rw [bind_some' (X6_rowTrouble h2), if_pos ht, em, bind_some' (X6_hasElements h2 hz 0 _), if1, if_neg (by omega)]
      exact c_no (by decide)
    · show f_X11_kinds _ _ _ _ = _
      unfold f_X11_kinds
      rw [bind_some' (X11_isCand hR' w _), if0, if_pos h1, bind_some' (X11_isShelf _), if0, if_pos h2, bind_some' (X11_isIn _ 0 12), if1, if_pos h3]
      rw [em, bind_some' (X11_wrongShelf h h2 (rr _ _ (by decide)) (rr _ _ (by decide)) (by omega)), if_pos ht, if_neg hm, if_neg (by decide)]
      exact r_no (by decide)
  obtain ⟨M, rfl⟩ := n_of h3.1
  obtain ⟨E, hE⟩ : ∃ E : Int → Int, E = fun j => σ 33 (40 * s + j) := ⟨_, rfl⟩
  have hE1 : ∀ j, 0 ≤ j → j < 40 → σ 33 (40 * s + j) = E j := fun j _ _ => by rw [hE]
  have hE2 : ∀ ρ : Mem, ρ 187 = σ 187 → ∀ j, 0 ≤ j → j < 40 → ρ 187 (40 * s + j) = E j := fun ρ hr j j1 j2 => by rw [hr, hE, h.2.2.2.1 _ (by omega) (by omega)]
  have ecl : f_X10_kinds σ c s M = if anyN (fun i => !okP B E i) M then f_X10_kinds_107 σ else f_X10_kinds_120 σ c s M := by
    unfold f_X10_kinds
    rw [bind_some' (X0_hasCand hB _), if0, if_pos h1, bind_some' (X6_isShelf _), if0, if_pos h2, bind_some' (X10_isTold _), if1, if_pos h3]
    rw [bind_some' (X6_rowTrouble h2), if_pos ht, em, bind_some' (X6_hasElements h2 hz 0 _), if1, if_pos (by omega), X10_kinds79 hB h2 hm hz.2 hE1]
  have erf : ∀ ρ : Mem, isRk ρ 182 B → ρ 185 = σ 185 → ρ 186 = σ 186 → f_X11_kinds ρ c s M = f_X11_kinds_66 ρ c s M 63 1 0 := fun ρ hRr r1 r2 => by
    show f_X11_kinds _ _ _ _ = _
    unfold f_X11_kinds
    rw [bind_some' (X11_isCand hRr w _), if0, if_pos h1, bind_some' (X11_isShelf _), if0, if_pos h2, bind_some' (X11_isIn _ 0 12), if1, if_pos h3]
    rw [em, bind_some' (X11_wrongShelf h h2 r1 r2 (by omega)), if_pos ht, if_pos hm, if_pos rfl]
  cases hany : anyN (fun i => !okP B E i) M with
  | true =>
    refine same.call h (same.no (x := -55) (by omega) (by decide) ?_ CFr.rfl hW ?_ RFr.rfl)
    · rw [ecl, hany, bt]
      exact c_no (by decide)
    · have hR2 : isRk (refd σ (-55)) 182 B := isRk_refd hR
      obtain ⟨b, b1, -⟩ := X11_kinds66 hR2 w h1.1 h1.2 h2 (m := M) (by omega) (hE2 _ (rr _ _ (by decide)))
      show f_X11_kinds _ c s M = _
      rw [erf _ hR2 (rr _ _ (by decide)) (rr _ _ (by decide)), b1, hany]
      unfold f_X11_kinds_213
      rw [if_pos rfl, if_pos rfl]
      exact r_no (by decide)
  | false =>
    obtain ⟨b, b1, b2⟩ := X11_kinds66 hR w h1.1 h1.2 h2 (m := M) (by omega) (hE2 σ rfl)
    refine same.call h (same.ok (v := ((mset (allT B (B 4 c) E M) 6 : Nat) : Int)) (by omega) ?_ CFr.rfl hW ?_ RFr.rfl)
    · rw [ecl, hany, bf, X10_kinds120 hB w h1.1 h1.2 h2 hm hz.2 hE1 (fun j hj => by
        have := anyN_f hany j hj
        simpa using this)]
    · show f_X11_kinds σ c s M = _
      rw [erf σ hR rfl rfl, b1, hany, b2 hany]
      unfold f_X11_kinds_213
      rw [if_neg (by decide)]
