/-! CLASH: the fewest papers that can't be sat together, both sides -/
theorem jandn_n {a b : Nat} (ha : a < 2 ^ 31) (hb : b < 2 ^ 31) : jand (a : Int) (jxor (b : Int) (-1)) = ((andn a b : Nat) : Int) := by
  unfold jand jxor
  rw [of_nI hb, Int32.ofInt_toInt, of_nI ha]
  have e : nI a &&& (nI b ^^^ Int32.ofInt (-1)) = nI (andn a b) := by
    apply Int32.toBitVec_inj.1
    show BitVec.ofNat 32 a &&& (BitVec.ofNat 32 b ^^^ BitVec.allOnes 32) = BitVec.ofNat 32 (andn a b)
    apply BitVec.eq_of_getLsbD_eq
    intro i hi
    simp only [BitVec.getLsbD_and, BitVec.getLsbD_xor, BitVec.getLsbD_ofNat, BitVec.getLsbD_allOnes, hi, decide_true, Bool.true_and, andn_tb]
    cases a.testBit i <;> cases b.testBit i <;> rfl
  rw [e, nI_toInt (by have := andn_lt (b := b) ha; omega)]
theorem bst_nlw {α : Type} {lw : α → Bool} {ms : α → Int} : ∀ {l : List α} {x : Option (Int × α)}, bst lw ms l x = none ↔ x = none ∧ nlw lw l = 0
  | [], x => ⟨fun h => ⟨h, rfl⟩, fun h => h.1⟩
  | y :: l, x => by
    have e : stp lw ms y x = none ↔ x = none ∧ lw y = false := by
      unfold stp
      cases lw y with
      | false => simp
      | true =>
        cases x with
        | none => simp
        | some z => rw [if_pos rfl]; constructor
                    · intro h; exfalso; revert h; show (if ms y < z.1 then _ else _) = none → False; split <;> (intro h; cases h)
                    · intro h; cases h.1
    show bst lw ms l (stp lw ms y x) = none ↔ _
    rw [bst_nlw, e, nlw_cons]
    cases lw y with
    | false => simp
    | true => simp
theorem nlw_pos {α : Type} {lw : α → Bool} : ∀ {l : List α} {x : α}, x ∈ l → lw x = true → 0 < nlw lw l
  | y :: l, x, h, hx => by
    rw [nlw_cons]
    rcases List.mem_cons.mp h with q | q
    · subst q; rw [hx, if_pos rfl]; omega
    · have := nlw_pos q hx
      omega
theorem X11_isLawful {σ : Mem} {B : Bk} {c f : Int} {m a d : Nat} (hR : isRk σ 182 B) (w : WF B) (hm : okm B m) (hc : 0 ≤ c) (hc2 : c < B 8 1) (hf : 0 ≤ f ∧ f ≤ 60) (ha : a ≤ 48) (hd : d < 5) (h190 : σ 198 d = f) (h191 : σ 199 d = a) : ∃ τ, f_X11_isLawful σ c d m = some (if 0 < nlw (lwS B c m f a) (PT (nof m)) then 1 else 0, τ) ∧ ∀ x, ¬ (192 ≤ x ∧ x ≤ 194) → τ x = σ x := by
  have h4 := hm.2.1
  obtain ⟨pl, p0, pin⟩ := PT_ok (nof m) h4
  obtain ⟨σ1, r1, r2, r3⟩ := X11_rows (σ := σ) hm.1 h4
  have row0 : ∀ k : Nat, k < nof m → σ1 192 k = (lq m ((PT (nof m)).getD 0 []) k : Int) := fun k hk => by rw [r3 k hk]; unfold lq; rw [PT_0 _ h4 k hk]
  unfold f_X11_isLawful
  rw [bind_some' r1]
  simp only [Option.bind_some]
  rw [chk_pos (by omega), chk_pos (by omega), r2 198 (by decide), r2 199 (by decide), h190, h191]
  obtain ⟨σ2, s1, s2, -⟩ := X11_lay (hR.row (r2 182 (by decide))) w hm hc hc2 hf ha (getD_mem [] p0) row0
  rw [bind_some' s1]
  unfold f_X11_isLawful_28
  have key := loop_rn (f := f_X11_isLawful_28B c d (nof m : Int)) (P := fun k s => ∃ i : Nat, k = 30 - i ∧ i < (PT (nof m)).length ∧ (∀ j, j < i → lwS B c m f a ((PT (nof m)).getD j []) = false) ∧ s.1 = (if lwS B c m f a ((PT (nof m)).getD i []) then 1 else 0) ∧ (∀ x, ¬ (192 ≤ x ∧ x ≤ 194) → s.2 x = σ x) ∧ ∀ k : Nat, k < nof m → s.2 192 k = (lq m ((PT (nof m)).getD i []) k : Int))
    (Q := fun e => e.1 = (if 0 < nlw (lwS B c m f a) (PT (nof m)) then 1 else 0) ∧ ∀ x, ¬ (192 ≤ x ∧ x ≤ 194) → e.2 x = σ x) ?_ FU 30 ((if lwS B c m f a ((PT (nof m)).getD 0 []) then 1 else 0), σ2) ⟨0, rfl, p0, fun j hj => absurd hj (Nat.not_lt_zero _), rfl, fun x hx => by show σ2 x = _; rw [s2 x (by omega) (by omega), r2 x (by omega)], fun k hk => by show σ2 192 k = _; rw [s2 192 (by decide) (by decide)]; exact row0 k hk⟩ (Nat.le_of_ble_eq_true rfl)
  · obtain ⟨e, e1, e2, e3⟩ := key
    show ∃ τ, (loop _ _ _).bind _ = _ ∧ _
    rw [e1]
    refine ⟨e.2, ?_, e3⟩
    show chk (e.1 = 0 ∨ e.1 = 1) (some (e.1, e.2)) = _
    rw [chk_pos (by rw [e2]; split <;> simp), e2]
  · rintro k ⟨x5, τ⟩ ⟨i, rfl, hi, k1, k2, k3, k4⟩
    have k2 : x5 = _ := k2
    have k3 : ∀ x, ¬ (192 ≤ x ∧ x ≤ 194) → τ x = σ x := k3
    have k4 : ∀ k : Nat, k < nof m → τ 192 k = (lq m ((PT (nof m)).getD i []) k : Int) := k4
    show (∃ a' k', f_X11_isLawful_28C c d (nof m : Int) x5 τ = _ ∧ _) ∨ ∃ a', f_X11_isLawful_28C c d (nof m : Int) x5 τ = _ ∧ _
    unfold f_X11_isLawful_28C
    cases hl : lwS B c m f a ((PT (nof m)).getD i []) with
    | true =>
      right
      rw [hl, if_pos rfl] at k2
      rw [k2, if_pos (by decide)]
      refine ⟨_, rfl, ?_, k3⟩
      rw [if_pos (nlw_pos (getD_mem [] hi) hl)]
    | false =>
      rw [hl, if_neg (by decide)] at k2
      rw [k2, if_neg (by decide)]
      obtain ⟨r7, τ7, y1, y2, y3, y4⟩ := X11_next (σ := τ) (P := nth m) h4 (fun x y hxy hy => nth_lt hxy hy) hi (fun k hk => k4 k hk)
      rw [bind_some' y1]
      by_cases hn : i + 1 < (PT (nof m)).length
      · left
        obtain ⟨e7, y5⟩ := y3 hn
        rw [e7]
        show ∃ a' k', (if (1 : Int) = 0 then _ else chk (0 ≤ (d : Int) ∧ (d : Int) < ((5 : Nat) : Int)) (chk (0 ≤ (d : Int) ∧ (d : Int) < ((5 : Nat) : Int)) ((f_X11_isLaid τ7 c (nof m : Int) (τ7 198 d) (τ7 199 d)).bind _))) = _ ∧ _
        have hR7 : isRk τ7 182 B := hR.row (by rw [y2 182 (by decide), k3 182 (by decide)])
        obtain ⟨τ8, z1, z2, -⟩ := X11_lay hR7 w hm hc hc2 hf ha (getD_mem [] hn) (fun k hk => y5 k hk)
        rw [if_neg (by decide), chk_pos (by omega), chk_pos (by omega), y2 198 (by decide), y2 199 (by decide), k3 198 (by decide), k3 199 (by decide), h190, h191, bind_some' z1]
        refine ⟨_, 30 - (i + 1), rfl, by omega, i + 1, rfl, hn, fun j hj => ?_, rfl, fun x hx => by show τ8 x = _; rw [z2 x (by omega) (by omega), y2 x (by omega), k3 x hx], fun k hk => by show τ8 192 k = _; rw [z2 192 (by decide) (by decide)]; exact y5 k hk⟩
        by_cases ej : j = i
        · subst ej; exact hl
        · exact k1 j (by omega)
      · right
        rw [y4 hn]
        show ∃ a', (if (0 : Int) = 0 then _ else _) = _ ∧ _
        rw [if_pos rfl]
        refine ⟨_, rfl, ?_, fun x hx => by show τ7 x = _; rw [y2 x (by omega), k3 x hx]⟩
        rw [nlw_no (fun x hx => ?_)]
        · rfl
        · obtain ⟨j, hj, ej⟩ := List.getElem_of_mem hx
          have : x = (PT (nof m)).getD j [] := by rw [List.getD_eq_getElem?_getD, List.getElem?_eq_getElem hj, ← ej]; rfl
          rw [this]
          by_cases e : j = i
          · subst e; exact hl
          · exact k1 j (by omega)
def sub (s m : Nat) : Prop := ∀ i, s.testBit i = true → m.testBit i = true
theorem sub_andn {s m : Nat} : andn s m = 0 ↔ sub s m := by
  constructor
  · intro h i hi
    have := andn_tb s m i
    rw [h, Nat.zero_testBit, hi, Bool.true_and] at this
    cases hb : m.testBit i with
    | true => rfl
    | false => rw [hb] at this; cases this
  · intro h
    refine Nat.eq_of_testBit_eq fun i => ?_
    rw [andn_tb, Nat.zero_testBit]
    cases hs : s.testBit i with
    | false => rfl
    | true => rw [h i hs]; rfl
theorem sub_and {s m : Nat} (h : sub s m) : s &&& m = s := by
  refine Nat.eq_of_testBit_eq fun i => ?_
  rw [Nat.testBit_and]
  cases hs : s.testBit i with
  | false => rfl
  | true => rw [h i hs]; rfl
theorem sub_le {s m : Nat} (h : sub s m) : s ≤ m := by
  have := sub_and h
  rw [← this]
  exact Nat.and_le_right
theorem and_sub (x m : Nat) : sub (x &&& m) m := fun i hi => by
  rw [Nat.testBit_and, Bool.and_eq_true] at hi
  exact hi.2
theorem and2 (h l H L : Nat) (hl : l < 2) (hL : L < 2) : (2 * h + l) &&& (2 * H + L) = 2 * (h &&& H) + (l &&& L) := by
  have h1 := Nat.and_div_two_pow (a := 2 * h + l) (b := 2 * H + L) (n := 1)
  have h2 := Nat.and_mod_two_pow (a := 2 * h + l) (b := 2 * H + L) (n := 1)
  rw [show (2 : Nat) ^ 1 = 2 from rfl] at h1 h2
  rw [show (2 * h + l) / 2 = h by omega, show (2 * H + L) / 2 = H by omega] at h1
  rw [show (2 * h + l) % 2 = l by omega, show (2 * H + L) % 2 = L by omega] at h2
  have h3 := Nat.div_add_mod ((2 * h + l) &&& (2 * H + L)) 2
  rw [h1, h2] at h3
  omega
theorem and1' : ∀ a, a < 2 → ∀ b, b < 2 → (a &&& b = a ↔ a ≤ b) ∧ (1 &&& b = b) := by decide
theorem and1 (a b : Nat) (ha : a < 2) (hb : b < 2) : (a &&& b = a ↔ a ≤ b) ∧ (1 &&& b = b) := and1' a ha b hb
/-- the submask ahead of one -/
theorem sub_pred : ∀ (n m x s : Nat), m < 2 ^ n → x &&& m = x → s &&& m = s → s < x → s ≤ (x - 1) &&& m
  | 0, m, x, s, hm, hx, hs, h => by
    have : m = 0 := by omega
    subst this
    rw [Nat.and_zero] at hx
    omega
  | n + 1, m, x, s, hm, hx, hs, h => by
    obtain ⟨m', mb, hmb, em⟩ : ∃ q b, b < 2 ∧ m = 2 * q + b := ⟨m / 2, m % 2, by omega, by omega⟩
    obtain ⟨x', xb, hxb, ex⟩ : ∃ q b, b < 2 ∧ x = 2 * q + b := ⟨x / 2, x % 2, by omega, by omega⟩
    obtain ⟨s', sb, hsb, es⟩ : ∃ q b, b < 2 ∧ s = 2 * q + b := ⟨s / 2, s % 2, by omega, by omega⟩
    subst em ex es
    rw [and2 _ _ _ _ hxb hmb] at hx
    rw [and2 _ _ _ _ hsb hmb] at hs
    have hx1 : xb &&& mb < 2 := Nat.lt_of_le_of_lt Nat.and_le_left hxb
    have hs1 : sb &&& mb < 2 := Nat.lt_of_le_of_lt Nat.and_le_left hsb
    have hx2 : x' &&& m' = x' := by omega
    have hs2 : s' &&& m' = s' := by omega
    have hs3 : sb ≤ mb := ((and1 sb mb hsb hmb).1).mp (by omega)
    by_cases hxz : xb = 0
    · subst hxz
      have ih := sub_pred n m' x' s' (by rw [Nat.pow_succ] at hm; omega) hx2 hs2 (by omega)
      rw [show 2 * x' + 0 - 1 = 2 * (x' - 1) + 1 by omega, and2 _ _ _ _ (by omega) hmb, (and1 0 mb (by omega) hmb).2]
      omega
    · have : xb = 1 := by omega
      subst this
      rw [show 2 * x' + 1 - 1 = 2 * x' + 0 by omega, and2 _ _ _ _ (by omega) hmb, hx2]
      have : 0 &&& mb = 0 := Nat.zero_and _
      rw [this]
      omega
