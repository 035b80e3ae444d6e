/-! WHAT ONE DOES in a slot -/
/-- the first that is so -/
def fstN (p : Nat → Bool) : Nat → Option Nat
  | 0 => none
  | n + 1 => match fstN p n with
    | some k => some k
    | none => if p n then some n else none
theorem fstN_s (p : Nat → Bool) (n : Nat) : fstN p (n + 1) = match fstN p n with
    | some k => some k
    | none => if p n then some n else none := rfl
theorem fstN_none {p : Nat → Bool} : ∀ {n : Nat}, (∀ k, k < n → p k = false) → fstN p n = none
  | 0, _ => rfl
  | n + 1, h => by rw [fstN_s, fstN_none fun k hk => h k (by omega), h n (by omega)]; rfl
theorem fstN_more {p : Nat → Bool} {k i : Nat} (h : fstN p k = some i) : ∀ n, k ≤ n → fstN p n = some i
  | 0, hn => by have : k = 0 := by omega
                subst this; exact h
  | n + 1, hn => by
    by_cases e : k = n + 1
    · subst e; exact h
    · rw [fstN_s, fstN_more h n (by omega)]
theorem fstN_some {p : Nat → Bool} {n k : Nat} (hk : k < n) (h : ∀ j, j < k → p j = false) (hp : p k = true) : fstN p n = some k := by
  refine fstN_more (k := k + 1) ?_ n (by omega)
  rw [fstN_s, fstN_none h, hp]; rfl
def sitN (B : Bk) (c f : Int) (q : Nat → Nat) (t k : Nat) : Bool := decide (bg B c f q k ≤ t) && decide ((t : Int) < en B c f q k)
theorem siB_none {B : Bk} {c f : Int} {q : Nat → Nat} {t : Nat} : ∀ {n : Nat}, (∀ k, k < n → sitN B c f q t k = false) → siB B c f q n t = false
  | 0, _ => rfl
  | n + 1, h => by
    show (siB B c f q n t || sitN B c f q t n) = false
    rw [siB_none fun k hk => h k (by omega), h n (by omega)]; rfl
def dd (B : Bk) (c o f : Int) (a : Nat) (x : Option (Int × Tr)) (t : Nat) : Int := if t < a then o else match x with
  | none => -1
  | some (_, (o', m, l)) => match fstN (sitN B c f (lq m l) t) (nof m) with
    | some k => (lq m l k : Int)
    | none => if wtB (woB B o') B c f (lq m l) (nof m) t then 20 else -1
theorem X8_deed {σ : Mem} {k : Int} {B : Bk} (w : WF B) {c : Int} (hc : 0 ≤ c) (hc2 : c < B 8 1) {d : Nat} (hd : d < 5) {o f : Int} {a : Nat} (h : isWd σ k B c d f a (dpl B c d o)) (hcame : f_X8_cameTo σ k d = some (ovr B c d)) {t : Nat} (ht : t < 48) : f_X8_deed σ k d t = some (dd B c (ovr B c d) f a (dpl B c d o) t) := by
  unfold f_X8_deed dd
  rw [chk_pos (by omega), h.2.1]
  by_cases hta : t < a
  · rw [if_neg (by omega), if_pos hta, bind_some' hcame]
  rw [if_pos (by omega), if_neg hta]
  unfold f_X8_deed_18
  cases hx : dpl B c d o with
  | none =>
    obtain ⟨-, -, z3, z4⟩ := h.2.2.1 hx
    have e : loop (f_X8_deed_18B σ k d t) FU 0 = some (.inr ()) := by
      rw [FU_9]
      refine loop_end ?_
      show f_X8_deed_18C σ k d t 0 = _
      unfold f_X8_deed_18C
      rw [chk_pos (by omega), z3, if_pos (by decide)]
    rw [e]
    show f_X8_deed_71 σ k d t = _
    unfold f_X8_deed_71
    rw [chk_pos (by omega), z4, bind_some' (show f_X10_hasSlot σ 0 (t : Int) = some (if (0 : Nat).testBit t then 1 else 0) from hasSlot_n (a := 0) (by decide) ht), Nat.zero_testBit]
    rfl
  | some y =>
    obtain ⟨v, o', m, l⟩ := y
    obtain ⟨-, -, z3, z4, z5⟩ := h.2.2.2 v o' m l hx
    have h4 := (dpl_some w hc hc2 hx).1.2.1
    have hsi := fun hh => siB_none (B := B) (c := c) (f := f) (q := lq m l) (t := t) (n := nof m) hh
    obtain ⟨e, e1, e2⟩ := loop_ex (f := f_X8_deed_18B σ k d t) (fun s => ∃ j : Nat, s = (j : Int) ∧ j ≤ nof m ∧ ∀ i, i < j → sitN B c f (lq m l) t i = false) (fun s => (4 - s).toNat) (Sum.elim (fun e => ∃ j : Nat, e = 4 * (d : Int) + j ∧ j < nof m ∧ fstN (sitN B c f (lq m l) t) (nof m) = some j) (fun _ => ∀ i, i < nof m → sitN B c f (lq m l) t i = false)) (a := 0) ⟨0, rfl, Nat.zero_le _, fun i hi => absurd hi (Nat.not_lt_zero _)⟩ (by decide) (by
      rintro _ ⟨j, rfl, hj, hs⟩
      show (∃ a', f_X8_deed_18C σ k d t (j : Int) = _ ∧ _) ∨ ∃ a', f_X8_deed_18C σ k d t (j : Int) = _ ∧ _
      unfold f_X8_deed_18C
      rw [chk_pos (by omega), z3]
      by_cases hkn : (nof m : Int) ≤ j
      · right
        rw [if_pos hkn]
        have : j = nof m := by omega
        subst this
        exact ⟨_, rfl, hs⟩
      · obtain ⟨y1, y2, y3⟩ := z5 j (by omega)
        have ej : jadd (jmul (d : Int) 4) (j : Int) = 4 * d + j := by rw [jmul_ok (by omega) (by omega), jadd_ok (by omega) (by omega)]; omega
        rw [if_neg hkn, ej]
        simp only [Option.bind_some]
        rw [chk_pos (by omega), y2, y3]
        have off : sitN B c f (lq m l) t j = false → ∃ a', f_X8_deed_65 σ k d t (j : Int) = some (.inl a') ∧ (∃ j : Nat, a' = (j : Int) ∧ j ≤ nof m ∧ ∀ i, i < j → sitN B c f (lq m l) t i = false) ∧ (4 - a').toNat < (4 - (j : Int)).toNat := fun hh => by
          unfold f_X8_deed_65
          simp only [Option.bind_some]
          rw [jadd_ok (by omega) (by omega)]
          refine ⟨_, rfl, ⟨j + 1, by omega, by omega, fun i hi => ?_⟩, by omega⟩
          by_cases e : i = j
          · subst e; exact hh
          · exact hs i (by omega)
        by_cases g1 : (t : Int) < bg B c f (lq m l) j
        · left
          rw [if_pos g1]
          exact off (by unfold sitN; rw [decide_eq_false (by omega)]; rfl)
        · rw [if_neg g1, chk_pos (by omega)]
          by_cases g2 : en B c f (lq m l) j ≤ t
          · left
            rw [if_pos g2]
            exact off (by unfold sitN; rw [decide_eq_false (p := (t : Int) < en B c f (lq m l) j) (by omega), Bool.and_false])
          · right
            rw [if_neg g2]
            exact ⟨_, rfl, j, rfl, by omega, fstN_some (by omega) hs (by unfold sitN; rw [decide_eq_true (by omega), decide_eq_true (by omega)]; rfl)⟩)
    rw [e1]
    cases e with
    | inl e =>
      obtain ⟨j, q1, q2, q3⟩ := e2
      show f_X8_deed_57 σ k e = _
      unfold f_X8_deed_57
      rw [q1, chk_pos (by omega), (z5 j q2).1]
      show _ = some (match fstN (sitN B c f (lq m l) t) (nof m) with
        | some k => (lq m l k : Int)
        | none => if wtB (woB B o') B c f (lq m l) (nof m) t then 20 else -1)
      rw [q3]
    | inr e =>
      have e2 : ∀ i, i < nof m → sitN B c f (lq m l) t i = false := e2
      show f_X8_deed_71 σ k d t = some (match fstN (sitN B c f (lq m l) t) (nof m) with
        | some k => (lq m l k : Int)
        | none => if wtB (woB B o') B c f (lq m l) (nof m) t then 20 else -1)
      unfold f_X8_deed_71
      rw [fstN_none e2, chk_pos (by omega), z4, bind_some' (hasSlot_n (mset_lt _ _) ht), mset_tb, decide_eq_true ht, Bool.true_and]
      have ek : kpB (woB B o') a B c f (lq m l) (nof m) t = wtB (woB B o') B c f (lq m l) (nof m) t := by
        unfold kpB saB
        rw [decide_eq_false hta, hsi e2, Bool.false_or]
        simp
      rw [ek]
      cases wtB (woB B o') B c f (lq m l) (nof m) t <;> rfl
theorem wtB_s {wo : Nat → Bool} {B : Bk} {c f : Int} {q : Nat → Nat} {n t : Nat} : wtB wo B c f q (n + 1) t = (wtB wo B c f q n t || (decide (B 1 (q n) ≤ t) && decide ((t : Int) < bg B c f q n))) := by
  unfold wtB
  rw [anyN_s, Bool.or_assoc]