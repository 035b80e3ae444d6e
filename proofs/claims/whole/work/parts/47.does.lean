/-! WHAT ONE DOES in a slot -/
/-- the first that is so -/
def fstN (p : Nat → Bool) : Nat → Option Nat
  | 0 => none
  | n + 1 => match fstN p n with
    | some k => some k
    | none => if p n then some n else none
theorem fstN_s (p : Nat → Bool) (n : Nat) : fstN p (n + 1) = match fstN p n with
    | some k => some k
    | none => if p n then some n else none := rfl
theorem fstN_none {p : Nat → Bool} : ∀ {n : Nat}, (∀ k, k < n → p k = false) → fstN p n = none
  | 0, _ => rfl
  | n + 1, h => by rw [fstN_s, fstN_none fun k hk => h k (by omega), h n (by omega)]; rfl
theorem fstN_more {p : Nat → Bool} {k i : Nat} (h : fstN p k = some i) : ∀ n, k ≤ n → fstN p n = some i
  | 0, hn => by have : k = 0 := by omega
                subst this; exact h
  | n + 1, hn => by
    by_cases e : k = n + 1
    · subst e; exact h
    · rw [fstN_s, fstN_more h n (by omega)]
theorem fstN_some {p : Nat → Bool} {n k : Nat} (hk : k < n) (h : ∀ j, j < k → p j = false) (hp : p k = true) : fstN p n = some k := by
  refine fstN_more (k := k + 1) ?_ n (by omega)
  rw [fstN_s, fstN_none h, hp]; rfl
def sitN (B : Bk) (c f : Int) (q : Nat → Nat) (t k : Nat) : Bool := decide (bg B c f q k ≤ t) && decide ((t : Int) < en B c f q k)
theorem siB_none {B : Bk} {c f : Int} {q : Nat → Nat} {t : Nat} : ∀ {n : Nat}, (∀ k, k < n → sitN B c f q t k = false) → siB B c f q n t = false
  | 0, _ => rfl
  | n + 1, h => by
    show (siB B c f q n t || sitN B c f q t n) = false
    rw [siB_none fun k hk => h k (by omega), h n (by omega)]; rfl
def dd (B : Bk) (c o f : Int) (a : Nat) (x : Option (Int × Tr)) (t : Nat) : Int := if t < a then o else match x with
  | none => -1
  | some (_, (o', m, l)) => match fstN (sitN B c f (lq m l) t) (nof m) with
    | some k => (lq m l k : Int)
    | none => if wtB (woB B o') B c f (lq m l) (nof m) t then 20 else -1
theorem X8_deed {σ : Mem} {k : Int} {B : Bk} (w : WF B) {c : Int} (hc : 0 ≤ c) (hc2 : c < B 8 1) {d : Nat} (hd : d < 5) {o f : Int} {a : Nat} (h : isWd σ k B c d f a (dpl B c d o)) (hcame : f_X8_cameTo σ k d = some (ovr B c d)) {t : Nat} (ht : t < 48) : f_X8_deed σ k d t = some (dd B c (ovr B c d) f a (dpl B c d o) t) := by
  unfold f_X8_deed dd
  rw [chk_pos (by omega), h.2.1]
  by_cases hta : t < a
  · rw [if_neg (by omega), if_pos hta, bind_some' hcame]
  rw [if_pos (by omega), if_neg hta]
  unfold f_X8_deed_18
  cases hx : dpl B c d o with
  | none =>
    obtain ⟨-, -, z3, z4⟩ := h.2.2.1 hx
    have e : loop (f_X8_deed_18B σ k d t) FU 0 = some (.inr ()) := by
      rw [FU_9]
      refine loop_end ?_
      show f_X8_deed_18C σ k d t 0 = _
      unfold f_X8_deed_18C
      rw [chk_pos (by omega), z3, if_pos (by decide)]
    rw [e]
    show f_X8_deed_71 σ k d t = _
    unfold f_X8_deed_71
    rw [chk_pos (by omega), z4, bind_some' (show f_X10_hasSlot σ 0 (t : Int) = some (if (0 : Nat).testBit t then 1 else 0) from hasSlot_n (a := 0) (by decide) ht), Nat.zero_testBit]
    rfl
  | some y =>
    obtain ⟨v, o', m, l⟩ := y
    obtain ⟨-, -, z3, z4, z5⟩ := h.2.2.2 v o' m l hx
    have h4 := (dpl_some w hc hc2 hx).1.2.1
    have hsi := fun hh => siB_none (B := B) (c := c) (f := f) (q := lq m l) (t := t) (n := nof m) hh
    obtain ⟨e, e1, e2⟩ := loop_ex (f := f_X8_deed_18B σ k d t) (fun s => ∃ j : Nat, s = (j : Int) ∧ j ≤ nof m ∧ ∀ i, i < j → sitN B c f (lq m l) t i = false) (fun s => (4 - s).toNat) (Sum.elim (fun e => ∃ j : Nat, e = 4 * (d : Int) + j ∧ j < nof m ∧ fstN (sitN B c f (lq m l) t) (nof m) = some j) (fun _ => ∀ i, i < nof m → sitN B c f (lq m l) t i = false)) (a := 0) ⟨0, rfl, Nat.zero_le _, fun i hi => absurd hi (Nat.not_lt_zero _)⟩ (by decide) (by
      rintro _ ⟨j, rfl, hj, hs⟩
      show (∃ a', f_X8_deed_18C σ k d t (j : Int) = _ ∧ _) ∨ ∃ a', f_X8_deed_18C σ k d t (j : Int) = _ ∧ _
      unfold f_X8_deed_18C
      rw [chk_pos (by omega), z3]
      by_cases hkn : (nof m : Int) ≤ j
      · right
        rw [if_pos hkn]
        have : j = nof m := by omega
        subst this
        exact ⟨_, rfl, hs⟩
      · obtain ⟨y1, y2, y3⟩ := z5 j (by omega)
        have ej : jadd (jmul (d : Int) 4) (j : Int) = 4 * d + j := by rw [jmul_ok (by omega) (by omega), jadd_ok (by omega) (by omega)]; omega
        rw [if_neg hkn, ej]
        simp only [Option.bind_some]
        rw [chk_pos (by omega), y2, y3]
        have off : sitN B c f (lq m l) t j = false → ∃ a', f_X8_deed_65 σ k d t (j : Int) = some (.inl a') ∧ (∃ j : Nat, a' = (j : Int) ∧ j ≤ nof m ∧ ∀ i, i < j → sitN B c f (lq m l) t i = false) ∧ (4 - a').toNat < (4 - (j : Int)).toNat := fun hh => by
          unfold f_X8_deed_65
          simp only [Option.bind_some]
          rw [jadd_ok (by omega) (by omega)]
          refine ⟨_, rfl, ⟨j + 1, by omega, by omega, fun i hi => ?_⟩, by omega⟩
          by_cases e : i = j
          · subst e; exact hh
          · exact hs i (by omega)
        by_cases g1 : (t : Int) < bg B c f (lq m l) j
        · left
          rw [if_pos g1]
          exact off (by unfold sitN; rw [decide_eq_false (by omega)]; rfl)
        · rw [if_neg g1, chk_pos (by omega)]
          by_cases g2 : en B c f (lq m l) j ≤ t
          · left
            rw [if_pos g2]
            exact off (by unfold sitN; rw [decide_eq_false (p := (t : Int) < en B c f (lq m l) j) (by omega), Bool.and_false])
          · right
            rw [if_neg g2]
            exact ⟨_, rfl, j, rfl, by omega, fstN_some (by omega) hs (by unfold sitN; rw [decide_eq_true (by omega), decide_eq_true (by omega)]; rfl)⟩)
    rw [e1]
    cases e with
    | inl e =>
      obtain ⟨j, q1, q2, q3⟩ := e2
      show f_X8_deed_57 σ k e = _
      unfold f_X8_deed_57
      rw [q1, chk_pos (by omega), (z5 j q2).1]
      show _ = some (match fstN (sitN B c f (lq m l) t) (nof m) with
        | some k => (lq m l k : Int)
        | none => if wtB (woB B o') B c f (lq m l) (nof m) t then 20 else -1)
      rw [q3]
    | inr e =>
      have e2 : ∀ i, i < nof m → sitN B c f (lq m l) t i = false := e2
      show f_X8_deed_71 σ k d t = some (match fstN (sitN B c f (lq m l) t) (nof m) with
        | some k => (lq m l k : Int)
        | none => if wtB (woB B o') B c f (lq m l) (nof m) t then 20 else -1)
      unfold f_X8_deed_71
      rw [fstN_none e2, chk_pos (by omega), z4, bind_some' (hasSlot_n (mset_lt _ _) ht), mset_tb, decide_eq_true ht, Bool.true_and]
      have ek : kpB (woB B o') a B c f (lq m l) (nof m) t = wtB (woB B o') B c f (lq m l) (nof m) t := by
        unfold kpB saB
        rw [decide_eq_false hta, hsi e2, Bool.false_or]
        simp
      rw [ek]
      cases wtB (woB B o') B c f (lq m l) (nof m) t <;> rfl
theorem wtB_s {wo : Nat → Bool} {B : Bk} {c f : Int} {q : Nat → Nat} {n t : Nat} : wtB wo B c f q (n + 1) t = (wtB wo B c f q n t || (decide (B 1 (q n) ≤ t) && decide ((t : Int) < bg B c f q n))) := by
  unfold wtB
  rw [anyN_s, Bool.or_assoc]
theorem X11_doing {σ : Mem} {B : Bk} (hR : isRk σ 182 B) (w : WF B) {c : Int} (hc : 0 ≤ c) (hc2 : c < B 8 1) {d : Nat} (hd : d < 5) (h : ∀ d : Nat, d < 5 → isRw σ B c d) {t : Nat} (ht : t < 48) : f_X11_doing σ c d t = some (dd B c (ovr B c d) (fre B c (ovr B c d)) (ahd B c (ovr B c d)) (dpl B c d (ovr B c d)) t) := by
  have hn := w.1
  unfold WFn at hn
  obtain ⟨hrd, h190, h191⟩ := h d hd
  unfold f_X11_doing dd
  rw [chk_pos (by omega), h191]
  by_cases hta : t < ahd B c (ovr B c d)
  · rw [if_neg (by omega), if_pos hta]
    cases d with
    | zero => exact absurd hta (Nat.not_lt_zero _)
    | succ d => rw [jsub_ok (by omega) (by omega), chk_pos (by omega), show ((d + 1 : Nat) : Int) - 1 = (d : Int) by omega, isRd_ov (h d (by omega)).1]; rfl
  rw [if_pos (by omega), if_neg hta, chk_pos (by omega)]
  simp only [Option.bind_some]
  rw [chk_pos (by omega)]
  have hf := fre_b w hc hc2 (ovr_b w hc hc2 d).2
  obtain ⟨f, ef⟩ : ∃ f, f = fre B c (ovr B c d) := ⟨_, rfl⟩
  rw [← ef] at hrd hf ⊢
  cases hx : dpl B c d (ovr B c d) with
  | none =>
    obtain ⟨-, -, z3, z4⟩ := hrd.1 hx
    rw [z3, z4, if_pos (by decide)]
    unfold f_X11_doing_54 f_X11_doing_55 f_X11_doing_60
    have e : loop (f_X11_doing_60B σ c d t 0) FU (0, 0) = some (.inr 0) := by
      rw [FU_9]
      refine loop_end ?_
      show f_X11_doing_60C σ c d t 0 0 0 = _
      unfold f_X11_doing_60C
      rw [if_pos (by decide)]
    rw [e]
    rfl
  | some y =>
    obtain ⟨v, o', m, l⟩ := y
    obtain ⟨-, -, z3, z4, z5⟩ := hrd.2 v o' m l hx
    obtain ⟨d1, d2, d3, d4, -⟩ := dpl_some w hc hc2 hx
    have h4 := d1.2.1
    obtain ⟨-, -, pin⟩ := PT_ok (nof m) h4
    have hqP : ∀ j, j < nof m → (lq m l j : Int) < B 8 0 := fun j hj => d1.2.2 _ (nth_in ((pin l d4).2 j hj)).2.1
    have main : f_X11_doing_60 σ c d t (nof m : Int) (if woB B o' t then 1 else 0) 0 = some (match fstN (sitN B c f (lq m l) t) (nof m) with
        | some k => (lq m l k : Int)
        | none => if wtB (woB B o') B c f (lq m l) (nof m) t then 20 else -1) := by
      unfold f_X11_doing_60
      obtain ⟨e, e1, e2⟩ := loop_ex (f := f_X11_doing_60B σ c d t (nof m : Int)) (fun s => ∃ j : Nat, s.2 = (j : Int) ∧ j ≤ nof m ∧ s.1 = (if wtB (woB B o') B c f (lq m l) j t then 1 else 0) ∧ ∀ i, i < j → sitN B c f (lq m l) t i = false) (fun s => (4 - s.2).toNat) (Sum.elim (fun e => ∃ j : Nat, e = (lq m l j : Int) ∧ j < nof m ∧ fstN (sitN B c f (lq m l) t) (nof m) = some j) (fun e => e = (if wtB (woB B o') B c f (lq m l) (nof m) t then 1 else 0) ∧ ∀ i, i < nof m → sitN B c f (lq m l) t i = false)) (a := ((if woB B o' t then 1 else 0), 0)) ⟨0, rfl, Nat.zero_le _, by unfold wtB anyN; rw [Bool.or_false], fun i hi => absurd hi (Nat.not_lt_zero _)⟩ (Nat.le_of_ble_eq_true rfl) (by
        rintro ⟨x5, _⟩ ⟨j, rfl, hj, g5, hs⟩
        have g5 : x5 = _ := g5
        subst g5
        show (∃ a', f_X11_doing_60C σ c d t (nof m : Int) _ (j : Int) = _ ∧ _) ∨ ∃ a', f_X11_doing_60C σ c d t (nof m : Int) _ (j : Int) = _ ∧ _
        unfold f_X11_doing_60C
        by_cases hkn : (nof m : Int) ≤ j
        · right
          rw [if_pos hkn]
          have : j = nof m := by omega
          subst this
          exact ⟨_, rfl, rfl, hs⟩
        · obtain ⟨y1, y2⟩ := z5 j (by omega)
          have ej : jadd (jmul 4 (d : Int)) (j : Int) = 4 * d + j := by rw [jmul_ok (by omega) (by omega), jadd_ok (by omega) (by omega)]
          have hbg := bg_b w hc hc2 hf hqP (k := j) (by omega)
          have hq12 := hqP j (by omega)
          have hst := (w.2.1 (lq m l j) (by omega) (hqP j (by omega))).2.1
          have een : en B c f (lq m l) j = bg B c f (lq m l) j + tm B c (lq m l j) := rfl
          rw [if_neg hkn, ej, chk_pos (by omega)]
          simp only [Option.bind_some]
          rw [chk_pos (by omega), y1, y2]
          have next : ∀ z : Int, z = (if wtB (woB B o') B c f (lq m l) (j + 1) t then 1 else 0) → sitN B c f (lq m l) t j = false → ∃ a', f_X11_doing_142 σ c d t (nof m : Int) (j : Int) z = some (.inl a') ∧ (∃ j : Nat, a'.2 = (j : Int) ∧ j ≤ nof m ∧ a'.1 = (if wtB (woB B o') B c f (lq m l) j t then 1 else 0) ∧ ∀ i, i < j → sitN B c f (lq m l) t i = false) ∧ (4 - a'.2).toNat < (4 - (j : Int)).toNat := fun z hz hh => by
            unfold f_X11_doing_142
            simp only [Option.bind_some]
            rw [jadd_ok (by omega) (by omega)]
            refine ⟨_, rfl, ⟨j + 1, by show (j : Int) + 1 = _; omega, by omega, hz, fun i hi => ?_⟩, by show (4 - ((j : Int) + 1)).toNat < (4 - (j : Int)).toNat; omega⟩
            by_cases e : i = j
            · subst e; exact hh
            · exact hs i (by omega)
          have off : sitN B c f (lq m l) t j = false → ∃ a', f_X11_doing_116 σ c d t (nof m : Int) (if wtB (woB B o') B c f (lq m l) j t then 1 else 0) (j : Int) (lq m l j : Int) (bg B c f (lq m l) j) = some (.inl a') ∧ (∃ j : Nat, a'.2 = (j : Int) ∧ j ≤ nof m ∧ a'.1 = (if wtB (woB B o') B c f (lq m l) j t then 1 else 0) ∧ ∀ i, i < j → sitN B c f (lq m l) t i = false) ∧ (4 - a'.2).toNat < (4 - (j : Int)).toNat := fun hh => by
            unfold f_X11_doing_116 f_X11_doing_137 f_X11_doing_141
            cases hwt : wtB (woB B o') B c f (lq m l) j t with
            | true =>
              rw [if_pos (by decide)]
              exact next 1 (by rw [wtB_s, hwt]; rfl) hh
            | false =>
              rw [if_neg (by decide), bind_some' (X11_start hR (by omega))]
              by_cases g1 : (t : Int) < B 1 (lq m l j)
              · rw [if_pos g1]
                exact next 0 (by rw [wtB_s, hwt, decide_eq_false (by omega)]; rfl) hh
              · rw [if_neg g1]
                by_cases g2 : bg B c f (lq m l) j ≤ t
                · rw [if_pos g2]
                  exact next 0 (by rw [wtB_s, hwt, decide_eq_false (p := (t : Int) < bg B c f (lq m l) j) (by omega), Bool.and_false]; rfl) hh
                · rw [if_neg g2]
                  exact next 1 (by rw [wtB_s, hwt, decide_eq_true (show B 1 (lq m l j) ≤ t by omega), decide_eq_true (show (t : Int) < bg B c f (lq m l) j by omega)]; rfl) hh
          by_cases g1 : (t : Int) < bg B c f (lq m l) j
          · left
            rw [if_pos g1]
            exact off (by unfold sitN; rw [decide_eq_false (by omega)]; rfl)
          · rw [if_neg g1, bind_some' (X11_timed hR w hc hc2 (by omega) (hqP j (by omega))), jadd_ok (by omega) (by omega), ← een]
            by_cases g2 : en B c f (lq m l) j ≤ t
            · left
              rw [if_pos g2]
              exact off (by unfold sitN; rw [decide_eq_false (p := (t : Int) < en B c f (lq m l) j) (by omega), Bool.and_false])
            · right
              rw [if_neg g2]
              exact ⟨_, rfl, j, rfl, by omega, fstN_some (by omega) hs (by unfold sitN; rw [decide_eq_true (by omega), decide_eq_true (by omega)]; rfl)⟩)
      rw [e1]
      cases e with
      | inl e =>
        obtain ⟨j, q1, q2, q3⟩ := e2
        rw [q3, q1]; rfl
      | inr e =>
        have e3 : e = _ := e2.1
        have e2 : ∀ i, i < nof m → sitN B c f (lq m l) t i = false := e2.2
        rw [fstN_none e2, e3]
        show f_X11_doing_150 σ _ = _
        unfold f_X11_doing_150
        cases wtB (woB B o') B c f (lq m l) (nof m) t <;> rfl
    rw [z3, z4]
    by_cases h0 : o' < 0
    · rw [if_pos h0]
      unfold f_X11_doing_54 f_X11_doing_55
      have : woB B o' t = false := by unfold woB; rw [decide_eq_false (by omega)]; rfl
      rw [this] at main
      exact main
    · rw [if_neg h0, chk_pos (by omega), bind_some' (X11_start hR (by omega))]
      by_cases h1 : (t : Int) < B 1 o'
      · rw [if_pos h1]
        unfold f_X11_doing_54 f_X11_doing_55
        have : woB B o' t = false := by unfold woB; rw [decide_eq_false (p := B 1 o' ≤ t) (by omega), Bool.and_false]
        rw [this] at main
        exact main
      · rw [if_neg h1]
        unfold f_X11_doing_55
        have : woB B o' t = true := by unfold woB; rw [decide_eq_true (by omega), decide_eq_true (by omega)]; rfl
        rw [this] at main
        exact main
