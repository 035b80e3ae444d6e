/-! SEATS, the reference: the rest -/
/-- the room before -/
def pwF (lf : Lf) (R : Nat) (ps : Pc) : Nat → Option Nat
  | 0 => none
  | i + 1 => rmF lf R ps i
theorem rmF_pw {lf : Lf} {R : Nat} {ps : Pc} {i : Nat} (h : i = 0 ∨ pwF lf R ps i ≠ none) : rmF lf R ps i = (fa (ct lf R (ps.drop i)) (pwF lf R ps i) R).map (·.1) := by
  cases i with
  | zero => rfl
  | succ i =>
    have h : rmF lf R ps i ≠ none := h.resolve_left (by omega)
    show (match rmF lf R ps i with | none => none | some b => (fa (ct lf R (ps.drop (i + 1))) (some b) R).map (·.1)) = (fa (ct lf R (ps.drop (i + 1))) (rmF lf R ps i) R).map (·.1)
    cases hb : rmF lf R ps i with
    | none => exact absurd hb h
    | some b => rfl
theorem rdB_drop {lf : Lf} {R : Nat} : ∀ {ps : Pc} (i : Nat), rdB lf R ps = true → rdB lf R (ps.drop i) = true
  | ps, 0, h => h
  | [], i + 1, h => h
  | p :: ps, i + 1, h => by
    have h : (anyN (fun r => seB lf p r) R && rdB lf R ps) = true := h
    rw [Bool.and_eq_true] at h
    exact rdB_drop i h.2
theorem rd_fa {lf : Lf} {R : Nat} {ps : Pc} (h : rdB lf R ps = true) {i : Nat} (hi : i < ps.length) (w : Option Nat) : ∃ b c, fa (ct lf R (ps.drop i)) w R = some (b, c) ∧ b < R := by
  have := (rdB_fa (lf := lf) (R := R) (ps := ps.drop i) (by rw [drop_c hi]; exact fun z => by cases z) w).1 (rdB_drop i h)
  cases hf : fa (ct lf R (ps.drop i)) w R with
  | none => exact absurd hf this
  | some y =>
    obtain ⟨b, c⟩ := y
    exact ⟨b, c, rfl, (fa_in hf).1⟩
theorem lfF_nr {lf : Lf} {R : Nat} {ps : Pc} (h : rmF lf R ps 0 = none) : ∀ i, lfF lf R ps i = lf
  | 0 => rfl
  | i + 1 => by
    show (match rmF lf R ps i with | none => lfF lf R ps i | some b => _) = lf
    rw [rmF_no lf R ps h i]
    exact lfF_nr h i
def RSF (σ τ : Mem) : Prop := ∀ y i, ¬ (211 ≤ y ∧ y ≤ 217) → (y = 181 → i ≠ 37) → τ y i = σ y i
def reC (σ : Mem) (B : Bk) (R d c : Nat) : Prop := ∀ c' : Nat, c' < c → σ 215 c' = ((psD B d c').length : Int) ∧ σ 214 c' = mvF (lfC B R d c') R (psD B d c') ∧ ∀ i : Nat, i < (psD B d c').length → σ 213 (20 * (c' : Int) + i) = oI (rmF (lfC B R d c') R (psD B d c') i)
theorem isDo.keep {σ τ : Mem} {B : Bk} {N : Nat} (h : isDo σ B N) (e : ∀ i, τ 204 i = σ 204 i) : isDo τ B N := fun c k hc hk => by rw [e]; exact h c k hc hk
theorem pcs_mono (q : Nat → Int) {t : Nat} : ∀ {u : Nat}, t ≤ u → (pcs q t).length ≤ (pcs q u).length
  | 0, h => by rw [Nat.le_zero.1 h]; exact Nat.le_refl _
  | u + 1, h => by
    by_cases e : t = u + 1
    · rw [e]; exact Nat.le_refl _
    · have := pcs_mono q (t := t) (u := u) (by omega)
      rw [pcs_s]
      split
      · rw [List.length_append]; omega
      · exact this