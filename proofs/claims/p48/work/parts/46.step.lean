/-! A CALL, both sides: the answers are the same, and what holds keeps holding -/
def ST (σ : Mem) (B : Bk) : Prop := isBk σ 1 B ∧ isRk σ 182 B ∧ WF B ∧ WKS σ B
/-- what a question may change: the class' side, the reference's -/
def CFr (σ ρ : Mem) : Prop := ∀ x, ¬ (10 ≤ x ∧ x ≤ 18) → ¬ (35 ≤ x ∧ x ≤ 42) → ¬ (45 ≤ x ∧ x ≤ 163) → x ≠ 179 → x ≠ 180 → ρ x = σ x
def RFr (ρ τ : Mem) : Prop := ∀ x, x ≠ 188 → ¬ (191 ≤ x ∧ x ≤ 217) → τ x = ρ x
theorem CFr.rfl {σ : Mem} : CFr σ σ := fun _ _ _ _ _ _ => Eq.refl _
theorem RFr.rfl {σ : Mem} : RFr σ σ := fun _ _ _ => Eq.refl _
theorem CFr.trans {σ ρ τ : Mem} (h : CFr σ ρ) (g : CFr ρ τ) : CFr σ τ := fun x h1 h2 h3 h4 h5 => by rw [g x h1 h2 h3 h4 h5, h x h1 h2 h3 h4 h5]
theorem RFr.trans {σ ρ τ : Mem} (h : RFr σ ρ) (g : RFr ρ τ) : RFr σ τ := fun x h1 h2 => by rw [g x h1 h2, h x h1 h2]
theorem wks.cf {σ ρ : Mem} (h : wks σ ρ) : CFr σ ρ := fun x _ h2 h3 _ _ => h x (by omega) (by omega)
theorem rf_of {ρ τ : Mem} (h : ∀ x, ¬ (192 ≤ x ∧ x ≤ 202) → τ x = ρ x) : RFr ρ τ := fun x h1 h2 => h x (by omega)
theorem WKS.keep {σ τ : Mem} {B : Bk} (h : WKS σ B) (hn : B 8 1 ≤ 10) (e : ∀ x, 53 ≤ x → x ≤ 153 → τ x = σ x) : WKS τ B := fun c h1 h2 h3 => by
  rw [e 53 (by decide) (by decide)] at h3
  exact (h c h1 h2 h3).keep fun x a b => e x (by omega) (by omega)
/-- one refusal more, on both sides, or none -/
def REF (σ τ : Mem) : Prop := (τ 34 = σ 34 ∧ τ 184 = σ 184) ∨ ∃ i : Int, 0 ≤ i ∧ i < 5 ∧ (∀ j, τ 34 j = if j = i then jadd (σ 34 i) 1 else σ 34 j) ∧ ∀ j, τ 184 j = if j = i then jadd (σ 184 i) 1 else σ 184 j
def SC (x : Int) : Prop := (10 ≤ x ∧ x ≤ 18) ∨ (35 ≤ x ∧ x ≤ 42) ∨ (45 ≤ x ∧ x ≤ 163) ∨ x = 179 ∨ x = 180 ∨ x = 188 ∨ (191 ≤ x ∧ x ≤ 217) ∨ x = 34 ∨ x = 184
/-- of the reference's own row (181) only two places are kept: an image, the tape's size -/
def step (σ τ : Mem) (B : Bk) : Prop := (∀ x i, ¬ SC x → (x = 181 → i = 2 ∨ i = 9) → τ x i = σ x i) ∧ WKS τ B ∧ REF σ τ
def same (σ : Mem) (B : Bk) (a : Option (Int × Mem)) (r : Mem → Option (Int × Mem)) : Prop := ∃ v ρ τ, a = some (v, ρ) ∧ r ρ = some (v, τ) ∧ step σ τ B
theorem same.ok {σ ρ τ : Mem} {B : Bk} {a : Option (Int × Mem)} {r : Mem → Option (Int × Mem)} {v : Int} (hn : B 8 1 ≤ 10) (ha : a = some (v, ρ)) (hc : CFr σ ρ) (hw : WKS ρ B) (hr : r ρ = some (v, τ)) (hf : RFr ρ τ) : same σ B a r := by
  refine ⟨v, ρ, τ, ha, hr, fun x _ hx _ => ?_, hw.keep hn fun x h1 h2 => hf x (by omega) (by omega), Or.inl ⟨?_, ?_⟩⟩
  · unfold SC at hx
    rw [hf x (by omega) (by omega), hc x (by omega) (by omega) (by omega) (by omega) (by omega)]
  · rw [hf 34 (by decide) (by decide), hc 34 (by decide) (by decide) (by decide) (by decide) (by decide)]
  · rw [hf 184 (by decide) (by decide), hc 184 (by decide) (by decide) (by decide) (by decide) (by decide)]
/-- the state behind a refusal -/
def refd (σ : Mem) (x : Int) : Mem := mup σ 34 (-52 - x) (jadd (σ 34 (-52 - x)) 1)
def nod (σ : Mem) (x : Int) : Mem := mup σ 184 (-52 - x) (jadd (σ 184 (-52 - x)) 1)
theorem refd_row {σ : Mem} {x y : Int} (h : y ≠ 34) : refd σ x y = σ y := mup_row h
theorem nod_row {σ : Mem} {x y : Int} (h : y ≠ 184) : nod σ x y = σ y := mup_row h
theorem c_no {σ : Mem} {x : Int} (h : -56 ≤ x ∧ x ≤ -52) : ((f_X10_refuse σ x).bind fun v => some (v.1, v.2)) = some (x, refd σ x) := by rw [X10_refuse h]; rfl
theorem same.no {σ ρ τ : Mem} {B : Bk} {a : Option (Int × Mem)} {r : Mem → Option (Int × Mem)} {x : Int} (hn : B 8 1 ≤ 10) (hx : -56 ≤ x ∧ x ≤ -52) (ha : a = some (x, refd ρ x)) (hc : CFr σ ρ) (hw : WKS ρ B) (hr : r (refd ρ x) = some (x, nod τ x)) (hf : RFr (refd ρ x) τ) : same σ B a r := by
  refine ⟨x, _, _, ha, hr, fun y _ hy _ => ?_, hw.keep hn fun y h1 h2 => ?_, Or.inr ⟨-52 - x, by omega, by omega, fun j => ?_, fun j => ?_⟩⟩
  · unfold SC at hy
    rw [nod_row (by omega), hf y (by omega) (by omega), refd_row (by omega), hc y (by omega) (by omega) (by omega) (by omega) (by omega)]
  · rw [nod_row (by omega), hf y (by omega) (by omega), refd_row (by omega)]
  · rw [nod_row (by decide), hf 34 (by decide) (by decide)]
    unfold refd mup
    rw [hc 34 (by decide) (by decide) (by decide) (by decide) (by decide)]
    by_cases e : j = -52 - x
    · rw [if_pos ⟨rfl, e⟩, if_pos e]
    · rw [if_neg (fun h => e h.2), if_neg e]
  · have e6 : τ 184 = σ 184 := by rw [hf 184 (by decide) (by decide), refd_row (by decide), hc 184 (by decide) (by decide) (by decide) (by decide) (by decide)]
    unfold nod mup
    rw [e6]
    by_cases e : j = -52 - x
    · rw [if_pos ⟨rfl, e⟩, if_pos e]
    · rw [if_neg (fun h => e h.2), if_neg e]
theorem if0 {c : Prop} [Decidable c] {α : Type} {a b : α} : (if (if c then (1 : Int) else 0) = 0 then a else b) = if c then b else a := by
  by_cases h : c
  · rw [if_pos h, if_neg (by decide), if_pos h]
  · rw [if_neg h, if_pos rfl, if_neg h]
theorem if1 {c : Prop} [Decidable c] {α : Type} {a b : α} : (if (if c then (1 : Int) else 0) ≠ 0 then a else b) = if c then a else b := by
  by_cases h : c
  · rw [if_pos h, if_pos (by decide), if_pos h]
  · rw [if_neg h, if_neg (by decide), if_neg h]
theorem isRk_refd {σ : Mem} {x : Int} {B : Bk} (h : isRk σ 182 B) : isRk (refd σ x) 182 B := h.row (refd_row (by decide))