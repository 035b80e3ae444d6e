/-! WHAT THE CLASS ANSWERS: a call, the state behind it -/
def RUN {α : Type} (x : Option α) (P : α → Prop) : Prop := ∃ a, x = some a ∧ P a
section
variable {α β : Type}
theorem RUN.ok {a : α} {P : α → Prop} (h : P a) : RUN (some a) P := ⟨a, rfl, h⟩
theorem RUN.bind {x : Option α} {f : α → Option β} {P : α → Prop} {Q : β → Prop} (h : RUN x P) (g : ∀ a, P a → RUN (f a) Q) : RUN (x.bind f) Q := by
  obtain ⟨a, rfl, h⟩ := h
  exact g a h
theorem RUN.to {a : α} {f : α → Option β} {Q : β → Prop} (h : RUN (f a) Q) : RUN ((some a).bind f) Q := h
theorem RUN.chk {x : Option α} {c : Prop} [Decidable c] {Q : α → Prop} (hc : c) (h : RUN x Q) : RUN (chk c x) Q := by rw [chk_pos hc]; exact h
theorem RUN.pos {x y : Option α} {c : Prop} [Decidable c] {Q : α → Prop} (hc : c) (h : RUN x Q) : RUN (if c then x else y) Q := by rw [if_pos hc]; exact h
theorem RUN.neg {x y : Option α} {c : Prop} [Decidable c] {Q : α → Prop} (hc : ¬ c) (h : RUN y Q) : RUN (if c then x else y) Q := by rw [if_neg hc]; exact h
theorem RUN.ite {x y : Option α} {c : Prop} [Decidable c] {Q : α → Prop} (h1 : c → RUN x Q) (h2 : ¬ c → RUN y Q) : RUN (if c then x else y) Q := by
  by_cases hc : c
  · rw [if_pos hc]; exact h1 hc
  · rw [if_neg hc]; exact h2 hc
theorem RUN.mono {x : Option α} {P Q : α → Prop} (h : RUN x P) (g : ∀ a, P a → Q a) : RUN x Q := by
  obtain ⟨a, e, h⟩ := h
  exact ⟨a, e, g a h⟩
theorem RUN.eq {x : Option α} {a : α} {P : α → Prop} (e : x = some a) (h : P a) : RUN x P := ⟨a, e, h⟩
theorem RUN.loop {f : α → Option (α ⊕ β)} (I : α → Prop) (m : α → Nat) {Q : β → Prop} {a : α} (h0 : I a) (hm : m a < 1000000) (hs : ∀ s, I s → RUN (f s) (fun r => match r with | .inl t => I t ∧ m t < m s | .inr e => Q e)) : RUN (loop f FU a) Q := by
  obtain ⟨b, e, h⟩ := loop_ex (f := f) I m Q h0 hm (fun s h => by
    obtain ⟨r, e, g⟩ := hs s h
    cases r with
    | inl t => exact Or.inl ⟨t, e, g.1, g.2⟩
    | inr b => exact Or.inr ⟨b, e, g⟩)
  exact ⟨b, e, h⟩
end
def imJ (σ : Mem) : Option Bk → Prop
  | none => σ 0 3 = 0
  | some I => σ 0 3 = 1 ∧ WF I ∧ isBk σ 19 I
/-- what holds between two calls: the book, at most k editions, the image -/
def KS (k : Nat) (σ : Mem) (B : Bk) (J : Option Bk) : Prop := ST σ B ∧ (1 ≤ σ 43 3 ∧ σ 43 3 ≤ 1 + k) ∧ DUC σ B ∧ SEC σ B ∧ (∀ s, 0 ≤ s → s < 8 → σ 31 s = -1) ∧ σ 28 1 = 0 ∧ imJ σ J
def GIVES (x : Option (Int × Mem)) (v : Int) (k : Nat) (B : Bk) (J : Option Bk) : Prop := ∃ ρ, x = some (v, ρ) ∧ KS k ρ B J
theorem RUN.call {β : Type} {x : Option (Int × Mem)} {f : Int × Mem → Option β} {v : Int} {k : Nat} {B : Bk} {J : Option Bk} {Q : β → Prop} (h : GIVES x v k B J) (g : ∀ ρ, KS k ρ B J → RUN (f (v, ρ)) Q) : RUN (x.bind f) Q := by
  obtain ⟨ρ, rfl, K⟩ := h
  exact g ρ K
theorem GIVES.mono {x : Option (Int × Mem)} {v : Int} {k k' : Nat} {B : Bk} {J : Option Bk} (h : GIVES x v k B J) (hk : k ≤ k') : GIVES x v k' B J := by
  obtain ⟨ρ, e, h1, h2, h3⟩ := h
  exact ⟨ρ, e, h1, ⟨h2.1, by omega⟩, h3⟩
theorem KS.mono {σ : Mem} {k k' : Nat} {B : Bk} {J : Option Bk} (h : KS k σ B J) (hk : k ≤ k') : KS k' σ B J := by
  obtain ⟨h1, h2, h3⟩ := h
  exact ⟨h1, ⟨h2.1, by omega⟩, h3⟩
theorem imJ.keep {σ τ : Mem} {J : Option Bk} (h : imJ σ J) (e : τ 0 3 = σ 0 3) (e2 : ∀ x i, 19 ≤ x → x ≤ 27 → τ x i = σ x i) : imJ τ J := by
  cases J with
  | none => show τ 0 3 = 0; rw [e]; exact h
  | some I => exact ⟨by rw [e]; exact h.1, h.2.1, h.2.2.pt e2⟩
/-- a question's frame -/
def CF2 (σ ρ : Mem) : Prop := ∀ x, x ≠ 34 → ¬ (10 ≤ x ∧ x ≤ 18) → ¬ (35 ≤ x ∧ x ≤ 42) → ¬ (45 ≤ x ∧ x ≤ 163) → x ≠ 179 → x ≠ 180 → ρ x = σ x
theorem CFr.two {σ ρ : Mem} (h : CFr σ ρ) : CF2 σ ρ := fun x _ h1 h2 h3 h4 h5 => h x h1 h2 h3 h4 h5
theorem KS.cf {k : Nat} {σ ρ : Mem} {B : Bk} {J : Option Bk} (h : KS k σ B J) (c : CF2 σ ρ) (hw : WKS ρ B) : KS k ρ B J := by
  obtain ⟨⟨hB, hR, w, hW⟩, h2, h3, h4, h5, h6, h7⟩ := h
  have e : ∀ x i, 164 ≤ x → x ≤ 178 → ρ x i = σ x i := fun x i x1 x2 => by rw [c x (by omega) (by omega) (by omega) (by omega) (by omega) (by omega)]
  have e43 : ρ 43 3 = σ 43 3 := by rw [c 43 (by decide) (by decide) (by decide) (by decide) (by decide) (by decide)]
  refine ⟨⟨hB.rows fun x x1 x2 => c x (by omega) (by omega) (by omega) (by omega) (by omega) (by omega), trivial, w, hw⟩, by rw [e43]; exact h2, h3.keep (fun x i x1 x2 => e x i x1 (by omega)) e43, h4.keep (fun x i x1 x2 => e x i (by omega) x2) e43, fun s s1 s2 => ?_, ?_, h7.keep ?_ fun x i x1 x2 => ?_⟩
  · rw [c 31 (by decide) (by decide) (by decide) (by decide) (by decide) (by decide)]; exact h5 s s1 s2
  · rw [c 28 (by decide) (by decide) (by decide) (by decide) (by decide) (by decide)]; exact h6
  · rw [c 0 (by decide) (by decide) (by decide) (by decide) (by decide) (by decide)]
  · rw [c x (by omega) (by omega) (by omega) (by omega) (by omega) (by omega)]
theorem GIVES.ok {k : Nat} {σ ρ : Mem} {B : Bk} {J : Option Bk} {x : Option (Int × Mem)} {v : Int} (h : KS k σ B J) (e : x = some (v, ρ)) (c : CFr σ ρ) (hw : WKS ρ B) : GIVES x v k B J := ⟨ρ, e, h.cf c.two hw⟩
theorem GIVES.no {k : Nat} {σ ρ : Mem} {B : Bk} {J : Option Bk} {x : Option (Int × Mem)} {v : Int} (h : KS k σ B J) (e : x = some (v, refd ρ v)) (c : CFr σ ρ) (hw : WKS ρ B) : GIVES x v k B J := by
  have hn := h.1.2.2.1.1
  unfold WFn at hn
  exact ⟨_, e, h.cf (fun x x0 x1 x2 x3 x4 x5 => by rw [refd_row x0, c x x1 x2 x3 x4 x5]) (hw.keep (by omega) fun x x1 x2 => refd_row (by omega))⟩
/-- plan -/
def plV (B : Bk) (c : Int) (D : Nat) (x : Int) : Int := if x = 0 then (if (dpl B c D (ovr B c D)).isNone then 0 else 1) else if x = 1 then kv (dpl B c D (ovr B c D)) else if x = 2 then ov (dpl B c D (ovr B c D)) else if x = 3 then fre B c (ovr B c D) else if x = 4 then (ahd B c (ovr B c D) : Int) else (cntd (dpl B c D (ovr B c D)) : Int)
section
variable {k : Nat} {σ : Mem} {B : Bk} {J : Option Bk}
theorem a_plan (K : KS k σ B J) {c : Int} (hc : 0 ≤ c) (hc2 : c < B 8 1) {D : Nat} (hD : D < 5) {x : Int} (hx : 0 ≤ x ∧ x ≤ 5) : GIVES (f_X10_plan σ c D x) (plV B c D x) k B J := by
  have hst := K.1
  obtain ⟨hB, hR, w, hW⟩ := K.1
  have hn := w.1
  unfold WFn at hn
  obtain ⟨ρ, a1, a2, a3, a4, a5⟩ := ask hst hc hc2
  obtain ⟨hBr, hRr, -, hWr⟩ := a4
  have p1 : ((54 + 10 * c, ρ) : Int × Mem).1 = 54 + 10 * c := rfl
  have p2 : ((54 + 10 * c, ρ) : Int × Mem).2 = ρ := rfl
  have hwd := a5 D (by omega)
  have hcan := isWd_can hwd
  have hkep := isWd_kept w hc hc2 hwd
  have hov := isWd_ov hwd
  have hcnt := isWd_cnt hwd
  refine GIVES.ok K ?_ a2 hWr
  unfold f_X10_plan plV
  rw [bind_some' (X0_hasCand hB _), if0, if_pos ⟨hc, hc2⟩, bind_some' (X10_isDay _), if1, if_pos (by omega)]
  rw [bind_some' a1, p1, p2, chk_pos (by omega), chk_pos (by omega), chk_pos (by omega), chk_pos (by omega), chk_pos (by omega), chk_pos (by omega), hcan, hov, hcnt, hwd.1, hwd.2.1, bind_some' hkep]
  by_cases x0 : x = 0
  · rw [if_pos x0, if_pos x0]
    cases (dpl B c D (ovr B c D)).isNone <;> rfl
  rw [if_neg x0, if_neg x0]
  by_cases x1 : x = 1
  · rw [if_pos x1, if_pos x1]
  rw [if_neg x1, if_neg x1]
  by_cases x2 : x = 2
  · rw [if_pos x2, if_pos x2]
  rw [if_neg x2, if_neg x2]
  by_cases x3 : x = 3
  · rw [if_pos x3, if_pos x3]
  rw [if_neg x3, if_neg x3]
  by_cases x4 : x = 4
  · rw [if_pos x4, if_pos x4]
  rw [if_neg x4, if_neg x4, if_pos (by omega)]
/-- candOf -/
def cdV (B : Bk) (c x : Int) : Int := if x = 0 then B 3 c else if x = 1 then B 4 c else if x = 2 then B 5 c else if x = 3 then B 6 c else if x = 4 then rs B c else ((cts B c 5 : Nat) : Int)
theorem a_candOf (K : KS k σ B J) {c : Int} (hc : 0 ≤ c) (hc2 : c < B 8 1) {x : Int} (hx : 0 ≤ x ∧ x ≤ 5) : GIVES (f_X10_candOf σ c x) (cdV B c x) k B J := by
  have hst := K.1
  obtain ⟨hB, hR, w, hW⟩ := K.1
  have hn := w.1
  unfold WFn at hn
  by_cases h5 : x = 5
  · subst h5
    obtain ⟨ρ, a1, a2, a3, a4, a5⟩ := ask hst hc hc2
    obtain ⟨hBr, hRr, -, hWr⟩ := a4
    refine GIVES.ok K ?_ a2 hWr
    unfold f_X10_candOf
    rw [bind_some' (X0_hasCand hB _), if1, if_pos ⟨hc, hc2⟩]
    rw [if_neg (by decide), if_neg (by decide), if_neg (by decide), if_neg (by decide), if_neg (by decide), if_pos rfl, bind_some' a1, bind_some' (X8_cants a5)]
    rfl
  refine GIVES.ok K ?_ CFr.rfl hW
  by_cases h4 : x = 4
  · subst h4
    unfold f_X10_candOf
    rw [bind_some' (X0_hasCand hB _), if1, if_pos ⟨hc, hc2⟩]
    rw [if_neg (by decide), if_neg (by decide), if_neg (by decide), if_neg (by decide), if_pos rfl, bind_some' (X0_restFor hB w hc hc2)]
    rfl
  have hb3 : σ 5 c = B 3 c := hB.kind hc (by omega)
  have hb4 : σ 6 c = B 4 c := hB.a hc (by omega)
  have hb5 : σ 7 c = B 5 c := hB.night hc (by omega)
  have hb6 : σ 8 c = B 6 c := hB.takes hc (by omega)
  unfold f_X10_candOf cdV
  rw [bind_some' (X0_hasCand hB _), if1, if_pos ⟨hc, hc2⟩]
  rw [chk_pos (by omega), chk_pos (by omega), chk_pos (by omega), chk_pos (by omega), hb3, hb4, hb5, hb6]
  by_cases x0 : x = 0
  · rw [if_pos x0, if_pos x0]
  rw [if_neg x0, if_neg x0]
  by_cases x1 : x = 1
  · rw [if_pos x1, if_pos x1]
  rw [if_neg x1, if_neg x1]
  by_cases x2 : x = 2
  · rw [if_pos x2, if_pos x2]
  rw [if_neg x2, if_neg x2, if_pos (show x = 3 by omega), if_pos (show x = 3 by omega)]
/-- sits -/
def siV (B : Bk) (c : Int) (D I : Nat) (x : Int) : Int := match dpl B c D (ovr B c D) with
  | none => 0
  | some (_, _, m, l) => if x = 0 then (lq m l I : Int) else if x = 1 then bg B c (fre B c (ovr B c D)) (lq m l) I else en B c (fre B c (ovr B c D)) (lq m l) I
theorem a_sits (K : KS k σ B J) {c : Int} (hc : 0 ≤ c) (hc2 : c < B 8 1) {D : Nat} (hD : D < 5) {I : Nat} (hI : I < cntd (dpl B c D (ovr B c D))) {x : Int} (hx : 0 ≤ x ∧ x ≤ 2) : GIVES (f_X10_sits σ c D I x) (siV B c D I x) k B J := by
  have hst := K.1
  obtain ⟨hB, hR, w, hW⟩ := K.1
  have hn := w.1
  unfold WFn at hn
  obtain ⟨ρ, a1, a2, a3, a4, a5⟩ := ask hst hc hc2
  obtain ⟨hBr, hRr, -, hWr⟩ := a4
  have p1 : ((54 + 10 * c, ρ) : Int × Mem).1 = 54 + 10 * c := rfl
  have p2 : ((54 + 10 * c, ρ) : Int × Mem).2 = ρ := rfl
  have hwd := a5 D (by omega)
  have hcnt := isWd_cnt hwd
  refine GIVES.ok K ?_ a2 hWr
  unfold siV
  cases hdp : dpl B c D (ovr B c D) with
  | none => rw [hdp] at hI; exact absurd hI (Nat.not_lt_zero _)
  | some y =>
    obtain ⟨v, o', m, l⟩ := y
    have hi2 : I < nof m := by rw [hdp] at hI; exact hI
    obtain ⟨e1, e2, e3⟩ := (hwd.2.2.2 v o' m l hdp).2.2.2.2 I (by omega)
    obtain ⟨d1, d2, d3, d4, -⟩ := dpl_some w hc hc2 hdp
    have h4 := d1.2.1
    have j1 : jadd (jmul (D : Int) 4) (I : Int) = 4 * D + I := by rw [jmul_ok (by omega) (by omega), jadd_ok (by omega) (by omega)]; omega
    unfold f_X10_sits
    rw [bind_some' (X0_hasCand hB _), if0, if_pos ⟨hc, hc2⟩, bind_some' (X10_isDay _), if1, if_pos (by omega)]
    rw [bind_some' a1, p1, p2, if_neg (by omega), chk_pos (by omega), hcnt, hdp, show cntd (some (v, (o', m, l))) = nof m from rfl, if_pos (by omega)]
    simp only [Option.bind_some]
    rw [j1, e1, e2, e3, chk_pos (by omega), chk_pos (by omega), chk_pos (by omega)]
    by_cases x0 : x = 0
    · rw [if_pos x0, if_pos x0]
    rw [if_neg x0, if_neg x0]
    by_cases x1 : x = 1
    · rw [if_pos x1, if_pos x1]
    rw [if_neg x1, if_neg x1, if_pos (by omega)]
/-- does -/
theorem a_does (K : KS k σ B J) {c : Int} (hc : 0 ≤ c) (hc2 : c < B 8 1) {D : Nat} (hD : D < 5) {T : Nat} (hT : T < 48) : GIVES (f_X10_does σ c D T) (dd B c (ovr B c D) (fre B c (ovr B c D)) (ahd B c (ovr B c D)) (dpl B c D (ovr B c D)) T) k B J := by
  have hst := K.1
  obtain ⟨hB, hR, w, hW⟩ := K.1
  have hn := w.1
  unfold WFn at hn
  obtain ⟨ρ, a1, a2, a3, a4, a5⟩ := ask hst hc hc2
  obtain ⟨hBr, hRr, -, hWr⟩ := a4
  refine GIVES.ok K ?_ a2 hWr
  unfold f_X10_does
  rw [bind_some' (X0_hasCand hB _), if0, if_pos ⟨hc, hc2⟩, bind_some' (X10_isDay _), if0, if_pos (by omega), bind_some' (X10_isSlot _), if1, if_pos (by omega)]
  rw [bind_some' a1, bind_some' (X8_deed w hc hc2 (by omega) (a5 D (by omega)) (wk_came a5 (by omega)) (by omega))]
/-- lawful -/
def laV (B : Bk) (c : Int) (D : Nat) : Int := ((nlw (lwS B c (od B c D) (fre B c (ovr B c D)) (ahd B c (ovr B c D))) (PT (nof (od B c D))) : Nat) : Int)
theorem a_lawful (K : KS k σ B J) {c : Int} (hc : 0 ≤ c) (hc2 : c < B 8 1) {D : Nat} (hD : D < 5) : GIVES (f_X10_lawful σ c D) (laV B c D) k B J := by
  have hst := K.1
  obtain ⟨hB, hR, w, hW⟩ := K.1
  have hn := w.1
  unfold WFn at hn
  obtain ⟨ρ, a1, a2, a3, a4, a5⟩ := ask hst hc hc2
  obtain ⟨hBr, hRr, -, hWr⟩ := a4
  have p1 : ((54 + 10 * c, ρ) : Int × Mem).1 = 54 + 10 * c := rfl
  have p2 : ((54 + 10 * c, ρ) : Int × Mem).2 = ρ := rfl
  have hwd := a5 D (by omega)
  have ho := ovr_b w hc hc2 D
  have hf := fre_b w hc hc2 ho.2
  have ha := ahd_b w hc hc2 ho.2
  have hm := okm_od w hc hc2 (D : Int)
  obtain ⟨ρ2, b1, b2, b3⟩ := X4_ordersOf hBr w hc hc2 (by omega) ha hwd
  obtain ⟨r, ρ3, s1, s2, -, s4, -, -⟩ := X3_search b2 hm w hc hc2 hf ha (by_ := 0) (by omega) (woB B (-1))
  rw [woB_no] at s1
  have c3 : CFr ρ ρ3 := fun x _ g2 _ _ _ => by rw [s2 x (by omega) (by omega) (by omega) (by omega), b3 x (by omega)]
  have hW3 : WKS ρ3 B := hWr.keep (by omega) fun x g1 g2 => by rw [s2 x (by omega) (by omega) (by omega) (by omega), b3 x (by omega)]
  refine GIVES.ok K ?_ (a2.trans c3) hW3
  unfold f_X10_lawful
  rw [bind_some' (X0_hasCand hB _), if0, if_pos ⟨hc, hc2⟩, bind_some' (X10_isDay _), if1, if_pos (by omega)]
  rw [bind_some' a1, p1, p2, bind_some' b1, bind_some' s1]
  unfold f_X3_lawfulOnes
  simp only [Option.bind_some]
  rw [s4]
  rfl
/-- measure -/
theorem a_measure (K : KS k σ B J) {c : Int} (hc : 0 ≤ c) (hc2 : c < B 8 1) {D : Nat} (hD : D < 5) {b : Int} (hb : 0 ≤ b ∧ b ≤ 4) {v o' : Int} {m : Nat} {l : List Nat} (hdp : dpl B c D (ovr B c D) = some (v, o', m, l)) (ho' : o' = -1) (hnm : nof m ≠ 0) : GIVES (f_X10_measure σ c D b) (msC B c (fre B c (ovr B c D)) b (woB B (-1)) (ahd B c (ovr B c D)) (nof m) (lq m l)) k B J := by
  have hst := K.1
  obtain ⟨hB, hR, w, hW⟩ := K.1
  have hn := w.1
  unfold WFn at hn
  obtain ⟨ρ, a1, a2, a3, a4, a5⟩ := ask hst hc hc2
  obtain ⟨hBr, hRr, -, hWr⟩ := a4
  have p1 : ((54 + 10 * c, ρ) : Int × Mem).1 = 54 + 10 * c := rfl
  have p2 : ((54 + 10 * c, ρ) : Int × Mem).2 = ρ := rfl
  have hwd := a5 D (by omega)
  have ho := ovr_b w hc hc2 D
  obtain ⟨e1, e2, e3, -, -⟩ := hwd.2.2.2 v o' m l hdp
  refine GIVES.ok K ?_ a2 hWr
  unfold f_X10_measure
  rw [bind_some' (X0_hasCand hB _), if0, if_pos ⟨hc, hc2⟩, bind_some' (X10_isDay _), if0, if_pos (by omega), bind_some' (X10_isMeasure _), if1, if_pos hb]
  rw [bind_some' a1, p1, p2, chk_pos (by omega), e1, if_neg (by decide), chk_pos (by omega), e2, if_neg (by omega), chk_pos (by omega), e3, if_pos (by omega), bind_some' (X8_measured hBr w hc hc2 (by omega) ho.2 (by omega) hwd hdp), ho']
/-- best: the least of a measure -/
theorem a_best (K : KS k σ B J) {c : Int} (hc : 0 ≤ c) (hc2 : c < B 8 1) {D : Nat} (hD : D < 5) {b : Int} (h3 : 0 ≤ b ∧ b ≤ 4) (hz : nof (od B c D) ≠ 0) {v : Int} {l : List Nat} (hb : bst (lwS B c (od B c D) (fre B c (ovr B c D)) (ahd B c (ovr B c D))) (msS B c (od B c D) (fre B c (ovr B c D)) (ahd B c (ovr B c D)) b (woB B (-1))) (PT (nof (od B c D))) none = some (v, l)) : GIVES (f_X10_best σ c D b (-1)) v k B J := by
  have hst := K.1
  obtain ⟨hB, hR, w, hW⟩ := K.1
  have hn := w.1
  unfold WFn at hn
  obtain ⟨ρ, a1, a2, a3, a4, a5⟩ := ask hst hc hc2
  obtain ⟨hBr, hRr, -, hWr⟩ := a4
  have p1 : ((54 + 10 * c, ρ) : Int × Mem).1 = 54 + 10 * c := rfl
  have p2 : ((54 + 10 * c, ρ) : Int × Mem).2 = ρ := rfl
  have hwd := a5 D (by omega)
  have ho := ovr_b w hc hc2 D
  have hf := fre_b w hc hc2 ho.2
  have ha := ahd_b w hc hc2 ho.2
  have hm := okm_od w hc hc2 (D : Int)
  obtain ⟨ρ2, b1, b2, b3⟩ := X4_ordersOf hBr w hc hc2 (by omega) ha hwd
  obtain ⟨r, ρ3, s1, s2, s3, s4, s5, s6⟩ := X3_search b2 hm w hc hc2 hf ha (by_ := b) (by omega) (woB B (-1))
  rw [woB_no] at s1
  have c3 : CFr ρ ρ3 := fun x _ g2 _ _ _ => by rw [s2 x (by omega) (by omega) (by omega) (by omega), b3 x (by omega)]
  have hW3 : WKS ρ3 B := hWr.keep (by omega) fun x g1 g2 => by rw [s2 x (by omega) (by omega) (by omega) (by omega), b3 x (by omega)]
  obtain ⟨q1, q2, q3, q4⟩ := s6 v l hb
  have pp1 : ∀ (x : Int) (y : Mem), (x, y).1 = x := fun _ _ => rfl
  have pp2 : ∀ (x : Int) (y : Mem), (x, y).2 = y := fun _ _ => rfl
  refine GIVES.ok K ?_ (a2.trans c3) hW3
  unfold f_X10_best
  rw [bind_some' (X0_hasCand hB _), if0, if_pos ⟨hc, hc2⟩, bind_some' (X10_isDay _), if0, if_pos (by omega), bind_some' (X10_isMeasure _), if1, if_pos h3]
  rw [bind_some' a1, p1, p2, bind_some' b1]
  unfold f_X3_count
  simp only [Option.bind_some]
  rw [b2.1, if_neg (by omega), bind_some' s1, pp1, pp2, q1, if_pos (by decide), if_neg (by decide)]
  unfold f_X3_least
  simp only [Option.bind_some]
  rw [q2]
/-- time -/
theorem a_time (K : KS k σ B J) {c : Int} (hc : 0 ≤ c) (hc2 : c < B 8 1) {p : Int} (hp : 0 ≤ p) (hp2 : p < B 8 0) : GIVES (f_X10_time σ c p) (tm B c p) k B J := by
  obtain ⟨hB, hR, w, hW⟩ := K.1
  refine GIVES.ok K ?_ CFr.rfl hW
  unfold f_X10_time
  rw [bind_some' (X0_hasCand hB _), if0, if_pos ⟨hc, hc2⟩, bind_some' (X0_hasPaper hB _), if1, if_pos ⟨hp, hp2⟩, bind_some' (X0_timeFor hB w hc hc2 hp hp2)]
end
