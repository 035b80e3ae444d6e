/-! SHELVES: copy, says (by mk65.py) -/
theorem sh40b {s i k : Int} (h : 0 ≤ s ∧ s < 8) (hi : 0 ≤ i) (hk : 0 ≤ k) (hik : i + k ≤ 40) : jadd (jadd (jmul 40 s) i) k = 40 * s + i + k ∧ jadd (jmul s 40) i = 40 * s + i := by
  rw [jmul_ok (by omega) (by omega), jmul_ok (by omega) (by omega), jadd_ok (a := 40 * s) (b := i) (by omega) (by omega), jadd_ok (by omega) (by omega), jadd_ok (by omega) (by omega)]
  omega
theorem X11_copy196 {σ : Mem} {q j m : Int} (hq : 0 ≤ q ∧ q < 8) (hj : 0 ≤ j) (hm : 0 ≤ m) (hjm : j + m ≤ 40) : ∃ τ, f_X11_copy_196 σ q j m 0 = some (m, τ) ∧ (∀ x, x ≠ 187 → τ x = σ x) ∧ ∀ x, τ 187 x = if 40 * q + j ≤ x ∧ x < 40 * q + j + m then σ 188 (x - (40 * q + j)) else σ 187 x := by
  unfold f_X11_copy_196
  obtain ⟨e, e1, e2, e3⟩ := loop_ex (f := f_X11_copy_196B q j m) (fun s => ∃ i : Nat, s.1 = (i : Int) ∧ (i : Int) ≤ m ∧ (∀ x, x ≠ 187 → s.2 x = σ x) ∧ ∀ x, s.2 187 x = if 40 * q + j ≤ x ∧ x < 40 * q + j + i then σ 188 (x - (40 * q + j)) else σ 187 x) (fun s => (40 - s.1).toNat) (fun e => (∀ x, x ≠ 187 → e x = σ x) ∧ ∀ x, e 187 x = if 40 * q + j ≤ x ∧ x < 40 * q + j + m then σ 188 (x - (40 * q + j)) else σ 187 x) (a := (0, σ)) ⟨0, rfl, hm, fun _ _ => rfl, fun x => by rw [if_neg (by omega)]⟩ (Nat.le_of_ble_eq_true rfl) (by
    rintro ⟨_, τ⟩ ⟨i, rfl, hi, k1, k2⟩
    have k1 : ∀ x, x ≠ 187 → τ x = σ x := k1
    have k2 : ∀ x, τ 187 x = if 40 * q + j ≤ x ∧ x < 40 * q + j + (i : Int) then σ 188 (x - (40 * q + j)) else σ 187 x := k2
    show (∃ a', f_X11_copy_196C q j m (i : Int) τ = _ ∧ _) ∨ ∃ a', f_X11_copy_196C q j m (i : Int) τ = _ ∧ _
    unfold f_X11_copy_196C
    by_cases hend : m ≤ i
    · right
      rw [if_pos hend]
      have : m = i := by omega
      subst this
      exact ⟨_, rfl, k1, k2⟩
    · left
      obtain ⟨g1, g2⟩ := sh40b hq hj (k := (i : Int)) (by omega) (by omega)
      rw [if_neg hend, g1, chk_pos (by omega), chk_pos (by omega), k1 188 (by decide)]
      simp only [Option.bind_some]
      rw [jadd_ok (by omega) (by omega)]
      refine ⟨_, rfl, ⟨i + 1, by show (i : Int) + 1 = _; omega, by omega, fun x hx => ?_, fun x => ?_⟩, by show (40 - ((i : Int) + 1)).toNat < (40 - (i : Int)).toNat; omega⟩
      · show mup τ 187 _ _ x = _
        rw [mup_row hx, k1 x hx]
      · show mup τ 187 (40 * q + j + i) (σ 188 i) 187 x = _
        by_cases e : x = 40 * q + j + i
        · rw [mup_hit rfl e, if_pos (by omega), show x - (40 * q + j) = i by omega]
        · rw [mup_miss (fun z => e z.2), k2 x]
          by_cases e2 : 40 * q + j ≤ x ∧ x < 40 * q + j + (i : Int)
          · rw [if_pos e2, if_pos (by omega)]
          · rw [if_neg e2, if_neg (by omega)])
  rw [e1]
  exact ⟨e, rfl, e2, e3⟩
theorem X11_copy159 {σ : Mem} {p q i j m : Int} (hp : 0 ≤ p ∧ p < 8) (hq : 0 ≤ q ∧ q < 8) (hi : 0 ≤ i) (hj : 0 ≤ j) (hm : 0 ≤ m) (him : i + m ≤ 40) (hjm : j + m ≤ 40) : ∃ τ, f_X11_copy_159 σ p q i j m 0 = some (m, τ) ∧ (∀ x, x ≠ 187 → x ≠ 188 → τ x = σ x) ∧ ∀ x, τ 187 x = if 40 * q + j ≤ x ∧ x < 40 * q + j + m then σ 187 (40 * p + i + (x - (40 * q + j))) else σ 187 x := by
  unfold f_X11_copy_159
  obtain ⟨e, e1, e2, e3⟩ := loop_ex (f := f_X11_copy_159B p q i j m) (fun s => ∃ k : Nat, s.1 = (k : Int) ∧ (k : Int) ≤ m ∧ (∀ x, x ≠ 188 → s.2 x = σ x) ∧ ∀ x, 0 ≤ x → x < (k : Int) → s.2 188 x = σ 187 (40 * p + i + x)) (fun s => (40 - s.1).toNat) (fun e => (∀ x, x ≠ 188 → e x = σ x) ∧ ∀ x, 0 ≤ x → x < m → e 188 x = σ 187 (40 * p + i + x)) (a := (0, σ)) ⟨0, rfl, hm, fun _ _ => rfl, fun x h1 h2 => absurd h2 (by omega)⟩ (Nat.le_of_ble_eq_true rfl) (by
    rintro ⟨_, τ⟩ ⟨k, rfl, hk, k1, k2⟩
    have k1 : ∀ x, x ≠ 188 → τ x = σ x := k1
    have k2 : ∀ x, 0 ≤ x → x < (k : Int) → τ 188 x = σ 187 (40 * p + i + x) := k2
    show (∃ a', f_X11_copy_159C p q i j m (k : Int) τ = _ ∧ _) ∨ ∃ a', f_X11_copy_159C p q i j m (k : Int) τ = _ ∧ _
    unfold f_X11_copy_159C
    by_cases hend : m ≤ k
    · right
      rw [if_pos hend]
      exact ⟨_, rfl, k1, fun x h1 h2 => k2 x h1 (by omega)⟩
    · left
      obtain ⟨g1, g2⟩ := sh40b hp hi (k := (k : Int)) (by omega) (by omega)
      rw [if_neg hend, g1, chk_pos (by omega), chk_pos (by omega), k1 187 (by decide)]
      simp only [Option.bind_some]
      rw [jadd_ok (by omega) (by omega)]
      refine ⟨_, rfl, ⟨k + 1, by show (k : Int) + 1 = _; omega, by omega, fun x hx => ?_, fun x h1 h2 => ?_⟩, by show (40 - ((k : Int) + 1)).toNat < (40 - (k : Int)).toNat; omega⟩
      · show mup τ 188 _ _ x = _
        rw [mup_row hx, k1 x hx]
      · show mup τ 188 k (σ 187 (40 * p + i + k)) 188 x = _
        by_cases e : x = k
        · rw [mup_hit rfl e, e]
        · rw [mup_miss (fun z => e z.2), k2 x h1 (by omega)])
  rw [e1]
  obtain ⟨τ, t1, t2, t3⟩ := X11_copy196 (σ := e) hq hj hm hjm
  refine ⟨τ, t1, fun x x1 x2 => by rw [t2 x x1, e2 x x2], fun x => ?_⟩
  rw [t3 x]
  by_cases c : 40 * q + j ≤ x ∧ x < 40 * q + j + m
  · rw [if_pos c, if_pos c, e3 _ (by omega) (by omega)]
  · rw [if_neg c, if_neg c, e2 187 (by decide)]
/-- copy -/
theorem k_copy {n : Nat} {σ : Mem} {B : Bk} (h : INV0 n σ B) (p q : Int) {i j m : Int} (hi32 : in32 i) (hj32 : in32 j) : CALL0 n σ B (f_X10_copy σ p q i j m) (fun ρ => f_X11_copy ρ p q i j m) := by
  obtain ⟨hB, hR, w, hW⟩ := h.1
  have hn := w.1
  unfold WFn at hn
  have i1 := hi32.1
  have i2 := hi32.2
  have j1 := hj32.1
  have j2 := hj32.2
  have rr : ∀ x y : Int, y ≠ 34 → refd σ x y = σ y := fun x y hy => refd_row hy
  have nox : ∀ x : Int, (-56 ≤ x ∧ x ≤ -52) → f_X10_copy σ p q i j m = some (x, refd σ x) → f_X11_copy (refd σ x) p q i j m = some (x, nod (refd σ x) x) → CALL0 n σ B (f_X10_copy σ p q i j m) (fun ρ => f_X11_copy ρ p q i j m) := fun x hx a b => same.call h (same.no (x := x) (by omega) hx a CFr.rfl hW b RFr.rfl)
  by_cases h1 : 0 ≤ p ∧ p < 8
  rotate_left
  · refine nox (-52) (by decide) ?_ ?_
    · unfold f_X10_copy
      rw [bind_some' (X6_isShelf p), if0, if_neg h1]
      exact c_no (by decide)
    · unfold f_X11_copy
      rw [bind_some' (X11_isShelf p), if0, if_neg h1]
      exact r_no (by decide)
  by_cases h2 : 0 ≤ q ∧ q < 8
  rotate_left
  · refine nox (-52) (by decide) ?_ ?_
    · unfold f_X10_copy
      rw [bind_some' (X6_isShelf p), if0, if_pos h1, bind_some' (X6_isShelf q), if1, if_neg h2]
      exact c_no (by decide)
    · unfold f_X11_copy
      rw [bind_some' (X11_isShelf p), if0, if_pos h1, bind_some' (X11_isShelf q), if1, if_neg h2]
      exact r_no (by decide)
  obtain ⟨ep, hp⟩ := h.2.2.1 p h1.1 h1.2
  obtain ⟨eq, hq⟩ := h.2.2.1 q h2.1 h2.2
  have cl : f_X10_copy σ p q i j m = (if trb (σ 31 p) = (-53 : Int) then (f_X10_copy_55 σ) else (if trb (σ 31 q) ≠ (-53 : Int) then (if trb (σ 31 p) = (-54 : Int) then (f_X10_copy_76 σ) else (if trb (σ 31 q) ≠ (-54 : Int) then (if σ 31 p = σ 31 q then ((f_X6_hasElements σ p i m).bind fun v13 => (if v13 = 0 then (f_X10_copy_138 σ) else ((f_X6_hasElements σ q j m).bind fun v15 => (if v15 ≠ 0 then ((f_X6_carry σ p q i j m).bind fun σ17 => (some (m, σ17))) else (f_X10_copy_138 σ))))) else ((f_X10_refuse σ (-53 : Int)).bind fun v19 => (some (v19.1, v19.2)))) else (f_X10_copy_76 σ))) else (f_X10_copy_55 σ))) := by
    unfold f_X10_copy
    rw [bind_some' (X6_isShelf p), if0, if_pos h1, bind_some' (X6_isShelf q), if1, if_pos h2, bind_some' (X6_rowTrouble h1), bind_some' (X6_rowTrouble h2), bind_some' (X6_holding h1), bind_some' (X6_holding h2)]
  have rf : ∀ ρ : Mem, f_X11_copy ρ p q i j m = (if (10 : Int) ≤ (ρ (185 : Int) p) then (f_X11_copy_76 ρ) else (if (10 : Int) ≤ (ρ (185 : Int) q) then (f_X11_copy_76 ρ) else (if (ρ (185 : Int) p) < 0 then (f_X11_copy_83 ρ p q i j m) else (if (ρ (185 : Int) q) < 0 then (f_X11_copy_83 ρ p q i j m) else (if (ρ (185 : Int) p) = (ρ (185 : Int) q) then (f_X11_copy_83 ρ p q i j m) else (f_X11_copy_76 ρ)))))) := fun ρ => by
    unfold f_X11_copy
    rw [bind_some' (X11_isShelf p), if0, if_pos h1, bind_some' (X11_isShelf q), if1, if_pos h2, chk_pos (by omega), chk_pos (by omega), chk_pos (by omega), chk_pos (by omega), chk_pos (by omega), chk_pos (by omega)]
  have tr : ∀ s : Int, (σ 31 s = -1 ∧ σ 32 s = 0) ∨ (0 ≤ σ 31 s ∧ σ 31 s ≤ 4 ∧ 0 ≤ σ 32 s ∧ σ 32 s ≤ 40 ∧ σ 186 s = σ 32 s) ∨ (10 ≤ σ 31 s ∧ σ 31 s < 10 + B 8 1 ∧ σ 32 s = 0) → (trb (σ 31 s) = -53 ↔ 10 ≤ σ 31 s) ∧ (trb (σ 31 s) = -54 ↔ σ 31 s < 0) := fun s hs => by
    unfold trb
    by_cases e : σ 31 s = -1
    · rw [if_pos e]; omega
    · rw [if_neg e]
      by_cases e2 : σ 31 s < 10
      · rw [if_pos e2]; omega
      · rw [if_neg e2]; omega
  obtain ⟨tp1, tp2⟩ := tr p hp
  obtain ⟨tq1, tq2⟩ := tr q hq
  by_cases ap : 10 ≤ σ 31 p
  · refine nox (-53) (by decide) ?_ ?_
    · rw [cl, if_pos (tp1.2 ap)]
      exact c_no (by decide)
    · rw [rf, rr _ _ (by decide), ep, if_pos ap]
      exact r_no (by decide)
  by_cases aq : 10 ≤ σ 31 q
  · refine nox (-53) (by decide) ?_ ?_
    · rw [cl, if_neg (fun e => ap (tp1.1 e)), if_neg (fun e => e (tq1.2 aq))]
      exact c_no (by decide)
    · rw [rf, rr _ _ (by decide), ep, if_neg ap, eq, if_pos aq]
      exact r_no (by decide)
  rw [if_neg (fun e => ap (tp1.1 e)), if_pos (fun e => aq (tq1.1 e))] at cl
  by_cases np : σ 31 p < 0
  · refine nox (-54) (by decide) ?_ ?_
    · rw [cl, if_pos (tp2.2 np)]
      exact c_no (by decide)
    · rw [rf, rr _ _ (by decide), ep, if_neg ap, eq, if_neg aq, if_pos np]
      unfold f_X11_copy_83
      rw [chk_pos (by omega), rr _ _ (by decide), ep, if_pos np]
      exact r_no (by decide)
  rw [if_neg (fun e => np (tp2.1 e))] at cl
  by_cases nq : σ 31 q < 0
  · refine nox (-54) (by decide) ?_ ?_
    · rw [cl, if_neg (fun e => e (tq2.2 nq))]
      exact c_no (by decide)
    · rw [rf, rr _ _ (by decide), ep, if_neg ap, eq, if_neg aq, if_neg np, if_pos nq]
      unfold f_X11_copy_83
      rw [chk_pos (by omega), rr _ _ (by decide), ep, if_neg np, chk_pos (by omega), eq, if_neg (by omega)]
      exact r_no (by decide)
  rw [if_pos (fun e => nq (tq2.1 e))] at cl
  by_cases ne : σ 31 p = σ 31 q
  rotate_left
  · refine nox (-53) (by decide) ?_ ?_
    · rw [cl, if_neg ne]
      exact c_no (by decide)
    · rw [rf, rr _ _ (by decide), ep, if_neg ap, eq, if_neg aq, if_neg np, if_neg nq, if_neg ne]
      exact r_no (by decide)
  rw [if_pos ne] at cl
  have zp : 0 ≤ σ 32 p ∧ σ 32 p ≤ 40 ∧ σ 186 p = σ 32 p := by omega
  have zq : 0 ≤ σ 32 q ∧ σ 32 q ≤ 40 ∧ σ 186 q = σ 32 q := by omega
  rw [bind_some' (X6_hasElements h1 ⟨zp.1, zp.2.1⟩ i m), bind_some' (X6_hasElements h2 ⟨zq.1, zq.2.1⟩ j m), if0, if1] at cl
  have rf2 : ∀ ρ : Mem, ρ 185 = σ 185 → ρ 186 = σ 186 → f_X11_copy ρ p q i j m = if i < 0 then (f_X11_copy_149 ρ) else (if j < 0 then (f_X11_copy_149 ρ) else (if m < 0 then (f_X11_copy_149 ρ) else (if (jsub (σ 32 p) i) < m then (f_X11_copy_149 ρ) else (if m ≤ (jsub (σ 32 q) j) then (f_X11_copy_159 ρ p q i j m (0 : Int)) else (f_X11_copy_149 ρ))))) := fun ρ r1 r2 => by
    rw [rf, r1, ep, if_neg ap, eq, if_neg aq, if_neg np, if_neg nq, if_pos ne]
    unfold f_X11_copy_83
    rw [chk_pos (by omega), r1, ep, if_neg np, chk_pos (by omega), eq, if_pos (by omega), chk_pos (by omega), r2, zp.2.2, chk_pos (by omega), zq.2.2]
  by_cases gd : (0 ≤ i ∧ 0 ≤ m ∧ i + m ≤ σ 32 p) ∧ (0 ≤ j ∧ 0 ≤ m ∧ j + m ≤ σ 32 q)
  rotate_left
  · refine nox (-52) (by decide) ?_ ?_
    · rw [cl]
      by_cases g1 : 0 ≤ i ∧ 0 ≤ m ∧ i + m ≤ σ 32 p
      · rw [if_pos g1, if_neg (fun e => gd ⟨g1, e⟩)]
        exact c_no (by decide)
      · rw [if_neg g1]
        exact c_no (by decide)
    · rw [rf2 _ (rr _ _ (by decide)) (rr _ _ (by decide))]
      have fin : f_X11_copy_149 (refd σ (-52)) = some (-52, nod (refd σ (-52)) (-52)) := r_no (by decide)
      by_cases c1 : i < 0
      · rw [if_pos c1, fin]
      rw [if_neg c1]
      by_cases c2 : j < 0
      · rw [if_pos c2, fin]
      rw [if_neg c2]
      by_cases c3 : m < 0
      · rw [if_pos c3, fin]
      rw [if_neg c3, jsub_ok (by omega) (by omega), jsub_ok (by omega) (by omega)]
      by_cases c4 : σ 32 p - i < m
      · rw [if_pos c4, fin]
      rw [if_neg c4, if_neg (by omega), fin]
  rw [if_pos gd.1, if_pos gd.2] at cl
  obtain ⟨⟨d1, d2, d3⟩, d4, -, d5⟩ := gd
  obtain ⟨ρ, hρ⟩ : ∃ ρ, ρ = mcp σ 33 (40 * p + i) 33 (40 * q + j) m := ⟨_, rfl⟩
  have f2 : ∀ x, x ≠ 33 → ρ x = σ x := fun x hx => by rw [hρ]; exact mcp_row hx
  obtain ⟨τ, t1, t2, t3⟩ := X11_copy159 (σ := ρ) h1 h2 d1 d4 d2 (by omega) (by omega)
  have nm : ∀ x : Int, x ∉ [31, 32, 33, 185, 186, 187, 188] → x ≠ 33 ∧ x ≠ 187 ∧ x ≠ 188 := fun x hx => by simp only [List.mem_cons, List.not_mem_nil, or_false] at hx; omega
  refine call_shelf (ρ := ρ) (τ := τ) (v := m) h ?_ ?_ (fun x y hx => by rw [t2 x (nm x hx).2.1 (nm x hx).2.2, f2 x (nm x hx).1]) (h.2.2.1.pt (fun y => by rw [t2 31 (by decide) (by decide), f2 31 (by decide)]) (fun y => by rw [t2 32 (by decide) (by decide), f2 32 (by decide)]) (fun y => by rw [t2 185 (by decide) (by decide), f2 185 (by decide)]) (fun y => by rw [t2 186 (by decide) (by decide), f2 186 (by decide)]) (Int.le_refl _)) (fun y y1 y2 => ?_)
  · rw [cl]
    unfold f_X6_carry
    obtain ⟨g1, g2⟩ := sh40b h1 d1 (k := m) d2 (by omega)
    obtain ⟨g3, g4⟩ := sh40b h2 d4 (k := m) d2 (by omega)
    rw [g2, g4, chk_pos ⟨by omega, by omega, d2, by omega, by omega⟩]
    rw [hρ]
    rfl
  · show f_X11_copy ρ p q i j m = _
    rw [rf2 ρ (f2 185 (by decide)) (f2 186 (by decide)), if_neg (by omega), if_neg (by omega), if_neg (by omega), jsub_ok (by omega) (by omega), jsub_ok (by omega) (by omega), if_neg (by omega), if_pos (by omega), t1]
  · rw [t3 y, f2 187 (by decide), t2 33 (by decide) (by decide), hρ]
    by_cases c : 40 * q + j ≤ y ∧ y < 40 * q + j + m
    · rw [if_pos c, mcp_hit rfl c.1 c.2, h.2.2.2.1 _ (by omega) (by omega)]
    · rw [if_neg c, mcp_miss (fun z => c z.2), h.2.2.2.1 _ y1 y2]
theorem isUnd {σ : Mem} {a b : Int} (ha : 0 ≤ a ∧ a ≤ 5) (hb : 0 ≤ b ∧ b ≤ 5) : f_X2_isUnder σ a b = f_X11_isUnder σ a b ∧ (f_X11_isUnder σ a b = some 0 ∨ f_X11_isUnder σ a b = some 1) := by
  obtain ⟨a, rfl⟩ := n_of ha.1; obtain ⟨b, rfl⟩ := n_of hb.1
  show f_X2_isUnder (fun _ _ => 0) a b = f_X11_isUnder (fun _ _ => 0) a b ∧ (f_X11_isUnder (fun _ _ => 0) a b = some 0 ∨ f_X11_isUnder (fun _ _ => 0) a b = some 1)
  exact (by decide +kernel : ∀ a : Nat, a < 6 → ∀ b : Nat, b < 6 → f_X2_isUnder (fun _ _ => 0) a b = f_X11_isUnder (fun _ _ => 0) a b ∧ (f_X11_isUnder (fun _ _ => 0) a b = some 0 ∨ f_X11_isUnder (fun _ _ => 0) a b = some 1)) a (by omega) b (by omega)
/-- says -/
theorem k_says {n : Nat} {σ : Mem} {B : Bk} (h : INV0 n σ B) (hl : n < 1000) (s k m : Int) : CALL0 n σ B (f_X10_says σ s k m) (fun ρ => f_X11_says ρ s k m) := by
  have hst := h.1
  obtain ⟨hB, hR, w, hW⟩ := h.1
  have hn := w.1
  unfold WFn at hn
  have hR' : isRk (refd σ (-52)) 182 B := isRk_refd hR
  by_cases h1 : 0 ≤ s ∧ s < 8
  rotate_left
  · refine same.call h (same.no (x := -52) (by omega) (by decide) ?_ CFr.rfl hW ?_ RFr.rfl)
    · unfold f_X10_says
      rw [bind_some' (X6_isShelf s), if0, if_neg h1]
      exact c_no (by decide)
    · show f_X11_says _ s k m = _
      unfold f_X11_says
      rw [bind_some' (X11_isShelf s), if0, if_neg h1]
      exact r_no (by decide)
  by_cases h2 : 0 ≤ k ∧ k ≤ 5
  rotate_left
  · refine same.call h (same.no (x := -52) (by omega) (by decide) ?_ CFr.rfl hW ?_ RFr.rfl)
    · unfold f_X10_says
      rw [bind_some' (X6_isShelf s), if0, if_pos h1, bind_some' (X2_isKind k), if0, if_neg h2]
      exact c_no (by decide)
    · show f_X11_says _ s k m = _
      unfold f_X11_says
      rw [bind_some' (X11_isShelf s), if0, if_pos h1, bind_some' (X11_isIn k 0 5), if0, if_neg h2]
      exact r_no (by decide)
  by_cases h3 : 1 ≤ m ∧ m ≤ 12
  rotate_left
  · refine same.call h (same.no (x := -52) (by omega) (by decide) ?_ CFr.rfl hW ?_ RFr.rfl)
    · unfold f_X10_says
      rw [bind_some' (X6_isShelf s), if0, if_pos h1, bind_some' (X2_isKind k), if0, if_pos h2]
      by_cases hz : m < 1
      · rw [if_pos hz]
        exact c_no (by decide)
      · rw [if_neg hz, if_neg (show ¬ m ≤ 12 by omega)]
        exact c_no (by decide)
    · show f_X11_says _ s k m = _
      unfold f_X11_says
      rw [bind_some' (X11_isShelf s), if0, if_pos h1, bind_some' (X11_isIn k 0 5), if0, if_pos h2, bind_some' (X11_isIn m 1 12), if1, if_neg h3]
      exact r_no (by decide)
  obtain ⟨e177, hc⟩ := h.2.2.1 s h1.1 h1.2
  have rr : ∀ x y : Int, y ≠ 34 → refd σ x y = σ y := fun x y hy => refd_row hy
  rcases hc with ⟨c1, c2⟩ | ⟨c1, c2, c3, c4, c5⟩ | ⟨c1, c2, c3⟩
  · refine same.call h (same.no (x := -54) (by omega) (by decide) ?_ CFr.rfl hW ?_ RFr.rfl)
    · unfold f_X10_says
      rw [bind_some' (X6_isShelf s), if0, if_pos h1, bind_some' (X2_isKind k), if0, if_pos h2, if_neg (show ¬ m < 1 by omega), if_pos (show m ≤ 12 by omega)]
      rw [bind_some' (X6_holding h1), if_neg (by omega)]
      exact c_no (by decide)
    · show f_X11_says _ s k m = _
      unfold f_X11_says
      rw [bind_some' (X11_isShelf s), if0, if_pos h1, bind_some' (X11_isIn k 0 5), if0, if_pos h2, bind_some' (X11_isIn m 1 12), if1, if_pos h3]
      unfold f_X11_isRow
      rw [chk_pos (by omega), rr _ _ (by decide), e177, c1, if_pos (by decide)]
      simp only [Option.bind_some]
      rw [if_pos trivial, chk_pos (by omega), if_neg (by decide)]
      exact r_no (by decide)
  · refine same.call h (same.no (x := -53) (by omega) (by decide) ?_ CFr.rfl hW ?_ RFr.rfl)
    · unfold f_X10_says
      rw [bind_some' (X6_isShelf s), if0, if_pos h1, bind_some' (X2_isKind k), if0, if_pos h2, if_neg (show ¬ m < 1 by omega), if_pos (show m ≤ 12 by omega)]
      rw [bind_some' (X6_holding h1), if_pos (by omega), bind_some' (X6_candOn h1 (by omega)), if_pos (by omega), bind_some' (X0_hasCand hB (-1)), if0, if_neg (by omega)]
      exact c_no (by decide)
    · show f_X11_says _ s k m = _
      unfold f_X11_says
      rw [bind_some' (X11_isShelf s), if0, if_pos h1, bind_some' (X11_isIn k 0 5), if0, if_pos h2, bind_some' (X11_isIn m 1 12), if1, if_pos h3]
      unfold f_X11_isRow
      rw [chk_pos (by omega), rr _ _ (by decide), e177, if_neg (by omega), chk_pos (by omega), if_neg (by omega)]
      simp only [Option.bind_some]
      rw [if_neg (by decide)]
      exact r_no (by decide)
  · obtain ⟨c, hcv⟩ : ∃ c, c = σ 31 s - 10 := ⟨_, rfl⟩
    have k1 : 0 ≤ c ∧ c < B 8 1 := by omega
    obtain ⟨w1, w2, -⟩ := w.2.2.1 c k1.1 k1.2
    obtain ⟨u1, u2⟩ := isUnd (σ := σ) w1 h2
    have ecl : f_X10_says σ s k m = (f_X11_isUnder σ (B 3 c) k).bind fun v11 => (if v11 ≠ 0 then ((f_X2_word σ k (B 3 c) (B 4 c) m).bind fun v13 => (some (v13, σ))) else (f_X10_says_90 σ)) := by
      unfold f_X10_says
      rw [bind_some' (X6_isShelf s), if0, if_pos h1, bind_some' (X2_isKind k), if0, if_pos h2, if_neg (show ¬ m < 1 by omega), if_pos (show m ≤ 12 by omega)]
      rw [bind_some' (X6_holding h1), if_pos (by omega), bind_some' (X6_candOn h1 (by omega)), if_neg (by omega), ← hcv, bind_some' (X0_hasCand hB c), if0, if_pos k1, chk_pos (by omega), chk_pos (by omega), chk_pos (by omega), show σ 5 c = B 3 c from hB.kind k1.1 (by omega), show σ 6 c = B 4 c from hB.a k1.1 (by omega), u1]
    have erf : ∀ ρ, isRk ρ 182 B → ρ 185 = σ 185 → f_X11_says ρ s k m = (f_X11_isUnder ρ (B 3 c) k).bind fun v14 => (if v14 ≠ 0 then (if k = (0 : Int) then (some (B 4 c, ρ)) else (if k = (1 : Int) then ((f_X11_timeOf ρ (B 3 c) (B 4 c) m).bind fun v16 => (some (v16, ρ))) else (if k = (2 : Int) then ((f_X11_restOf ρ (B 3 c) (B 4 c)).bind fun v18 => (some (v18, ρ))) else (if k = (3 : Int) then ((f_X11_timeOf ρ (B 3 c) (B 4 c) m).bind fun v20 => (some (v20, ρ))) else (if k = (4 : Int) then ((f_X11_restOf ρ (B 3 c) (B 4 c)).bind fun v22 => (some (v22, ρ))) else ((f_X11_timeOf ρ (B 3 c) (B 4 c) m).bind fun v24 => ((f_X11_restOf ρ (B 3 c) (B 4 c)).bind fun v26 => (some ((jadd v24 v26), ρ))))))))) else ((f_X11_no ρ (-53 : Int)).bind fun v28 => (some (v28.1, v28.2)))) := fun ρ hRr r1 => by
      show f_X11_says _ s k m = _
      unfold f_X11_says
      rw [bind_some' (X11_isShelf s), if0, if_pos h1, bind_some' (X11_isIn k 0 5), if0, if_pos h2, bind_some' (X11_isIn m 1 12), if1, if_pos h3]
      unfold f_X11_isRow
      rw [chk_pos (by omega), r1, e177, if_neg (by omega), chk_pos (by omega), if_pos (by omega)]
      simp only [Option.bind_some]
      rw [if_pos trivial, chk_pos (by omega), if_pos (by omega), chk_pos (by omega), jsub_ok (by omega) (by omega), ← hcv]
      rw [bind_some' (X11_who0 hRr (by omega)), bind_some' (X11_who1 hRr (by omega))]
    rcases u2 with u2 | u2
    · refine same.call h (same.no (x := -53) (by omega) (by decide) ?_ CFr.rfl hW ?_ RFr.rfl)
      · rw [ecl, u2, bsm, if_neg (by decide)]
        exact c_no (by decide)
      · have hR2 : isRk (refd σ (-53)) 182 B := isRk_refd hR
        show f_X11_says _ s k m = _
        rw [erf _ hR2 (rr _ _ (by decide)), show f_X11_isUnder (refd σ (-53)) (B 3 c) k = some 0 from u2, bsm, if_neg (by decide)]
        exact r_no (by decide)
    · have tt := tmK_b w1 w2 h3
      have tr := rsK_b w1 w2
      obtain ⟨v, v1, v2⟩ : ∃ v, f_X2_word σ k (B 3 c) (B 4 c) m = some v ∧ f_X11_says σ s k m = some (v, σ) := by
        rw [erf σ hR rfl, u2, bsm, if_pos (by decide)]
        unfold f_X2_word
        rw [X11_timeOf w1 w2 h3, X11_restOf w1 w2, X2_timeOf w1 w2 h3, X2_restOf w1 w2]
        simp only [Option.bind_some]
        rcases (show k = 0 ∨ k = 1 ∨ k = 2 ∨ k = 3 ∨ k = 4 ∨ k = 5 by omega) with e | e | e | e | e | e <;> subst e
        · exact ⟨_, rfl, rfl⟩
        · exact ⟨_, rfl, rfl⟩
        · exact ⟨_, rfl, rfl⟩
        · exact ⟨_, rfl, rfl⟩
        · exact ⟨_, rfl, rfl⟩
        · exact ⟨_, rfl, rfl⟩
      refine same.call h (same.ok (v := v) (by omega) ?_ CFr.rfl hW v2 RFr.rfl)
      rw [ecl, u2, bsm, if_pos (by decide), v1]
      rfl
