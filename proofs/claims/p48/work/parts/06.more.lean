theorem ev_fact {M : MD} {n0 n1 : Nat} {r : Option V × Mem × Mem} {pc n : Nat} {ρ σ : Mem} {L st : List V} (h : (∀ v ∈ st, okv n v) → (∀ v ∈ L, okv n v) → Ev M n0 n1 r (pc) (n) (ρ) (σ) (L) (st)) : Ev M n0 n1 r (pc) (n) (ρ) (σ) (L) (st) := fun p l e Rm s m args below meth c A H locs D dA ad0 ad ls C K hc hl hL hn hs => h hs hL p l e Rm s m args below meth c A H locs D dA ad0 ad ls C K hc hl hL hn hs
theorem ev_by {M : MD} {n0 n1 : Nat} {r : Option V × Mem × Mem} {pc n : Nat} {ρ σ : Mem} {L st : List V} {α : Type} {X Y : Option α} {q : α} {c : Prop} [Decidable c] (hf : (if c then X else Y) = some q) (h1 : c → X = some q → Ev M n0 n1 r (pc) (n) (ρ) (σ) (L) (st)) (h2 : ¬ c → Y = some q → Ev M n0 n1 r (pc) (n) (ρ) (σ) (L) (st)) : Ev M n0 n1 r (pc) (n) (ρ) (σ) (L) (st) := by
  by_cases hc : c
  · exact h1 hc (ite_pos' hf hc)
  · exact h2 hc (ite_neg' hf hc)
theorem jl_eq {x : Int} (h : in32 x) : jl x = x := by unfold jl; rw [Int32.toInt_toInt64, oi32 h]
theorem ev_i2lk {M : MD} {n0 n1 : Nat} {r : Option V × Mem × Mem} {pc n : Nat} {ρ σ : Mem} {L st : List V} {x : Int} (hd : decode M.2.1 pc = .ok (.i2l, 1)) (hh : Ev M n0 n1 r (pc + 1) (n) (ρ) (σ) (L) ((1, x) :: st)) : Ev M n0 n1 r (pc) (n) (ρ) (σ) (L) ((0, x) :: st) := ev_fact fun hs _ => ev_i2l hd (by rw [jl_eq (cons_ok hs).1]; exact hh)
theorem lcm_lt {x y : Int} (hx : in64 x) (hy : in64 y) : (lcm x y < 0 ↔ x < y) ∧ (lcm x y = 0 ↔ x = y) ∧ (0 < lcm x y ↔ y < x) := by
  unfold lcm lg_cmp
  simp only [gt_iff_lt, Int64.lt_iff_toInt_lt, ← Int64.toInt_inj, oi64 hx, oi64 hy]
  rcases Int.lt_trichotomy x y with h | h | h
  · rw [if_neg (by omega), if_neg (by omega)]
    exact ⟨⟨fun _ => h, fun _ => by decide⟩, ⟨fun q => absurd q (by decide), fun q => by omega⟩, ⟨fun q => absurd q (by decide), fun q => by omega⟩⟩
  · rw [if_neg (by omega), if_pos h]
    exact ⟨⟨fun q => absurd q (by decide), fun q => by omega⟩, ⟨fun _ => h, fun _ => by decide⟩, ⟨fun q => absurd q (by decide), fun q => by omega⟩⟩
  · rw [if_pos h]
    exact ⟨⟨fun q => absurd q (by decide), fun q => by omega⟩, ⟨fun q => absurd q (by decide), fun q => by omega⟩, ⟨fun _ => h, fun _ => by decide⟩⟩
theorem ev_lc_eq {M : MD} {n0 n1 : Nat} {r : Option V × Mem × Mem} {pc n : Nat} {ρ σ : Mem} {L st : List V} {α : Type} {X Y : Option α} {q : α} {x y off : Int} {tgt : Nat} (hd : decode M.2.1 pc = .ok (.lcmp, 1)) (hd2 : decode M.2.1 (pc + 1) = .ok (.ifCond .eq off, 3)) (ht : ((pc + 1 : Nat) : Int) + off = (tgt : Int)) (hf : (if x = y then X else Y) = some q) (h1 : x = y → X = some q → Ev M n0 n1 r (tgt) (n) (ρ) (σ) (L) (st)) (h2 : ¬ (x = y) → Y = some q → Ev M n0 n1 r (pc + 1 + 3) (n) (ρ) (σ) (L) (st)) : Ev M n0 n1 r (pc) (n) (ρ) (σ) (L) ((1, y) :: (1, x) :: st) := ev_fact fun hs _ => by
  have hi := lcm_lt (cons_ok (cons_ok hs).2).1 (cons_ok hs).1
  have hc : lcm x y = 0 ↔ x = y := by omega
  exact ev_lcmp hd (ev_if_eq hd2 ht (X := X) (Y := Y) (q := q) (by
    by_cases z : x = y
    · rw [if_pos (hc.mpr z)]; exact ite_pos' hf z
    · rw [if_neg (fun z2 => z (hc.mp z2))]; exact ite_neg' hf z) (fun z => h1 (hc.mp z)) (fun z => h2 (fun z2 => z (hc.mpr z2))))
theorem ev_lc_ne {M : MD} {n0 n1 : Nat} {r : Option V × Mem × Mem} {pc n : Nat} {ρ σ : Mem} {L st : List V} {α : Type} {X Y : Option α} {q : α} {x y off : Int} {tgt : Nat} (hd : decode M.2.1 pc = .ok (.lcmp, 1)) (hd2 : decode M.2.1 (pc + 1) = .ok (.ifCond .ne off, 3)) (ht : ((pc + 1 : Nat) : Int) + off = (tgt : Int)) (hf : (if x ≠ y then X else Y) = some q) (h1 : x ≠ y → X = some q → Ev M n0 n1 r (tgt) (n) (ρ) (σ) (L) (st)) (h2 : ¬ (x ≠ y) → Y = some q → Ev M n0 n1 r (pc + 1 + 3) (n) (ρ) (σ) (L) (st)) : Ev M n0 n1 r (pc) (n) (ρ) (σ) (L) ((1, y) :: (1, x) :: st) := ev_fact fun hs _ => by
  have hi := lcm_lt (cons_ok (cons_ok hs).2).1 (cons_ok hs).1
  have hc : lcm x y ≠ 0 ↔ x ≠ y := by omega
  exact ev_lcmp hd (ev_if_ne hd2 ht (X := X) (Y := Y) (q := q) (by
    by_cases z : x ≠ y
    · rw [if_pos (hc.mpr z)]; exact ite_pos' hf z
    · rw [if_neg (fun z2 => z (hc.mp z2))]; exact ite_neg' hf z) (fun z => h1 (hc.mp z)) (fun z => h2 (fun z2 => z (hc.mpr z2))))
theorem ev_lc_lt {M : MD} {n0 n1 : Nat} {r : Option V × Mem × Mem} {pc n : Nat} {ρ σ : Mem} {L st : List V} {α : Type} {X Y : Option α} {q : α} {x y off : Int} {tgt : Nat} (hd : decode M.2.1 pc = .ok (.lcmp, 1)) (hd2 : decode M.2.1 (pc + 1) = .ok (.ifCond .lt off, 3)) (ht : ((pc + 1 : Nat) : Int) + off = (tgt : Int)) (hf : (if x < y then X else Y) = some q) (h1 : x < y → X = some q → Ev M n0 n1 r (tgt) (n) (ρ) (σ) (L) (st)) (h2 : ¬ (x < y) → Y = some q → Ev M n0 n1 r (pc + 1 + 3) (n) (ρ) (σ) (L) (st)) : Ev M n0 n1 r (pc) (n) (ρ) (σ) (L) ((1, y) :: (1, x) :: st) := ev_fact fun hs _ => by
  have hi := lcm_lt (cons_ok (cons_ok hs).2).1 (cons_ok hs).1
  have hc : lcm x y < 0 ↔ x < y := by omega
  exact ev_lcmp hd (ev_if_lt hd2 ht (X := X) (Y := Y) (q := q) (by
    by_cases z : x < y
    · rw [if_pos (hc.mpr z)]; exact ite_pos' hf z
    · rw [if_neg (fun z2 => z (hc.mp z2))]; exact ite_neg' hf z) (fun z => h1 (hc.mp z)) (fun z => h2 (fun z2 => z (hc.mpr z2))))
theorem ev_lc_ge {M : MD} {n0 n1 : Nat} {r : Option V × Mem × Mem} {pc n : Nat} {ρ σ : Mem} {L st : List V} {α : Type} {X Y : Option α} {q : α} {x y off : Int} {tgt : Nat} (hd : decode M.2.1 pc = .ok (.lcmp, 1)) (hd2 : decode M.2.1 (pc + 1) = .ok (.ifCond .ge off, 3)) (ht : ((pc + 1 : Nat) : Int) + off = (tgt : Int)) (hf : (if y ≤ x then X else Y) = some q) (h1 : y ≤ x → X = some q → Ev M n0 n1 r (tgt) (n) (ρ) (σ) (L) (st)) (h2 : ¬ (y ≤ x) → Y = some q → Ev M n0 n1 r (pc + 1 + 3) (n) (ρ) (σ) (L) (st)) : Ev M n0 n1 r (pc) (n) (ρ) (σ) (L) ((1, y) :: (1, x) :: st) := ev_fact fun hs _ => by
  have hi := lcm_lt (cons_ok (cons_ok hs).2).1 (cons_ok hs).1
  have hc : 0 ≤ lcm x y ↔ y ≤ x := by omega
  exact ev_lcmp hd (ev_if_ge hd2 ht (X := X) (Y := Y) (q := q) (by
    by_cases z : y ≤ x
    · rw [if_pos (hc.mpr z)]; exact ite_pos' hf z
    · rw [if_neg (fun z2 => z (hc.mp z2))]; exact ite_neg' hf z) (fun z => h1 (hc.mp z)) (fun z => h2 (fun z2 => z (hc.mpr z2))))
theorem ev_lc_gt {M : MD} {n0 n1 : Nat} {r : Option V × Mem × Mem} {pc n : Nat} {ρ σ : Mem} {L st : List V} {α : Type} {X Y : Option α} {q : α} {x y off : Int} {tgt : Nat} (hd : decode M.2.1 pc = .ok (.lcmp, 1)) (hd2 : decode M.2.1 (pc + 1) = .ok (.ifCond .gt off, 3)) (ht : ((pc + 1 : Nat) : Int) + off = (tgt : Int)) (hf : (if y < x then X else Y) = some q) (h1 : y < x → X = some q → Ev M n0 n1 r (tgt) (n) (ρ) (σ) (L) (st)) (h2 : ¬ (y < x) → Y = some q → Ev M n0 n1 r (pc + 1 + 3) (n) (ρ) (σ) (L) (st)) : Ev M n0 n1 r (pc) (n) (ρ) (σ) (L) ((1, y) :: (1, x) :: st) := ev_fact fun hs _ => by
  have hi := lcm_lt (cons_ok (cons_ok hs).2).1 (cons_ok hs).1
  have hc : 0 < lcm x y ↔ y < x := by omega
  exact ev_lcmp hd (ev_if_gt hd2 ht (X := X) (Y := Y) (q := q) (by
    by_cases z : y < x
    · rw [if_pos (hc.mpr z)]; exact ite_pos' hf z
    · rw [if_neg (fun z2 => z (hc.mp z2))]; exact ite_neg' hf z) (fun z => h1 (hc.mp z)) (fun z => h2 (fun z2 => z (hc.mpr z2))))
theorem ev_lc_le {M : MD} {n0 n1 : Nat} {r : Option V × Mem × Mem} {pc n : Nat} {ρ σ : Mem} {L st : List V} {α : Type} {X Y : Option α} {q : α} {x y off : Int} {tgt : Nat} (hd : decode M.2.1 pc = .ok (.lcmp, 1)) (hd2 : decode M.2.1 (pc + 1) = .ok (.ifCond .le off, 3)) (ht : ((pc + 1 : Nat) : Int) + off = (tgt : Int)) (hf : (if x ≤ y then X else Y) = some q) (h1 : x ≤ y → X = some q → Ev M n0 n1 r (tgt) (n) (ρ) (σ) (L) (st)) (h2 : ¬ (x ≤ y) → Y = some q → Ev M n0 n1 r (pc + 1 + 3) (n) (ρ) (σ) (L) (st)) : Ev M n0 n1 r (pc) (n) (ρ) (σ) (L) ((1, y) :: (1, x) :: st) := ev_fact fun hs _ => by
  have hi := lcm_lt (cons_ok (cons_ok hs).2).1 (cons_ok hs).1
  have hc : lcm x y ≤ 0 ↔ x ≤ y := by omega
  exact ev_lcmp hd (ev_if_le hd2 ht (X := X) (Y := Y) (q := q) (by
    by_cases z : x ≤ y
    · rw [if_pos (hc.mpr z)]; exact ite_pos' hf z
    · rw [if_neg (fun z2 => z (hc.mp z2))]; exact ite_neg' hf z) (fun z => h1 (hc.mp z)) (fun z => h2 (fun z2 => z (hc.mpr z2))))
theorem ev_istore_nG {M : MD} {n0 n1 : Nat} {r : Option V × Mem × Mem} {pc n : Nat} {ρ σ : Mem} {L st : List V} {β : Type} {X : Int → Option β} {q : β} {k : Fin 4} {x : Int} (hd : decode M.2.1 pc = .ok (.istore_n k, 1)) (hf : (some x).bind X = some q) (hk : stk L (k : Nat) = true) (hb' : (k : Nat) < M.2.2.1) (hh : ∀ y, X y = some q → Ev M n0 n1 r (pc + 1) (n) (ρ) (σ) (L.set (k : Nat) (0, y)) (st)) : Ev M n0 n1 r (pc) (n) (ρ) (σ) (L) ((0, x) :: st) := ev_istore_n hd hk hb' (hh x hf)
theorem ev_istoreG {M : MD} {n0 n1 : Nat} {r : Option V × Mem × Mem} {pc n : Nat} {ρ σ : Mem} {L st : List V} {β : Type} {X : Int → Option β} {q : β} {k : Nat} {x : Int} (hd : decode M.2.1 pc = .ok (.istore k, 2)) (hf : (some x).bind X = some q) (hk : stk L k = true) (hb' : k < M.2.2.1) (hh : ∀ y, X y = some q → Ev M n0 n1 r (pc + 2) (n) (ρ) (σ) (L.set k (0, y)) (st)) : Ev M n0 n1 r (pc) (n) (ρ) (σ) (L) ((0, x) :: st) := ev_istore hd hk hb' (hh x hf)
theorem ev_lstore_nG {M : MD} {n0 n1 : Nat} {r : Option V × Mem × Mem} {pc n : Nat} {ρ σ : Mem} {L st : List V} {β : Type} {X : Int → Option β} {q : β} {k : Fin 4} {x : Int} (hd : decode M.2.1 pc = .ok (.lstore_n k, 1)) (hf : (some x).bind X = some q) (hk : stk L (k : Nat) = true) (hb' : (k : Nat) + 1 < M.2.2.1) (hh : ∀ y, X y = some q → Ev M n0 n1 r (pc + 1) (n) (ρ) (σ) ((L.set (k : Nat) (1, y)).set ((k : Nat) + 1) (9, 0)) (st)) : Ev M n0 n1 r (pc) (n) (ρ) (σ) (L) ((1, x) :: st) := ev_lstore_n hd hk hb' (hh x hf)
theorem ev_lstoreG {M : MD} {n0 n1 : Nat} {r : Option V × Mem × Mem} {pc n : Nat} {ρ σ : Mem} {L st : List V} {β : Type} {X : Int → Option β} {q : β} {k : Nat} {x : Int} (hd : decode M.2.1 pc = .ok (.lstore k, 2)) (hf : (some x).bind X = some q) (hk : stk L k = true) (hb' : k + 1 < M.2.2.1) (hh : ∀ y, X y = some q → Ev M n0 n1 r (pc + 2) (n) (ρ) (σ) ((L.set k (1, y)).set (k + 1) (9, 0)) (st)) : Ev M n0 n1 r (pc) (n) (ρ) (σ) (L) ((1, x) :: st) := ev_lstore hd hk hb' (hh x hf)
theorem ev_iincG {M : MD} {n0 n1 : Nat} {r : Option V × Mem × Mem} {pc n : Nat} {ρ σ : Mem} {L st : List V} {β : Type} {X : Int → Option β} {q : β} {k : Nat} {z x : Int} (hd : decode M.2.1 pc = .ok (.iinc k z, 3)) (hi : L[k]? = some (0, x)) (hf : (some (jadd x z)).bind X = some q) (hk : stk L k = true) (hh : ∀ y, X y = some q → Ev M n0 n1 r (pc + 3) (n) (ρ) (σ) (L.set k (0, y)) (st)) : Ev M n0 n1 r (pc) (n) (ρ) (σ) (L) (st) := ev_iinc hd hi hk (hh _ hf)
theorem ev_putfG {M : MD} {n0 n1 : Nat} {r : Option V × Mem × Mem} {pc n : Nat} {ρ σ : Mem} {L st : List V} {β : Type} {X : Mem → Option β} {q : β} {t : Nat} {k x : Int} {j ci idx nf N : Nat} {CN : String} {T : u_T} {ty : Nat → FieldType} (hd : decode M.2.1 pc = .ok (.putfield idx, 3)) (cf : CF ci CN T N ty) (hw : Cond.fieldLink M.1 idx (T j).1 (T j).2.1 (T j).2.2.1 ∈ WS) (hsh : shp k.toNat = (ci + 5, nf)) (h0 : 0 ≤ k) (hkn : k < n) (ht : (fts ci)[j]? = some t) (h2 : t ≠ 2) (hb1 : t = 0 ∨ t = 1) (hfin : (T j).2.2.2 = false) (hp : pfit t x (ty j)) (hf : (some (mup σ k j x)).bind X = some q) (hh : ∀ τ, X τ = some q → Ev M n0 n1 r (pc + 3) (n) (ρ) (τ) (L) (st)) : Ev M n0 n1 r (pc) (n) (ρ) (σ) (L) ((t, x) :: (2, k) :: st) := ev_putf hd cf hw hsh h0 hkn ht h2 hb1 hfin hp (hh _ hf)
theorem ev_iastG {M : MD} {n0 n1 : Nat} {r : Option V × Mem × Mem} {pc n : Nat} {ρ σ : Mem} {L st : List V} {β : Type} {X : Mem → Option β} {q : β} {k i x : Int} {N : Nat} (hd : decode M.2.1 pc = .ok (.iastore, 1)) (hsh : shp k.toNat = (0, N)) (h0 : 0 ≤ k) (hkn : k < n) (hf : chk (0 ≤ i ∧ i < N ) ((some (mup σ k i x)).bind X) = some q) (hh : ∀ τ, X τ = some q → Ev M n0 n1 r (pc + 1) (n) (ρ) (τ) (L) (st)) : Ev M n0 n1 r (pc) (n) (ρ) (σ) (L) ((0, x) :: (0, i) :: (2, k) :: st) := ev_iast hd hsh h0 hkn hf (fun hf => hh _ hf)
theorem ev_zastG {M : MD} {n0 n1 : Nat} {r : Option V × Mem × Mem} {pc n : Nat} {ρ σ : Mem} {L st : List V} {β : Type} {X : Mem → Option β} {q : β} {k i x : Int} {N : Nat} (hd : decode M.2.1 pc = .ok (.bastore, 1)) (hsh : shp k.toNat = (2, N)) (h0 : 0 ≤ k) (hkn : k < n) (hf : chk (0 ≤ i ∧ i < N ∧ (x = 0 ∨ x = 1)) ((some (mup σ k i x)).bind X) = some q) (hh : ∀ τ, X τ = some q → Ev M n0 n1 r (pc + 1) (n) (ρ) (τ) (L) (st)) : Ev M n0 n1 r (pc) (n) (ρ) (σ) (L) ((0, x) :: (0, i) :: (2, k) :: st) := ev_zast hd hsh h0 hkn hf (fun hf => hh _ hf)
theorem ev_lastG {M : MD} {n0 n1 : Nat} {r : Option V × Mem × Mem} {pc n : Nat} {ρ σ : Mem} {L st : List V} {β : Type} {X : Mem → Option β} {q : β} {k i x : Int} {N : Nat} (hd : decode M.2.1 pc = .ok (.lastore, 1)) (hsh : shp k.toNat = (1, N)) (h0 : 0 ≤ k) (hkn : k < n) (hf : chk (0 ≤ i ∧ i < N ) ((some (mup σ k i x)).bind X) = some q) (hh : ∀ τ, X τ = some q → Ev M n0 n1 r (pc + 1) (n) (ρ) (τ) (L) (st)) : Ev M n0 n1 r (pc) (n) (ρ) (σ) (L) ((1, x) :: (0, i) :: (2, k) :: st) := ev_last hd hsh h0 hkn hf (fun hf => hh _ hf)
theorem ev_copyiG {M : MD} {n0 n1 : Nat} {r : Option V × Mem × Mem} {pc n : Nat} {ρ σ : Mem} {L st : List V} {β : Type} {X : Mem → Option β} {q : β} {a i b j z : Int} {Na Nb idx : Nat} (hd : decode M.2.1 pc = .ok (.invokestatic idx, 3)) (hw : Cond.methodLink M.1 idx arraycopyName ∈ WS) (hw2 : Cond.native arraycopyName ∈ WS ∧ Cond.static arraycopyName ∈ WS ∧ Cond.initialized "java/lang/System" ∈ WS) (hsa : shp a.toNat = (0, Na)) (ha0 : 0 ≤ a) (han : a < n) (hsb : shp b.toNat = (0, Nb)) (hb0 : 0 ≤ b) (hbn : b < n) (hM : 1 ≤ M.2.2.2.2.1 ∧ 8 + (nativeFrameWords "java/lang/System" "arraycopy" 5 + 11) ≤ M.2.2.2.2.2.1) (hst : st.length ≤ 4) (hf : chk (0 ≤ i ∧ 0 ≤ j ∧ 0 ≤ z ∧ i + z ≤ Na ∧ j + z ≤ Nb) ((some (mcp σ a i b j z)).bind X) = some q) (hh : ∀ τ, X τ = some q → Ev M n0 n1 r (pc + 3) (n) (ρ) (τ) (L) (st)) : Ev M n0 n1 r (pc) (n) (ρ) (σ) (L) ((0, z) :: (0, j) :: (2, b) :: (0, i) :: (2, a) :: st) := ev_copyi hd hw hw2 hsa ha0 han hsb hb0 hbn hM hst hf (fun hf => hh _ hf)
theorem ev_copylG {M : MD} {n0 n1 : Nat} {r : Option V × Mem × Mem} {pc n : Nat} {ρ σ : Mem} {L st : List V} {β : Type} {X : Mem → Option β} {q : β} {a i b j z : Int} {Na Nb idx : Nat} (hd : decode M.2.1 pc = .ok (.invokestatic idx, 3)) (hw : Cond.methodLink M.1 idx arraycopyName ∈ WS) (hw2 : Cond.native arraycopyName ∈ WS ∧ Cond.static arraycopyName ∈ WS ∧ Cond.initialized "java/lang/System" ∈ WS) (hsa : shp a.toNat = (1, Na)) (ha0 : 0 ≤ a) (han : a < n) (hsb : shp b.toNat = (1, Nb)) (hb0 : 0 ≤ b) (hbn : b < n) (hM : 1 ≤ M.2.2.2.2.1 ∧ 8 + (nativeFrameWords "java/lang/System" "arraycopy" 5 + 11) ≤ M.2.2.2.2.2.1) (hst : st.length ≤ 4) (hf : chk (0 ≤ i ∧ 0 ≤ j ∧ 0 ≤ z ∧ i + z ≤ Na ∧ j + z ≤ Nb) ((some (mcp σ a i b j z)).bind X) = some q) (hh : ∀ τ, X τ = some q → Ev M n0 n1 r (pc + 3) (n) (ρ) (τ) (L) (st)) : Ev M n0 n1 r (pc) (n) (ρ) (σ) (L) ((0, z) :: (0, j) :: (2, b) :: (0, i) :: (2, a) :: st) := ev_copyl hd hw hw2 hsa ha0 han hsb hb0 hbn hM hst hf (fun hf => hh _ hf)
/-- fewer locals known -/
def subL : List V → List V → Prop
  | [], [] => True
  | a :: L, b :: L2 => (b = (9, 0) ∨ a = b) ∧ subL L L2
  | _, _ => False
theorem subL_len : ∀ {L L2 : List V}, subL L L2 → L.length = L2.length
  | [], [], _ => rfl
  | _ :: L, _ :: L2, h => by simp [subL_len h.2]
  | [], _ :: _, h => h.elim
  | _ :: _, [], h => h.elim
theorem subL_get : ∀ {L L2 : List V} {i : Nat} {v : V}, subL L L2 → L2[i]? = some v → v.1 ≠ 9 → L[i]? = some v
  | [], [], i, v, _, h, _ => by simp at h
  | a :: L, b :: L2, 0, v, h, hv, h9 => by
    simp at hv
    rcases h.1 with q | q
    · rw [← hv, q] at h9; exact absurd rfl h9
    · simp [q, hv]
  | a :: L, b :: L2, i + 1, v, h, hv, h9 => by
    simp at hv ⊢
    exact subL_get h.2 hv h9
  | [], _ :: _, _, _, h, _, _ => h.elim
  | _ :: _, [], _, _, h, _, _ => h.elim
theorem subL_ok {n : Nat} : ∀ {L L2 : List V}, subL L L2 → (∀ v ∈ L, okv n v) → ∀ v ∈ L2, okv n v
  | [], [], _, _, v, hv => by cases hv
  | a :: L, b :: L2, h, hk, v, hv => by
    rcases List.mem_cons.mp hv with q | q
    · rcases h.1 with g | g
      · rw [q, g]; trivial
      · rw [q, ← g]; exact (cons_ok hk).1
    · exact subL_ok h.2 (cons_ok hk).2 v q
  | [], _ :: _, h, _, _, _ => h.elim
  | _ :: _, [], h, _, _, _ => h.elim
theorem ev_sub {M : MD} {n0 n1 : Nat} {r : Option V × Mem × Mem} {pc n : Nat} {ρ σ : Mem} {L st : List V} {L2 : List V} (hh : Ev M n0 n1 r (pc) (n) (ρ) (σ) (L2) (st)) (hs2 : subL L L2) : Ev M n0 n1 r (pc) (n) (ρ) (σ) (L) (st) := by
  intro p l e Rm s m args below meth c A H locs D dA ad0 ad ls C K h hl hL hn hs
  have hx := C.1
  have hb := C.2.1
  refine hh p l e Rm s m args below meth c A H locs D dA ad0 ad ls C K h (lok_sub hl fun q hq => ?_) (subL_ok hs2 hL) (by rw [← subL_len hs2]; exact hn) hs
  obtain ⟨i, v, h1, h2, h3⟩ := lz_inv _ _ _ hq
  rw [Nat.zero_add] at h1
  have := lz_mem (ad := ad) h3 L 0 i (subL_get hs2 h2 h3)
  rw [Nat.zero_add] at this
  rw [h1]; exact this
/-- a loop: until the body says it is done; none, where the count of rounds is used up -/
def loop {α β : Type} (f : α → Option (α ⊕ β)) : Nat → α → Option β
  | 0, _ => none
  | n + 1, a => (f a).bind fun x => match x with
    | .inl a2 => loop f n a2
    | .inr b => some b
def FU : Nat := 1000000
theorem loop_ev {α β : Type} {f : α → Option (α ⊕ β)} {K : α ⊕ β → Prop} (hs : ∀ a x, f a = some x → K x → K (.inl a)) : ∀ (n : Nat) (a : α) (b : β), loop f n a = some b → K (.inr b) → K (.inl a)
  | 0, _, _, h, _ => by cases h
  | n + 1, a, b, h, hb => by
    unfold loop at h
    obtain ⟨x, h1, h2⟩ := Option.bind_eq_some_iff.mp h
    cases x with
    | inl a2 => exact hs a _ h1 (loop_ev hs n a2 b h2 hb)
    | inr b2 => cases h2; exact hs a _ h1 hb
theorem bind_of {α β : Type} {x : Option α} {f : α → Option β} {b : β} (h : x.bind f = some b) : ∃ a, x = some a ∧ f a = some b := Option.bind_eq_some_iff.mp h
theorem cel_agree {dA : Nat → ClassId} {ad ad' : Nat → Nat} {ρ σ : Mem} {n k : Nat} (h1 : ∀ i, i < n → ad' i = ad i) (h2 : ∀ i, 100000 ≤ i → ad' i = ad i) (hr : rokr n ρ) : cel dA ad' ρ σ k = cel dA ad ρ σ k := by
  unfold cel
  have hq : ∀ j : Int, (if ρ k j < 0 then none else some (ad' (ρ k j).toNat)) = (if ρ k j < 0 then none else some (ad (ρ k j).toNat)) := by
    intro j
    by_cases hx : ρ k j < 0
    · rw [if_pos hx, if_pos hx]
    · rw [if_neg hx, if_neg hx, h1 _ (by have := (hr k j).2; omega)]
  have hv : ∀ (t : Nat) (j : Int), rv ad' (t, if t = 2 then ρ k j else σ k j) = rv ad (t, if t = 2 then ρ k j else σ k j) := by
    intro t j
    match t with
    | 0 => rfl
    | 1 => rfl
    | 2 => exact rv_agree (n := n) h1 h2 (hr k j)
    | t + 3 => exact rv_agree (n := n) h1 h2 (show okv n (t + 3, _) from trivial)
  split
  · rfl
  · rfl
  · rfl
  · rfl
  · simp only [hq]
  · simp only [hv]
theorem wl_push {dA : Nat → ClassId} {ad ad' : Nat → Nat} {ρ σ : Mem} {n : Nat} (h1 : ∀ i, i < n → ad' i = ad i) (h2 : ∀ i, 100000 ≤ i → ad' i = ad i) (hr : rokr n ρ) : wl dA ad' ρ σ (n + 1) = wl dA ad ρ σ n ++ [(ad' n, cel dA ad' ρ σ n)] := by
  unfold wl
  rw [List.range_succ, List.map_append]
  congr 1
  refine List.map_congr_left fun k hk => ?_
  rw [cel_agree h1 h2 hr, h1 k (List.mem_range.mp hk)]
def adq (ad : Nat → Nat) (n q : Nat) : Nat → Nat := fun k => if k = n then q else ad k
theorem pok_push {n : Nat} {ρ σ : Mem} (h : pok n ρ σ) : pok (n + 1) ρ σ := ⟨h.1, fun k j => ⟨(h.2.1 k j).1, by have := (h.2.1 k j).2; omega⟩, fun k j hk => h.2.2 k j (by omega)⟩
/-- behind a making -/
theorem ev_made {M : MD} {n0 n1 n N : Nat} {r : Option V × Mem × Mem} {pc : Nat} {ρ σ : Mem} {L st : List V} {p : Program} {l : Launch} {e : Env} {Rm : Room} {s : State} {m : MethodId} {args : Array Value} {below : List Frame} {meth : Method} {c : Code} {A : Nat → Prop} {H H1 : Heap} {locs : List Loc} {D : va_G} {dA : Nat → ClassId} {ad0 ad : Nat → Nat} {ls : Array Slot} {q : Nat} {x : va_E} (C : Cx M n0 n1 p Rm s m args meth c) (K : Cw M D dA n0 ad0 A s) (h : Ch D dA n0 n1 n ad0 ad ρ σ A s.heap H locs) (hl : lv_has ls M.2.2.1 (lz ad 0 L)) (hL : ∀ v ∈ L, okv n v) (hn : L.length = M.2.2.1) (hs : ∀ v ∈ st, okv n v) (hn1 : n < n1) (hN : (shp n).2 = N) (hx : cel dA (adq ad n q) ρ σ n = x) (hP : va_P D vwCl (wl dA ad ρ σ n ++ [(q, x)]) H1) (hD : va_D A (wl dA ad ρ σ n ++ [(q, x)])) (hS : va_S A s.heap H1 locs)
    (hh : Ev M n0 n1 r pc (n + 1) ρ σ L ((2, (n : Int)) :: st)) : W p l e Rm s m args below meth c H1 locs (n - n0 + 1) (szL n - szL n0 + N) (MQ below (Qm n0 n1 r D dA ad0 A) args s (n1 - n0) (szL n1 - szL n0) A) (F0 m pc ls (.ref q :: st.map (rv ad))) := by
  have h90 := h.2.2.2.2.2.2.2.2
  have h0n := h.2.2.2.2.2.2.1
  have a1 : ∀ k, k < n → adq ad n q k = ad k := fun k hk => by unfold adq; rw [if_neg (by omega)]
  have a2 : ∀ k, 100000 ≤ k → adq ad n q k = ad k := fun k hk => by unfold adq; rw [if_neg (by omega)]
  have hw : wl dA (adq ad n q) ρ σ (n + 1) = wl dA ad ρ σ n ++ [(q, x)] := by
    rw [wl_push a1 a2 h.2.2.2.2.2.1.2.1, hx]
    simp [adq]
  have key := hh p l e Rm s m args below meth c A H1 locs D dA ad0 (adq ad n q) ls C K
    ⟨by rw [hw]; exact hP, by rw [hw]; exact hD, hS, fun k hk => by rw [a1 k (by omega)]; exact h.2.2.2.1 k hk, fun k hk => by rw [a2 k hk]; exact h.2.2.2.2.1 k hk, pok_push h.2.2.2.2.2.1, by omega, hn1, h90⟩
    (by rw [lz_agree a1 a2 L 0 hL]; exact hl) (fun v hv => okv_mono (Nat.le_succ n) (hL v hv)) hn (fun v hv => by
      rcases List.mem_cons.mp hv with g | g
      · rw [g]; exact ⟨by omega, by show (n : Int) < ((n + 1 : Nat) : Int); omega⟩
      · exact okv_mono (Nat.le_succ n) (hs v g))
  have q1 : n + 1 - n0 = n - n0 + 1 := by omega
  have q2 : szL (n + 1) - szL n0 = szL n - szL n0 + N := by
    have := szL_mono h0n
    show szL n + (shp n).2 - szL n0 = _
    rw [hN]; omega
  have q3 : ((2, (n : Int)) :: st).map (rv (adq ad n q)) = .ref q :: st.map (rv ad) := by
    rw [List.map_cons, map_agree a1 a2 hs, rv_ref (by omega)]
    simp [adq]
  rw [q1, q2, q3] at key
  exact key
theorem room_made {M : MD} {n0 n1 n N : Nat} {p : Program} {Rm : Room} {s : State} {m : MethodId} {args : Array Value} {meth : Method} {c : Code} (C : Cx M n0 n1 p Rm s m args meth c) (h0 : n0 ≤ n) (hn1 : n < n1) (hN : (shp n).2 = N) : n - n0 + 1 ≤ Rm.cells ∧ szL n - szL n0 + N ≤ Rm.slots := by
  have h1 := C.2.2.2.2.2.2.2.2.2.1
  have h2 := C.2.2.2.2.2.2.2.2.2.2.1
  have h3 := szL_mono h0
  have h4 : szL (n + 1) ≤ szL n1 := szL_mono hn1
  have h5 : szL (n + 1) = szL n + N := by show szL n + (shp n).2 = _; rw [hN]
  omega
theorem ev_new {M : MD} {n0 n1 : Nat} {r : Option V × Mem × Mem} {pc n : Nat} {ρ σ : Mem} {L st : List V} {idx ci N : Nat} {CN : String} {T : u_T} {ty : Nat → FieldType} (hd : decode M.2.1 pc = .ok (.new idx, 3)) (cf : CF ci CN T N ty) (hw : Cond.classLink M.1 idx CN ∈ WS) (hw2 : Cond.instantiable CN N ∈ WS) (hw3 : Cond.initialized CN ∈ WS) (hsh : shp n = (ci + 5, N)) (hn1 : n < n1) (hh : Ev M n0 n1 r (pc + 3) (n + 1) (ρ) (σ) (L) ((2, (n : Int)) :: st)) : Ev M n0 n1 r (pc) (n) (ρ) (σ) (L) (st) := by
  intro p l e Rm s m args below meth c A H locs D dA ad0 ad ls C K h hl hL hn hs
  have hx := C.1
  have hb := C.2.1
  have hr := room_made C h.2.2.2.2.2.2.1 hn1 (show (shp n).2 = N by rw [hsh])
  have hts := C.2.2.2.2.2.1
  refine va_new (D := D) (ci := ci) (fs := (fts ci).map fun t => if t = 2 then Value.null else if t = 1 then .long 0 else .int 0) hx hb hts cf.2.1 ty cf.2.2.1 C.2.2.2.2.1 (hts _ hw) (hts _ hw2) (hts _ hw3) K.1 h.1 h.2.1 h.2.2.1 K.2.2.1 cf.1 (fun j hj => ?_) hr.1 hr.2 hd (fun q H1 hP hD hS => ?_)
  · obtain ⟨h1, h2⟩ := cf.2.2.2.2.2 j hj
    have e : vp_V ((fts ci).map fun t => if t = 2 then Value.null else if t = 1 then .long 0 else .int 0) j = if tgF (ty j) = 2 then Value.null else if tgF (ty j) = 1 then .long 0 else .int 0 := by
      unfold vp_V
      rw [List.getD_eq_getElem?_getD, List.getElem?_map, h1]
      rfl
    rw [e]
    rcases h2 with q | q | q | ⟨_, q⟩ | ⟨_, q⟩ <;> rw [q] <;> rfl
  · refine ev_made C K h hl hL hn hs hn1 (show (shp n).2 = N by rw [hsh]) ?_ hP hD hS hh
    rw [cel_obj hsh]
    congr 2
    apply List.ext_getElem?
    intro i
    simp only [List.getElem?_mapIdx, List.getElem?_map]
    cases hf : (fts ci)[i]? with
    | none => rfl
    | some t =>
      have hfr := h.2.2.2.2.2.1.2.2 n i (Int.le_refl _)
      simp only [Option.map_some, hfr.1, hfr.2]
      have ht3 : t = 0 ∨ t = 1 ∨ t = 2 := by
        have hi : i < N := by rw [← cf.2.2.2.2.1]; exact (List.getElem?_eq_some_iff.mp hf).1
        obtain ⟨g1, g2⟩ := cf.2.2.2.2.2 i hi
        have g3 : t = tgF (ty i) := Option.some.inj (hf.symm.trans g1)
        rw [g3]
        rcases g2 with q | q | q | ⟨_, q⟩ | ⟨_, q⟩ <;> rw [q] <;> simp [tgF]
      rcases ht3 with q | q | q <;> subst q <;> rfl
theorem ev_newi {M : MD} {n0 n1 : Nat} {r : Option V × Mem × Mem} {pc n : Nat} {ρ σ : Mem} {L st : List V} {N : Nat} (hd : decode M.2.1 pc = .ok (.newarray .int, 2)) (hw : Cond.arrayClass .int ∈ WS) (hsh : shp n = (0, N)) (hN : N ≤ 10000) (hn1 : n < n1) (hh : Ev M n0 n1 r (pc + 2) (n + 1) (ρ) (σ) (L) ((2, (n : Int)) :: st)) : Ev M n0 n1 r (pc) (n) (ρ) (σ) (L) ((0, (N : Int)) :: st) := by
  intro p l e Rm s m args below meth c A H locs D dA ad0 ad ls C K h hl hL hn hs
  have hx := C.1
  have hb := C.2.1
  have hr := room_made C h.2.2.2.2.2.2.1 hn1 (show (shp n).2 = N by rw [hsh])
  have hts := C.2.2.2.2.2.1
  have hin : in32 (N : Int) := ⟨by omega, by omega⟩
  refine va_newa (D := D) (tys := TY dA) (atype := .int) (ty := .int) (n := Int32.ofInt (N : Int)) (N' := N) (a0 := (N, .inl fun _ => 0)) hx hb (hts _ hw) rfl K.1 h.1 h.2.1 h.2.2.1 K.2.2.1 (fun cA => rfl) (fun z => by have := (lt32 hin in32_0).mp z; omega) (by show (Int32.ofInt (N : Int)).toInt.toNat = N; rw [oi32 hin]; omega) (by simp [componentBytes]; omega) hr.1 hr.2 hd (fun q cA H1 hK1 hP hD hS => ?_)
  have e1 : cA = dA 0 := by
    have g1 := (hK1.2 (TY dA).length (cA, .int) (by rw [List.getElem?_append_right (Nat.le_refl _), Nat.sub_self]; rfl)).2
    have g2 := (K.1.2 0 (dA 0, .int) rfl).2
    exact Option.some.inj (g1.symm.trans g2)
  subst e1
  refine ev_made C K h hl hL hn (cons_ok hs).2 hn1 (show (shp n).2 = N by rw [hsh]) ?_ hP hD hS hh
  rw [cel_0 hsh]
  have hfr : ∀ j : Int, σ n j = 0 := fun j => (h.2.2.2.2.2.1.2.2 n j (Int.le_refl _)).2
  simp only [hfr]
  rfl
theorem ev_newl {M : MD} {n0 n1 : Nat} {r : Option V × Mem × Mem} {pc n : Nat} {ρ σ : Mem} {L st : List V} {N : Nat} (hd : decode M.2.1 pc = .ok (.newarray .long, 2)) (hw : Cond.arrayClass .long ∈ WS) (hsh : shp n = (1, N)) (hN : N ≤ 10000) (hn1 : n < n1) (hh : Ev M n0 n1 r (pc + 2) (n + 1) (ρ) (σ) (L) ((2, (n : Int)) :: st)) : Ev M n0 n1 r (pc) (n) (ρ) (σ) (L) ((0, (N : Int)) :: st) := by
  intro p l e Rm s m args below meth c A H locs D dA ad0 ad ls C K h hl hL hn hs
  have hx := C.1
  have hb := C.2.1
  have hr := room_made C h.2.2.2.2.2.2.1 hn1 (show (shp n).2 = N by rw [hsh])
  have hts := C.2.2.2.2.2.1
  have hin : in32 (N : Int) := ⟨by omega, by omega⟩
  refine va_newa (D := D) (tys := TY dA) (atype := .long) (ty := .long) (n := Int32.ofInt (N : Int)) (N' := N) (a0 := (N, .inr (.inl fun _ => 0))) hx hb (hts _ hw) rfl K.1 h.1 h.2.1 h.2.2.1 K.2.2.1 (fun cA => rfl) (fun z => by have := (lt32 hin in32_0).mp z; omega) (by show (Int32.ofInt (N : Int)).toInt.toNat = N; rw [oi32 hin]; omega) (by simp [componentBytes]; omega) hr.1 hr.2 hd (fun q cA H1 hK1 hP hD hS => ?_)
  have e1 : cA = dA 1 := by
    have g1 := (hK1.2 (TY dA).length (cA, .long) (by rw [List.getElem?_append_right (Nat.le_refl _), Nat.sub_self]; rfl)).2
    have g2 := (K.1.2 1 (dA 1, .long) rfl).2
    exact Option.some.inj (g1.symm.trans g2)
  subst e1
  refine ev_made C K h hl hL hn (cons_ok hs).2 hn1 (show (shp n).2 = N by rw [hsh]) ?_ hP hD hS hh
  rw [cel_1 hsh]
  have hfr : ∀ j : Int, σ n j = 0 := fun j => (h.2.2.2.2.2.1.2.2 n j (Int.le_refl _)).2
  simp only [hfr]
  rfl
theorem ev_newz {M : MD} {n0 n1 : Nat} {r : Option V × Mem × Mem} {pc n : Nat} {ρ σ : Mem} {L st : List V} {N : Nat} (hd : decode M.2.1 pc = .ok (.newarray .boolean, 2)) (hw : Cond.arrayClass .boolean ∈ WS) (hsh : shp n = (2, N)) (hN : N ≤ 10000) (hn1 : n < n1) (hh : Ev M n0 n1 r (pc + 2) (n + 1) (ρ) (σ) (L) ((2, (n : Int)) :: st)) : Ev M n0 n1 r (pc) (n) (ρ) (σ) (L) ((0, (N : Int)) :: st) := by
  intro p l e Rm s m args below meth c A H locs D dA ad0 ad ls C K h hl hL hn hs
  have hx := C.1
  have hb := C.2.1
  have hr := room_made C h.2.2.2.2.2.2.1 hn1 (show (shp n).2 = N by rw [hsh])
  have hts := C.2.2.2.2.2.1
  have hin : in32 (N : Int) := ⟨by omega, by omega⟩
  refine va_newa (D := D) (tys := TY dA) (atype := .boolean) (ty := .boolean) (n := Int32.ofInt (N : Int)) (N' := N) (a0 := (N, .inl fun _ => 0)) hx hb (hts _ hw) rfl K.1 h.1 h.2.1 h.2.2.1 K.2.2.1 (fun cA => rfl) (fun z => by have := (lt32 hin in32_0).mp z; omega) (by show (Int32.ofInt (N : Int)).toInt.toNat = N; rw [oi32 hin]; omega) (by simp [componentBytes]; omega) hr.1 hr.2 hd (fun q cA H1 hK1 hP hD hS => ?_)
  have e1 : cA = dA 2 := by
    have g1 := (hK1.2 (TY dA).length (cA, .boolean) (by rw [List.getElem?_append_right (Nat.le_refl _), Nat.sub_self]; rfl)).2
    have g2 := (K.1.2 2 (dA 2, .boolean) rfl).2
    exact Option.some.inj (g1.symm.trans g2)
  subst e1
  refine ev_made C K h hl hL hn (cons_ok hs).2 hn1 (show (shp n).2 = N by rw [hsh]) ?_ hP hD hS hh
  rw [cel_2 hsh]
  have hfr : ∀ j : Int, σ n j = 0 := fun j => (h.2.2.2.2.2.1.2.2 n j (Int.le_refl _)).2
  simp only [hfr]
  rfl
theorem ev_newq {M : MD} {n0 n1 : Nat} {r : Option V × Mem × Mem} {pc n : Nat} {ρ σ : Mem} {L st : List V} {N idx : Nat} (hd : decode M.2.1 pc = .ok (.anewarray idx, 3)) (hw : Cond.classLink M.1 idx "ClashDays$Week" ∈ WS) (hsh : shp n = (4, N)) (hN : N ≤ 10000) (hn1 : n < n1) (hh : Ev M n0 n1 r (pc + 3) (n + 1) (ρ) (σ) (L) ((2, (n : Int)) :: st)) : Ev M n0 n1 r (pc) (n) (ρ) (σ) (L) ((0, (N : Int)) :: st) := by
  intro p l e Rm s m args below meth c A H locs D dA ad0 ad ls C K h hl hL hn hs
  have hx := C.1
  have hb := C.2.1
  have hr := room_made C h.2.2.2.2.2.2.1 hn1 (show (shp n).2 = N by rw [hsh])
  have hts := C.2.2.2.2.2.1
  have hin : in32 (N : Int) := ⟨by omega, by omega⟩
  refine va_newq (D := D) (tys := TY dA) (C := "ClashDays$Week") (n := Int32.ofInt (N : Int)) (N' := N) hx hb C.2.2.2.2.1 (hts _ hw) K.2.1.1 K.1 h.1 h.2.1 h.2.2.1 K.2.2.1 (fun z => by have := (lt32 hin in32_0).mp z; omega) (by show (Int32.ofInt (N : Int)).toInt.toNat = N; rw [oi32 hin]; omega) (by omega) hr.1 hr.2 hd (fun q cA H1 hK1 hP hD hS => ?_)
  have e1 : cA = dA 4 := by
    obtain ⟨_, _, _, _, _, g1⟩ := (hK1.2 (TY dA).length (cA, .object "ClashDays$Week") (by rw [List.getElem?_append_right (Nat.le_refl _), Nat.sub_self]; rfl)).2
    obtain ⟨_, _, _, _, _, g2⟩ := (K.1.2 4 (dA 4, .object "ClashDays$Week") rfl).2
    exact Option.some.inj (g1.symm.trans g2)
  subst e1
  refine ev_made C K h hl hL hn (cons_ok hs).2 hn1 (show (shp n).2 = N by rw [hsh]) ?_ hP hD hS hh
  rw [cel_4 hsh]
  have hfr : ∀ j : Int, ρ n j = -1 := fun j => (h.2.2.2.2.2.1.2.2 n j (Int.le_refl _)).1
  simp only [hfr]
  rfl
theorem ev_aast {M : MD} {n0 n1 : Nat} {r : Option V × Mem × Mem} {pc n : Nat} {ρ σ : Mem} {L st : List V} {k v i : Int} {N ci nf NN : Nat} {T : u_T} (hd : decode M.2.1 pc = .ok (.aastore, 1)) (hcl : vwCl[ci]? = some ("ClashDays$Week", T, NN)) (hsh : shp k.toNat = (4, N)) (h0 : 0 ≤ k) (hkn : k < n) (hsv : shp v.toNat = (ci + 5, nf)) (hv0 : 0 ≤ v) (hvn : v < n) (hi : 0 ≤ i ∧ i < N) (hh : Ev M n0 n1 r (pc + 1) (n) (mup ρ k i v) (σ) (L) (st)) : Ev M n0 n1 r (pc) (n) (ρ) (σ) (L) ((2, v) :: (0, i) :: (2, k) :: st) := by
  intro p l e Rm s m args below meth c A H locs D dA ad0 ad ls C K h hl hL hn hs
  have hx := C.1
  have hb := C.2.1
  obtain ⟨z, rfl⟩ := Int.eq_ofNat_of_zero_le h0
  obtain ⟨zv, rfl⟩ := Int.eq_ofNat_of_zero_le hv0
  have hq : z < n := by omega
  have hqv : zv < n := by omega
  have hsq : shp z = (4, N) := by simpa using hsh
  have hsqv : shp zv = (ci + 5, nf) := by simpa using hsv
  have hvp := in32_vp (cons_ok (cons_ok hs).2).1 hi.1 hi.2
  rw [List.map_cons, List.map_cons, List.map_cons, rv_ref h0, rv_ref hv0, Int.toNat_natCast, Int.toNat_natCast]
  have hset : (wl dA ad ρ σ n).set z (ad z, .inl (dA 4, N, .inr (.inr (.inr (.inr (va_up (fun j : Nat => if ρ z j < 0 then none else some (ad (ρ z j).toNat)) (Int32.ofInt i).toNatClampNeg (some (ad zv)))))))) = wl dA ad (mup ρ z i zv) σ n := by
    have e : (va_up (fun j : Nat => if ρ z j < 0 then none else some (ad (ρ z j).toNat)) (Int32.ofInt i).toNatClampNeg (some (ad zv))) = fun j : Nat => if mup ρ z i zv z j < 0 then none else some (ad (mup ρ z i zv z j).toNat) := by
      funext j
      unfold va_up mup
      rw [hvp.2]
      by_cases hj : j = i.toNat
      · have hj2 : (j : Int) = i := by omega
        rw [if_pos hj]
        simp [hj2]
      · have hj2 : ¬ (j : Int) = i := by omega
        rw [if_neg hj]
        simp [hj2]
    rw [e, ← cel_4 (dA := dA) (ad := ad) (σ := σ) hsq]
    exact wl_set fun a _ ha => cel_mupr (ne_cast ha)
  refine va_astq (D := D) (tys := TY dA) hx hb K.1 h.1 h.2.1 h.2.2.1 z 4 zv ci (by rw [wl_get hq, cel_4 hsq]) rfl (by rw [wl_get hqv, cel_obj hsqv]) hcl hvp.1 hd (fun H1 locs1 hP hD hS => ?_)
  rw [hset] at hP hD
  exact hh p l e Rm s m args below meth c A H1 locs1 D dA ad0 ad ls C K ⟨hP, hD, hS, h.2.2.2.1, h.2.2.2.2.1, pok_mupr h.2.2.2.2.2.1 hkn ⟨by omega, hvn⟩, h.2.2.2.2.2.2⟩ hl hL hn (cons_ok (cons_ok (cons_ok hs).2).2).2
theorem ev_oinit {M : MD} {n0 n1 : Nat} {r : Option V × Mem × Mem} {pc n : Nat} {ρ σ : Mem} {L st : List V} {k : Int} {idx : Nat} (hd : decode M.2.1 pc = .ok (.invokespecial idx, 3)) (hw : Cond.methodLink M.1 idx Lib.objectInit ∈ WS) (hw2 : Cond.instanceMethod Lib.objectInit ∈ WS) (hw3 : Cond.code Lib.objectInit ⟨#[0xb1]⟩ 1 none ∈ WS) (h0 : 0 ≤ k) (hM : 1 ≤ M.2.2.2.2.1 ∧ 20 ≤ M.2.2.2.2.2.1) (hst : st.length ≤ 4) (hh : Ev M n0 n1 r (pc + 3) (n) (ρ) (σ) (L) (st)) : Ev M n0 n1 r (pc) (n) (ρ) (σ) (L) ((2, k) :: st) := by
  intro p l e Rm s m args below meth c A H locs D dA ad0 ad ls C K h hl hL hn hs
  have hx := C.1
  have hb := C.2.1
  have hts := C.2.2.2.2.2.1
  rw [List.map_cons, rv_ref h0]
  refine W.objInit hx hb C.2.2.2.2.1 (hts _ hw) (hts _ hw2) (hts _ hw3) rfl (by show ls.size = c.maxLocals; rw [C.2.2.2.1]; exact hl.1) rfl hd (by have := C.2.2.2.2.2.2.2.1; omega) (by have h1 := C.2.2.2.2.2.2.2.2.1; have h2 := cat_sum (ad := ad) hst; show 2 * 0 + _ + 12 ≤ _; omega) ?_
  exact hh p l e Rm s m args below meth c A H locs D dA ad0 ad ls C K h hl hL hn (cons_ok hs).2
def scrX (N : Nat) (xs : Nat → Int32) : State → (Nat → Prop) → (Nat → Nat) → Prop := fun s A ad0 => va_X (ad0 300000) N xs s s.heap ∧ ad0 300000 < s.heap.size ∧ ¬ A (ad0 300000)
theorem ev_scl {M : MD} {n0 n1 : Nat} {r : Option V × Mem × Mem} {pc n : Nat} {ρ σ : Mem} {L st : List V} {N : Nat} {xs : Nat → Int32} (hd : decode M.2.1 pc = .ok (.arraylength, 1)) (hex : M.2.2.2.2.2.2.2 = scrX N xs) (hN : (N : Int) ≤ 2147483647) (hh : Ev M n0 n1 r (pc + 1) (n) (ρ) (σ) (L) ((0, (N : Int)) :: st)) : Ev M n0 n1 r (pc) (n) (ρ) (σ) (L) ((3, 200000) :: st) := by
  intro p l e Rm s m args below meth c A H locs D dA ad0 ad ls C K h hl hL hn hs
  have hx := C.1
  have hb := C.2.1
  have hX := K.2.2.2.2
  rw [hex] at hX
  have h2 := hh p l e Rm s m args below meth c A H locs D dA ad0 ad ls C K h hl hL hn (ok_cons (show okv n (0, (N : Int)) from ⟨by omega, hN⟩) (cons_ok hs).2)
  rw [List.map_cons, show rv ad (3, 200000) = .ref (ad 300000) from rfl, h.2.2.2.2.1 _ (by omega)]
  exact va_slen hx hb hX.1 hX.2.1 hX.2.2 h.2.2.1 hd h2
theorem ev_scld {M : MD} {n0 n1 : Nat} {r : Option V × Mem × Mem} {pc n : Nat} {ρ σ : Mem} {L st : List V} {α : Type} {X : Option α} {q : α} {i : Int} {N : Nat} {xs : Nat → Int32} (hd : decode M.2.1 pc = .ok (.iaload, 1)) (hex : M.2.2.2.2.2.2.2 = scrX N xs) (hf : chk (0 ≤ i ∧ i < N) X = some q) (hh : X = some q → Ev M n0 n1 r (pc + 1) (n) (ρ) (σ) (L) ((0, (xs i.toNat).toInt) :: st)) : Ev M n0 n1 r (pc) (n) (ρ) (σ) (L) ((0, i) :: (3, 200000) :: st) := by
  intro p l e Rm s m args below meth c A H locs D dA ad0 ad ls C K h hl hL hn hs
  have hx := C.1
  have hb := C.2.1
  obtain ⟨hi, hf⟩ := chk_of hf
  have hX := K.2.2.2.2
  rw [hex] at hX
  have hvp := in32_vp (cons_ok hs).1 hi.1 hi.2
  have h2 := hh hf p l e Rm s m args below meth c A H locs D dA ad0 ad ls C K h hl hL hn (ok_cons (show okv n (0, (xs i.toNat).toInt) from ti32 _) (cons_ok (cons_ok hs).2).2)
  rw [List.map_cons, show rv ad (0, (xs i.toNat).toInt) = .int (Int32.ofInt (xs i.toNat).toInt) from rfl, Int32.ofInt_toInt] at h2
  rw [List.map_cons, List.map_cons, show rv ad (3, 200000) = .ref (ad 300000) from rfl, h.2.2.2.2.1 _ (by omega)]
  refine va_sld hx hb hX.1 hX.2.1 hX.2.2 h.2.2.1 hvp.1 hd ?_
  rw [hvp.2]
  exact h2
def mx (x y : Int) : Int := if x < y then y else x
theorem ev_mx {M : MD} {n0 n1 : Nat} {r : Option V × Mem × Mem} {pc n : Nat} {ρ σ : Mem} {L st : List V} {idx : Nat} {x y : Int} (hd : decode M.2.1 pc = .ok (.invokestatic idx, 3)) (hw : Cond.methodLink M.1 idx Lib.Math.max.name ∈ WS) (hw2 : Cond.static Lib.Math.max.name ∈ WS ∧ Cond.initialized "java/lang/Math" ∈ WS ∧ Cond.code Lib.Math.max.name Lib.Math.max.code 2 (some .int) ∈ WS) (hM : 1 ≤ M.2.2.2.2.1 ∧ 21 ≤ M.2.2.2.2.2.1) (hst : st.length ≤ 4) (hh : Ev M n0 n1 r (pc + 3) (n) (ρ) (σ) (L) ((0, mx x y) :: st)) : Ev M n0 n1 r (pc) (n) (ρ) (σ) (L) ((0, y) :: (0, x) :: st) := by
  intro p l e Rm s m args below meth c A H locs D dA ad0 ad ls C K h hl hL hn hs
  have hx := C.1
  have hb := C.2.1
  have hts := C.2.2.2.2.2.1
  have hv : okv n (0, mx x y) := by
    unfold mx
    split
    · exact (cons_ok hs).1
    · exact (cons_ok (cons_ok hs).2).1
  have h2 := hh p l e Rm s m args below meth c A H locs D dA ad0 ad ls C K h hl hL hn (ok_cons hv (cons_ok (cons_ok hs).2).2)
  refine va_mmax hx hb (by show c.maxLocals = ls.size; rw [C.2.2.2.1]; exact hl.1.symm) C.2.2.2.2.1 (hts _ hw) (hts _ hw2.1) (hts _ hw2.2.1) (hts _ hw2.2.2) (by have := C.2.2.2.2.2.2.2.1; omega) (by have h1 := C.2.2.2.2.2.2.2.2.1; have h2 := cat_sum (ad := ad) hst; omega) ?_ ?_ hd ?_
  · have := C.2.2.2.2.2.2.2.2.2.1; have := h.2.2.2.2.2.2.1; have := h.2.2.2.2.2.2.2.1; omega
  · have := C.2.2.2.2.2.2.2.2.2.2.1; have := szL_mono h.2.2.2.2.2.2.1; have := szL_mono h.2.2.2.2.2.2.2.1; omega
  · have e : (if Int32.ofInt x < Int32.ofInt y then Int32.ofInt y else Int32.ofInt x) = Int32.ofInt (mx x y) := by
      unfold mx
      by_cases hc : x < y
      · rw [if_pos hc, if_pos ((lt32 (cons_ok (cons_ok hs).2).1 (cons_ok hs).1).mpr hc)]
      · rw [if_neg hc, if_neg (fun z => hc ((lt32 (cons_ok (cons_ok hs).2).1 (cons_ok hs).1).mp z))]
    rw [e]
    exact h2
def mn (x y : Int) : Int := if y < x then y else x
theorem ev_mn {M : MD} {n0 n1 : Nat} {r : Option V × Mem × Mem} {pc n : Nat} {ρ σ : Mem} {L st : List V} {idx : Nat} {x y : Int} (hd : decode M.2.1 pc = .ok (.invokestatic idx, 3)) (hw : Cond.methodLink M.1 idx Lib.Math.min.name ∈ WS) (hw2 : Cond.static Lib.Math.min.name ∈ WS ∧ Cond.initialized "java/lang/Math" ∈ WS ∧ Cond.code Lib.Math.min.name Lib.Math.min.code 2 (some .int) ∈ WS) (hM : 1 ≤ M.2.2.2.2.1 ∧ 21 ≤ M.2.2.2.2.2.1) (hst : st.length ≤ 4) (hh : Ev M n0 n1 r (pc + 3) (n) (ρ) (σ) (L) ((0, mn x y) :: st)) : Ev M n0 n1 r (pc) (n) (ρ) (σ) (L) ((0, y) :: (0, x) :: st) := by
  intro p l e Rm s m args below meth c A H locs D dA ad0 ad ls C K h hl hL hn hs
  have hx := C.1
  have hb := C.2.1
  have hts := C.2.2.2.2.2.1
  have hv : okv n (0, mn x y) := by
    unfold mn
    split
    · exact (cons_ok hs).1
    · exact (cons_ok (cons_ok hs).2).1
  have h2 := hh p l e Rm s m args below meth c A H locs D dA ad0 ad ls C K h hl hL hn (ok_cons hv (cons_ok (cons_ok hs).2).2)
  refine va_mmin hx hb (by show c.maxLocals = ls.size; rw [C.2.2.2.1]; exact hl.1.symm) C.2.2.2.2.1 (hts _ hw) (hts _ hw2.1) (hts _ hw2.2.1) (hts _ hw2.2.2) (by have := C.2.2.2.2.2.2.2.1; omega) (by have h1 := C.2.2.2.2.2.2.2.2.1; have h2 := cat_sum (ad := ad) hst; omega) ?_ ?_ hd ?_
  · have := C.2.2.2.2.2.2.2.2.2.1; have := h.2.2.2.2.2.2.1; have := h.2.2.2.2.2.2.2.1; omega
  · have := C.2.2.2.2.2.2.2.2.2.2.1; have := szL_mono h.2.2.2.2.2.2.1; have := szL_mono h.2.2.2.2.2.2.2.1; omega
  · have e : (if Int32.ofInt y < Int32.ofInt x then Int32.ofInt y else Int32.ofInt x) = Int32.ofInt (mn x y) := by
      unfold mn
      by_cases hc : y < x
      · rw [if_pos hc, if_pos ((lt32 (cons_ok hs).1 (cons_ok (cons_ok hs).2).1).mpr hc)]
      · rw [if_neg hc, if_neg (fun z => hc ((lt32 (cons_ok hs).1 (cons_ok (cons_ok hs).2).1).mp z))]
    rw [e]
    exact h2
theorem ev_invV_v {M : MD} {n0 : Nat} {r : Option V × Mem × Mem} {pc n : Nat} {ρ σ τ : Mem} {L st : List V} {idx : Nat} {y : MethodName} {My : MD} {k : Int} {av : List V} {v : V} (hd : decode M.2.1 pc = .ok (.invokevirtual idx, 3)) (hw : ML M.1 idx y My) (hv : MLv y) {ci nf N : Nat} {T : u_T} (hcl : vwCl[ci]? = some (y.cls, T, N)) (hsh : shp k.toNat = (ci + 5, nf)) (h0 : 0 ≤ k) (hkn : k < n) (hsg : (parseMethodDescriptor y.desc).map (fun d => d.parameters.length) = some av.length) (hR : rmOk M My) (hst : st.length ≤ 4) (hm : Ms y My n n ((2, k) :: av) ρ σ (some v, ρ, τ)) (hh : Ev M n0 n r (pc + 3) n ρ (τ) L (v :: st)) : Ev M n0 n r (pc) n ρ (σ) L (av.reverse ++ (2, k) :: st) := ev_invV hd hw hv hcl hsh h0 hkn hsg hR hst hm ⟨Nat.le_refl _, Nat.le_refl _⟩ hh
theorem ev_invV_n {M : MD} {n0 : Nat} {r : Option V × Mem × Mem} {pc n : Nat} {ρ σ τ : Mem} {L st : List V} {idx : Nat} {y : MethodName} {My : MD} {k : Int} {av : List V} (hd : decode M.2.1 pc = .ok (.invokevirtual idx, 3)) (hw : ML M.1 idx y My) (hv : MLv y) {ci nf N : Nat} {T : u_T} (hcl : vwCl[ci]? = some (y.cls, T, N)) (hsh : shp k.toNat = (ci + 5, nf)) (h0 : 0 ≤ k) (hkn : k < n) (hsg : (parseMethodDescriptor y.desc).map (fun d => d.parameters.length) = some av.length) (hR : rmOk M My) (hst : st.length ≤ 4) (hm : Ms y My n n ((2, k) :: av) ρ σ (none, ρ, τ)) (hh : Ev M n0 n r (pc + 3) n ρ (τ) L (st)) : Ev M n0 n r (pc) n ρ (σ) L (av.reverse ++ (2, k) :: st) := ev_invV hd hw hv hcl hsh h0 hkn hsg hR hst hm ⟨Nat.le_refl _, Nat.le_refl _⟩ hh
theorem ev_invS_v {M : MD} {n0 : Nat} {r : Option V × Mem × Mem} {pc n : Nat} {ρ σ τ : Mem} {L st : List V} {idx : Nat} {y : MethodName} {My : MD} {av : List V} {v : V} (hd : decode M.2.1 pc = .ok (.invokestatic idx, 3)) (hw : ML M.1 idx y My) (hv : Cond.static y ∈ WS) (hsg : (parseMethodDescriptor y.desc).map (fun d => d.parameters.length) = some av.length) (hR : rmOk M My) (hst : st.length ≤ 4) (hm : Ms y My n n (av) ρ σ (some v, ρ, τ)) (hh : Ev M n0 n r (pc + 3) n ρ (τ) L (v :: st)) : Ev M n0 n r (pc) n ρ (σ) L (av.reverse ++ st) := ev_invS hd hw hv hsg hR hst hm ⟨Nat.le_refl _, Nat.le_refl _⟩ hh
theorem ev_invS_n {M : MD} {n0 : Nat} {r : Option V × Mem × Mem} {pc n : Nat} {ρ σ τ : Mem} {L st : List V} {idx : Nat} {y : MethodName} {My : MD} {av : List V} (hd : decode M.2.1 pc = .ok (.invokestatic idx, 3)) (hw : ML M.1 idx y My) (hv : Cond.static y ∈ WS) (hsg : (parseMethodDescriptor y.desc).map (fun d => d.parameters.length) = some av.length) (hR : rmOk M My) (hst : st.length ≤ 4) (hm : Ms y My n n (av) ρ σ (none, ρ, τ)) (hh : Ev M n0 n r (pc + 3) n ρ (τ) L (st)) : Ev M n0 n r (pc) n ρ (σ) L (av.reverse ++ st) := ev_invS hd hw hv hsg hR hst hm ⟨Nat.le_refl _, Nat.le_refl _⟩ hh
theorem ev_invSN_v {M : MD} {n0 : Nat} {r : Option V × Mem × Mem} {pc n : Nat} {ρ σ τ : Mem} {L st : List V} {idx : Nat} {y : MethodName} {My : MD} {av : List V} {v : V} (hd : decode M.2.1 pc = .ok (.invokestatic idx, 3)) (hw : MLn M.1 idx y My) (hv : Cond.static y ∈ WS) (hsg : (parseMethodDescriptor y.desc).map (fun d => d.parameters.length) = some av.length) (hR : rmOk M My) (hst : st.length ≤ 4) (hm : Ms y My n n (av) ρ σ (some v, ρ, τ)) (hh : Ev M n0 n r (pc + 3) n ρ (τ) L (v :: st)) : Ev M n0 n r (pc) n ρ (σ) L (av.reverse ++ st) := ev_invSN hd hw hv hsg hR hst hm ⟨Nat.le_refl _, Nat.le_refl _⟩ hh
theorem ev_invSN_n {M : MD} {n0 : Nat} {r : Option V × Mem × Mem} {pc n : Nat} {ρ σ τ : Mem} {L st : List V} {idx : Nat} {y : MethodName} {My : MD} {av : List V} (hd : decode M.2.1 pc = .ok (.invokestatic idx, 3)) (hw : MLn M.1 idx y My) (hv : Cond.static y ∈ WS) (hsg : (parseMethodDescriptor y.desc).map (fun d => d.parameters.length) = some av.length) (hR : rmOk M My) (hst : st.length ≤ 4) (hm : Ms y My n n (av) ρ σ (none, ρ, τ)) (hh : Ev M n0 n r (pc + 3) n ρ (τ) L (st)) : Ev M n0 n r (pc) n ρ (σ) L (av.reverse ++ st) := ev_invSN hd hw hv hsg hR hst hm ⟨Nat.le_refl _, Nat.le_refl _⟩ hh
