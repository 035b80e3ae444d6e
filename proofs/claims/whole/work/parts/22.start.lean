/-! FROM THE ENTRY: the machine at the law's start, both objects made, then the law's loop -/
def sg0 : Mem := sc_X11_init_182 (sc_X10_init_1 (fun _ _ => 0))
set_option maxRecDepth 20000 in
theorem rho_made : rc_X11_init_182 (rc_X10_init_1 (fun _ _ => -1)) = rho := rfl
theorem wk_L_7 : Cond.classLink RL 7 RX10 ∈ WS := inWS 111 (by decide +kernel) (by decide +kernel)
theorem wk_L_10 : Cond.classLink RL 10 RX11 ∈ WS := inWS 1298 (by decide +kernel) (by decide +kernel)
theorem wi_X10 : Cond.instantiable RX10 14 ∈ WS := inWS 112 (by decide +kernel) (by decide +kernel)
theorem wz_X10 : Cond.initialized RX10 ∈ WS := inWS 91 (by decide +kernel) (by decide +kernel)
theorem mi_X10_init : Cond.instanceMethod yX10_init ∈ WS := inWS 114 (by decide +kernel) (by decide +kernel)
theorem wi_X11 : Cond.instantiable RX11 45 ∈ WS := inWS 1299 (by decide +kernel) (by decide +kernel)
theorem wz_X11 : Cond.initialized RX11 ∈ WS := inWS 101 (by decide +kernel) (by decide +kernel)
theorem mi_X11_init : Cond.instanceMethod yX11_init ∈ WS := inWS 1301 (by decide +kernel) (by decide +kernel)
theorem ml_L_9 : ML RL 9 yX10_init M_X10_init := ⟨inWS 113 (by decide +kernel) (by decide +kernel), inWS 91 (by decide +kernel) (by decide +kernel), inWS 115 (by decide +kernel) (by decide +kernel), by decide +kernel⟩
theorem ml_L_12 : ML RL 12 yX11_init M_X11_init := ⟨inWS 1300 (by decide +kernel) (by decide +kernel), inWS 101 (by decide +kernel) (by decide +kernel), inWS 1302 (by decide +kernel) (by decide +kernel), by decide +kernel⟩
set_option maxHeartbeats 4000000 in
set_option maxRecDepth 20000 in
theorem e_L_start (N : Nat) (xs : Nat → Int32) (hN : (N : Int) ≤ 2147483647) {q : Int × Mem} (h : f_L_law N xs sg0 = some q) : Ev (M_L_law N xs) 0 218 (some (0, q.1), rho, q.2) 0 0 (fun _ _ => -1) (fun _ _ => 0) [(3, 200000), (9, 0), (9, 0), (9, 0)] [] := by
  refine ev_new dL_law_0 cf_X10 wk_L_7 wi_X10 wz_X10 sp0 (by decide) ?_
  show Ev _ _ _ _ 3 1 _ _ _ [(2, (0 : Int))]
  refine ev_dup dL_law_3 (show (2 : Nat) ≠ 1 by decide) ?_
  refine ev_invI (k := 0) (av := []) (st := [(2, (0 : Int))]) dL_law_4 ml_L_9 mi_X10_init rfl (by decide) rfl rfl ⟨Nat.le_of_ble_eq_true rfl, Nat.le_of_ble_eq_true rfl⟩ (Nat.le_of_ble_eq_true rfl) (c_X10_init_1 _ _) ⟨by decide, by decide⟩ ?_
  show Ev _ _ _ _ 7 181 (rc_X10_init_1 _) (sc_X10_init_1 _) _ [(2, (0 : Int))]
  refine ev_astore_n dL_law_7 rfl (Nat.le_of_ble_eq_true rfl) (by decide) ?_
  refine ev_new dL_law_8 cf_X11 wk_L_10 wi_X11 wz_X11 sp181 (by decide) ?_
  show Ev _ _ _ _ 11 182 _ _ _ [(2, (181 : Int))]
  refine ev_dup dL_law_11 (show (2 : Nat) ≠ 1 by decide) ?_
  refine ev_invI (k := 181) (av := []) (st := [(2, (181 : Int))]) dL_law_12 ml_L_12 mi_X11_init rfl (by decide) rfl rfl ⟨Nat.le_of_ble_eq_true rfl, Nat.le_of_ble_eq_true rfl⟩ (Nat.le_of_ble_eq_true rfl) (c_X11_init_182 _ _) ⟨by decide, by decide⟩ ?_
  show Ev _ _ _ _ 15 218 (rc_X11_init_182 _) (sc_X11_init_182 _) _ [(2, (181 : Int))]
  refine ev_astore_n dL_law_15 rfl (Nat.le_of_ble_eq_true rfl) (by decide) ?_
  rw [rho_made]
  exact e_L_law N xs hN sg0 h
theorem sbn_forget {s t : State} {L : List Loc} {k n k2 n2 : Nat} (h : s.sameButNew t L k n) (hL : ∀ q ∈ L, s.heap.size ≤ q.base) (h1 : k ≤ k2) (h2 : n ≤ n2) : s.sameButNew t [] k2 n2 := by
  obtain ⟨g1, g2, g3, g4, g5, g6⟩ := h
  refine ⟨g1, g2, by omega, g4, by omega, fun a c hc => ?_⟩
  obtain ⟨c', e1, e2, e3, e4⟩ := g6 a c hc
  refine ⟨c', e1, e2, e3, fun i _ => e4 i fun hm => ?_⟩
  have h3 := hL _ hm
  have h4 : a < s.heap.size := (Array.getElem?_eq_some_iff.mp hc).1
  exact absurd h4 (Nat.not_lt.mpr h3)
def tmS (i : Nat) : Term := .string "ClashDays$Tape" (cpST.getD i 0)
theorem inN {c : Cond} (h : c ∈ flatC (Jvm.Cond.and given_1 narrow_1)) {args : Array Value} {s : State} (hg : (Jvm.Cond.and given_1 narrow_1).before args s = true) : c.before args s = true := flat_of_before _ hg _ h
set_option maxRecDepth 20000 in
set_option maxHeartbeats 4000000 in
theorem strings_at {args : Array Value} {s : State} {A : Nat → Prop} (hg : (Jvm.Cond.and given_1 narrow_1).before args s = true) (hA : ∀ a : Nat, a < s.heap.size → ¬ A a) : ∃ adK adV : Nat → Nat, vk_S nST lenST bytST adK adV A s s.heap ∧ ∀ i : Nat, i < nST → (tmS i).eval args s none [] s = some (.ref (adK i)) := by
  refine vk_Sof (tm := tmS) (by decide +kernel) (fun i hi => inN ((by decide +kernel : ∀ i, i < nST → Cond.exactly (tmS i) "java/lang/String" ∈ flatC (Jvm.Cond.and given_1 narrow_1)) i hi) hg)
    (fun i hi => inN ((by decide +kernel : ∀ i, i < nST → Cond.eq (.field (tmS i) "java/lang/String" "coder" "B") (.int 0) ∈ flatC (Jvm.Cond.and given_1 narrow_1)) i hi) hg)
    (fun i hi => inN ((by decide +kernel : ∀ i, i < nST → Cond.arrayOf (.field (tmS i) "java/lang/String" "value" "[B") .byte ∈ flatC (Jvm.Cond.and given_1 narrow_1)) i hi) hg)
    (fun i hi => inN ((by decide +kernel : ∀ i, i < nST → Cond.eq (.length (.field (tmS i) "java/lang/String" "value" "[B")) (.int (Int32.ofNat (lenST.getD i 0))) ∈ flatC (Jvm.Cond.and given_1 narrow_1)) i hi) hg)
    (fun i hi j hj => inN ((by decide +kernel : ∀ i, i < nST → ∀ j, j < lenST.getD i 0 → Cond.eq (.elem (.field (tmS i) "java/lang/String" "value" "[B") (.int (Int32.ofNat j))) (.int ((bytST.getD i []).getD j 0)) ∈ flatC (Jvm.Cond.and given_1 narrow_1)) i hi j hj) hg)
    (fun i j hi hj hij => ?_) hA
  rcases (by decide +kernel : ∀ i, i < nST → ∀ j, j < nST → i ≠ j → Cond.not (.eq (tmS i) (tmS j)) ∈ flatC (Jvm.Cond.and given_1 narrow_1) ∨ Cond.not (.eq (tmS j) (tmS i)) ∈ flatC (Jvm.Cond.and given_1 narrow_1)) i hi j hj hij with h | h
  · exact Or.inl (inN h hg)
  · exact Or.inr (inN h hg)
theorem prim_at {args : Array Value} {s : State} (ty : FieldType) (hty : ty = .int ∨ ty = .long ∨ ty = .boolean ∨ ty = .char) (h : (Cond.arrayClass ty).before args s = true) : ∃ cA : ClassId, ArrOfT s cA ty ∧ va_RA s cA ty := by
  obtain ⟨c, k, comp, h1, h2, h3⟩ := Cond.arrayClass_spec h
  refine ⟨c, fun n z => ⟨(fun k h => by cases h), k, h2, comp, h3⟩, ?_⟩
  rcases hty with q | q | q | q <;> subst q <;> exact h1
theorem wkA_at {args : Array Value} {s : State} (h : (Cond.arrayOver (.object "ClashDays$Week")).before args s = true) : ∃ cA : ClassId, ArrOfT s cA (.object "ClashDays$Week") ∧ va_RA s cA (.object "ClashDays$Week") := by
  obtain ⟨comp, c, k, h1, h2, h3, h4, h5⟩ := Cond.arrayOver_spec h
  exact ⟨c, fun n z => ⟨(fun k h => by cases h), k, h3, comp, h4⟩, k, comp, h3, h4, h1, h5⟩
def pick {α : Type} (d : α) (l : List α) (k : Nat) : α := l.getD k d
/-! THE CLAIM OUT OF ONE WALK OF THE LAW'S BODY. Your part is whole_start (and what it stands on); all else here is the same for every law, but numbers. -/
def R_law : String := "ClashDaysLaw"
def lw_P (b : Addr) (xs : List Int32) (args : Array Value) (s : State) : Prop := args = #[.ref b] ∧ s.IntsAt b xs ∧ xs.length ≤ 3072 ∧ (Jvm.Cond.and given_1 narrow_1).before args s = true
def lw_Q (_ : Array Value) (s : State) (o : Outcome) (t : State) : Prop := o = .returned (some (.int 1)) ∧ Framed s o t [] 600000 7302249
def lw_Z (below : List Frame) (a : Array Value) (s : State) : State → Prop := fun t => ∃ o, t.status = .running ∧ Ended t below o ∧ lw_Q a s o t
/-- the law's own end, with 1 on the stack, nothing written that was there before, its room as the claim has it -/
theorem lw_ret {p : Program} {l : Launch} {e : Env} {s : State} {m : MethodId} {below : List Frame} {meth : Method} {c : Code} {b : Nat} (hx : p.tables.exec = Jvm.exec) (hb : c.code = code) (hr : meth.sig.returnType = ret) (hlocks : meth.locks = false) {pc : Nat} {H : Heap} {ls : Array Slot} (hdg : decode code pc = .ok (.ireturn, 1)) : W p l e room_1 s m #[Value.ref b] below meth c H [] 600000 7302249 (lw_Z below #[Value.ref b] s) (F0 m pc ls [.int 1]) := by
  intro T hT X
  obtain ⟨fs, hret, hrun, hended, hW, hframe⟩ := X.leave (v := some (.int 1)) (hlocks := hlocks) (fun h => by rw [hr] at h; cases h)
  have hmeth' : T.vm.method? m = some meth := X.method'
  refine ⟨T.setFrames fs, ?_, .returned (some (.int 1)), hrun, hended, rfl, ⟨_, rfl⟩, hW, hframe⟩
  jvm_step X.here [X.here.top, hx, hb, hdg, hmeth', hr, ret, narrow_b1]
  (try refine ⟨rfl, ?_⟩); (try refine ⟨rfl, ?_⟩)
  first | (intro acts; rw [hret _ acts rfl rfl rfl]) | rw [hret _ _ rfl rfl rfl]
  exact Steps.refl _
/-- what holds at the law's entry: the machine, the code, the tables' words (any of lw_tbl by 'hts w (by decide +kernel)'), the script of L ints xs at the cell b, what the Statement gives of the start (any of its parts by flat_of_before) -/
def lw_At (p : Program) (s : State) (m : MethodId) (meth : Method) (c : Code) (b L : Nat) (xs : Nat → Int32) : Prop :=
  p.tables.exec = Jvm.exec ∧ c.code = code ∧ meth.sig.returnType = ret ∧ c.maxLocals = 4 ∧ s.vm.findClass R_law = some m.cls ∧ (∀ w ∈ lw_tbl, w.before #[Value.ref b] s = true) ∧ va_X b L xs s s.heap ∧ b < s.heap.size ∧ meth.locks = false ∧ (Jvm.Cond.and given_1 narrow_1).before #[Value.ref b] s = true
set_option maxHeartbeats 4000000 in
set_option maxRecDepth 20000 in
theorem law_start {p : Program} {e : Env} {s : State} {m : MethodId} {below : List Frame} {meth : Method} {c : Code} (l : Launch) {b L : Nat} {xs : Nat → Int32} (hL : L ≤ 3072) (C0 : lw_At p s m meth c b L xs) {τ : Mem} (hf : f_L_law L xs sg0 = some (1, τ)) : W p l e room_1 s m #[Value.ref b] below meth c s.heap [] 0 0 (lw_Z below #[Value.ref b] s) (entryFrame m ([Value.ref b] : List Value).toArray 4) := by
  obtain ⟨hx, hb, hr, hml, hown, hts, hX, hbl, hlocks, hgv⟩ := id C0
  have hA : ∀ a : Nat, a < s.heap.size → ¬ (fun q => s.heap.size ≤ q) a := fun a h1 h2 => by omega
  obtain ⟨adK, adV, hS1, hS2⟩ := strings_at (A := fun q => s.heap.size ≤ q) hgv hA
  obtain ⟨c0, i0, k0⟩ := u_known (C := RX0) (T := TX0) (N := 14) (n := 14) (ws := lw_tbl) hts (fun w hw => WS_tbl (cf_X0.2.1 w hw)) (hts _ (List.mem_of_getElem? (i := 120) (by decide +kernel)))
  obtain ⟨c1, i1, k1⟩ := u_known (C := RX1) (T := TX1) (N := 10) (n := 10) (ws := lw_tbl) hts (fun w hw => WS_tbl (cf_X1.2.1 w hw)) (hts _ (List.mem_of_getElem? (i := 375) (by decide +kernel)))
  obtain ⟨c2, i2, k2⟩ := u_known (C := RX3) (T := TX3) (N := 14) (n := 14) (ws := lw_tbl) hts (fun w hw => WS_tbl (cf_X3.2.1 w hw)) (hts _ (List.mem_of_getElem? (i := 250) (by decide +kernel)))
  obtain ⟨c3, i3, k3⟩ := u_known (C := RX4) (T := TX4) (N := 1) (n := 1) (ws := lw_tbl) hts (fun w hw => WS_tbl (cf_X4.2.1 w hw)) (hts _ (List.mem_of_getElem? (i := 244) (by decide +kernel)))
  obtain ⟨c4, i4, k4⟩ := u_known (C := RX5) (T := TX5) (N := 9) (n := 9) (ws := lw_tbl) hts (fun w hw => WS_tbl (cf_X5.2.1 w hw)) (hts _ (List.mem_of_getElem? (i := 412) (by decide +kernel)))
  obtain ⟨c5, i5, k5⟩ := u_known (C := RX6) (T := TX6) (N := 3) (n := 3) (ws := lw_tbl) hts (fun w hw => WS_tbl (cf_X6.2.1 w hw)) (hts _ (List.mem_of_getElem? (i := 227) (by decide +kernel)))
  obtain ⟨c6, i6, k6⟩ := u_known (C := RX7) (T := TX7) (N := 5) (n := 5) (ws := lw_tbl) hts (fun w hw => WS_tbl (cf_X7.2.1 w hw)) (hts _ (List.mem_of_getElem? (i := 205) (by decide +kernel)))
  obtain ⟨c7, i7, k7⟩ := u_known (C := RX8) (T := TX8) (N := 9) (n := 9) (ws := lw_tbl) hts (fun w hw => WS_tbl (cf_X8.2.1 w hw)) (hts _ (List.mem_of_getElem? (i := 312) (by decide +kernel)))
  obtain ⟨c8, i8, k8⟩ := u_known (C := RX9) (T := TX9) (N := 4) (n := 4) (ws := lw_tbl) hts (fun w hw => WS_tbl (cf_X9.2.1 w hw)) (hts _ (List.mem_of_getElem? (i := 303) (by decide +kernel)))
  obtain ⟨c9, i9, k9⟩ := u_known (C := RX10) (T := TX10) (N := 14) (n := 14) (ws := lw_tbl) hts (fun w hw => WS_tbl (cf_X10.2.1 w hw)) (hts _ (List.mem_of_getElem? (i := 112) (by decide +kernel)))
  obtain ⟨c10, i10, k10⟩ := u_known (C := RX11) (T := TX11) (N := 45) (n := 45) (ws := lw_tbl) hts (fun w hw => WS_tbl (cf_X11.2.1 w hw)) (hts _ (List.mem_of_getElem? (i := 1299) (by decide +kernel)))
  obtain ⟨a0, ha0⟩ := prim_at .int (.inl rfl) (hts _ (List.mem_of_getElem? (i := 203) (by decide +kernel)))
  obtain ⟨a1, ha1⟩ := prim_at .long (.inr (.inl rfl)) (hts _ (List.mem_of_getElem? (i := 242) (by decide +kernel)))
  obtain ⟨a2, ha2⟩ := prim_at .boolean (.inr (.inr (.inl rfl))) (hts _ (List.mem_of_getElem? (i := 358) (by decide +kernel)))
  obtain ⟨a3, ha3⟩ := prim_at .char (.inr (.inr (.inr rfl))) (hts _ (List.mem_of_getElem? (i := 1440) (by decide +kernel)))
  obtain ⟨a4, ha4⟩ := wkA_at (hts _ (List.mem_of_getElem? (i := 311) (by decide +kernel)))
  have hK : va_K (pick c0 [c0, c1, c2, c3, c4, c5, c6, c7, c8, c9, c10], pick i0 [i0, i1, i2, i3, i4, i5, i6, i7, i8, i9, i10]) vwCl (TY (pick a0 [a0, a1, a2, a3, a4])) s := by
    refine ⟨fun k q hq => ?_, fun k q hq => ?_⟩
    · match k, hq with
      | 0, hq => cases hq; exact k0
      | 1, hq => cases hq; exact k1
      | 2, hq => cases hq; exact k2
      | 3, hq => cases hq; exact k3
      | 4, hq => cases hq; exact k4
      | 5, hq => cases hq; exact k5
      | 6, hq => cases hq; exact k6
      | 7, hq => cases hq; exact k7
      | 8, hq => cases hq; exact k8
      | 9, hq => cases hq; exact k9
      | 10, hq => cases hq; exact k10
      | k + 11, hq => simp [vwCl] at hq
    · match k, hq with
      | 0, hq => cases hq; exact ha0
      | 1, hq => cases hq; exact ha1
      | 2, hq => cases hq; exact ha2
      | 3, hq => cases hq; exact ha3
      | 4, hq => cases hq; exact ha4
      | k + 5, hq => simp [TY] at hq
  have hCS : va_Z "java/lang/String" "COMPACT_STRINGS" "Z" (.int 1) (fun q => s.heap.size ≤ q) s s.heap := va_Zof (hts _ (List.mem_of_getElem? (i := 754) (by decide +kernel))) (hts _ (List.mem_of_getElem? (i := 105) (by decide +kernel))) (va_eqi (inN (by decide +kernel) hgv)) hA
  have hSF := va_Zqof (C := "jdk/internal/util/Preconditions") (n := "SIOOBE_FORMATTER") (d := "Ljava/util/function/BiFunction;") (hts _ (List.mem_of_getElem? (i := 770) (by decide +kernel))) (hts _ (List.mem_of_getElem? (i := 107) (by decide +kernel))) (inN (by decide +kernel) hgv) hA
  obtain ⟨f0, f1, hSF⟩ : ∃ f0 f1 : Nat, va_Z "jdk/internal/util/Preconditions" "SIOOBE_FORMATTER" "Ljava/util/function/BiFunction;" (if f0 = 0 then .null else .ref f1) (fun q => s.heap.size ≤ q) s s.heap := by
    rcases hSF with h | ⟨t, h⟩
    · exact ⟨0, 0, h⟩
    · exact ⟨1, t, h⟩
  obtain ⟨ad0, had⟩ : ∃ ad0 : Nat → Nat, ad0 = fun k => if k = 300000 then b else if k = 500000 then f0 else if k = 500001 then f1 else if 200000 ≤ k then adV (k - 200000) else adK (k - 100000) := ⟨_, rfl⟩
  have e1 : ∀ i, i < nST → ad0 (100000 + i) = adK i := fun i hi => by
    have : i < 8 := hi
    rw [had]
    simp only
    rw [if_neg (by omega), if_neg (by omega), if_neg (by omega), if_neg (by omega), show 100000 + i - 100000 = i by omega]
  have e2 : ∀ i, i < nST → ad0 (200000 + i) = adV i := fun i hi => by
    have : i < 8 := hi
    rw [had]
    simp only
    rw [if_neg (by omega), if_neg (by omega), if_neg (by omega), if_pos (by omega), show 200000 + i - 200000 = i by omega]
  have hSk : Sk ad0 (fun q => s.heap.size ≤ q) s s.heap := by
    refine ⟨⟨fun i hi => ?_, fun i j hi hj hij => ?_⟩, fun i hi => ?_, hCS, ?_, ?_, ?_⟩
    · simp only [e1 i hi, e2 i hi]
      exact hS1.1 i hi
    · simp only [e1 i hi, e1 j hj] at hij
      exact hS1.2 i j hi hj hij
    · rw [e1 i hi]
      refine ⟨?_, ?_⟩
      · have h9 := hts _ ((by decide +kernel : ∀ i, i < nST → Cond.stringRef "ClashDays$Tape" (cpST.getD i 0) (txST.getD i "") ∈ lw_tbl) i hi)
        simp only [Cond.before, Cond.holds, Cond.value] at h9 ⊢
        exact h9
      · rw [← hS2 i hi]
        exact Term.string_eval_of_vm (args := #[]) rfl
    · have g1 : ad0 500000 = f0 := by rw [had]; rfl
      have g2 : ad0 500001 = f1 := by rw [had]; rfl
      rw [g1, g2]
      exact hSF
    · exact va_AO.of (hts _ (List.mem_of_getElem? (i := 311) (by decide +kernel)))
    · intro q hq
      exact va_Nw.of rfl (hts _ ((by decide +kernel : ∀ q ∈ nwL, Cond.methodLinkNest q.1 q.2.1 q.2.2.1 q.2.2.2 ∈ lw_tbl) q hq))
  have hb3 : ad0 300000 = b := by rw [had]; rfl
  have hl := lv_entry ([.ref b]) (n := 4) (Nat.le_of_ble_eq_true rfl)
  rw [lg_entry_eq]
  generalize (lg_sl ([.ref b]) ++ List.replicate (4 - (lg_sl ([.ref b])).length) Slot.unset).toArray = ls at hl ⊢
  have hN : (L : Int) ≤ 2147483647 := by omega
  have key := e_L_start L xs hN hf p l e room_1 s m #[Value.ref b] below meth c (fun q => s.heap.size ≤ q) s.heap [] (pick c0 [c0, c1, c2, c3, c4, c5, c6, c7, c8, c9, c10], pick i0 [i0, i1, i2, i3, i4, i5, i6, i7, i8, i9, i10]) (pick a0 [a0, a1, a2, a3, a4]) ad0 ad0 ls
    ⟨hx, hb, hr, hml, hown, fun w hw => hts w (WS_tbl hw), hlocks, Nat.le_of_ble_eq_true rfl, Nat.le_of_ble_eq_true rfl, Nat.le_of_ble_eq_true rfl, (by decide +kernel : szL 218 - szL 0 ≤ room_1.slots), fun h => by cases h⟩
    ⟨hK, hSk, fun q hq => hq, fun k hk => absurd hk (Nat.not_lt_zero k), by rw [show (M_L_law L xs).2.2.2.2.2.2.2 = scrX L xs from rfl]; unfold scrX; rw [hb3]; exact ⟨hX, hbl, Nat.not_le.mpr hbl⟩⟩
    ⟨fun k q h => by simp [wl] at h, ⟨fun i j p q h => by simp [wl] at h, fun k q h => by simp [wl] at h⟩, va_S.rf, fun _ _ => rfl, fun _ _ => rfl, ⟨(fun k j => by split; exact (show in64 0 by decide); exact (show in32 0 by decide)), fun k j => ⟨(show (-1 : Int) ≤ -1 by decide), (show (-1 : Int) < ((0 : Nat) : Int) by decide)⟩, fun k j _ => ⟨rfl, rfl⟩⟩, Nat.le_refl _, by decide, by decide⟩
    (by rw [show lz ad0 0 [(3, 200000), (9, 0), (9, 0), (9, 0)] = [(0, .ref (ad0 300000))] from rfl, hb3]; exact hl)
    (fun v hv => by
      rcases List.mem_cons.mp hv with q | q
      · rw [q]; trivial
      · rcases List.mem_cons.mp q with q | q
        · rw [q]; trivial
        · rcases List.mem_cons.mp q with q | q
          · rw [q]; trivial
          · rw [List.mem_singleton.mp q]; trivial) rfl (fun v hv => by cases hv)
  intro T hT X
  obtain ⟨t, a1, o, b1, b2, ⟨⟨ad, _, _, ho, _⟩, _⟩, Lo, ⟨hv, hW, hsb⟩, hLo⟩ := key T hT X
  refine ⟨t, a1, o, b1, b2, ho, hv, hW, sbn_forget hsb hLo (by decide) (by decide +kernel)⟩
