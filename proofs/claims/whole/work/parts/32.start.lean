/-! THE CLAIM OUT OF ONE WALK OF THE LAW'S BODY. Your part is whole_start (and what it stands on); all else here is the same for every law, but numbers. -/
def R_law : String := "GameRowsLaw"
def lw_P (b : Addr) (xs : List Int32) (args : Array Value) (s : State) : Prop := args = #[.ref b] ∧ s.IntsAt b xs ∧ xs.length ≤ 2560 ∧ (Jvm.Cond.and given_1 narrow_1).before args s = true
def lw_Q (_ : Array Value) (s : State) (o : Outcome) (t : State) : Prop := o = .returned (some (.int 1)) ∧ Framed s o t [] 600000 7302250
def lw_Z (below : List Frame) (a : Array Value) (s : State) : State → Prop := fun t => ∃ o, t.status = .running ∧ Ended t below o ∧ lw_Q a s o t
/-- the law's own end, with 1 on the stack, nothing written that was there before, its room as the claim has it -/
theorem lw_ret {p : Program} {l : Launch} {e : Env} {s : State} {m : MethodId} {below : List Frame} {meth : Method} {c : Code} {b : Nat} (hx : p.tables.exec = Jvm.exec) (hb : c.code = code) (hr : meth.sig.returnType = ret) (hlocks : meth.locks = false) {pc : Nat} {H : Heap} {ls : Array Slot} (hdg : decode code pc = .ok (.ireturn, 1)) : W p l e room_1 s m #[Value.ref b] below meth c H [] 600000 7302250 (lw_Z below #[Value.ref b] s) (F0 m pc ls [.int 1]) := by
  intro T hT X
  obtain ⟨fs, hret, hrun, hended, hW, hframe⟩ := X.leave (v := some (.int 1)) (hlocks := hlocks) (fun h => by rw [hr] at h; cases h)
  have hmeth' : T.vm.method? m = some meth := X.method'
  refine ⟨T.setFrames fs, ?_, .returned (some (.int 1)), hrun, hended, rfl, ⟨_, rfl⟩, hW, hframe⟩
  jvm_step X.here [X.here.top, hx, hb, hdg, hmeth', hr, ret, narrow_b1]
  (try refine ⟨rfl, ?_⟩); (try refine ⟨rfl, ?_⟩)
  first | (intro acts; rw [hret _ acts rfl rfl rfl]) | rw [hret _ _ rfl rfl rfl]
  exact Steps.refl _
/-- what holds at the law's entry: the machine, the code, the tables' words (any of lw_tbl by 'hts w (by decide +kernel)'), the script of L ints xs at the cell b, what the Statement gives of the start (any of its parts by flat_of_before) -/
def lw_At (p : Program) (s : State) (m : MethodId) (meth : Method) (c : Code) (b L : Nat) (xs : Nat → Int32) : Prop :=
  p.tables.exec = Jvm.exec ∧ c.code = code ∧ meth.sig.returnType = ret ∧ c.maxLocals = 4 ∧ s.vm.findClass R_law = some m.cls ∧ (∀ w ∈ lw_tbl, w.before #[Value.ref b] s = true) ∧ va_X b L xs s s.heap ∧ b < s.heap.size ∧ meth.locks = false ∧ (Jvm.Cond.and given_1 narrow_1).before #[Value.ref b] s = true

theorem c_toG {X : gX} {c s pc : Nat} {lv : List (Nat × Value)} {st : List Value} {cf : Nat → va_E} (hc : X.2.2.1.2.2.2.2.1 = c) (hs : X.2.2.1.2.2.2.2.2 = s) (h : ∀ k, k < gN → cf k = gCel X.2.2.2.2.1 (gA X) (gs0.1 k) (gs0.2 k) k) (k : G X pc lv st gs0) : GC X c s pc lv st gN cf := by
  subst hc
  subst hs
  intro H locs ls hP hz hS hl
  rw [pW_congr h] at hP
  exact k H locs ls hP hS hl
set_option maxRecDepth 100000 in
theorem mc_119 : Cond.classLink R_La 7 R_Ga ∈ BIG := List.mem_filter.mpr ⟨List.mem_append_right _ (List.mem_of_getElem? (i := 11) rfl), rfl⟩
set_option maxRecDepth 100000 in
theorem mc_120 : Cond.classLink R_La 10 R_Mo ∈ BIG := List.mem_filter.mpr ⟨List.mem_append_right _ (List.mem_of_getElem? (i := 648) rfl), rfl⟩
set_option maxRecDepth 100000 in
theorem mc_121 : Cond.instantiable R_Ga 5 ∈ BIG := List.mem_filter.mpr ⟨List.mem_append_right _ (List.mem_of_getElem? (i := 12) rfl), rfl⟩
set_option maxRecDepth 100000 in
theorem mc_122 : Cond.instantiable R_Mo 26 ∈ BIG := List.mem_filter.mpr ⟨List.mem_append_right _ (List.mem_of_getElem? (i := 649) rfl), rfl⟩
set_option maxRecDepth 100000 in
theorem mc_123 : Cond.methodLink R_La 9 y_Ga_init ∈ BIG := List.mem_filter.mpr ⟨List.mem_append_right _ (List.mem_of_getElem? (i := 13) rfl), rfl⟩
set_option maxRecDepth 100000 in
theorem mc_124 : Cond.methodLink R_La 12 y_Mo_init ∈ BIG := List.mem_filter.mpr ⟨List.mem_append_right _ (List.mem_of_getElem? (i := 650) rfl), rfl⟩
theorem ac_spec {args : Array Value} {s : State} {t : FieldType} (h : (Cond.arrayClass t).before args s = true) (ho : ∀ C, t ≠ .object C) : ∃ c : ClassId, ArrOfT s c t ∧ va_RA s c t := by
  obtain ⟨c, k, comp, h1, h2, h3⟩ := Cond.arrayClass_spec h
  refine ⟨c, fun N z => ⟨(fun q hq => by cases hq), k, h2, comp, h3⟩, ?_⟩
  cases t <;> first | exact h1 | exact absurd rfl (ho _)
theorem ao_spec {args : Array Value} {s : State} {t : FieldType} (h : (Cond.arrayOver (.array t)).before args s = true) : ∃ c : ClassId, ArrOfT s c (.array t) ∧ va_RA s c (.array t) := by
  obtain ⟨comp, c, k, h1, h2, h3, h4⟩ := Cond.arrayOver_specA h
  exact ⟨c, fun N z => ⟨(fun q hq => by cases hq), k, h2, comp, h3⟩, h4⟩
set_option maxRecDepth 100000 in
theorem nw_all {A : Array Value} {s : State} (hts : ∀ w ∈ lw_tbl, w.before A s = true) : gNw s := by
  refine ⟨fun q hq => absurd hq List.not_mem_nil, ?_⟩
  have h : ∀ (i : Nat) (w : Cond), w.onTables = true → tables_1[i]? = some w → va_Nw w s := fun i w h1 h2 => va_Nw.of h1 (hts w (List.mem_append_right _ (List.mem_of_getElem? h2)))
  exact List.forall_mem_cons.mpr ⟨h 21 _ rfl rfl, List.forall_mem_cons.mpr ⟨h 292 _ rfl rfl, List.forall_mem_cons.mpr ⟨h 450 _ rfl rfl, List.forall_mem_cons.mpr ⟨h 455 _ rfl rfl, List.forall_mem_cons.mpr ⟨h 456 _ rfl rfl, List.forall_mem_cons.mpr ⟨h 346 _ rfl rfl, List.forall_mem_cons.mpr ⟨h 364 _ rfl rfl, List.forall_mem_cons.mpr ⟨h 522 _ rfl rfl, List.forall_mem_cons.mpr ⟨h 416 _ rfl rfl, List.forall_mem_cons.mpr ⟨h 466 _ rfl rfl, List.forall_mem_cons.mpr ⟨h 547 _ rfl rfl, List.forall_mem_cons.mpr ⟨h 461 _ rfl rfl, fun _ h => absurd h List.not_mem_nil⟩⟩⟩⟩⟩⟩⟩⟩⟩⟩⟩⟩
set_option maxHeartbeats 8000000 in
set_option maxRecDepth 100000 in
theorem whole_start_open {p : Program} {e : Env} {s : State} {m : MethodId} {below : List Frame} {meth : Method} {c : Code} (l : Launch) {b L : Nat} {xs : Nat → Int32} (hpure : ∃ σ, l_La_law_18 L xs (0, gs0) = some (1, σ)) (C0 : lw_At p s m meth c b L xs) : W p l e room_1 s m #[Value.ref b] below meth c s.heap [] 0 0 (lw_Z below #[Value.ref b] s) (entryFrame m ([Value.ref b] : List Value).toArray 4) := by
  obtain ⟨hx, hb, hr, hml, hown, hts, hX, hbl, hlocks, hgv⟩ := id C0
  have hB : ∀ w ∈ BIG, w.before #[Value.ref b] s = true := fun w hw => hts w (List.mem_filter.mp hw).1
  obtain ⟨c0, i0, hK0⟩ := u_known (C := R_Ga) (T := T_Ga) (N := 5) (n := 5) hB in_Ga (hB _ mc_121)
  obtain ⟨c1, i1, hK1⟩ := u_known (C := R_Fo) (T := T_Fo) (N := 17) (n := 17) hB in_Fo (hB _ mc_72)
  obtain ⟨c2, i2, hK2⟩ := u_known (C := R_Ta) (T := T_Ta) (N := 7) (n := 7) hB in_Ta (hB _ mc_75)
  obtain ⟨c3, i3, hK3⟩ := u_known (C := R_Po) (T := T_Po) (N := 6) (n := 6) hB in_Po (hB _ mc_79)
  obtain ⟨c4, i4, hK4⟩ := u_known (C := R_Le) (T := T_Le) (N := 5) (n := 5) hB in_Le (hB _ mc_83)
  obtain ⟨c5, i5, hK5⟩ := u_known (C := R_An) (T := T_An) (N := 6) (n := 6) hB in_An (hB _ mc_87)
  obtain ⟨c6, i6, hK6⟩ := u_known (C := R_Mo) (T := T_Mo) (N := 26) (n := 26) hB in_Mo (hB _ mc_122)
  obtain ⟨dC, dI, hKc⟩ : ∃ (dC : Nat → ClassId) (dI : Nat → Nat → Nat), ∀ (k : Nat) (q : vw_C), gCls[k]? = some q → u_Kn s q.1 q.2.1 q.2.2 (dC k) (dI k) := by
    refine ⟨fun k => if k = 0 then c0 else if k = 1 then c1 else if k = 2 then c2 else if k = 3 then c3 else if k = 4 then c4 else if k = 5 then c5 else c6, fun k => if k = 0 then i0 else if k = 1 then i1 else if k = 2 then i2 else if k = 3 then i3 else if k = 4 then i4 else if k = 5 then i5 else i6, ?_⟩
    intro k q hq
    match k, hq with
    | 0, hq => cases hq; exact hK0
    | 1, hq => cases hq; exact hK1
    | 2, hq => cases hq; exact hK2
    | 3, hq => cases hq; exact hK3
    | 4, hq => cases hq; exact hK4
    | 5, hq => cases hq; exact hK5
    | 6, hq => cases hq; exact hK6
    | k + 7, hq => simp [gCls] at hq
  obtain ⟨zI, hzI⟩ := ac_spec (hB _ mc_6) (fun _ h => by cases h)
  obtain ⟨zJ, hzJ⟩ := ac_spec (hB _ mc_16) (fun _ h => by cases h)
  obtain ⟨zZ, hzZ⟩ := ac_spec (hB _ mc_103) (fun _ h => by cases h)
  have hoI : (Cond.arrayOver (.array .int)).before #[Value.ref b] s = true := hts _ (List.mem_append_right _ (List.mem_of_getElem? (i := 100) rfl))
  obtain ⟨wI, hwI⟩ := ao_spec hoI
  have hoJ : (Cond.arrayOver (.array .long)).before #[Value.ref b] s = true := hts _ (List.mem_append_right _ (List.mem_of_getElem? (i := 133) rfl))
  obtain ⟨wJ, hwJ⟩ := ao_spec hoJ
  obtain ⟨z, hz⟩ : ∃ z : Nat → ClassId, ∀ (k : Nat) (q : ClassId × FieldType), (gTy z)[k]? = some q → ArrOfT s q.1 q.2 ∧ va_RA s q.1 q.2 := by
    refine ⟨fun k => if k = 0 then zI else if k = 1 then zJ else if k = 2 then wI else if k = 3 then wJ else zZ, ?_⟩
    intro k q hq
    match k, hq with
    | 0, hq => cases hq; exact hzI
    | 1, hq => cases hq; exact hzJ
    | 2, hq => cases hq; exact hwI
    | 3, hq => cases hq; exact hwJ
    | 4, hq => cases hq; exact hzZ
    | k + 5, hq => simp [gTy] at hq
  have hK : va_K (dC, dI) gCls (gTy z) s := ⟨hKc, hz⟩
  have hN := nw_all hts
  have hO : gAO s := ⟨hoI, hoJ⟩
  let X : gX := ((p, l, e, room_1), (s, m, #[Value.ref b], below), (meth, c, lw_Z below #[Value.ref b] s, 4, 67, 23415), ((dC, dI), z, (fun k => s.heap.size + k), (fun q => s.heap.size ≤ q)))
  have C : gCC X b_La_law_c R_La 4 9 338 600000 7302250 s.heap.size := ⟨hx, hb, hml, rfl, hown, hB, hK, hN, hO, fun _ => rfl, fun k => Nat.le_add_right _ _, fun _ h => h, rfl, rfl, rfl, rfl⟩
  have C1 : gC X b_La_law_c R_La 4 9 338 := ⟨hx, hb, hml, rfl, hown, hB, hK, hN, fun σ => by
    refine ⟨fun i j x y hi hj hxy => ?_, fun k q hk => ?_⟩
    · have h1 := (gW_fst hi).2
      have h2 := (gW_fst hj).2
      have h3 : s.heap.size + i = s.heap.size + j := h1.symm.trans (hxy.trans h2)
      omega
    · have h1 := (gW_fst hk).2
      show s.heap.size ≤ q.1
      rw [h1]
      exact Nat.le_add_right _ _, fun _ h => h, rfl, rfl, (show 67 ≤ 600000 by decide), (show 23415 ≤ 7302250 by decide)⟩
  have hbA : ¬ (fun q : Nat => s.heap.size ≤ q) b := Nat.not_le.mpr hbl
  obtain ⟨σ, hσ⟩ := hpure
  have hR : ∀ pc lv, isB ((1 : Int32), σ).1 = true → decode b_La_law_c pc = .ok (.ireturn, 1) → G X pc lv [.int ((1 : Int32), σ).1] ((1 : Int32), σ).2 := fun pc lv _ d H locs ls hP hS h => va_forget hS.2.2 (W.widen (k := 600000) (n := 7302250) (show 67 ≤ 600000 by decide) (show 23415 ≤ 7302250 by decide) (lw_ret hx hb hr hlocks d))
  have hG : GC X 0 0 0 [(0, .ref b)] [] 0 (fun _ => .inr (0, [])) := by
    refine c_new C (ci := 0) (fs := [.null, .null, .null, .null, .null]) ty_Ga ty_Ga_ok in_Ga mc_119 mc_121 mc_91 rfl bl_Ga (by decide) (by decide) d_La_law_0 ?_
    refine c_dup C d_La_law_3 rfl ?_
    refine c_callP C (k := 0) (As := []) (rest := [.ref (gA X 0)]) (w_Ga l) kI_Ga mc_123 rfl rfl rfl rfl (Nat.le_of_ble_eq_true rfl) ⟨Nat.le_of_ble_eq_true rfl, Nat.le_of_ble_eq_true rfl⟩ (by decide) (by decide) d_La_law_4 ?_
    refine c_astore_n C (lv' := [(1, .ref (gA X 0)), (0, .ref b)]) d_La_law_7 rfl (by decide) rfl ?_
    refine c_new C (ci := 6) (fs := [.int 0, .int 0, .null, .null, .null, .null, .null, .null, .null, .null, .null, .null, .null, .null, .null, .null, .int 0, .int 0, .null, .int 0, .int 0, .null, .null, .null, .null, .null]) ty_Mo ty_Mo_ok in_Mo mc_120 mc_122 mc_117 rfl bl_Mo (by decide) (by decide) d_La_law_8 ?_
    refine c_dup C d_La_law_11 rfl ?_
    refine c_callP C (k := 46) (As := []) (rest := [.ref (gA X 46)]) (w_Mo l) kI_Mo mc_124 rfl rfl rfl rfl (Nat.le_of_ble_eq_true rfl) ⟨Nat.le_of_ble_eq_true rfl, Nat.le_of_ble_eq_true rfl⟩ (by decide) (by decide) d_La_law_12 ?_
    refine c_astore_n C (lv' := [(2, .ref (gA X 46)), (1, .ref (gA X 0)), (0, .ref b)]) d_La_law_15 rfl (by decide) rfl ?_
    refine c_iconst C (v := 0) d_La_law_16 (by decide) ?_
    refine c_istore_n C (lv' := [(3, .int 0), (2, .ref (gA X 46)), (1, .ref (gA X 0)), (0, .ref b)]) d_La_law_17 rfl (by decide) rfl ?_
    refine c_toG rfl rfl (fun k hk => ?_) ?_
    · match k, hk with
      | 0, _ => rfl
      | 1, _ => rfl
      | 2, _ => rfl
      | 3, _ => rfl
      | 4, _ => rfl
      | 5, _ => rfl
      | 6, _ => rfl
      | 7, _ => rfl
      | 8, _ => rfl
      | 9, _ => rfl
      | 10, _ => rfl
      | 11, _ => rfl
      | 12, _ => rfl
      | 13, _ => rfl
      | 14, _ => rfl
      | 15, _ => rfl
      | 16, _ => rfl
      | 17, _ => rfl
      | 18, _ => rfl
      | 19, _ => rfl
      | 20, _ => rfl
      | 21, _ => rfl
      | 22, _ => rfl
      | 23, _ => rfl
      | 24, _ => rfl
      | 25, _ => rfl
      | 26, _ => rfl
      | 27, _ => rfl
      | 28, _ => rfl
      | 29, _ => rfl
      | 30, _ => rfl
      | 31, _ => rfl
      | 32, _ => rfl
      | 33, _ => rfl
      | 34, _ => rfl
      | 35, _ => rfl
      | 36, _ => rfl
      | 37, _ => rfl
      | 38, _ => rfl
      | 39, _ => rfl
      | 40, _ => rfl
      | 41, _ => rfl
      | 42, _ => rfl
      | 43, _ => rfl
      | 44, _ => rfl
      | 45, _ => rfl
      | 46, _ => rfl
      | 47, _ => rfl
      | 48, _ => rfl
      | 49, _ => rfl
      | 50, _ => rfl
      | 51, _ => rfl
      | 52, _ => rfl
      | 53, _ => rfl
      | 54, _ => rfl
      | 55, _ => rfl
      | 56, _ => rfl
      | 57, _ => rfl
      | 58, _ => rfl
      | 59, _ => rfl
      | 60, _ => rfl
      | 61, _ => rfl
      | 62, _ => rfl
      | 63, _ => rfl
      | 64, _ => rfl
      | 65, _ => rfl
      | 66, _ => rfl
      | k + 67, h => exact absurd h (by unfold gN; omega)
    · refine r_sub [3, 2, 1, 0] (lv' := [(0, .ref b), (1, .ref (gA X 0)), (2, .ref (gA X 46)), (3, .int 0)]) rfl ?_
      exact u_La_law_18 C1 hR hX hbl hbA (0, gs0) hσ
  have hl := lv_entry ([.ref b]) (n := 4) (Nat.le_of_ble_eq_true rfl)
  rw [lg_entry_eq]
  exact hG s.heap [] _ (fun k q h => by simp [pW] at h) rfl va_S.rf hl
