/-! CONSTRUCTORS: cells come at addresses b0 + k, in the order of the places; a judgement GC over how many there are, and what each is -/
def pW (a : Nat → Nat) (cf : Nat → va_E) (n : Nat) : va_W := (List.range n).map fun k => (a k, cf k)
theorem pW_at {a : Nat → Nat} {cf : Nat → va_E} {n k : Nat} (hk : k < n) : (pW a cf n)[k]? = some (a k, cf k) := by
  unfold pW
  rw [List.getElem?_map, List.getElem?_range hk]
  rfl
theorem pW_len {a : Nat → Nat} {cf : Nat → va_E} {n : Nat} : (pW a cf n).length = n := by simp [pW]
theorem pW_congr {a : Nat → Nat} {cf cg : Nat → va_E} {n : Nat} (h : ∀ k, k < n → cf k = cg k) : pW a cf n = pW a cg n := by
  unfold pW
  apply List.map_congr_left
  intro k hk
  rw [h k (List.mem_range.mp hk)]
theorem pW_set {a : Nat → Nat} {cf : Nat → va_E} {n k : Nat} (hk : k < n) (e : va_E) : (pW a cf n).set k (a k, e) = pW a (va_up cf k e) n := by
  apply List.ext_getElem?
  intro j
  by_cases hj : j = k
  · subst hj
    rw [List.getElem?_set_self (by rw [pW_len]; exact hk), pW_at hk, va_up_self]
  · rw [List.getElem?_set_ne (Ne.symm hj)]
    by_cases hn : j < n
    · rw [pW_at hn, pW_at hn, va_up_ne _ _ hj]
    · rw [List.getElem?_eq_none (by rw [pW_len]; omega), List.getElem?_eq_none (by rw [pW_len]; omega)]
theorem pW_fst {a : Nat → Nat} {cf : Nat → va_E} {n k : Nat} {q : Nat × va_E} (h : (pW a cf n)[k]? = some q) : k < n ∧ q = (a k, cf k) := by
  have hk : k < n := by
    have := (List.getElem?_eq_some_iff.mp h).1
    rwa [pW_len] at this
  rw [pW_at hk] at h
  exact ⟨hk, (Option.some.inj h).symm⟩
theorem pW_D {a : Nat → Nat} {cf : Nat → va_E} {n b0 : Nat} {A : Nat → Prop} (ha : ∀ k, a k = b0 + k) (hA : ∀ k, k < n → A (a k)) : va_D A (pW a cf n) := by
  refine ⟨fun i j x y hi hj hxy => ?_, fun k q hk => ?_⟩
  · obtain ⟨-, rfl⟩ := pW_fst hi
    obtain ⟨-, rfl⟩ := pW_fst hj
    have : a i = a j := hxy
    rw [ha, ha] at this
    omega
  · obtain ⟨h1, rfl⟩ := pW_fst hk
    exact hA k h1
theorem pW_push {D : va_G} {cl : List vw_C} {a : Nat → Nat} {cf : Nat → va_E} {n : Nat} {e : va_E} {H H1 : Heap} (hP : va_P D cl (pW a cf n) H) (hk : ∀ q, q < H.size → H1[q]? = H[q]?) (he : va_at D cl (a n, e) H1) : va_P D cl (pW a (va_up cf n e) (n + 1)) H1 := by
  intro k q hq
  obtain ⟨h1, rfl⟩ := pW_fst hq
  by_cases hn : k = n
  · subst hn
    rw [va_up_self]
    exact he
  · have h2 := hP k _ (pW_at (by omega))
    rw [va_up_ne _ _ hn]
    exact h2.kept (hk _ h2.lt)
def gAO (U : State) : Prop := (Cond.arrayOver (.array .int)).before #[] U = true ∧ (Cond.arrayOver (.array .long)).before #[] U = true
theorem ao_moved {t : FieldType} {u U : State} (hvm : u.vm.Alike U.vm) (h : (Cond.arrayOver t).before #[] u = true) : (Cond.arrayOver t).before #[] U = true := by
  have e := Cond.arrayOver_setVmC (args := #[]) (s := u) (vm' := U.vm) hvm t
  rw [← e] at h
  exact h
theorem gAO_moved {u U : State} (hvm : u.vm.Alike U.vm) (h : gAO u) : gAO U := ⟨ao_moved hvm h.1, ao_moved hvm h.2⟩
def gCC (X : gX) (cc : ByteArray) (own : String) (nL fr lo mc ms b0 : Nat) : Prop :=
  X.1.1.tables.exec = Jvm.exec ∧ X.2.2.1.2.1.code = cc ∧ X.2.2.1.2.1.maxLocals = nL ∧ X.2.2.1.2.2.2.1 = nL ∧ X.2.1.1.vm.findClass own = some X.2.1.2.1.cls ∧ (∀ w ∈ BIG, w.before X.2.1.2.2.1 X.2.1.1 = true) ∧
  va_K X.2.2.2.1 gCls (gTy X.2.2.2.2.1) X.2.1.1 ∧ gNw X.2.1.1 ∧ gAO X.2.1.1 ∧ (∀ k, gA X k = b0 + k) ∧ (∀ k, X.2.2.2.2.2.2 (gA X k)) ∧ (∀ q, X.2.1.1.heap.size ≤ q → X.2.2.2.2.2.2 q) ∧ X.1.2.2.2.frames = fr ∧ X.1.2.2.2.locals = lo ∧ X.1.2.2.2.cells = mc ∧ X.1.2.2.2.slots = ms
def GC (X : gX) (c s : Nat) (pc : Nat) (lv : List (Nat × Value)) (st : List Value) (n : Nat) (cf : Nat → va_E) : Prop :=
  ∀ (H : Heap) (locs : List Loc) (ls : Array Slot), va_P X.2.2.2.1 gCls (pW (gA X) cf n) H → H.size = gA X n → va_S X.2.2.2.2.2.2 X.2.1.1.heap H locs → lv_has ls X.2.2.1.2.2.2.1 lv →
    W X.1.1 X.1.2.1 X.1.2.2.1 X.1.2.2.2 X.2.1.1 X.2.1.2.1 X.2.1.2.2.1 X.2.1.2.2.2 X.2.2.1.1 X.2.2.1.2.1 H locs c s X.2.2.1.2.2.1 (F0 X.2.1.2.1 pc ls st)
section GCR
variable {X : gX} {cc : ByteArray} {own : String} {nL fr lo mc ms b0 pc c s n : Nat} {lv : List (Nat × Value)} {st : List Value} {cf : Nat → va_E}
theorem c_aload_n (C : gCC X cc own nL fr lo mc ms b0) (q : Nat) {j : Fin 4} {i x : Nat} (d : decode cc pc = .ok (.aload_n j, 1)) (hi : (j : Nat) = i) (hq : lv[q]? = some (i, .ref x)) (k : GC X c s (pc + 1) lv (.ref x :: st) n cf) : GC X c s pc lv st n cf := fun H locs ls hP hz hS h => lv_aload_n C.1 C.2.1 d hi (lv_at h q hq) (k H locs ls hP hz hS h)
theorem c_iconst (C : gCC X cc own nL fr lo mc ms b0) {i : Int} {v : Int32} (d : decode cc pc = .ok (.iconst i, 1)) (hv : Int32.ofInt i = v) (k : GC X c s (pc + 1) lv (.int v :: st) n cf) : GC X c s pc lv st n cf := fun H locs ls hP hz hS h => lv_iconst C.1 C.2.1 d hv (k H locs ls hP hz hS h)
theorem c_bipush (C : gCC X cc own nL fr lo mc ms b0) {i : Int} {v : Int32} (d : decode cc pc = .ok (.bipush i, 2)) (hv : (Int8.ofInt i).toInt32 = v) (k : GC X c s (pc + 2) lv (.int v :: st) n cf) : GC X c s pc lv st n cf := fun H locs ls hP hz hS h => lv_bipush C.1 C.2.1 d hv (k H locs ls hP hz hS h)
theorem c_sipush (C : gCC X cc own nL fr lo mc ms b0) {i : Int} {v : Int32} (d : decode cc pc = .ok (.sipush i, 3)) (hv : (Int16.ofInt i).toInt32 = v) (k : GC X c s (pc + 3) lv (.int v :: st) n cf) : GC X c s pc lv st n cf := fun H locs ls hP hz hS h => lv_sipush C.1 C.2.1 d hv (k H locs ls hP hz hS h)
theorem c_dup (C : gCC X cc own nL fr lo mc ms b0) {va : Value} (d : decode cc pc = .ok (.dup, 1)) (h1 : va.category = 1) (k : GC X c s (pc + 1) lv (va :: va :: st) n cf) : GC X c s pc lv (va :: st) n cf := fun H locs ls hP hz hS h => lv_dup C.1 C.2.1 d h1 (k H locs ls hP hz hS h)
theorem c_astore_n (C : gCC X cc own nL fr lo mc ms b0) {j : Fin 4} {i x : Nat} {lv' : List (Nat × Value)} (d : decode cc pc = .ok (.astore_n j, 1)) (hi : (j : Nat) = i) (hn : i < nL) (hl : (i, Value.ref x) :: lv.filter (fun q => !(q.1 == i) && !(q.1 + 1 == i && q.2.category == 2)) = lv') (k : GC X c s (pc + 1) lv' st n cf) : GC X c s pc lv (.ref x :: st) n cf :=
  fun H locs ls hP hz hS h => lv_astore_n C.1 C.2.1 d hi h (by rw [C.2.2.2.1]; exact hn) hl (fun ls' h' => k H locs ls' hP hz hS h')
theorem c_istore_n (C : gCC X cc own nL fr lo mc ms b0) {j : Fin 4} {i : Nat} {x : Int32} {lv' : List (Nat × Value)} (d : decode cc pc = .ok (.istore_n j, 1)) (hi : (j : Nat) = i) (hn : i < nL) (hl : (i, Value.int x) :: lv.filter (fun q => !(q.1 == i) && !(q.1 + 1 == i && q.2.category == 2)) = lv') (k : GC X c s (pc + 1) lv' st n cf) : GC X c s pc lv (.int x :: st) n cf :=
  fun H locs ls hP hz hS h => lv_istore_n C.1 C.2.1 d hi h (by rw [C.2.2.2.1]; exact hn) hl (fun ls' h' => k H locs ls' hP hz hS h')
theorem c_obj (C : gCC X cc own nL fr lo mc ms b0) {idx a : Nat} (h1 : Cond.methodLink own idx Lib.objectInit ∈ BIG) (h2 : Cond.instanceMethod Lib.objectInit ∈ BIG) (h3 : Cond.code Lib.objectInit ⟨#[0xb1]⟩ 1 none ∈ BIG) (hf : 1 ≤ fr) (hlo : (st.map fun v => v.category).sum + 12 ≤ lo) (d : decode cc pc = .ok (.invokespecial idx, 3)) (k : GC X c s (pc + 3) lv st n cf) : GC X c s pc lv (.ref a :: st) n cf := by
  intro H locs ls hP hz hS h
  have hb := fun w (hw : w ∈ BIG) => C.2.2.2.2.2.1 w hw
  refine W.objInit C.1 C.2.1 C.2.2.2.2.1 (hb _ h1) (hb _ h2) (hb _ h3) rfl (by rw [C.2.2.1]; show ls.size = nL; rw [h.1, C.2.2.2.1]) rfl d (by rw [C.2.2.2.2.2.2.2.2.2.2.2.2.1]; exact hf) (by rw [C.2.2.2.2.2.2.2.2.2.2.2.2.2.1]; show 2 * 0 + _ + 12 ≤ lo; omega) ?_
  exact k H locs ls hP hz hS h
/-- a new array of numbers: t is its type's place among gTy -/
theorem c_newa (C : gCC X cc own nL fr lo mc ms b0) {atype : ArrayType} {t N' : Nat} {x : Int32} {a0 : vp_A} {ty : FieldType} (hw : Cond.arrayClass ty ∈ BIG) (hty : newarray.typeOf atype = ty) (ht : ∀ z : Nat → ClassId, (gTy z)[t]? = some (z t, ty)) (hob : ∀ C, ty ≠ .object C) (ha : ∀ cA : ClassId, vp_cell cA a0 = arrV cA N' (fun _ => defaultValue ty)) (hn : ¬ x < 0) (hN : x.toNatClampNeg = N') (hby : N' * componentBytes ty ≤ 536870912) (hc : c + 1 ≤ mc) (hs : s + N' ≤ ms) (d : decode cc pc = .ok (.newarray atype, 2))
    (kk : GC X (c + 1) (s + N') (pc + 2) lv (.ref (gA X n) :: st) (n + 1) (va_up cf n (.inl (X.2.2.2.2.1 t, a0)))) : GC X c s pc lv (.int x :: st) n cf := by
  subst hty
  intro H locs ls hP hz hS h
  have h1 := C.2.2.2.2.2.2.2.2.2.2.2.2.2.2.1
  have h2 := C.2.2.2.2.2.2.2.2.2.2.2.2.2.2.2
  refine va_newaK C.1 C.2.1 (C.2.2.2.2.2.1 _ hw) rfl d rfl hn hN hby (by rw [h1]; exact hc) (by rw [h2]; exact hs) hz fun H1 cA e1 z1 o1 hAr hNm => ?_
  have hR := (C.2.2.2.2.2.2.1.2 t _ (ht _)).2
  have hcA : cA = X.2.2.2.2.1 t := by
    have h9 : X.2.1.1.vm.findClass ("[" ++ (newarray.typeOf atype).toString) = some (X.2.2.2.2.1 t) := by
      revert hR
      generalize newarray.typeOf atype = tt at hob ⊢
      intro hR
      cases tt <;> first | exact hR | exact absurd rfl (hob _)
    exact Option.some.inj (hNm.symm.trans h9)
  subst hcA
  refine kk H1 locs ls (pW_push hP (fun q hq => o1 q (by rw [← hz]; exact hq)) ?_) ?_ ⟨Nat.le_trans hS.1 (by omega), fun q g1 g2 => (o1 q (by rw [← hz]; exact Nat.lt_of_lt_of_le g1 hS.1)).trans (hS.2.1 q g1 g2), hS.2.2⟩ h
  · show H1[gA X n]? = some (vp_cell _ _)
    rw [ha]
    exact e1
  · rw [z1, C.2.2.2.2.2.2.2.2.2.1, C.2.2.2.2.2.2.2.2.2.1]
    omega
/-- new T[2][m]: the outer array, then its two rows -/
theorem c_mna (C : gCC X cc own nL fr lo mc ms b0) {index t u K' : Nat} {k : Int32} {a0 : vp_A} {ty : FieldType} (hover : (Cond.arrayOver (.array ty)).before #[] X.2.1.1 = true) (hw : Cond.arrayClass ty ∈ BIG) (hlink : Cond.classLink own index ("[" ++ (FieldType.array ty).toString) ∈ BIG) (ht : ∀ z : Nat → ClassId, (gTy z)[t]? = some (z t, .array ty)) (hu : ∀ z : Nat → ClassId, (gTy z)[u]? = some (z u, ty)) (hRA : ∀ (U : State) (cA : ClassId), va_RA U cA ty → U.vm.findClass (FieldType.array ty).toString = some cA)
    (hk : ¬ k < 0) (hM : k.toNatClampNeg = K') (hb2 : K' * componentBytes ty ≤ 536870912) (hb3 : K' ≤ 536870912) (hdf : fits ty (defaultValue ty) = true) (hdd : (defaultValue ty).isDefault = true) (hc : c + (1 + 2) ≤ mc) (hs : s + (2 + 2 * K') ≤ ms) (hz0 : ∀ c : ClassId, Jvm.Free.Multi.innerC c K' (defaultValue ty) = vp_cell c a0) (d : decode cc pc = .ok (.multianewarray index 2, 4))
    (kk : GC X (c + 1 + 2) (s + 2 + 2 * K') (pc + 4) lv (.ref (gA X n) :: st) (n + 1 + 1 + 1) (va_up (va_up (va_up cf n (.inl (X.2.2.2.2.1 t, 2, .inr (.inr (.inr (.inr (fun j => if j < 2 then some (gA X (n + 1 + j)) else none))))))) (n + 1) (.inl (X.2.2.2.2.1 u, a0))) (n + 1 + 1) (.inl (X.2.2.2.2.1 u, a0)))) : GC X c s pc lv (.int k :: .int 2 :: st) n cf := by
  subst hM
  intro H locs ls hP hz hS h T hT Xs
  have hb := fun w (hw : w ∈ BIG) => C.2.2.2.2.2.1 w hw
  have h1 := C.2.2.2.2.2.2.2.2.2.2.2.2.2.2.1
  have h2 := C.2.2.2.2.2.2.2.2.2.2.2.2.2.2.2
  have ha := C.2.2.2.2.2.2.2.2.2.1
  have hover' : (Cond.arrayOver (.array ty)).before X.2.1.2.2.1 X.2.1.1 = true := hover
  obtain ⟨vm₁, cA, comp, -, fA, fC, hO, -, X', step⟩ := Xs.multianewarray2F C.1 C.2.2.2.2.1 (hb _ hlink) hover' (hb _ hw) (g := F0 X.2.1.2.1 pc ls (.int k :: .int 2 :: st)) (n := 2) rfl (by rw [C.2.1]; exact d) rfl (by decide) hk (by decide) hb2 hb3 hdf hdd (by rw [h1]; exact hc) (by rw [h2]; exact hs)
  have e1 : cA = X.2.2.2.2.1 t := by
    have := (C.2.2.2.2.2.2.1.2 t _ (ht _)).2
    exact Option.some.inj (fA.symm.trans this)
  have e2 : comp = X.2.2.2.2.1 u := Option.some.inj (fC.symm.trans (hRA _ _ (C.2.2.2.2.2.2.1.2 u _ (hu _)).2))
  subst e1
  subst e2
  have two : (2 : Int32).toNatClampNeg = 2 := by decide
  rw [two] at X' step
  generalize hF : Jvm.Free.Multi.fill (T.setVm vm₁) (X.2.2.2.2.1 t) (X.2.2.2.2.1 u) 2 k.toNatClampNeg (defaultValue ty) 2 = F at X' step
  have hTh : (T.setVm vm₁).heap = H := hT
  obtain ⟨f1, f2, -, -⟩ := Jvm.Free.Multi.fill_facts (T.setVm vm₁) (X.2.2.2.2.1 t) (X.2.2.2.2.1 u) 2 k.toNatClampNeg (defaultValue ty) 2
  rw [hF, hTh] at f1 f2
  have hold : ∀ x : Nat, x < H.size → F.heap[x]? = H[x]? := fun x hx => by
    have := Jvm.Free.Multi.fill_old (T.setVm vm₁) (X.2.2.2.2.1 t) (X.2.2.2.2.1 u) 2 k.toNatClampNeg (defaultValue ty) (a := x) (by rw [hTh]; exact hx) 2
    rw [hF, hTh] at this
    exact this
  have hrow : ∀ j : Nat, j < 2 → F.heap[H.size + 1 + j]? = some (vp_cell (X.2.2.2.2.1 u) a0) := fun j hj => by
    have := Jvm.Free.Multi.fill_inner (T.setVm vm₁) (X.2.2.2.2.1 t) (X.2.2.2.2.1 u) 2 k.toNatClampNeg (defaultValue ty) 2 j hj
    rw [hF, hTh, hz0] at this
    exact this
  have ho2 : ∀ (c0 : ClassId) (h0 : Nat), Jvm.Free.Multi.outerC c0 2 h0 2 = vp_cell c0 (2, .inr (.inr (.inr (.inr (fun j => if j < 2 then some (h0 + 1 + j) else none))))) := by
    intro c0 h0
    rw [vp_cell_q]
    show (({ cls := c0, slots := Array.replicate 2 .null, vm := .none } : Cell).setSlot 0 (.ref (h0 + 1 + 0))).setSlot 1 (.ref (h0 + 1 + 1)) = _
    rw [arrV_new, arrV_store, arrV_store]
    refine congrArg (fun f => f) ?_
    rfl
  rw [ho2] at f2
  have hs0 : H.size = b0 + n := by rw [hz, ha]
  have hPx : va_P X.2.2.2.1 gCls (pW (gA X) (va_up (va_up (va_up cf n (.inl (X.2.2.2.2.1 t, 2, .inr (.inr (.inr (.inr (fun j => if j < 2 then some (gA X (n + 1 + j)) else none))))))) (n + 1) (.inl (X.2.2.2.2.1 u, a0))) (n + 1 + 1) (.inl (X.2.2.2.2.1 u, a0))) (n + 1 + 1 + 1)) F.heap := by
    intro k9 q hq
    obtain ⟨g1, rfl⟩ := pW_fst hq
    by_cases q3 : k9 = n + 1 + 1
    · subst q3
      rw [va_up_self]
      show F.heap[gA X (n + 1 + 1)]? = some (vp_cell _ _)
      rw [ha, show b0 + (n + 1 + 1) = H.size + 1 + 1 by omega]
      exact hrow 1 (by decide)
    · rw [va_up_ne _ _ q3]
      by_cases q2 : k9 = n + 1
      · subst q2
        rw [va_up_self]
        show F.heap[gA X (n + 1)]? = some (vp_cell _ _)
        rw [ha, show b0 + (n + 1) = H.size + 1 + 0 by omega]
        exact hrow 0 (by decide)
      · rw [va_up_ne _ _ q2]
        by_cases q1 : k9 = n
        · subst q1
          rw [va_up_self]
          show F.heap[gA X k9]? = some (vp_cell _ _)
          rw [ha, ← hs0, f2]
          have : (fun j => if j < 2 then some (H.size + 1 + j) else none) = (fun j => if j < 2 then some (gA X (k9 + 1 + j)) else none) := by
            funext j
            rw [ha, show b0 + (k9 + 1 + j) = H.size + 1 + j by omega]
          rw [this]
        · rw [va_up_ne _ _ q1]
          have h9 := hP k9 _ (pW_at (by omega))
          exact h9.kept (hold _ h9.lt)
  obtain ⟨t9, a1, b1⟩ := kk F.heap locs ls hPx (by rw [f1, ha]; omega) ⟨by rw [f1]; have := hS.1; omega, fun q g1 g2 => (hold q (Nat.lt_of_lt_of_le g1 hS.1)).trans (hS.2.1 q g1 g2), hS.2.2⟩ h F rfl X'
  refine ⟨t9, step t9 ?_, b1⟩
  have e9 : T.heap.size = gA X n := by rw [hT]; exact hz
  rw [e9]
  exact a1
theorem c_new (C : gCC X cc own nL fr lo mc ms b0) {O : String} {T : u_T} {N ci index : Nat} (ty : Nat → FieldType) (hty : ∀ k, k < N → parseFieldDescriptor (T k).2.2.1 = some (ty k)) (hin : ∀ w ∈ u_ws O T N, w ∈ BIG) (h1 : Cond.classLink own index O ∈ BIG) (h2 : Cond.instantiable O N ∈ BIG) (h3 : Cond.initialized O ∈ BIG) (hcl : gCls[ci]? = some (O, T, N)) {fs : List Value} (hfs : ∀ j, j < N → defaultValue (ty j) = vp_V fs j) (hc : c + 1 ≤ mc) (hs : s + N ≤ ms) (d : decode cc pc = .ok (.new index, 3))
    (kk : GC X (c + 1) (s + N) (pc + 3) lv (.ref (gA X n) :: st) (n + 1) (va_up cf n (.inr (ci, fs)))) : GC X c s pc lv st n cf := by
  intro H locs ls hP hz hS h
  have hb := fun w (hw : w ∈ BIG) => C.2.2.2.2.2.1 w hw
  have g1 := C.2.2.2.2.2.2.2.2.2.2.2.2.2.2.1
  have g2 := C.2.2.2.2.2.2.2.2.2.2.2.2.2.2.2
  have hKn := C.2.2.2.2.2.2.1.1 ci _ hcl
  refine W.newcK C.1 C.2.1 C.2.2.2.2.1 (hb _ h1) (hb _ h2) (hb _ h3) rfl d (by rw [g1]; exact hc) (by rw [g2]; exact hs) hKn.2.1 hz fun H1 kC hkC e1 z1 o1 => ?_
  refine kk H1 locs ls (pW_push hP (fun q hq => o1 q (by rw [← hz]; exact hq)) ⟨_, hcl, (u_born ty hb hin hKn hkC e1 hty).to hfs⟩) ?_ ⟨Nat.le_trans hS.1 (by omega), fun q q1 q2 => (o1 q (by rw [← hz]; exact Nat.lt_of_lt_of_le q1 hS.1)).trans (hS.2.1 q q1 q2), hS.2.2⟩ h
  rw [z1, C.2.2.2.2.2.2.2.2.2.1, C.2.2.2.2.2.2.2.2.2.1]
  omega
theorem c_put (C : gCC X cc own nL fr lo mc ms b0) {O : String} {T : u_T} {N ci index k : Nat} {v : Value} {fs fs' : List Value} {ty : FieldType} (ty0 : Nat → FieldType) (hty : ∀ k, k < N → parseFieldDescriptor (T k).2.2.1 = some (ty0 k)) (hnm : ∀ a, a < N → ∀ b, b < N → a ≠ b → (T a).2.1 ≠ (T b).2.1) (j : Nat) (hk : k < n) (hcf : cf k = .inr (ci, fs)) (hcl : gCls[ci]? = some (O, T, N)) (hin : ∀ w ∈ u_ws O T N, w ∈ BIG) (hj : j < N) (hlink : Cond.fieldLink own index (T j).1 (T j).2.1 (T j).2.2.1 ∈ BIG) (hfin : (T j).2.2.2 = false) (hd : parseFieldDescriptor (T j).2.2.1 = some ty) (hn : narrow ty v = v) (hfit : fits ty v = true) (hl : j < fs.length) (hfs : fs.set j v = fs') (d : decode cc pc = .ok (.putfield index, 3)) (kk : GC X c s (pc + 3) lv st n (va_up cf k (.inr (ci, fs')))) : GC X c s pc lv (v :: .ref (gA X k) :: st) n cf := by
  subst hfs
  intro H locs ls hP hz hS h
  have hD : va_D X.2.2.2.2.2.2 (pW (gA X) cf n) := pW_D C.2.2.2.2.2.2.2.2.2.1 (fun k _ => C.2.2.2.2.2.2.2.2.2.2.1 k)
  have hts := C.2.2.2.2.2.1
  have hap := va_apart (own := own) hts hin ty0 hty hnm C.2.2.2.2.2.2.1 hcl
  have he : (pW (gA X) cf n)[k]? = some (gA X k, .inr (ci, fs)) := by rw [pW_at hk, hcf]
  obtain ⟨r, h1, cell, q1, q2, q3, q4⟩ := hP k _ he
  have hr : r = (O, T, N) := Option.some.inj (h1.symm.trans hcl)
  subst hr
  obtain ⟨hSl, hfc, kC, hkC, hkind⟩ := C.2.2.2.2.2.2.1.1 ci _ hcl
  obtain ⟨cf9, kf9, fi9, f9, hi, hsl⟩ := hSl j hj
  have hlay := hts _ (hin _ (u_in_lay hj))
  unfold u_lay at hlay
  rw [if_neg (by rw [hfin]; decide)] at hlay
  have hst := (u_facts hfc hkC (u_lays hts hin hj) hi).1
  have h6 := u_store hfc hkC hkind hlay hi hd hn hfit
  refine W.putK C.1 C.2.1 (f := f9) ⟨C.2.2.2.2.1, hts _ hlink, ⟨_, _, _, hi⟩, hst⟩ (by rw [q2]; exact h6) q1 q3 (by rw [hsl]; exact k2_hasslot (q4 j hj)) rfl rfl d fun H1 e1 e2 e3 => ?_
  rw [hsl] at e1 ⊢
  have hP1 := hP.set (e := .inr (ci, fs.set j v)) (H1 := H1) hD he ⟨_, hcl, t_OB.to (V := updV (vp_V fs) j v) ⟨_, e1, q2, q3, t_set q4 hap hj v⟩ (fun j9 _ => vp_updV_set hl v j9)⟩ e3
  rw [pW_set hk] at hP1
  exact kk H1 _ ls hP1 (by rw [e2]; exact hz) (hS.put e2 e3 (hD.2 k _ he)) h
theorem c_putF (C : gCC X cc own nL fr lo mc ms b0) {O : String} {T : u_T} {N ci index k : Nat} {v : Value} {fs fs' : List Value} {ty : FieldType} (ty0 : Nat → FieldType) (hty : ∀ k, k < N → parseFieldDescriptor (T k).2.2.1 = some (ty0 k)) (hnm : ∀ a, a < N → ∀ b, b < N → a ≠ b → (T a).2.1 ≠ (T b).2.1) (j : Nat) (hk : k < n) (hcf : cf k = .inr (ci, fs)) (hcl : gCls[ci]? = some (O, T, N)) (hin : ∀ w ∈ u_ws O T N, w ∈ BIG) (hj : j < N) (hlink : Cond.fieldLink own index (T j).1 (T j).2.1 (T j).2.2.1 ∈ BIG) (hfin : (T j).2.2.2 = true) (hin2 : X.2.2.1.1.name = "<init>") (hdecl : (T j).1 = own) (hd : parseFieldDescriptor (T j).2.2.1 = some ty) (hn : narrow ty v = v) (hfit : fits ty v = true) (hl : j < fs.length) (hfs : fs.set j v = fs') (d : decode cc pc = .ok (.putfield index, 3)) (kk : GC X c s (pc + 3) lv st n (va_up cf k (.inr (ci, fs')))) : GC X c s pc lv (v :: .ref (gA X k) :: st) n cf := by
  subst hfs
  intro H locs ls hP hz hS h
  have hD : va_D X.2.2.2.2.2.2 (pW (gA X) cf n) := pW_D C.2.2.2.2.2.2.2.2.2.1 (fun k _ => C.2.2.2.2.2.2.2.2.2.2.1 k)
  have hts := C.2.2.2.2.2.1
  have hap := va_apart (own := own) hts hin ty0 hty hnm C.2.2.2.2.2.2.1 hcl
  have he : (pW (gA X) cf n)[k]? = some (gA X k, .inr (ci, fs)) := by rw [pW_at hk, hcf]
  obtain ⟨r, h1, cell, q1, q2, q3, q4⟩ := hP k _ he
  have hr : r = (O, T, N) := Option.some.inj (h1.symm.trans hcl)
  subst hr
  obtain ⟨hSl, hfc, kC, hkC, hkind⟩ := C.2.2.2.2.2.2.1.1 ci _ hcl
  obtain ⟨cf9, kf9, fi9, f9, hi, hsl⟩ := hSl j hj
  have hlay := hts _ (hin _ (u_in_lay hj))
  unfold u_lay at hlay
  rw [if_pos hfin] at hlay
  have hst := (u_facts hfc hkC (u_lays hts hin hj) hi).1
  have hcf9 : X.2.1.2.1.cls = cf9 := by
    obtain ⟨_, _, c', _, _, _, -, -, hf', -, -, -, hown2, -⟩ := Cond.laysFinal_spec hlay
    have e1 : c' = cf9 := by have := hi.symm.trans hf'; simp at this; exact this.1.symm
    rw [hdecl] at hown2
    rw [← e1]; exact Option.some.inj (C.2.2.2.2.1.symm.trans hown2)
  have h6 := u_fits hfc hkC hkind (Or.inr hlay) hi hd hn hfit
  refine W.putFinK C.1 C.2.1 C.2.2.2.2.1 (hts _ hlink) hi hst hcf9 hin2 (by rw [q2]; exact h6) q1 q3 (by rw [hsl]; exact k2_hasslot (q4 j hj)) rfl rfl d fun H1 e1 e2 e3 => ?_
  rw [hsl] at e1 ⊢
  have hP1 := hP.set (e := .inr (ci, fs.set j v)) (H1 := H1) hD he ⟨_, hcl, t_OB.to (V := updV (vp_V fs) j v) ⟨_, e1, q2, q3, t_set q4 hap hj v⟩ (fun j9 _ => vp_updV_set hl v j9)⟩ e3
  rw [pW_set hk] at hP1
  exact kk H1 _ ls hP1 (by rw [e2]; exact hz) (hS.put e2 e3 (hD.2 k _ he)) h
theorem c_get (C : gCC X cc own nL fr lo mc ms b0) {O : String} {T : u_T} {N ci index k : Nat} {v : Value} {fs : List Value} (j : Nat) (hk : k < n) (hcf : cf k = .inr (ci, fs)) (hcl : gCls[ci]? = some (O, T, N)) (hin : ∀ w ∈ u_ws O T N, w ∈ BIG) (hj : j < N) (hlink : Cond.fieldLink own index (T j).1 (T j).2.1 (T j).2.2.1 ∈ BIG) (hv : fs[j]? = some v) (d : decode cc pc = .ok (.getfield index, 3)) (kk : GC X c s (pc + 3) lv (v :: st) n cf) : GC X c s pc lv (.ref (gA X k) :: st) n cf :=
  fun H locs ls hP hz hS h => va_get C.1 C.2.1 C.2.2.2.2.2.1 hin C.2.2.2.2.1 C.2.2.2.2.2.2.1 hP k (by rw [pW_at hk, hcf]) hcl j hj (C.2.2.2.2.2.1 _ hlink) (fun _ q => q) hv d (kk H locs ls hP hz hS h)
theorem c_iast (C : gCC X cc own nL fr lo mc ms b0) {k N : Nat} {f : Nat → Int32} {i x : Int32} (hk : k < n) (hcf : cf k = .inl (X.2.2.2.2.1 0, N, .inl f)) (hi : inb i N = true) (d : decode cc pc = .ok (.iastore, 1)) (kk : GC X c s (pc + 1) lv st n (va_up cf k (.inl (X.2.2.2.2.1 0, N, .inl (upd f i.toNatClampNeg x))))) : GC X c s pc lv (.int x :: .int i :: .ref (gA X k) :: st) n cf := by
  intro H locs ls hP hz hS h
  have hD : va_D X.2.2.2.2.2.2 (pW (gA X) cf n) := pW_D C.2.2.2.2.2.2.2.2.2.1 (fun k _ => C.2.2.2.2.2.2.2.2.2.2.1 k)
  have ha : (pW (gA X) cf n)[k]? = some (gA X k, .inl (X.2.2.2.2.1 0, N, .inl f)) := by rw [pW_at hk, hcf]
  refine W.iast C.1 C.2.1 (hP k _ ha) ((C.2.2.2.2.2.2.1.2 0 (X.2.2.2.2.1 0, .int) rfl).1 N (fun j => .int (f j))) (fun q => by cases q) (by show ¬ (i < 0 ∨ (arrV _ _ _).slots.size ≤ _); rw [arrV_size]; exact inb_in hi) rfl rfl d fun H1 e z oq => ?_
  have hP1 := hP.set (e := .inl (X.2.2.2.2.1 0, N, .inl (upd f i.toNatClampNeg x))) hD ha (by
    show H1[gA X k]? = some (vp_cell _ _)
    rw [e]
    rw [vp_cell_i, vp_cell_i, arrV_store]
    congr 2
    funext q
    by_cases hq : q = i.toNatClampNeg
    · subst hq
      simp [updV, upd]
    · simp [updV, upd, hq]) oq
  rw [pW_set hk] at hP1
  exact kk H1 _ ls hP1 (by rw [z]; exact hz) (hS.put z oq (hD.2 k _ ha)) h
def qpre (D : va_G) (z : Nat → ClassId) (b0 n : Nat) (cf : Nat → va_E) (U : State) : Prop := U.heap.size = b0 + n ∧ va_P D gCls (pW (fun k => b0 + k) cf n) U.heap ∧ va_K D gCls (gTy z) U ∧ gNw U ∧ gAO U
def qpost (D : va_G) (b0 n : Nat) (cf : Nat → va_E) (A : Nat → Prop) : Array Value → State → Outcome → State → Prop := fun _ s0 oc t => (oc = .returned none ∧ t.heap.size = b0 + n ∧ va_P D gCls (pW (fun k => b0 + k) cf n) t.heap) ∧ va_F A s0 t
def gMetC (l : Launch) (y : MethodName) (bc : ByteArray) (nl fr lo mc ms : Nat) (av : (Nat → Nat) → List Value) (n : Nat) (hyp : (Nat → va_E) → Prop) (n' : Nat) (out : (Nat → ClassId) → (Nat → Nat) → (Nat → va_E) → Nat → va_E) : Prop :=
  ∀ (D : va_G) (z : Nat → ClassId) (b0 : Nat) (cf : Nat → va_E), hyp cf → Met l y (.code y bc nl none :: BIG) { frames := fr, cells := mc, slots := ms, locals := lo } (va_Pc (av (fun k => b0 + k)) (qpre D z b0 n cf)) (qpost D b0 n' (out z (fun k => b0 + k) cf) (va_A (pW (fun k => b0 + k) cf n) (b0 + n))) mc ms (va_A (pW (fun k => b0 + k) cf n) (b0 + n))
theorem qpre_blind {av : List Value} {D : va_G} {z : Nat → ClassId} {b0 n : Nat} {cf : Nat → va_E} : FrameBlind (va_Pc av (qpre D z b0 n cf)) := by
  intro a U g mk q
  obtain ⟨q0, q1, qP, qK, qN, qO⟩ := q
  exact ⟨q0, q1, qP, va_K.moved (u := U) (U := U.calling g mk a) (Vm.Alike.refl U.vm) qK, gNw_same rfl qN, gAO_moved (u := U) (U := U.calling g mk a) (Vm.Alike.refl U.vm) qO⟩
theorem gMetC_of {l : Launch} {y : MethodName} {bc : ByteArray} {nl fr lo mc ms : Nat} {av : (Nat → Nat) → List Value} {n n' : Nat} {hyp : (Nat → va_E) → Prop} {out : (Nat → ClassId) → (Nat → Nat) → (Nat → va_E) → Nat → va_E} (hy : plainFor y = true) (hyn : y.name = "<init>") (hlen : ∀ a, (lg_sl (av a)).length ≤ nl)
    (body : ∀ (X : gX) (b0 : Nat) (cf : Nat → va_E), hyp cf → gCC X bc y.cls nl fr lo mc ms b0 → X.2.2.1.1.name = "<init>" → (∀ pc lv cg, (∀ k, k < n' → cg k = out X.2.2.2.2.1 (gA X) cf k) → decode bc pc = .ok (.return_, 1) → GC X mc ms pc lv [] n' cg) → GC X 0 0 0 (lv_args 0 (av (gA X))) [] n cf) : gMetC l y bc nl fr lo mc ms av n hyp n' out := by
  intro D z b0 cf hcf
  refine va_MetF (cc := bc) (maxL := nl) (ret := none) hy rfl ?_
  intro p e s m args below meth c s₁ B hml hv
  obtain ⟨rfl, hsz, hP, hK, hN, hO⟩ := hv
  have hts := atoms_spec (ws := .code y bc nl none :: BIG) B.pre
  have hown : s.vm.findClass y.cls = some m.cls := findClass_of_methodNamed B.named
  have hlocks := B.notSynchronized
  have hin : meth.name = "<init>" := (name_of_methodNamed B.named B.method).1.trans hyn
  have hl := lv_entry (av (fun k => b0 + k)) (n := nl) (hlen _)
  rw [lg_entry_eq]
  have hA : ∀ q, s.heap.size ≤ q → va_A (pW (fun k => b0 + k) cf n) (b0 + n) q := fun q hq => Or.inr (by rw [← hsz]; exact hq)
  have hAk : ∀ k, va_A (pW (fun k => b0 + k) cf n) (b0 + n) (b0 + k) := fun k => by
    by_cases hk : k < n
    · exact Or.inl ⟨k, cf k, pW_at (a := fun k => b0 + k) hk⟩
    · exact Or.inr (by omega)
  have hC : gCC ((p, l, e, { frames := fr, cells := mc, slots := ms, locals := lo }), (s, m, (av (fun k => b0 + k)).toArray, below), (meth, c, MQ below (qpost D b0 n' (out z (fun k => b0 + k) cf) (va_A (pW (fun k => b0 + k) cf n) (b0 + n))) (av (fun k => b0 + k)).toArray s mc ms (va_A (pW (fun k => b0 + k) cf n) (b0 + n)), nl, 0, 0), (D, z, (fun k => b0 + k), va_A (pW (fun k => b0 + k) cf n) (b0 + n))) bc y.cls nl fr lo mc ms b0 :=
    ⟨B.exec, B.bytes, hml, rfl, hown, fun w hw => hts w (List.mem_cons_of_mem _ hw), hK, hN, hO, fun _ => rfl, hAk, hA, rfl, rfl, rfl, rfl⟩
  refine body _ b0 cf hcf hC hin (fun pc lv cg hcg d H locs ls hP1 hz1 hS1 _ => ?_) s.heap [] _ hP hsz va_S.rf hl
  rw [pW_congr hcg] at hP1
  exact W.vret B.exec B.bytes B.returns (fun t ht _ => ⟨⟨rfl, by rw [ht]; exact hz1, by rw [ht]; exact hP1⟩, hS1.F ht⟩) hS1.2.2 d
def gCalI (y : MethodName) (bc : ByteArray) (nl n : Nat) : Prop := Cond.instanceMethod y ∈ BIG ∧ Cond.initialized y.cls ∈ BIG ∧ Cond.code y bc nl none ∈ BIG ∧ y.cls ≠ "java/lang/invoke/MethodHandle" ∧ y.cls ≠ "java/lang/invoke/VarHandle" ∧ (parseMethodDescriptor y.desc).map (fun d => d.parameters.length) = some n ∧ y.name = "<init>"
theorem c_callK {n' mc' ms' : Nat} {cg : Nat → va_E} {rest st0 : List Value} {aa : Array Value} (C : gCC X cc own nL fr lo mc ms b0)
    (hr : ∀ (H : Heap) (locs : List Loc) (ls : Array Slot), va_P X.2.2.2.1 gCls (pW (gA X) cf n) H → H.size = gA X n → va_S X.2.2.2.2.2.2 X.2.1.1.heap H locs → lv_has ls X.2.2.1.2.2.2.1 lv →
      va_Run X.1.1 X.1.2.1 X.1.2.2.1 X.1.2.2.2 X.2.1.1 X.2.1.2.1 X.2.1.2.2.1 X.2.1.2.2.2 X.2.2.1.1 X.2.2.1.2.1 H locs c s mc' ms' (F0 X.2.1.2.1 pc ls st0) rest (qpost X.2.2.2.1 b0 n' cg (va_A (pW (fun k => b0 + k) cf n) (b0 + n)) aa) (va_A (pW (fun k => b0 + k) cf n) (b0 + n)))
    (kk : GC X (c + mc') (s + ms') (pc + 3) lv rest n' cg) : GC X c s pc lv st0 n cf := by
  intro H locs ls hP hz hS h T hT Xs
  have ha := C.2.2.2.2.2.2.2.2.2.1
  have hae : gA X = (fun k => b0 + k) := funext ha
  obtain ⟨v, st₀, t, T', L, h0, X', hL, e1, e2, ⟨⟨hv, hsz, hp⟩, hz9, hk⟩, st⟩ := hr H locs ls hP hz hS h T hT Xs
  cases hv
  rw [h0] at hz9 hk
  have hF : ∀ q, va_A (pW (fun k => b0 + k) cf n) (b0 + n) q → X.2.2.2.2.2.2 q := by
    intro q hq
    rcases hq with ⟨k, e, hq⟩ | hq
    · obtain ⟨-, h9⟩ := pW_fst hq
      have : q = b0 + k := congrArg Prod.fst h9
      rw [this, ← ha]
      exact C.2.2.2.2.2.2.2.2.2.2.1 k
    · exact C.2.2.2.2.2.2.2.2.2.2.2.1 q (Nat.le_trans hS.1 (by rw [hz, ha]; exact hq))
  obtain ⟨t2, a1, b1⟩ := kk T'.heap (locs ++ L) ls (by rw [e1, hae]; exact hp) (by rw [e1, ha]; exact hsz) ⟨Nat.le_trans hS.1 (by rw [e1]; exact hz9), fun q g1 g2 => by rw [e1, hk q (Nat.lt_of_lt_of_le g1 hS.1) (fun w => g2 (hF q w))]; exact hS.2.1 q g1 g2, fun q hq => by
      rcases List.mem_append.mp hq with g | g
      · exact hS.2.2 q g
      · exact hF _ (hL q g)⟩ h T' rfl X'
  exact ⟨t2, st t2 a1, b1⟩
theorem qpre_at (C : gCC X cc own nL fr lo mc ms b0) {H : Heap} {av : List Value} (hP : va_P X.2.2.2.1 gCls (pW (gA X) cf n) H) (hz : H.size = gA X n) : ∀ U : State, U.heap = H → X.2.1.1.WarmedH U.vm → va_Pc av (qpre X.2.2.2.1 X.2.2.2.2.1 b0 n cf) av.toArray U := by
  intro U hU hW
  have ha := C.2.2.2.2.2.2.2.2.2.1
  have hae : gA X = (fun k => b0 + k) := funext ha
  rw [hae] at hP
  exact ⟨rfl, by rw [hU, hz, ha], by rw [hU]; exact hP, va_K.moved hW.alike C.2.2.2.2.2.2.1, gNw_warm hW C.2.2.2.2.2.2.2.1, gAO_moved hW.alike C.2.2.2.2.2.2.2.2.1⟩
theorem c_callN (C : gCC X cc own nL fr lo mc ms b0) {y : MethodName} {host : String} {bc : ByteArray} {nl m1 index fr' lo' mc' ms' k n' : Nat} {av : (Nat → Nat) → List Value} {hyp : (Nat → va_E) → Prop} {out : (Nat → ClassId) → (Nat → Nat) → (Nat → va_E) → Nat → va_E} {As rest : List Value} (hM : gMetC X.1.2.1 y bc nl fr' lo' mc' ms' av n hyp n' out) (hy : gCalI y bc nl m1) (hl : (own, index, y, host) ∈ gNwM) (hcf : hyp cf) (hav : av (gA X) = .ref (gA X k) :: As) (hn : As.length = m1) {st0 : List Value} (hst : st0 = As.reverse ++ .ref (gA X k) :: rest) (hrest : (rest.map fun v => v.category).sum ≤ 8) (hfr : fr' + 1 ≤ fr ∧ 8 + (nl + 11) + lo' ≤ lo) (hc : c + mc' ≤ mc) (hs : s + ms' ≤ ms) (d : decode cc pc = .ok (.invokespecial index, 3)) (kk : GC X (c + mc') (s + ms') (pc + 3) lv rest n' (out X.2.2.2.2.1 (gA X) cf)) : GC X c s pc lv st0 n cf := by
  have hae : gA X = (fun k => b0 + k) := funext C.2.2.2.2.2.2.2.2.2.1
  refine c_callK (aa := (av (gA X)).toArray) C (fun H locs ls hP hz hS h => ?_) kk
  obtain ⟨y1, y3, y4, y5, y6, y7, y8⟩ := hy
  have hb := fun w (hw : w ∈ BIG) => C.2.2.2.2.2.1 w hw
  have cw := va_cnB (R := X.1.2.2.2) (s := X.2.1.1) (args := X.2.1.2.2.1) (own := own) (host := host) (index := index) (rm := { frames := fr', cells := mc', slots := ms', locals := lo' }) (mc := mc') (ms := ms') m1 hb (gGoodC y4) rfl rfl rfl (C.2.2.2.2.2.2.2.1.2 _ hl) (hb _ y3) ⟨y5, y6, y7⟩ (by rw [C.2.2.2.2.2.2.2.2.2.2.2.2.1, C.2.2.2.2.2.2.2.2.2.2.2.2.2.1]; exact hfr)
  have hM1 := hM X.2.2.2.1 X.2.2.2.2.1 b0 cf hcf
  rw [← hae, hav] at hM1
  rw [hav, ← hae]
  exact va_runIN (As := As) (rest := rest) ⟨C.1, C.2.1, C.2.2.1, C.2.2.2.2.1, hb⟩ hM1 ⟨cw, y8, hb _ y1⟩ ⟨qpre_blind, qpre_at C hP hz⟩ rfl hn (by rw [h.1, C.2.2.2.1]) hst (lv_room hrest) d ⟨by rw [C.2.2.2.2.2.2.2.2.2.2.2.2.2.2.1]; exact hc, by rw [C.2.2.2.2.2.2.2.2.2.2.2.2.2.2.2]; exact hs⟩
theorem c_callP (C : gCC X cc own nL fr lo mc ms b0) {y : MethodName} {bc : ByteArray} {nl m1 index fr' lo' mc' ms' k n' : Nat} {av : (Nat → Nat) → List Value} {hyp : (Nat → va_E) → Prop} {out : (Nat → ClassId) → (Nat → Nat) → (Nat → va_E) → Nat → va_E} {As rest : List Value} (hM : gMetC X.1.2.1 y bc nl fr' lo' mc' ms' av n hyp n' out) (hy : gCalI y bc nl m1) (hl : Cond.methodLink own index y ∈ BIG) (hcf : hyp cf) (hav : av (gA X) = .ref (gA X k) :: As) (hn : As.length = m1) {st0 : List Value} (hst : st0 = As.reverse ++ .ref (gA X k) :: rest) (hrest : (rest.map fun v => v.category).sum ≤ 8) (hfr : fr' + 1 ≤ fr ∧ 8 + (nl + 11) + lo' ≤ lo) (hc : c + mc' ≤ mc) (hs : s + ms' ≤ ms) (d : decode cc pc = .ok (.invokespecial index, 3)) (kk : GC X (c + mc') (s + ms') (pc + 3) lv rest n' (out X.2.2.2.2.1 (gA X) cf)) : GC X c s pc lv st0 n cf := by
  have hae : gA X = (fun k => b0 + k) := funext C.2.2.2.2.2.2.2.2.2.1
  refine c_callK (aa := (av (gA X)).toArray) C (fun H locs ls hP hz hS h => ?_) kk
  obtain ⟨y1, y3, y4, y5, y6, y7, y8⟩ := hy
  have hb := fun w (hw : w ∈ BIG) => C.2.2.2.2.2.1 w hw
  have cw : CallB X.1.2.2.2 X.2.1.1 X.2.1.2.2.1 own index y bc nl none (.code y bc nl none :: BIG) { frames := fr', cells := mc', slots := ms', locals := lo' } mc' ms' m1 :=
    callB_of m1 hb (gGoodC y4) rfl rfl rfl (hb _ y3) (hb _ hl) ⟨y5, y6, y7⟩ (by rw [C.2.2.2.2.2.2.2.2.2.2.2.2.1, C.2.2.2.2.2.2.2.2.2.2.2.2.2.1]; exact hfr)
  have hM1 := hM X.2.2.2.1 X.2.2.2.2.1 b0 cf hcf
  rw [← hae, hav] at hM1
  rw [hav, ← hae]
  exact va_runI (As := As) (rest := rest) ⟨C.1, C.2.1, C.2.2.1, C.2.2.2.2.1, hb⟩ hM1 ⟨cw, y8, hb _ y1⟩ ⟨qpre_blind, qpre_at C hP hz⟩ rfl hn (by rw [h.1, C.2.2.2.1]) hst (lv_room hrest) d ⟨by rw [C.2.2.2.2.2.2.2.2.2.2.2.2.2.2.1]; exact hc, by rw [C.2.2.2.2.2.2.2.2.2.2.2.2.2.2.2]; exact hs⟩
end GCR
