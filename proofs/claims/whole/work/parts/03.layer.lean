/-! MY LAYER: one world of gN cells at addresses a k; a state is what the int cells and the long cells hold; a judgement G over pc, locals, stack, state. -/
/-- a state: ints by cell and place (array elements, or an object's int fields by slot), longs likewise -/
abbrev gS : Type := (Nat → Nat → Int32) × (Nat → Nat → Int64)
def gI (σ : gS) (k i : Nat) : Int32 := σ.1 k i
def gL (σ : gS) (k i : Nat) : Int64 := σ.2 k i
def sI (σ : gS) (k i : Nat) (v : Int32) : gS := (va_up σ.1 k (upd (σ.1 k) i v), σ.2)
def sL (σ : gS) (k i : Nat) (v : Int64) : gS := (σ.1, va_up σ.2 k (vp_updL (σ.2 k) i v))
/-- what a cell is: an int array, a long array, or what gObj says -/
def gCel (z : Nat → ClassId) (a : Nat → Nat) (f : Nat → Int32) (g : Nat → Int64) (k : Nat) : va_E :=
  if kI k = true then .inl (z 0, kLen k, .inl f) else if kJ k = true then .inl (z 1, kLen k, .inr (.inl g)) else if kZ k = true then .inl (z 4, kLen k, .inl f) else gObj z a f k
def gW (z : Nat → ClassId) (a : Nat → Nat) (σ : gS) : va_W := (List.range gN).map fun k => (a k, gCel z a (σ.1 k) (σ.2 k) k)
theorem gW_at {z : Nat → ClassId} {a : Nat → Nat} (σ : gS) {k : Nat} (hk : k < gN) : (gW z a σ)[k]? = some (a k, gCel z a (σ.1 k) (σ.2 k) k) := by
  unfold gW
  rw [List.getElem?_map, List.getElem?_range hk]
  rfl
theorem gW_len {z : Nat → ClassId} {a : Nat → Nat} (σ : gS) : (gW z a σ).length = gN := by simp [gW]
theorem gW_set {z : Nat → ClassId} {a : Nat → Nat} {σ σ' : gS} {k : Nat} (hk : k < gN) {e : va_E} (h1 : ∀ j, j ≠ k → σ'.1 j = σ.1 j) (h2 : ∀ j, j ≠ k → σ'.2 j = σ.2 j) (he : gCel z a (σ'.1 k) (σ'.2 k) k = e) : (gW z a σ).set k (a k, e) = gW z a σ' := by
  apply List.ext_getElem?
  intro j
  by_cases hj : j = k
  · subst hj
    rw [List.getElem?_set_self (by rw [gW_len]; exact hk), gW_at σ' hk, he]
  · rw [List.getElem?_set_ne (Ne.symm hj)]
    by_cases hn : j < gN
    · rw [gW_at σ hn, gW_at σ' hn, h1 j hj, h2 j hj]
    · rw [List.getElem?_eq_none (by rw [gW_len]; omega), List.getElem?_eq_none (by rw [gW_len]; omega)]
theorem gCel_I {z : Nat → ClassId} {a : Nat → Nat} {f : Nat → Int32} {g : Nat → Int64} {k : Nat} (h : kI k = true) : gCel z a f g k = .inl (z 0, kLen k, .inl f) := if_pos h
theorem gCel_J {z : Nat → ClassId} {a : Nat → Nat} {f : Nat → Int32} {g : Nat → Int64} {k : Nat} (h0 : kI k = false) (h : kJ k = true) : gCel z a f g k = .inl (z 1, kLen k, .inr (.inl g)) := by
  unfold gCel
  rw [if_neg (by rw [h0]; decide), if_pos h]
theorem gCel_Z {z : Nat → ClassId} {a : Nat → Nat} {f : Nat → Int32} {g : Nat → Int64} {k : Nat} (h0 : kI k = false) (h1 : kJ k = false) (h : kZ k = true) : gCel z a f g k = .inl (z 4, kLen k, .inl f) := by
  unfold gCel
  rw [if_neg (by rw [h0]; decide), if_neg (by rw [h1]; decide), if_pos h]
theorem gW_sI {z : Nat → ClassId} {a : Nat → Nat} {σ : gS} {k i : Nat} {v : Int32} {e : va_E} (hk : k < gN) (he : gCel z a (upd (σ.1 k) i v) (σ.2 k) k = e) : (gW z a σ).set k (a k, e) = gW z a (sI σ k i v) := by
  refine gW_set hk (fun j hj => ?_) (fun j hj => rfl) ?_
  · exact va_up_ne _ _ hj
  · rw [← he]
    show gCel z a (va_up σ.1 k (upd (σ.1 k) i v) k) (σ.2 k) k = _
    rw [va_up_self]
theorem gW_sL {z : Nat → ClassId} {a : Nat → Nat} {σ : gS} {k i : Nat} {v : Int64} {e : va_E} (hk : k < gN) (he : gCel z a (σ.1 k) (vp_updL (σ.2 k) i v) k = e) : (gW z a σ).set k (a k, e) = gW z a (sL σ k i v) := by
  refine gW_set hk (fun j hj => rfl) (fun j hj => ?_) ?_
  · exact va_up_ne _ _ hj
  · rw [← he]
    show gCel z a (σ.1 k) (va_up σ.2 k (vp_updL (σ.2 k) i v) k) k = _
    rw [va_up_self]
theorem gW_fst {z : Nat → ClassId} {a : Nat → Nat} {σ : gS} {k : Nat} {q : Nat × va_E} (h : (gW z a σ)[k]? = some q) : k < gN ∧ q.1 = a k := by
  have hk : k < gN := by
    have := (List.getElem?_eq_some_iff.mp h).1
    rwa [gW_len] at this
  rw [gW_at σ hk] at h
  cases h
  exact ⟨hk, rfl⟩
theorem gW_D {z : Nat → ClassId} {a : Nat → Nat} {A : Nat → Prop} {σ : gS} (σ' : gS) (h : va_D A (gW z a σ)) : va_D A (gW z a σ') := by
  refine ⟨fun i j x y hi hj hxy => ?_, fun k q hk => ?_⟩
  · obtain ⟨i1, i2⟩ := gW_fst hi
    obtain ⟨j1, j2⟩ := gW_fst hj
    exact h.1 i j _ _ (gW_at σ i1) (gW_at σ j1) (i2.symm.trans (hxy.trans j2))
  · obtain ⟨k1, k2⟩ := gW_fst hk
    rw [k2]
    exact h.2 k _ (gW_at σ k1)
theorem gW_A {z : Nat → ClassId} {a : Nat → Nat} {σ : gS} (σ' : gS) {sz q : Nat} (h : va_A (gW z a σ) sz q) : va_A (gW z a σ') sz q := by
  rcases h with ⟨k, e, h⟩ | h
  · obtain ⟨k1, k2⟩ := gW_fst h
    exact Or.inl ⟨k, _, by rw [show q = a k from k2]; exact gW_at σ' k1⟩
  · exact Or.inr h
/-- checks, names, loops with fuel -/
def ck {α : Type} (b : Bool) (x : Option α) : Option α := if b = true then x else none
def bnd {α β : Type} (x : α) (f : α → β) : β := f x
theorem ck_some {α : Type} {b : Bool} {x : Option α} {r : α} (h : ck b x = some r) : b = true ∧ x = some r := by
  unfold ck at h
  by_cases hb : b = true
  · rw [if_pos hb] at h; exact ⟨hb, h⟩
  · rw [if_neg hb] at h; cases h
theorem bnd_some {α β : Type} {x : α} {f : α → Option β} {r : β} (h : bnd x f = some r) : ∃ y, y = x ∧ f y = some r := ⟨x, rfl, h⟩
theorem bind_some {α β : Type} {x : Option α} {f : α → Option β} {r : β} (h : x.bind f = some r) : ∃ y, x = some y ∧ f y = some r := by
  cases x with
  | none => cases h
  | some y => exact ⟨y, rfl, h⟩
def gF : Nat := 5000
def lpF {α ρ : Type} (body : (α → Option ρ) → α → Option ρ) : Nat → α → Option ρ
  | 0, _ => none
  | n + 1, x => body (lpF body n) x
theorem lpF_ind {α ρ : Type} {body : (α → Option ρ) → α → Option ρ} {r : ρ} {P : α → Prop} (hb : ∀ k, (∀ x, k x = some r → P x) → ∀ x, body k x = some r → P x) : ∀ n x, lpF body n x = some r → P x
  | 0, _, h => by cases h
  | n + 1, x, h => hb (lpF body n) (fun y hy => lpF_ind hb n y hy) x h
/-- an index in range -/
def inb (i : Int32) (n : Nat) : Bool := decide (0 ≤ i.toInt) && decide (i.toInt < (n : Int))
theorem inb_in {i : Int32} {n : Nat} (h : inb i n = true) : vp_in i n := by
  simp only [inb, Bool.and_eq_true, decide_eq_true_eq] at h
  exact vp_in_iff.mpr h
def oaI (k : Nat) : Bool := kI k && decide (k < gN)
def oaJ (k : Nat) : Bool := (!kI k) && kJ k && decide (k < gN)
def oaZ (k : Nat) : Bool := (!kI k) && (!kJ k) && kZ k && decide (k < gN)
def okI (k : Nat) (i : Int32) : Bool := oaI k && inb i (kLen k)
def okJ (k : Nat) (i : Int32) : Bool := oaJ k && inb i (kLen k)
theorem oaI_k {k : Nat} (h : oaI k = true) : kI k = true := (Bool.and_eq_true_iff.mp h).1
theorem oaI_n {k : Nat} (h : oaI k = true) : k < gN := of_decide_eq_true (Bool.and_eq_true_iff.mp h).2
theorem oaJ_0 {k : Nat} (h : oaJ k = true) : kI k = false := by
  have := (Bool.and_eq_true_iff.mp (Bool.and_eq_true_iff.mp h).1).1
  simpa using this
theorem oaJ_k {k : Nat} (h : oaJ k = true) : kJ k = true := (Bool.and_eq_true_iff.mp (Bool.and_eq_true_iff.mp h).1).2
theorem oaJ_n {k : Nat} (h : oaJ k = true) : k < gN := of_decide_eq_true (Bool.and_eq_true_iff.mp h).2
theorem okI_k {k : Nat} {i : Int32} (h : okI k i = true) : kI k = true := oaI_k (Bool.and_eq_true_iff.mp h).1
theorem okI_n {k : Nat} {i : Int32} (h : okI k i = true) : k < gN := oaI_n (Bool.and_eq_true_iff.mp h).1
theorem okI_i {k : Nat} {i : Int32} (h : okI k i = true) : inb i (kLen k) = true := (Bool.and_eq_true_iff.mp h).2
theorem okJ_0 {k : Nat} {i : Int32} (h : okJ k i = true) : kI k = false := oaJ_0 (Bool.and_eq_true_iff.mp h).1
theorem okJ_k {k : Nat} {i : Int32} (h : okJ k i = true) : kJ k = true := oaJ_k (Bool.and_eq_true_iff.mp h).1
theorem okJ_n {k : Nat} {i : Int32} (h : okJ k i = true) : k < gN := oaJ_n (Bool.and_eq_true_iff.mp h).1
theorem okJ_i {k : Nat} {i : Int32} (h : okJ k i = true) : inb i (kLen k) = true := (Bool.and_eq_true_iff.mp h).2
def okZ (k : Nat) (i : Int32) : Bool := oaZ k && inb i (kLen k)
theorem okZ_all {k : Nat} {i : Int32} (h : okZ k i = true) : kI k = false ∧ kJ k = false ∧ kZ k = true ∧ k < gN ∧ inb i (kLen k) = true := by
  simp only [okZ, oaZ, Bool.and_eq_true, Bool.not_eq_true', decide_eq_true_eq] at h
  exact ⟨h.1.1.1.1, h.1.1.1.2, h.1.1.2, h.1.2, h.2⟩
def nz (x : Int32) : Bool := !(decide (x = 0))
theorem nz_ne {x : Int32} (h : nz x = true) : ¬ x = 0 := by simpa [nz] using h
def isB (x : Int32) : Bool := decide (x = 0) || decide (x = 1)
theorem isB_n {x : Int32} (h : isB x = true) : narrow .boolean (.int x) = .int x := by
  simp only [isB, Bool.or_eq_true, decide_eq_true_eq] at h
  rcases h with rfl | rfl <;> decide +kernel
/-- the machine's fixed parts: (program, launch, env, room), (start, method, args, below), (method, code, goal, locals), (classes, array classes, addresses, what may change) -/
abbrev gX : Type := (Program × Launch × Env × Room) × (State × MethodId × Array Value × List Frame) × (Method × Code × (State → Prop) × Nat × Nat × Nat) × (va_G × (Nat → ClassId) × (Nat → Nat) × (Nat → Prop))
abbrev gA (X : gX) : Nat → Nat := X.2.2.2.2.2.1
def gTy (z : Nat → ClassId) : List (ClassId × FieldType) := [(z 0, .int), (z 1, .long), (z 2, .array .int), (z 3, .array .long), (z 4, .boolean)]
def gNw (U : State) : Prop := (∀ q ∈ gNwF, va_Nw (.fieldLinkNest q.1 q.2.1 q.2.2.1 q.2.2.2.1 q.2.2.2.2.1 q.2.2.2.2.2) U) ∧ ∀ q ∈ gNwM, va_Nw (.methodLinkNest q.1 q.2.1 q.2.2.1 q.2.2.2) U
theorem gNw_warm {s U : State} (hW : s.WarmedH U.vm) (h : gNw s) : gNw U := ⟨fun q hq => va_Nw.warmF hW (h.1 q hq), fun q hq => va_Nw.warmM hW (h.2 q hq)⟩
theorem gNw_same {s U : State} (hv : s.vm = U.vm) (h : gNw s) : gNw U := ⟨fun q hq => va_Nw.same rfl hv (h.1 q hq), fun q hq => va_Nw.same rfl hv (h.2 q hq)⟩
/-- what is known all through a method's walk -/
def gC (X : gX) (cc : ByteArray) (own : String) (nL fr lo : Nat) : Prop :=
  X.1.1.tables.exec = Jvm.exec ∧ X.2.2.1.2.1.code = cc ∧ X.2.2.1.2.1.maxLocals = nL ∧ X.2.2.1.2.2.2.1 = nL ∧ X.2.1.1.vm.findClass own = some X.2.1.2.1.cls ∧ (∀ w ∈ BIG, w.before X.2.1.2.2.1 X.2.1.1 = true) ∧
  va_K X.2.2.2.1 gCls (gTy X.2.2.2.2.1) X.2.1.1 ∧ gNw X.2.1.1 ∧ (∀ σ, va_D X.2.2.2.2.2.2 (gW X.2.2.2.2.1 X.2.2.2.2.2.1 σ)) ∧ (∀ q, X.2.1.1.heap.size ≤ q → X.2.2.2.2.2.2 q) ∧ X.1.2.2.2.frames = fr ∧ X.1.2.2.2.locals = lo ∧ X.2.2.1.2.2.2.2.1 ≤ X.1.2.2.2.cells ∧ X.2.2.1.2.2.2.2.2 ≤ X.1.2.2.2.slots
def G (X : gX) (pc : Nat) (lv : List (Nat × Value)) (st : List Value) (σ : gS) : Prop :=
  ∀ (H : Heap) (locs : List Loc) (ls : Array Slot), va_P X.2.2.2.1 gCls (gW X.2.2.2.2.1 X.2.2.2.2.2.1 σ) H → va_S X.2.2.2.2.2.2 X.2.1.1.heap H locs → lv_has ls X.2.2.1.2.2.2.1 lv →
    W X.1.1 X.1.2.1 X.1.2.2.1 X.1.2.2.2 X.2.1.1 X.2.1.2.1 X.2.1.2.2.1 X.2.1.2.2.2 X.2.2.1.1 X.2.2.1.2.1 H locs X.2.2.1.2.2.2.2.1 X.2.2.1.2.2.2.2.2 X.2.2.1.2.2.1 (F0 X.2.1.2.1 pc ls st)
section GR
variable {X : gX} {cc : ByteArray} {own : String} {nL fr lo pc : Nat} {lv : List (Nat × Value)} {st : List Value} {σ : gS}
theorem r_sub (ks : List Nat) {lv' : List (Nat × Value)} (hl : lv_pick lv ks = lv') (k : G X pc lv' st σ) : G X pc lv st σ := fun H locs ls hP hS h => k H locs ls hP hS (lv_sub h ks hl)
theorem r_iconst (C : gC X cc own nL fr lo) {n : Int} {v : Int32} (d : decode cc pc = .ok (.iconst n, 1)) (hv : Int32.ofInt n = v) (k : G X (pc + 1) lv (.int v :: st) σ) : G X pc lv st σ := fun H locs ls hP hS h => lv_iconst C.1 C.2.1 d hv (k H locs ls hP hS h)
theorem r_bipush (C : gC X cc own nL fr lo) {n : Int} {v : Int32} (d : decode cc pc = .ok (.bipush n, 2)) (hv : (Int8.ofInt n).toInt32 = v) (k : G X (pc + 2) lv (.int v :: st) σ) : G X pc lv st σ := fun H locs ls hP hS h => lv_bipush C.1 C.2.1 d hv (k H locs ls hP hS h)
theorem r_sipush (C : gC X cc own nL fr lo) {n : Int} {v : Int32} (d : decode cc pc = .ok (.sipush n, 3)) (hv : (Int16.ofInt n).toInt32 = v) (k : G X (pc + 3) lv (.int v :: st) σ) : G X pc lv st σ := fun H locs ls hP hS h => lv_sipush C.1 C.2.1 d hv (k H locs ls hP hS h)
theorem r_lconst (C : gC X cc own nL fr lo) {n : Fin 2} {v : Int64} (d : decode cc pc = .ok (.lconst n, 1)) (hv : Int64.ofNat (n : Nat) = v) (k : G X (pc + 1) lv (.long v :: st) σ) : G X pc lv st σ := fun H locs ls hP hS h => lv_lconst C.1 C.2.1 d hv (k H locs ls hP hS h)
theorem r_ldc (C : gC X cc own nL fr lo) {index : Nat} {v : Int32} (w : Cond.constant own index v ∈ BIG) (d : decode cc pc = .ok (.ldc index, 2)) (k : G X (pc + 2) lv (.int v :: st) σ) : G X pc lv st σ := fun H locs ls hP hS h => lv_ldc C.1 C.2.1 C.2.2.2.2.1 (C.2.2.2.2.2.1 _ w) d (k H locs ls hP hS h)
theorem r_ldc2 (C : gC X cc own nL fr lo) {index : Nat} {v : Int64} (w : Cond.constantLong own index v ∈ BIG) (d : decode cc pc = .ok (.ldc2_w index, 3)) (k : G X (pc + 3) lv (.long v :: st) σ) : G X pc lv st σ := fun H locs ls hP hS h => lv_ldc2 C.1 C.2.1 C.2.2.2.2.1 (C.2.2.2.2.2.1 _ w) d (k H locs ls hP hS h)
theorem r_iload_n (C : gC X cc own nL fr lo) (q : Nat) {n : Fin 4} {i : Nat} {x : Int32} (d : decode cc pc = .ok (.iload_n n, 1)) (hi : (n : Nat) = i) (hq : lv[q]? = some (i, .int x)) (k : G X (pc + 1) lv (.int x :: st) σ) : G X pc lv st σ := fun H locs ls hP hS h => lv_iload_n C.1 C.2.1 d hi (lv_at h q hq) (k H locs ls hP hS h)
theorem r_iload (C : gC X cc own nL fr lo) (q : Nat) {i : Nat} {x : Int32} (d : decode cc pc = .ok (.iload i, 2)) (hq : lv[q]? = some (i, .int x)) (k : G X (pc + 2) lv (.int x :: st) σ) : G X pc lv st σ := fun H locs ls hP hS h => lv_iload C.1 C.2.1 d (lv_at h q hq) (k H locs ls hP hS h)
theorem r_lload_n (C : gC X cc own nL fr lo) (q : Nat) {n : Fin 4} {i : Nat} {x : Int64} (d : decode cc pc = .ok (.lload_n n, 1)) (hi : (n : Nat) = i) (hq : lv[q]? = some (i, .long x)) (k : G X (pc + 1) lv (.long x :: st) σ) : G X pc lv st σ := fun H locs ls hP hS h => lv_lload_n C.1 C.2.1 d hi (lv_at h q hq) (k H locs ls hP hS h)
theorem r_lload (C : gC X cc own nL fr lo) (q : Nat) {i : Nat} {x : Int64} (d : decode cc pc = .ok (.lload i, 2)) (hq : lv[q]? = some (i, .long x)) (k : G X (pc + 2) lv (.long x :: st) σ) : G X pc lv st σ := fun H locs ls hP hS h => lv_lload C.1 C.2.1 d (lv_at h q hq) (k H locs ls hP hS h)
theorem r_aload_n (C : gC X cc own nL fr lo) (q : Nat) {n : Fin 4} {i x : Nat} (d : decode cc pc = .ok (.aload_n n, 1)) (hi : (n : Nat) = i) (hq : lv[q]? = some (i, .ref x)) (k : G X (pc + 1) lv (.ref x :: st) σ) : G X pc lv st σ := fun H locs ls hP hS h => lv_aload_n C.1 C.2.1 d hi (lv_at h q hq) (k H locs ls hP hS h)
theorem r_aload (C : gC X cc own nL fr lo) (q : Nat) {i x : Nat} (d : decode cc pc = .ok (.aload i, 2)) (hq : lv[q]? = some (i, .ref x)) (k : G X (pc + 2) lv (.ref x :: st) σ) : G X pc lv st σ := fun H locs ls hP hS h => lv_aload C.1 C.2.1 d (lv_at h q hq) (k H locs ls hP hS h)
theorem r_istore_n (C : gC X cc own nL fr lo) {n : Fin 4} {i : Nat} {x y : Int32} {lv' : List (Nat × Value)} (d : decode cc pc = .ok (.istore_n n, 1)) (hi : (n : Nat) = i) (hn : i < nL) (e : y = x) (hl : (i, Value.int y) :: lv.filter (fun q => !(q.1 == i) && !(q.1 + 1 == i && q.2.category == 2)) = lv') (k : G X (pc + 1) lv' st σ) : G X pc lv (.int x :: st) σ := by
  subst e
  exact fun H locs ls hP hS h => lv_istore_n C.1 C.2.1 d hi h (by rw [C.2.2.2.1]; exact hn) hl (fun ls' h' => k H locs ls' hP hS h')
theorem r_istore (C : gC X cc own nL fr lo) {i : Nat} {x y : Int32} {lv' : List (Nat × Value)} (d : decode cc pc = .ok (.istore i, 2)) (hn : i < nL) (e : y = x) (hl : (i, Value.int y) :: lv.filter (fun q => !(q.1 == i) && !(q.1 + 1 == i && q.2.category == 2)) = lv') (k : G X (pc + 2) lv' st σ) : G X pc lv (.int x :: st) σ := by
  subst e
  exact fun H locs ls hP hS h => lv_istore C.1 C.2.1 d h (by rw [C.2.2.2.1]; exact hn) hl (fun ls' h' => k H locs ls' hP hS h')
theorem r_lstore_n (C : gC X cc own nL fr lo) {n : Fin 4} {i : Nat} {x y : Int64} {lv' : List (Nat × Value)} (d : decode cc pc = .ok (.lstore_n n, 1)) (hi : (n : Nat) = i) (hn : i + 1 < nL) (e : y = x) (hl : (i, Value.long y) :: lv.filter (fun q => !(q.1 == i) && (!(q.1 == i + 1) && !(q.1 + 1 == i && q.2.category == 2))) = lv') (k : G X (pc + 1) lv' st σ) : G X pc lv (.long x :: st) σ := by
  subst e
  exact fun H locs ls hP hS h => lv_lstore_n C.1 C.2.1 d hi h (by rw [C.2.2.2.1]; exact hn) hl (fun ls' h' => k H locs ls' hP hS h')
theorem r_lstore (C : gC X cc own nL fr lo) {i : Nat} {x y : Int64} {lv' : List (Nat × Value)} (d : decode cc pc = .ok (.lstore i, 2)) (hn : i + 1 < nL) (e : y = x) (hl : (i, Value.long y) :: lv.filter (fun q => !(q.1 == i) && (!(q.1 == i + 1) && !(q.1 + 1 == i && q.2.category == 2))) = lv') (k : G X (pc + 2) lv' st σ) : G X pc lv (.long x :: st) σ := by
  subst e
  exact fun H locs ls hP hS h => lv_lstore C.1 C.2.1 d h (by rw [C.2.2.2.1]; exact hn) hl (fun ls' h' => k H locs ls' hP hS h')
theorem r_astore_n (C : gC X cc own nL fr lo) {n : Fin 4} {i x : Nat} {lv' : List (Nat × Value)} (d : decode cc pc = .ok (.astore_n n, 1)) (hi : (n : Nat) = i) (hn : i < nL) (hl : (i, Value.ref x) :: lv.filter (fun q => !(q.1 == i) && !(q.1 + 1 == i && q.2.category == 2)) = lv') (k : G X (pc + 1) lv' st σ) : G X pc lv (.ref x :: st) σ :=
  fun H locs ls hP hS h => lv_astore_n C.1 C.2.1 d hi h (by rw [C.2.2.2.1]; exact hn) hl (fun ls' h' => k H locs ls' hP hS h')
theorem r_astore (C : gC X cc own nL fr lo) {i x : Nat} {lv' : List (Nat × Value)} (d : decode cc pc = .ok (.astore i, 2)) (hn : i < nL) (hl : (i, Value.ref x) :: lv.filter (fun q => !(q.1 == i) && !(q.1 + 1 == i && q.2.category == 2)) = lv') (k : G X (pc + 2) lv' st σ) : G X pc lv (.ref x :: st) σ :=
  fun H locs ls hP hS h => lv_astore C.1 C.2.1 d h (by rw [C.2.2.2.1]; exact hn) hl (fun ls' h' => k H locs ls' hP hS h')
theorem r_iinc (C : gC X cc own nL fr lo) (q : Nat) {i : Nat} {n : Int} {x y : Int32} {lv' : List (Nat × Value)} (d : decode cc pc = .ok (.iinc i n, 3)) (hq : lv[q]? = some (i, .int x)) (e : y = x + Int32.ofInt n) (hn : i < nL) (hl : (i, Value.int y) :: lv.filter (fun q => !(q.1 == i) && !(q.1 + 1 == i && q.2.category == 2)) = lv') (k : G X (pc + 3) lv' st σ) : G X pc lv st σ :=
  fun H locs ls hP hS h => lv_iinc C.1 C.2.1 d h hq e.symm (by rw [C.2.2.2.1]; exact hn) hl (fun ls' h' => k H locs ls' hP hS h')
theorem r_iadd (C : gC X cc own nL fr lo) {x y : Int32} (d : decode cc pc = .ok (.iadd, 1)) (k : G X (pc + 1) lv (.int (x + y) :: st) σ) : G X pc lv (.int y :: .int x :: st) σ := fun H locs ls hP hS h => lv_iadd C.1 C.2.1 d (k H locs ls hP hS h)
theorem r_isub (C : gC X cc own nL fr lo) {x y : Int32} (d : decode cc pc = .ok (.isub, 1)) (k : G X (pc + 1) lv (.int (x - y) :: st) σ) : G X pc lv (.int y :: .int x :: st) σ := fun H locs ls hP hS h => lv_isub C.1 C.2.1 d (k H locs ls hP hS h)
theorem r_imul (C : gC X cc own nL fr lo) {x y : Int32} (d : decode cc pc = .ok (.imul, 1)) (k : G X (pc + 1) lv (.int (x * y) :: st) σ) : G X pc lv (.int y :: .int x :: st) σ := fun H locs ls hP hS h => lv_imul C.1 C.2.1 d (k H locs ls hP hS h)
theorem r_iand (C : gC X cc own nL fr lo) {x y : Int32} (d : decode cc pc = .ok (.iand, 1)) (k : G X (pc + 1) lv (.int (x &&& y) :: st) σ) : G X pc lv (.int y :: .int x :: st) σ := fun H locs ls hP hS h => lv_iand C.1 C.2.1 d (k H locs ls hP hS h)
theorem r_ior (C : gC X cc own nL fr lo) {x y : Int32} (d : decode cc pc = .ok (.ior, 1)) (k : G X (pc + 1) lv (.int (x ||| y) :: st) σ) : G X pc lv (.int y :: .int x :: st) σ := fun H locs ls hP hS h => lv_ior C.1 C.2.1 d (k H locs ls hP hS h)
theorem r_ixor (C : gC X cc own nL fr lo) {x y : Int32} (d : decode cc pc = .ok (.ixor, 1)) (k : G X (pc + 1) lv (.int (x ^^^ y) :: st) σ) : G X pc lv (.int y :: .int x :: st) σ := fun H locs ls hP hS h => lv_ixor C.1 C.2.1 d (k H locs ls hP hS h)
theorem r_idiv (C : gC X cc own nL fr lo) {x y : Int32} (d : decode cc pc = .ok (.idiv, 1)) (hy : nz y = true) (k : G X (pc + 1) lv (.int (x / y) :: st) σ) : G X pc lv (.int y :: .int x :: st) σ := fun H locs ls hP hS h => lv_idiv C.1 C.2.1 d (nz_ne hy) (k H locs ls hP hS h)
theorem r_irem (C : gC X cc own nL fr lo) {x y : Int32} (d : decode cc pc = .ok (.irem, 1)) (hy : nz y = true) (k : G X (pc + 1) lv (.int (x - x / y * y) :: st) σ) : G X pc lv (.int y :: .int x :: st) σ := fun H locs ls hP hS h => lv_irem C.1 C.2.1 d (nz_ne hy) (k H locs ls hP hS h)
theorem r_ineg (C : gC X cc own nL fr lo) {x : Int32} (d : decode cc pc = .ok (.ineg, 1)) (k : G X (pc + 1) lv (.int (-x) :: st) σ) : G X pc lv (.int x :: st) σ := fun H locs ls hP hS h => lv_ineg C.1 C.2.1 d (k H locs ls hP hS h)
theorem r_ishl (C : gC X cc own nL fr lo) {x y : Int32} (d : decode cc pc = .ok (.ishl, 1)) (k : G X (pc + 1) lv (.int (x <<< (y &&& 31)) :: st) σ) : G X pc lv (.int y :: .int x :: st) σ := fun H locs ls hP hS h => lv_ishl C.1 C.2.1 d (k H locs ls hP hS h)
theorem r_ishr (C : gC X cc own nL fr lo) {x y : Int32} (d : decode cc pc = .ok (.ishr, 1)) (k : G X (pc + 1) lv (.int (x >>> (y &&& 31)) :: st) σ) : G X pc lv (.int y :: .int x :: st) σ := fun H locs ls hP hS h => lv_ishr C.1 C.2.1 d (k H locs ls hP hS h)
theorem r_ladd (C : gC X cc own nL fr lo) {x y : Int64} (d : decode cc pc = .ok (.ladd, 1)) (k : G X (pc + 1) lv (.long (x + y) :: st) σ) : G X pc lv (.long y :: .long x :: st) σ := fun H locs ls hP hS h => lv_ladd C.1 C.2.1 d (k H locs ls hP hS h)
theorem r_lsub (C : gC X cc own nL fr lo) {x y : Int64} (d : decode cc pc = .ok (.lsub, 1)) (k : G X (pc + 1) lv (.long (x - y) :: st) σ) : G X pc lv (.long y :: .long x :: st) σ := fun H locs ls hP hS h => lv_lsub C.1 C.2.1 d (k H locs ls hP hS h)
theorem r_lmul (C : gC X cc own nL fr lo) {x y : Int64} (d : decode cc pc = .ok (.lmul, 1)) (k : G X (pc + 1) lv (.long (x * y) :: st) σ) : G X pc lv (.long y :: .long x :: st) σ := fun H locs ls hP hS h => lv_lmul C.1 C.2.1 d (k H locs ls hP hS h)
theorem r_land (C : gC X cc own nL fr lo) {x y : Int64} (d : decode cc pc = .ok (.land, 1)) (k : G X (pc + 1) lv (.long (x &&& y) :: st) σ) : G X pc lv (.long y :: .long x :: st) σ := fun H locs ls hP hS h => lv_land C.1 C.2.1 d (k H locs ls hP hS h)
theorem r_lor (C : gC X cc own nL fr lo) {x y : Int64} (d : decode cc pc = .ok (.lor, 1)) (k : G X (pc + 1) lv (.long (x ||| y) :: st) σ) : G X pc lv (.long y :: .long x :: st) σ := fun H locs ls hP hS h => lv_lor C.1 C.2.1 d (k H locs ls hP hS h)
theorem r_lxor (C : gC X cc own nL fr lo) {x y : Int64} (d : decode cc pc = .ok (.lxor, 1)) (k : G X (pc + 1) lv (.long (x ^^^ y) :: st) σ) : G X pc lv (.long y :: .long x :: st) σ := fun H locs ls hP hS h => lv_lxor C.1 C.2.1 d (k H locs ls hP hS h)
theorem r_lshl (C : gC X cc own nL fr lo) {x : Int64} {y : Int32} (d : decode cc pc = .ok (.lshl, 1)) (k : G X (pc + 1) lv (.long (x <<< (y.toInt64 &&& 63)) :: st) σ) : G X pc lv (.int y :: .long x :: st) σ := fun H locs ls hP hS h => lv_lshl C.1 C.2.1 d rfl (k H locs ls hP hS h)
theorem r_lushr (C : gC X cc own nL fr lo) {x : Int64} {y : Int32} (d : decode cc pc = .ok (.lushr, 1)) (k : G X (pc + 1) lv (.long ((x.toUInt64 >>> (y.toInt64.toUInt64 &&& Int64.toUInt64 63)).toInt64) :: st) σ) : G X pc lv (.int y :: .long x :: st) σ := fun H locs ls hP hS h => lv_lushr C.1 C.2.1 d rfl (k H locs ls hP hS h)
theorem r_i2l (C : gC X cc own nL fr lo) {x : Int32} (d : decode cc pc = .ok (.i2l, 1)) (k : G X (pc + 1) lv (.long x.toInt64 :: st) σ) : G X pc lv (.int x :: st) σ := fun H locs ls hP hS h => lv_i2l C.1 C.2.1 d rfl (k H locs ls hP hS h)
theorem r_l2i (C : gC X cc own nL fr lo) {x : Int64} (d : decode cc pc = .ok (.l2i, 1)) (k : G X (pc + 1) lv (.int x.toInt32 :: st) σ) : G X pc lv (.long x :: st) σ := fun H locs ls hP hS h => lv_l2i C.1 C.2.1 d rfl (k H locs ls hP hS h)
theorem r_lcmp (C : gC X cc own nL fr lo) {x y : Int64} (d : decode cc pc = .ok (.lcmp, 1)) (k : G X (pc + 1) lv (.int (lg_cmp x y) :: st) σ) : G X pc lv (.long y :: .long x :: st) σ := fun H locs ls hP hS h => W.lcmp C.1 C.2.1 d (k H locs ls hP hS h)
theorem r_dup (C : gC X cc own nL fr lo) {va : Value} (d : decode cc pc = .ok (.dup, 1)) (h1 : va.category = 1) (k : G X (pc + 1) lv (va :: va :: st) σ) : G X pc lv (va :: st) σ := fun H locs ls hP hS h => lv_dup C.1 C.2.1 d h1 (k H locs ls hP hS h)
theorem r_pop (C : gC X cc own nL fr lo) {va : Value} (d : decode cc pc = .ok (.pop, 1)) (h1 : va.category = 1) (k : G X (pc + 1) lv st σ) : G X pc lv (va :: st) σ := fun H locs ls hP hS h => lv_pop C.1 C.2.1 d h1 (k H locs ls hP hS h)
theorem r_dup_x1 (C : gC X cc own nL fr lo) {va vb : Value} (d : decode cc pc = .ok (.dup_x1, 1)) (h1 : va.category = 1) (h2 : vb.category = 1) (k : G X (pc + 1) lv (va :: vb :: va :: st) σ) : G X pc lv (va :: vb :: st) σ := fun H locs ls hP hS h => lv_dup_x1 C.1 C.2.1 d h1 h2 (k H locs ls hP hS h)
theorem r_dup2_11 (C : gC X cc own nL fr lo) {va vb : Value} (d : decode cc pc = .ok (.dup2, 1)) (h1 : va.category = 1) (h2 : vb.category = 1) (k : G X (pc + 1) lv (va :: vb :: va :: vb :: st) σ) : G X pc lv (va :: vb :: st) σ := fun H locs ls hP hS h => lv_dup2_11 C.1 C.2.1 d h1 h2 (k H locs ls hP hS h)
theorem r_dup2_2 (C : gC X cc own nL fr lo) {va : Value} (d : decode cc pc = .ok (.dup2, 1)) (h1 : va.category = 2) (k : G X (pc + 1) lv (va :: va :: st) σ) : G X pc lv (va :: st) σ := fun H locs ls hP hS h => lv_dup2_2 C.1 C.2.1 d h1 (k H locs ls hP hS h)
theorem r_goto (C : gC X cc own nL fr lo) {off : Int} {tgt : Nat} (d : decode cc pc = .ok (.goto off, 3)) (ht : (pc : Int) + off = (tgt : Int)) (k : G X tgt lv st σ) : G X pc lv st σ := fun H locs ls hP hS h => lv_goto C.1 C.2.1 d ht (k H locs ls hP hS h)
theorem r_if_eq (C : gC X cc own nL fr lo) {x : Int32} {off : Int} {tgt : Nat} (d : decode cc pc = .ok (.ifCond .eq off, 3)) (ht : (pc : Int) + off = (tgt : Int)) (kt : x = 0 → G X tgt lv st σ) (kf : ¬ x = 0 → G X (pc + 3) lv st σ) : G X pc lv (.int x :: st) σ := fun H locs ls hP hS h => lv_if_eq C.1 C.2.1 d ht (fun q => kt q H locs ls hP hS h) (fun q => kf q H locs ls hP hS h)
theorem r_icmp_eq (C : gC X cc own nL fr lo) {x y : Int32} {off : Int} {tgt : Nat} (d : decode cc pc = .ok (.if_icmp .eq off, 3)) (ht : (pc : Int) + off = (tgt : Int)) (kt : x = y → G X tgt lv st σ) (kf : ¬ x = y → G X (pc + 3) lv st σ) : G X pc lv (.int y :: .int x :: st) σ := fun H locs ls hP hS h => lv_icmp_eq C.1 C.2.1 d ht (fun q => kt q H locs ls hP hS h) (fun q => kf q H locs ls hP hS h)
theorem r_if_ne (C : gC X cc own nL fr lo) {x : Int32} {off : Int} {tgt : Nat} (d : decode cc pc = .ok (.ifCond .ne off, 3)) (ht : (pc : Int) + off = (tgt : Int)) (kt : ¬ x = 0 → G X tgt lv st σ) (kf : x = 0 → G X (pc + 3) lv st σ) : G X pc lv (.int x :: st) σ := fun H locs ls hP hS h => lv_if_ne C.1 C.2.1 d ht (fun q => kt q H locs ls hP hS h) (fun q => kf q H locs ls hP hS h)
theorem r_icmp_ne (C : gC X cc own nL fr lo) {x y : Int32} {off : Int} {tgt : Nat} (d : decode cc pc = .ok (.if_icmp .ne off, 3)) (ht : (pc : Int) + off = (tgt : Int)) (kt : ¬ x = y → G X tgt lv st σ) (kf : x = y → G X (pc + 3) lv st σ) : G X pc lv (.int y :: .int x :: st) σ := fun H locs ls hP hS h => lv_icmp_ne C.1 C.2.1 d ht (fun q => kt q H locs ls hP hS h) (fun q => kf q H locs ls hP hS h)
theorem r_if_lt (C : gC X cc own nL fr lo) {x : Int32} {off : Int} {tgt : Nat} (d : decode cc pc = .ok (.ifCond .lt off, 3)) (ht : (pc : Int) + off = (tgt : Int)) (kt : x < 0 → G X tgt lv st σ) (kf : ¬ x < 0 → G X (pc + 3) lv st σ) : G X pc lv (.int x :: st) σ := fun H locs ls hP hS h => lv_if_lt C.1 C.2.1 d ht (fun q => kt q H locs ls hP hS h) (fun q => kf q H locs ls hP hS h)
theorem r_icmp_lt (C : gC X cc own nL fr lo) {x y : Int32} {off : Int} {tgt : Nat} (d : decode cc pc = .ok (.if_icmp .lt off, 3)) (ht : (pc : Int) + off = (tgt : Int)) (kt : x < y → G X tgt lv st σ) (kf : ¬ x < y → G X (pc + 3) lv st σ) : G X pc lv (.int y :: .int x :: st) σ := fun H locs ls hP hS h => lv_icmp_lt C.1 C.2.1 d ht (fun q => kt q H locs ls hP hS h) (fun q => kf q H locs ls hP hS h)
theorem r_if_ge (C : gC X cc own nL fr lo) {x : Int32} {off : Int} {tgt : Nat} (d : decode cc pc = .ok (.ifCond .ge off, 3)) (ht : (pc : Int) + off = (tgt : Int)) (kt : 0 ≤ x → G X tgt lv st σ) (kf : ¬ 0 ≤ x → G X (pc + 3) lv st σ) : G X pc lv (.int x :: st) σ := fun H locs ls hP hS h => lv_if_ge C.1 C.2.1 d ht (fun q => kt q H locs ls hP hS h) (fun q => kf q H locs ls hP hS h)
theorem r_icmp_ge (C : gC X cc own nL fr lo) {x y : Int32} {off : Int} {tgt : Nat} (d : decode cc pc = .ok (.if_icmp .ge off, 3)) (ht : (pc : Int) + off = (tgt : Int)) (kt : y ≤ x → G X tgt lv st σ) (kf : ¬ y ≤ x → G X (pc + 3) lv st σ) : G X pc lv (.int y :: .int x :: st) σ := fun H locs ls hP hS h => lv_icmp_ge C.1 C.2.1 d ht (fun q => kt q H locs ls hP hS h) (fun q => kf q H locs ls hP hS h)
theorem r_if_gt (C : gC X cc own nL fr lo) {x : Int32} {off : Int} {tgt : Nat} (d : decode cc pc = .ok (.ifCond .gt off, 3)) (ht : (pc : Int) + off = (tgt : Int)) (kt : 0 < x → G X tgt lv st σ) (kf : ¬ 0 < x → G X (pc + 3) lv st σ) : G X pc lv (.int x :: st) σ := fun H locs ls hP hS h => lv_if_gt C.1 C.2.1 d ht (fun q => kt q H locs ls hP hS h) (fun q => kf q H locs ls hP hS h)
theorem r_icmp_gt (C : gC X cc own nL fr lo) {x y : Int32} {off : Int} {tgt : Nat} (d : decode cc pc = .ok (.if_icmp .gt off, 3)) (ht : (pc : Int) + off = (tgt : Int)) (kt : y < x → G X tgt lv st σ) (kf : ¬ y < x → G X (pc + 3) lv st σ) : G X pc lv (.int y :: .int x :: st) σ := fun H locs ls hP hS h => lv_icmp_gt C.1 C.2.1 d ht (fun q => kt q H locs ls hP hS h) (fun q => kf q H locs ls hP hS h)
theorem r_if_le (C : gC X cc own nL fr lo) {x : Int32} {off : Int} {tgt : Nat} (d : decode cc pc = .ok (.ifCond .le off, 3)) (ht : (pc : Int) + off = (tgt : Int)) (kt : x ≤ 0 → G X tgt lv st σ) (kf : ¬ x ≤ 0 → G X (pc + 3) lv st σ) : G X pc lv (.int x :: st) σ := fun H locs ls hP hS h => lv_if_le C.1 C.2.1 d ht (fun q => kt q H locs ls hP hS h) (fun q => kf q H locs ls hP hS h)
theorem r_icmp_le (C : gC X cc own nL fr lo) {x y : Int32} {off : Int} {tgt : Nat} (d : decode cc pc = .ok (.if_icmp .le off, 3)) (ht : (pc : Int) + off = (tgt : Int)) (kt : x ≤ y → G X tgt lv st σ) (kf : ¬ x ≤ y → G X (pc + 3) lv st σ) : G X pc lv (.int y :: .int x :: st) σ := fun H locs ls hP hS h => lv_icmp_le C.1 C.2.1 d ht (fun q => kt q H locs ls hP hS h) (fun q => kf q H locs ls hP hS h)
theorem r_tabIn (C : gC X cc own nL fr lo) {dflt a b : Int} {offs : Array Int} {len : Nat} {x v : Int32} {off : Int} {tgt : Nat} (d : decode cc pc = .ok (.tableswitch dflt a b offs, len)) (hx : x = v) (h1 : ¬ v.toInt < a) (h2 : ¬ b < v.toInt) (ho : offs[(v.toInt - a).toNat]? = some off) (ht : (pc : Int) + off = (tgt : Int)) (k : G X tgt lv st σ) : G X pc lv (.int x :: st) σ := by
  subst hx
  exact fun H locs ls hP hS h => lv_tableIn C.1 C.2.1 d h1 h2 ho ht (k H locs ls hP hS h)
theorem r_tabLo (C : gC X cc own nL fr lo) {dflt a b : Int} {offs : Array Int} {len : Nat} {x v : Int32} {tgt : Nat} (d : decode cc pc = .ok (.tableswitch dflt a b offs, len)) (hx : x < v) (hv : v.toInt = a) (ht : (pc : Int) + dflt = (tgt : Int)) (k : G X tgt lv st σ) : G X pc lv (.int x :: st) σ :=
  fun H locs ls hP hS h => lv_tableOut C.1 C.2.1 d (Or.inl (by rw [← hv]; exact Int32.lt_iff_toInt_lt.mp hx)) ht (k H locs ls hP hS h)
theorem r_tabHi (C : gC X cc own nL fr lo) {dflt a b : Int} {offs : Array Int} {len : Nat} {x v : Int32} {tgt : Nat} (d : decode cc pc = .ok (.tableswitch dflt a b offs, len)) (hx : v < x) (hv : v.toInt = b) (ht : (pc : Int) + dflt = (tgt : Int)) (k : G X tgt lv st σ) : G X pc lv (.int x :: st) σ :=
  fun H locs ls hP hS h => lv_tableOut C.1 C.2.1 d (Or.inr (by rw [← hv]; exact Int32.lt_iff_toInt_lt.mp hx)) ht (k H locs ls hP hS h)
/-- a field of the object at place k -/
theorem r_get (C : gC X cc own nL fr lo) {O : String} {T : u_T} {N ci index k : Nat} {v : Value} {F : (Nat → Nat) → (Nat → Int32) → List Value} (j : Nat) (hk : k < gN) (hcel : ∀ z a f g, gCel z a f g k = .inr (ci, F a f)) (hcl : gCls[ci]? = some (O, T, N)) (hin : ∀ w ∈ u_ws O T N, w ∈ BIG) (hj : j < N) (hlink : Cond.fieldLink own index (T j).1 (T j).2.1 (T j).2.2.1 ∈ BIG) (hv : (F (gA X) (σ.1 k))[j]? = some v) (d : decode cc pc = .ok (.getfield index, 3)) (kk : G X (pc + 3) lv (v :: st) σ) : G X pc lv (.ref (gA X k) :: st) σ :=
  fun H locs ls hP hS h => va_get C.1 C.2.1 C.2.2.2.2.2.1 hin C.2.2.2.2.1 C.2.2.2.2.2.2.1 hP k (by rw [gW_at σ hk, hcel]) hcl j hj (C.2.2.2.2.2.1 _ hlink) (fun _ q => q) hv d (kk H locs ls hP hS h)
theorem r_getN (C : gC X cc own nL fr lo) {O host : String} {T : u_T} {N ci index k : Nat} {v : Value} {F : (Nat → Nat) → (Nat → Int32) → List Value} (j : Nat) (hk : k < gN) (hcel : ∀ z a f g, gCel z a f g k = .inr (ci, F a f)) (hcl : gCls[ci]? = some (O, T, N)) (hin : ∀ w ∈ u_ws O T N, w ∈ BIG) (hj : j < N) (hlink : (own, index, (T j).1, (T j).2.1, (T j).2.2.1, host) ∈ gNwF) (hv : (F (gA X) (σ.1 k))[j]? = some v) (d : decode cc pc = .ok (.getfield index, 3)) (kk : G X (pc + 3) lv (v :: st) σ) : G X pc lv (.ref (gA X k) :: st) σ :=
  fun H locs ls hP hS h => va_getN C.1 C.2.1 C.2.2.2.2.2.1 hin C.2.2.2.2.1 C.2.2.2.2.2.2.1 hP k (by rw [gW_at σ hk, hcel]) hcl j hj (va_Nw.use rfl (C.2.2.2.2.2.2.2.1.1 _ hlink)) (fun _ q => q) hv d (kk H locs ls hP hS h)
theorem r_put (C : gC X cc own nL fr lo) {O : String} {T : u_T} {N ci index k : Nat} {v : Int32} {σ' : gS} {F : (Nat → Nat) → (Nat → Int32) → List Value} (ty0 : Nat → FieldType) (hty : ∀ k, k < N → parseFieldDescriptor (T k).2.2.1 = some (ty0 k)) (hnm : ∀ a, a < N → ∀ b, b < N → a ≠ b → (T a).2.1 ≠ (T b).2.1) (j : Nat) (hk : k < gN) (hcel : ∀ z a f g, gCel z a f g k = .inr (ci, F a f)) (hcl : gCls[ci]? = some (O, T, N)) (hin : ∀ w ∈ u_ws O T N, w ∈ BIG) (hj : j < N) (hlink : Cond.fieldLink own index (T j).1 (T j).2.1 (T j).2.2.1 ∈ BIG) (hfin : (T j).2.2.2 = false) (hd : parseFieldDescriptor (T j).2.2.1 = some .int) (hF : ∀ a f, j < (F a f).length ∧ F a (upd f j v) = (F a f).set j (.int v)) (e : σ' = sI σ k j v) (d : decode cc pc = .ok (.putfield index, 3)) (kk : G X (pc + 3) lv st σ') : G X pc lv (.int v :: .ref (gA X k) :: st) σ := by
  subst e
  intro H locs ls hP hS h
  refine va_put C.1 C.2.1 C.2.2.2.2.2.1 hin ty0 hty hnm C.2.2.2.2.1 C.2.2.2.2.2.2.1 hP (C.2.2.2.2.2.2.2.2.1 σ) hS k (by rw [gW_at σ hk, hcel]) hcl j hj (C.2.2.2.2.2.1 _ hlink) (fun _ q => q) hfin hd rfl rfl (hF _ _).1 d (fun H1 locs1 hP1 _ hS1 => ?_)
  rw [gW_sI hk (by rw [hcel, (hF _ _).2])] at hP1
  exact kk H1 locs1 ls hP1 hS1 h
/-- elements of an int array, a long array, at place k -/
theorem r_iald (C : gC X cc own nL fr lo) {k : Nat} {i : Int32} (ho : okI k i = true) (d : decode cc pc = .ok (.iaload, 1)) (kk : G X (pc + 1) lv (.int (gI σ k i.toNatClampNeg) :: st) σ) : G X pc lv (.int i :: .ref (gA X k) :: st) σ :=
  fun H locs ls hP hS h => va_iald (f := σ.1 k) C.1 C.2.1 C.2.2.2.2.2.2.1 hP k 0 (by rw [gW_at σ (okI_n ho), gCel_I (okI_k ho)]) rfl (inb_in (okI_i ho)) d (kk H locs ls hP hS h)
theorem r_lald (C : gC X cc own nL fr lo) {k : Nat} {i : Int32} (ho : okJ k i = true) (d : decode cc pc = .ok (.laload, 1)) (kk : G X (pc + 1) lv (.long (gL σ k i.toNatClampNeg) :: st) σ) : G X pc lv (.int i :: .ref (gA X k) :: st) σ :=
  fun H locs ls hP hS h => va_lald (f := σ.2 k) C.1 C.2.1 C.2.2.2.2.2.2.1 hP k 1 (by rw [gW_at σ (okJ_n ho), gCel_J (okJ_0 ho) (okJ_k ho)]) rfl (inb_in (okJ_i ho)) d (kk H locs ls hP hS h)
theorem r_iast (C : gC X cc own nL fr lo) {k : Nat} {i x : Int32} {σ' : gS} (ho : okI k i = true) (e : σ' = sI σ k i.toNatClampNeg x) (d : decode cc pc = .ok (.iastore, 1)) (kk : G X (pc + 1) lv st σ') : G X pc lv (.int x :: .int i :: .ref (gA X k) :: st) σ := by
  subst e
  intro H locs ls hP hS h
  refine va_iast C.1 C.2.1 C.2.2.2.2.2.2.1 hP (C.2.2.2.2.2.2.2.2.1 σ) hS k 0 (by rw [gW_at σ (okI_n ho), gCel_I (okI_k ho)]) rfl (inb_in (okI_i ho)) d (fun H1 locs1 hP1 _ hS1 => ?_)
  rw [gW_sI (okI_n ho) (gCel_I (okI_k ho))] at hP1
  exact kk H1 locs1 ls hP1 hS1 h
theorem r_last (C : gC X cc own nL fr lo) {k : Nat} {i : Int32} {x : Int64} {σ' : gS} (ho : okJ k i = true) (e : σ' = sL σ k i.toNatClampNeg x) (d : decode cc pc = .ok (.lastore, 1)) (kk : G X (pc + 1) lv st σ') : G X pc lv (.long x :: .int i :: .ref (gA X k) :: st) σ := by
  subst e
  intro H locs ls hP hS h
  refine va_last C.1 C.2.1 C.2.2.2.2.2.2.1 hP (C.2.2.2.2.2.2.2.2.1 σ) hS k 1 (by rw [gW_at σ (okJ_n ho), gCel_J (okJ_0 ho) (okJ_k ho)]) rfl (inb_in (okJ_i ho)) d (fun H1 locs1 hP1 _ hS1 => ?_)
  rw [gW_sL (okJ_n ho) (gCel_J (okJ_0 ho) (okJ_k ho))] at hP1
  exact kk H1 locs1 ls hP1 hS1 h
theorem r_zald (C : gC X cc own nL fr lo) {k : Nat} {i : Int32} (ho : okZ k i = true) (d : decode cc pc = .ok (.baload, 1)) (kk : G X (pc + 1) lv (.int (gI σ k i.toNatClampNeg) :: st) σ) : G X pc lv (.int i :: .ref (gA X k) :: st) σ := by
  obtain ⟨h0, h1, h2, h3, h4⟩ := okZ_all ho
  exact fun H locs ls hP hS h => va_zald (f := σ.1 k) C.1 C.2.1 C.2.2.2.2.2.2.1 hP k 4 (by rw [gW_at σ h3, gCel_Z h0 h1 h2]) rfl (inb_in h4) d (kk H locs ls hP hS h)
theorem r_zast (C : gC X cc own nL fr lo) {k : Nat} {i x : Int32} {σ' : gS} (ho : okZ k i = true) (hb : isB x = true) (e : σ' = sI σ k i.toNatClampNeg x) (d : decode cc pc = .ok (.bastore, 1)) (kk : G X (pc + 1) lv st σ') : G X pc lv (.int x :: .int i :: .ref (gA X k) :: st) σ := by
  subst e
  obtain ⟨h0, h1, h2, h3, h4⟩ := okZ_all ho
  intro H locs ls hP hS h
  refine va_zast C.1 C.2.1 C.2.2.2.2.2.2.1 hP (C.2.2.2.2.2.2.2.2.1 σ) hS k 4 (by rw [gW_at σ h3, gCel_Z h0 h1 h2]) rfl (inb_in h4) d (fun H1 locs1 hP1 _ hS1 => ?_)
  have hx : vp_nar .boolean x = x := by
    unfold vp_nar
    rw [isB_n hb]
  rw [hx, gW_sI h3 (gCel_Z h0 h1 h2)] at hP1
  exact kk H1 locs1 ls hP1 hS1 h
/-- the law's script -/
theorem r_sld (C : gC X cc own nL fr lo) {b L : Nat} {xs : Nat → Int32} (hX : va_X b L xs X.2.1.1 X.2.1.1.heap) (hbl : b < X.2.1.1.heap.size) (hbA : ¬ X.2.2.2.2.2.2 b) {i : Int32} (hi : inb i L = true) (d : decode cc pc = .ok (.iaload, 1)) (kk : G X (pc + 1) lv (.int (xs i.toNatClampNeg) :: st) σ) : G X pc lv (.int i :: .ref b :: st) σ :=
  fun H locs ls hP hS h => va_sld C.1 C.2.1 hX hbl hbA hS (inb_in hi) d (kk H locs ls hP hS h)
theorem r_slen (C : gC X cc own nL fr lo) {b L : Nat} {xs : Nat → Int32} (hX : va_X b L xs X.2.1.1 X.2.1.1.heap) (hbl : b < X.2.1.1.heap.size) (hbA : ¬ X.2.2.2.2.2.2 b) (d : decode cc pc = .ok (.arraylength, 1)) (kk : G X (pc + 1) lv (.int (Int32.ofNat L) :: st) σ) : G X pc lv (.ref b :: st) σ :=
  fun H locs ls hP hS h => va_slen C.1 C.2.1 hX hbl hbA hS d (kk H locs ls hP hS h)
/-- a row of the outer array at place k: rows lie at k + 1 + i; t: place of its type among gTy -/
theorem r_aald (C : gC X cc own nL fr lo) {k n t : Nat} {i : Int32} {ty : FieldType} (hn : k < gN) (hcel : ∀ z a f g, gCel z a f g k = .inl (z t, n, .inr (.inr (.inr (.inr (fun j => if j < n then some (a (k + 1 + j)) else none)))))) (ht : ∀ z : Nat → ClassId, (gTy z)[t]? = some (z t, .array ty)) {k' : Nat} (hi : inb i n = true) (hk' : k + 1 + i.toNatClampNeg = k') (d : decode cc pc = .ok (.aaload, 1)) (kk : G X (pc + 1) lv (.ref (gA X k') :: st) σ) : G X pc lv (.int i :: .ref (gA X k) :: st) σ := by
  subst hk'
  intro H locs ls hP hS h
  have hlt : i.toNatClampNeg < n := Nat.not_le.mp fun q => inb_in hi (Or.inr q)
  have hc : H[gA X k]? = some (vp_cell (X.2.2.2.2.1 t) (n, .inr (.inr (.inr (.inr (fun j => if j < n then some (gA X (k + 1 + j)) else none)))))) := hP k (gA X k, .inl (X.2.2.2.2.1 t, n, .inr (.inr (.inr (.inr (fun j => if j < n then some (gA X (k + 1 + j)) else none)))))) (by rw [gW_at σ hn, hcel])
  have hv : va_rf (if i.toNatClampNeg < n then some (gA X (k + 1 + i.toNatClampNeg)) else none) = .ref (gA X (k + 1 + i.toNatClampNeg)) := by rw [if_pos hlt]; rfl
  refine W.aald (v := .ref (gA X (k + 1 + i.toNatClampNeg))) (ty := .array ty) C.1 C.2.1 hc ((C.2.2.2.2.2.2.1.2 t _ (ht _)).1 n (fun j => va_rf (if j < n then some (gA X (k + 1 + j)) else none))) rfl (fun q => by cases q) (by show ¬ (i < 0 ∨ (arrV _ _ _).slots.size ≤ _); rw [arrV_size]; exact inb_in hi) (by show (arrV _ _ _).slots[_]? = _; rw [arrV_read _ _ hlt, hv]) rfl rfl d ?_
  exact kk H locs ls hP hS h
theorem r_alenI (C : gC X cc own nL fr lo) {k : Nat} {v : Int32} (ho : oaI k = true) (hv : Int32.ofNat (kLen k) = v) (d : decode cc pc = .ok (.arraylength, 1)) (kk : G X (pc + 1) lv (.int v :: st) σ) : G X pc lv (.ref (gA X k) :: st) σ :=
  fun H locs ls hP hS h => va_alen C.1 C.2.1 C.2.2.2.2.2.2.1 hP k 0 (by rw [gW_at σ (oaI_n ho), gCel_I (oaI_k ho)]) (ty := .int) rfl hv d (kk H locs ls hP hS h)
theorem r_alenJ (C : gC X cc own nL fr lo) {k : Nat} {v : Int32} (ho : oaJ k = true) (hv : Int32.ofNat (kLen k) = v) (d : decode cc pc = .ok (.arraylength, 1)) (kk : G X (pc + 1) lv (.int v :: st) σ) : G X pc lv (.ref (gA X k) :: st) σ :=
  fun H locs ls hP hS h => va_alen C.1 C.2.1 C.2.2.2.2.2.2.1 hP k 1 (by rw [gW_at σ (oaJ_n ho), gCel_J (oaJ_0 ho) (oaJ_k ho)]) (ty := .long) rfl hv d (kk H locs ls hP hS h)
/-- contracts: the method, on a world of state σ, answers rv, and the world is then of state σ' -/
def gPre (D : va_G) (z : Nat → ClassId) (a : Nat → Nat) (σ : gS) (sz : Nat) (U : State) : Prop := U.heap.size = sz ∧ va_P D gCls (gW z a σ) U.heap ∧ va_K D gCls (gTy z) U ∧ va_D (fun _ => True) (gW z a σ) ∧ gNw U
def gPost (rv : Option Value) (D : va_G) (z : Nat → ClassId) (a : Nat → Nat) (σ' : gS) (A : Nat → Prop) : Array Value → State → Outcome → State → Prop := fun _ s0 oc t => (oc = .returned rv ∧ va_P D gCls (gW z a σ') t.heap) ∧ va_F A s0 t
def gMet (l : Launch) (y : MethodName) (bc : ByteArray) (nl : Nat) (rt : Option FieldType) (fr lo : Nat) (av : (Nat → Nat) → List Value) (σ : gS) (rv : Option Value) (σ' : gS) : Prop :=
  ∀ (D : va_G) (z : Nat → ClassId) (a : Nat → Nat) (sz : Nat), Met l y (.code y bc nl rt :: BIG) { frames := fr, cells := 0, slots := 0, locals := lo } (va_Pc (av a) (gPre D z a σ sz)) (gPost rv D z a σ' (va_A (gW z a σ) sz)) 0 0 (va_A (gW z a σ) sz)
theorem gPre_blind {av : List Value} {D : va_G} {z : Nat → ClassId} {a : Nat → Nat} {σ : gS} {sz : Nat} : FrameBlind (va_Pc av (gPre D z a σ sz)) := by
  intro a U g mk q
  obtain ⟨q0, q1, qP, qK, qD, qN⟩ := q
  exact ⟨q0, q1, qP, va_K.moved (u := U) (U := U.calling g mk a) (Vm.Alike.refl U.vm) qK, qD, gNw_same rfl qN⟩
theorem gMet_i {l : Launch} {y : MethodName} {bc : ByteArray} {nl : Nat} {fr lo : Nat} {av : (Nat → Nat) → List Value} {σ σ' : gS} {r : Int32} (hy : plainFor y = true) (hlen : ∀ a, (lg_sl (av a)).length ≤ nl)
    (body : ∀ X : gX, X.1.2.1 = l → gC X bc y.cls nl fr lo → (∀ pc lv, decode bc pc = .ok (.ireturn, 1) → G X pc lv [.int r] σ') → G X 0 (lv_args 0 (av (gA X))) [] σ) : gMet l y bc nl (some .int) fr lo av σ (some (.int r)) σ' := by
  intro D z a sz
  refine va_MetF (cc := bc) (maxL := nl) (ret := some .int) hy rfl ?_
  intro p e s m args below meth c s₁ B hml hv
  obtain ⟨rfl, hsz, hP, hK, hD0, hN⟩ := hv
  subst hsz
  have hts := atoms_spec (ws := .code y bc nl (some .int) :: BIG) B.pre
  have hown : s.vm.findClass y.cls = some m.cls := findClass_of_methodNamed B.named
  have hlocks := B.notSynchronized
  have hD := hD0.self (sz := s.heap.size)
  have hl := lv_entry (av a) (n := nl) (hlen a)
  rw [lg_entry_eq]
  have hC : gC ((p, l, e, { frames := fr, cells := 0, slots := 0, locals := lo }), (s, m, (av a).toArray, below), (meth, c, MQ below (gPost (some (.int r)) D z a σ' (va_A (gW z a σ) s.heap.size)) (av a).toArray s 0 0 (va_A (gW z a σ) s.heap.size), nl, 0, 0), (D, z, a, va_A (gW z a σ) s.heap.size)) bc y.cls nl fr lo :=
    ⟨B.exec, B.bytes, hml, rfl, hown, fun w hw => hts w (List.mem_cons_of_mem _ hw), hK, hN, fun τ => gW_D τ hD, fun q hq => Or.inr hq, rfl, rfl, Nat.le_refl _, Nat.le_refl _⟩
  exact body _ rfl hC (fun pc lv d H locs ls hP1 hS1 _ => W.iret (v := r) B.exec B.bytes B.returns (fun t ht _ => ⟨⟨rfl, by rw [ht]; exact hP1⟩, hS1.F ht⟩) hS1.2.2 d) s.heap [] _ hP va_S.rf hl
theorem gMet_z {l : Launch} {y : MethodName} {bc : ByteArray} {nl : Nat} {fr lo : Nat} {av : (Nat → Nat) → List Value} {σ σ' : gS} {r : Int32} (hy : plainFor y = true) (hlen : ∀ a, (lg_sl (av a)).length ≤ nl)
    (body : ∀ X : gX, X.1.2.1 = l → gC X bc y.cls nl fr lo → (∀ pc lv, isB r = true → decode bc pc = .ok (.ireturn, 1) → G X pc lv [.int r] σ') → G X 0 (lv_args 0 (av (gA X))) [] σ) : gMet l y bc nl (some .boolean) fr lo av σ (some (.int r)) σ' := by
  intro D z a sz
  refine va_MetF (cc := bc) (maxL := nl) (ret := some .boolean) hy rfl ?_
  intro p e s m args below meth c s₁ B hml hv
  obtain ⟨rfl, hsz, hP, hK, hD0, hN⟩ := hv
  subst hsz
  have hts := atoms_spec (ws := .code y bc nl (some .boolean) :: BIG) B.pre
  have hown : s.vm.findClass y.cls = some m.cls := findClass_of_methodNamed B.named
  have hlocks := B.notSynchronized
  have hD := hD0.self (sz := s.heap.size)
  have hl := lv_entry (av a) (n := nl) (hlen a)
  rw [lg_entry_eq]
  have hC : gC ((p, l, e, { frames := fr, cells := 0, slots := 0, locals := lo }), (s, m, (av a).toArray, below), (meth, c, MQ below (gPost (some (.int r)) D z a σ' (va_A (gW z a σ) s.heap.size)) (av a).toArray s 0 0 (va_A (gW z a σ) s.heap.size), nl, 0, 0), (D, z, a, va_A (gW z a σ) s.heap.size)) bc y.cls nl fr lo :=
    ⟨B.exec, B.bytes, hml, rfl, hown, fun w hw => hts w (List.mem_cons_of_mem _ hw), hK, hN, fun τ => gW_D τ hD, fun q hq => Or.inr hq, rfl, rfl, Nat.le_refl _, Nat.le_refl _⟩
  exact body _ rfl hC (fun pc lv hB d H locs ls hP1 hS1 _ => W.zret (v := r) (ty := .boolean) B.exec B.bytes B.returns (isB_n hB) (fun t ht _ => ⟨⟨rfl, by rw [ht]; exact hP1⟩, hS1.F ht⟩) hS1.2.2 d) s.heap [] _ hP va_S.rf hl
theorem gMet_l {l : Launch} {y : MethodName} {bc : ByteArray} {nl : Nat} {fr lo : Nat} {av : (Nat → Nat) → List Value} {σ σ' : gS} {r : Int64} (hy : plainFor y = true) (hlen : ∀ a, (lg_sl (av a)).length ≤ nl)
    (body : ∀ X : gX, X.1.2.1 = l → gC X bc y.cls nl fr lo → (∀ pc lv, decode bc pc = .ok (.lreturn, 1) → G X pc lv [.long r] σ') → G X 0 (lv_args 0 (av (gA X))) [] σ) : gMet l y bc nl (some .long) fr lo av σ (some (.long r)) σ' := by
  intro D z a sz
  refine va_MetF (cc := bc) (maxL := nl) (ret := some .long) hy rfl ?_
  intro p e s m args below meth c s₁ B hml hv
  obtain ⟨rfl, hsz, hP, hK, hD0, hN⟩ := hv
  subst hsz
  have hts := atoms_spec (ws := .code y bc nl (some .long) :: BIG) B.pre
  have hown : s.vm.findClass y.cls = some m.cls := findClass_of_methodNamed B.named
  have hlocks := B.notSynchronized
  have hD := hD0.self (sz := s.heap.size)
  have hl := lv_entry (av a) (n := nl) (hlen a)
  rw [lg_entry_eq]
  have hC : gC ((p, l, e, { frames := fr, cells := 0, slots := 0, locals := lo }), (s, m, (av a).toArray, below), (meth, c, MQ below (gPost (some (.long r)) D z a σ' (va_A (gW z a σ) s.heap.size)) (av a).toArray s 0 0 (va_A (gW z a σ) s.heap.size), nl, 0, 0), (D, z, a, va_A (gW z a σ) s.heap.size)) bc y.cls nl fr lo :=
    ⟨B.exec, B.bytes, hml, rfl, hown, fun w hw => hts w (List.mem_cons_of_mem _ hw), hK, hN, fun τ => gW_D τ hD, fun q hq => Or.inr hq, rfl, rfl, Nat.le_refl _, Nat.le_refl _⟩
  exact body _ rfl hC (fun pc lv d H locs ls hP1 hS1 _ => W.lret (v := r) B.exec B.bytes B.returns (fun t ht _ => ⟨⟨rfl, by rw [ht]; exact hP1⟩, hS1.F ht⟩) hS1.2.2 d) s.heap [] _ hP va_S.rf hl
theorem gMet_v {l : Launch} {y : MethodName} {bc : ByteArray} {nl : Nat} {fr lo : Nat} {av : (Nat → Nat) → List Value} {σ σ' : gS} (hy : plainFor y = true) (hlen : ∀ a, (lg_sl (av a)).length ≤ nl)
    (body : ∀ X : gX, X.1.2.1 = l → gC X bc y.cls nl fr lo → (∀ pc lv, decode bc pc = .ok (.return_, 1) → G X pc lv [] σ') → G X 0 (lv_args 0 (av (gA X))) [] σ) : gMet l y bc nl (none) fr lo av σ (none) σ' := by
  intro D z a sz
  refine va_MetF (cc := bc) (maxL := nl) (ret := none) hy rfl ?_
  intro p e s m args below meth c s₁ B hml hv
  obtain ⟨rfl, hsz, hP, hK, hD0, hN⟩ := hv
  subst hsz
  have hts := atoms_spec (ws := .code y bc nl (none) :: BIG) B.pre
  have hown : s.vm.findClass y.cls = some m.cls := findClass_of_methodNamed B.named
  have hlocks := B.notSynchronized
  have hD := hD0.self (sz := s.heap.size)
  have hl := lv_entry (av a) (n := nl) (hlen a)
  rw [lg_entry_eq]
  have hC : gC ((p, l, e, { frames := fr, cells := 0, slots := 0, locals := lo }), (s, m, (av a).toArray, below), (meth, c, MQ below (gPost (none) D z a σ' (va_A (gW z a σ) s.heap.size)) (av a).toArray s 0 0 (va_A (gW z a σ) s.heap.size), nl, 0, 0), (D, z, a, va_A (gW z a σ) s.heap.size)) bc y.cls nl fr lo :=
    ⟨B.exec, B.bytes, hml, rfl, hown, fun w hw => hts w (List.mem_cons_of_mem _ hw), hK, hN, fun τ => gW_D τ hD, fun q hq => Or.inr hq, rfl, rfl, Nat.le_refl _, Nat.le_refl _⟩
  exact body _ rfl hC (fun pc lv d H locs ls hP1 hS1 _ => W.vret B.exec B.bytes B.returns (fun t ht _ => ⟨⟨rfl, by rw [ht]; exact hP1⟩, hS1.F ht⟩) hS1.2.2 d) s.heap [] _ hP va_S.rf hl
/-- what a call asks of the callee, once for all callers -/
def gCalV (y : MethodName) (bc : ByteArray) (nl : Nat) (rt : Option FieldType) (n : Nat) : Prop := Cond.instanceMethod y ∈ BIG ∧ Cond.selects y.cls y y ∈ BIG ∧ Cond.initialized y.cls ∈ BIG ∧ Cond.code y bc nl rt ∈ BIG ∧ y.cls ≠ "java/lang/invoke/MethodHandle" ∧ y.cls ≠ "java/lang/invoke/VarHandle" ∧ (parseMethodDescriptor y.desc).map (fun d => d.parameters.length) = some n
def gCalS (y : MethodName) (bc : ByteArray) (nl : Nat) (rt : Option FieldType) (n : Nat) : Prop := Cond.static y ∈ BIG ∧ Cond.initialized y.cls ∈ BIG ∧ Cond.code y bc nl rt ∈ BIG ∧ y.cls ≠ "java/lang/invoke/MethodHandle" ∧ y.cls ≠ "java/lang/invoke/VarHandle" ∧ (parseMethodDescriptor y.desc).map (fun d => d.parameters.length) = some n
theorem gGoodC {w : Cond} (h : w ∈ BIG) : GoodIn BIG (w :: BIG) := fun v hv => by
  rcases List.mem_cons.mp hv with rfl | hv
  · exact gGood v h
  · exact gGood v hv
theorem r_callK {σ' : gS} {rv : Option Value} {rest st0 : List Value} {aa : Array Value} (C : gC X cc own nL fr lo)
    (hr : ∀ (H : Heap) (locs : List Loc) (ls : Array Slot), va_P X.2.2.2.1 gCls (gW X.2.2.2.2.1 X.2.2.2.2.2.1 σ) H → va_S X.2.2.2.2.2.2 X.2.1.1.heap H locs → lv_has ls X.2.2.1.2.2.2.1 lv →
      va_Run X.1.1 X.1.2.1 X.1.2.2.1 X.1.2.2.2 X.2.1.1 X.2.1.2.1 X.2.1.2.2.1 X.2.1.2.2.2 X.2.2.1.1 X.2.2.1.2.1 H locs X.2.2.1.2.2.2.2.1 X.2.2.1.2.2.2.2.2 0 0 (F0 X.2.1.2.1 pc ls st0) rest (gPost rv X.2.2.2.1 X.2.2.2.2.1 X.2.2.2.2.2.1 σ' (va_A (gW X.2.2.2.2.1 X.2.2.2.2.2.1 σ) H.size) aa) (va_A (gW X.2.2.2.2.1 X.2.2.2.2.2.1 σ) H.size))
    (kk : G X (pc + 3) lv (rv.toList ++ rest) σ') : G X pc lv st0 σ := by
  intro H locs ls hP hS h T hT Xs
  obtain ⟨v, st₀, t, T', L, h0, X', hL, e1, e2, ⟨⟨hv, hp⟩, hz, hk⟩, st⟩ := hr H locs ls hP hS h T hT Xs
  cases hv
  rw [h0] at hz hk
  have hF : ∀ q, va_A (gW X.2.2.2.2.1 X.2.2.2.2.2.1 σ) H.size q → X.2.2.2.2.2.2 q := by
    intro q hq
    rcases hq with ⟨k, e, hq⟩ | hq
    · exact (C.2.2.2.2.2.2.2.2.1 σ).2 k (q, e) hq
    · exact C.2.2.2.2.2.2.2.2.2.1 q (Nat.le_trans hS.1 hq)
  obtain ⟨t2, a1, b1⟩ := kk T'.heap (locs ++ L) ls (by rw [e1]; exact hp) ⟨Nat.le_trans hS.1 (by rw [e1]; exact hz), fun q g1 g2 => by rw [e1, hk q (Nat.lt_of_lt_of_le g1 hS.1) (fun w => g2 (hF q w))]; exact hS.2.1 q g1 g2, fun q hq => by
      rcases List.mem_append.mp hq with g | g
      · exact hS.2.2 q g
      · exact hF _ (hL q g)⟩ h T' rfl X'
  exact ⟨t2, st t2 a1, b1⟩
theorem gPre_at (C : gC X cc own nL fr lo) {H : Heap} {av : List Value} (hP : va_P X.2.2.2.1 gCls (gW X.2.2.2.2.1 X.2.2.2.2.2.1 σ) H) : ∀ U : State, U.heap = H → X.2.1.1.WarmedH U.vm → va_Pc av (gPre X.2.2.2.1 X.2.2.2.2.1 X.2.2.2.2.2.1 σ H.size) av.toArray U :=
  fun U hU hW => ⟨rfl, by rw [hU], by rw [hU]; exact hP, va_K.moved hW.alike C.2.2.2.2.2.2.1, (C.2.2.2.2.2.2.2.2.1 σ).weaken (fun _ _ _ _ => trivial), gNw_warm hW C.2.2.2.2.2.2.2.1⟩
theorem r_callV (C : gC X cc own nL fr lo) {y : MethodName} {bc : ByteArray} {nl n index fr' lo' k ci N : Nat} {T : u_T} {rt : Option FieldType} {av : (Nat → Nat) → List Value} {σ' : gS} {rv : Option Value} {As rest : List Value} {F : (Nat → Nat) → (Nat → Int32) → List Value} (hM : gMet X.1.2.1 y bc nl rt fr' lo' av σ rv σ') (hy : gCalV y bc nl rt n) (hl : Cond.methodLink own index y ∈ BIG) (hk : k < gN) (hcel : ∀ z a f g, gCel z a f g k = .inr (ci, F a f)) (hcl : gCls[ci]? = some (y.cls, T, N)) (hav : av (gA X) = .ref (gA X k) :: As) (hn : As.length = n) {st0 : List Value} (hst : st0 = As.reverse ++ .ref (gA X k) :: rest) (hrest : (rest.map fun v => v.category).sum ≤ 8) (hfr : fr' + 1 ≤ fr ∧ 8 + (nl + 11) + lo' ≤ lo) (d : decode cc pc = .ok (.invokevirtual index, 3)) {st1 : List Value} (hst1 : rv.toList ++ rest = st1) (kk : G X (pc + 3) lv st1 σ') : G X pc lv st0 σ := by
  subst hst1
  refine r_callK (aa := (av (gA X)).toArray) C (fun H locs ls hP hS h => ?_) kk
  obtain ⟨y1, y2, y3, y4, y5, y6, y7⟩ := hy
  have hb := fun w (hw : w ∈ BIG) => C.2.2.2.2.2.1 w hw
  have cw : CallW X.1.2.2.2 X.2.1.1 X.2.1.2.2.1 own y.cls index y bc nl rt (.code y bc nl rt :: BIG) { frames := fr', cells := 0, slots := 0, locals := lo' } 0 0 n :=
    ⟨callB_of n hb (gGoodC y4) rfl rfl rfl (hb _ y3) (hb _ hl) ⟨y5, y6, y7⟩ (by rw [C.2.2.2.2.2.2.2.2.2.2.1, C.2.2.2.2.2.2.2.2.2.2.2.1]; exact hfr), hb _ y1, hb _ y2⟩
  have hM1 := hM X.2.2.2.1 X.2.2.2.2.1 X.2.2.2.2.2.1 H.size
  rw [hav] at hM1 ⊢
  exact va_runV (As := As) (rest := rest) ⟨C.1, C.2.1, C.2.2.1, C.2.2.2.2.1, hb⟩ hM1 cw ⟨gPre_blind, va_recv C.2.2.2.2.2.2.1 hP hcl (by rw [gW_at σ hk, hcel]), gPre_at C hP⟩ rfl hn (by rw [h.1, C.2.2.2.1]) hst (lv_room hrest) d C.2.2.2.2.2.2.2.2.2.2.2.2
theorem r_callVN (C : gC X cc own nL fr lo) {y : MethodName} {host : String} {bc : ByteArray} {nl n index fr' lo' k ci N : Nat} {T : u_T} {rt : Option FieldType} {av : (Nat → Nat) → List Value} {σ' : gS} {rv : Option Value} {As rest : List Value} {F : (Nat → Nat) → (Nat → Int32) → List Value} (hM : gMet X.1.2.1 y bc nl rt fr' lo' av σ rv σ') (hy : gCalV y bc nl rt n) (hl : (own, index, y, host) ∈ gNwM) (hk : k < gN) (hcel : ∀ z a f g, gCel z a f g k = .inr (ci, F a f)) (hcl : gCls[ci]? = some (y.cls, T, N)) (hav : av (gA X) = .ref (gA X k) :: As) (hn : As.length = n) {st0 : List Value} (hst : st0 = As.reverse ++ .ref (gA X k) :: rest) (hrest : (rest.map fun v => v.category).sum ≤ 8) (hfr : fr' + 1 ≤ fr ∧ 8 + (nl + 11) + lo' ≤ lo) (d : decode cc pc = .ok (.invokevirtual index, 3)) {st1 : List Value} (hst1 : rv.toList ++ rest = st1) (kk : G X (pc + 3) lv st1 σ') : G X pc lv st0 σ := by
  subst hst1
  refine r_callK (aa := (av (gA X)).toArray) C (fun H locs ls hP hS h => ?_) kk
  obtain ⟨y1, y2, y3, y4, y5, y6, y7⟩ := hy
  have hb := fun w (hw : w ∈ BIG) => C.2.2.2.2.2.1 w hw
  have cw := va_cnB (R := X.1.2.2.2) (s := X.2.1.1) (args := X.2.1.2.2.1) (own := own) (host := host) (index := index) (rm := { frames := fr', cells := 0, slots := 0, locals := lo' }) (mc := 0) (ms := 0) n hb (gGoodC y4) rfl rfl rfl (C.2.2.2.2.2.2.2.1.2 _ hl) (hb _ y3) ⟨y5, y6, y7⟩ (by rw [C.2.2.2.2.2.2.2.2.2.2.1, C.2.2.2.2.2.2.2.2.2.2.2.1]; exact hfr)
  have hM1 := hM X.2.2.2.1 X.2.2.2.2.1 X.2.2.2.2.2.1 H.size
  rw [hav] at hM1 ⊢
  exact va_runVN (C := y.cls) (As := As) (rest := rest) ⟨C.1, C.2.1, C.2.2.1, C.2.2.2.2.1, hb⟩ hM1 ⟨cw, hb _ y1, hb _ y2⟩ ⟨gPre_blind, va_recv C.2.2.2.2.2.2.1 hP hcl (by rw [gW_at σ hk, hcel]), gPre_at C hP⟩ rfl hn (by rw [h.1, C.2.2.2.1]) hst (lv_room hrest) d C.2.2.2.2.2.2.2.2.2.2.2.2
theorem r_callS (C : gC X cc own nL fr lo) {y : MethodName} {bc : ByteArray} {nl n index fr' lo' : Nat} {rt : Option FieldType} {av : (Nat → Nat) → List Value} {σ' : gS} {rv : Option Value} {As rest : List Value} (hM : gMet X.1.2.1 y bc nl rt fr' lo' av σ rv σ') (hy : gCalS y bc nl rt n) (hl : Cond.methodLink own index y ∈ BIG) (hav : av (gA X) = As) (hn : As.length = n) {st0 : List Value} (hst : st0 = As.reverse ++ rest) (hrest : (rest.map fun v => v.category).sum ≤ 8) (hfr : fr' + 1 ≤ fr ∧ 8 + (nl + 11) + lo' ≤ lo) (d : decode cc pc = .ok (.invokestatic index, 3)) {st1 : List Value} (hst1 : rv.toList ++ rest = st1) (kk : G X (pc + 3) lv st1 σ') : G X pc lv st0 σ := by
  subst hst1
  refine r_callK (aa := (av (gA X)).toArray) C (fun H locs ls hP hS h => ?_) kk
  obtain ⟨y1, y3, y4, y5, y6, y7⟩ := hy
  have hb := fun w (hw : w ∈ BIG) => C.2.2.2.2.2.1 w hw
  have cw : CallB X.1.2.2.2 X.2.1.1 X.2.1.2.2.1 own index y bc nl rt (.code y bc nl rt :: BIG) { frames := fr', cells := 0, slots := 0, locals := lo' } 0 0 n ∧ (Cond.static y).before X.2.1.2.2.1 X.2.1.1 = true :=
    ⟨callB_of n hb (gGoodC y4) rfl rfl rfl (hb _ y3) (hb _ hl) ⟨y5, y6, y7⟩ (by rw [C.2.2.2.2.2.2.2.2.2.2.1, C.2.2.2.2.2.2.2.2.2.2.2.1]; exact hfr), hb _ y1⟩
  have hM1 := hM X.2.2.2.1 X.2.2.2.2.1 X.2.2.2.2.2.1 H.size
  rw [hav] at hM1 ⊢
  exact va_runS (As := As) (rest := rest) ⟨C.1, C.2.1, C.2.2.1, C.2.2.2.2.1, hb⟩ hM1 cw ⟨gPre_blind, gPre_at C hP⟩ rfl hn (by rw [h.1, C.2.2.2.1]) hst (lv_room hrest) d C.2.2.2.2.2.2.2.2.2.2.2.2
theorem r_callSN (C : gC X cc own nL fr lo) {y : MethodName} {host : String} {bc : ByteArray} {nl n index fr' lo' : Nat} {rt : Option FieldType} {av : (Nat → Nat) → List Value} {σ' : gS} {rv : Option Value} {As rest : List Value} (hM : gMet X.1.2.1 y bc nl rt fr' lo' av σ rv σ') (hy : gCalS y bc nl rt n) (hl : (own, index, y, host) ∈ gNwM) (hav : av (gA X) = As) (hn : As.length = n) {st0 : List Value} (hst : st0 = As.reverse ++ rest) (hrest : (rest.map fun v => v.category).sum ≤ 8) (hfr : fr' + 1 ≤ fr ∧ 8 + (nl + 11) + lo' ≤ lo) (d : decode cc pc = .ok (.invokestatic index, 3)) {st1 : List Value} (hst1 : rv.toList ++ rest = st1) (kk : G X (pc + 3) lv st1 σ') : G X pc lv st0 σ := by
  subst hst1
  refine r_callK (aa := (av (gA X)).toArray) C (fun H locs ls hP hS h => ?_) kk
  obtain ⟨y1, y3, y4, y5, y6, y7⟩ := hy
  have hb := fun w (hw : w ∈ BIG) => C.2.2.2.2.2.1 w hw
  have cw := va_cnB (R := X.1.2.2.2) (s := X.2.1.1) (args := X.2.1.2.2.1) (own := own) (host := host) (index := index) (rm := { frames := fr', cells := 0, slots := 0, locals := lo' }) (mc := 0) (ms := 0) n hb (gGoodC y4) rfl rfl rfl (C.2.2.2.2.2.2.2.1.2 _ hl) (hb _ y3) ⟨y5, y6, y7⟩ (by rw [C.2.2.2.2.2.2.2.2.2.2.1, C.2.2.2.2.2.2.2.2.2.2.2.1]; exact hfr)
  have hM1 := hM X.2.2.2.1 X.2.2.2.2.1 X.2.2.2.2.2.1 H.size
  rw [hav] at hM1 ⊢
  exact va_runSN (As := As) (rest := rest) ⟨C.1, C.2.1, C.2.2.1, C.2.2.2.2.1, hb⟩ hM1 ⟨cw, hb _ y1, trivial⟩ ⟨gPre_blind, gPre_at C hP⟩ rfl hn (by rw [h.1, C.2.2.2.1]) hst (lv_room hrest) d C.2.2.2.2.2.2.2.2.2.2.2.2
end GR
