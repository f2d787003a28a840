/-! ===== BEGIN new T[n][m]: the outer array a place, the inner ones among the pooled ===== -/
/-- f, but v at every address of l -/
def vr_up {α : Type} (f : Nat → α) (l : List Nat) (v : α) : Nat → α := fun a => if a ∈ l then v else f a
theorem vr_up_in {α : Type} {f : Nat → α} {l : List Nat} {v : α} {a : Nat} (h : a ∈ l) : vr_up f l v a = v := if_pos h
theorem vr_up_ne {α : Type} {f : Nat → α} {l : List Nat} {v : α} {a : Nat} (h : a ∉ l) : vr_up f l v a = f a := if_neg h
theorem vr_rows {L l : List Nat} {f : Nat → va_E} {e : va_E} (h : ∀ a, a ∈ l → a ∉ L) : va_pl L f ++ l.map (fun a => (a, e)) = va_pl (L ++ l) (vr_up f l e) := by
  unfold va_pl
  rw [List.map_append]
  congr 1
  · apply List.map_congr_left
    intro a ha
    rw [vr_up_ne (fun q => h a q ha)]
  · apply List.map_congr_left
    intro a ha
    rw [vr_up_in ha]
theorem vr_lay {X rows : va_W} {x : Nat × va_E} {pl : va_W} {D : va_G} {cl : List vw_C} {H : Heap} (hP : va_P D cl (((X ++ pl) ++ [x]) ++ rows) H) : va_P D cl ((X ++ [x]) ++ (pl ++ rows)) H := by
  rw [List.append_assoc (X ++ pl)] at hP
  have h := va_P.swap hP
  rw [← List.append_assoc X] at h
  have h2 := va_P.swap h
  rw [List.append_assoc (X ++ [x])] at h2
  exact h2
theorem vr_layD {X rows : va_W} {x : Nat × va_E} {pl : va_W} {A : Nat → Prop} (hD : va_D A (((X ++ pl) ++ [x]) ++ rows)) : va_D A ((X ++ [x]) ++ (pl ++ rows)) := by
  rw [List.append_assoc (X ++ pl)] at hD
  have h := va_D.swap hD
  rw [← List.append_assoc X] at h
  have h2 := va_D.swap h
  rw [List.append_assoc (X ++ [x])] at h2
  exact h2
theorem vr_outer (c : ClassId) (N h0 : Nat) : ∀ i : Nat, Jvm.Free.Multi.outerC c N h0 i = arrV c N (fun j => va_rf (if j < i then some (h0 + 1 + j) else none))
  | 0 => by
    show ({ cls := c, slots := Array.replicate N .null, vm := .none } : Cell) = _
    rw [arrV_new]
    refine congrArg (arrV c N) (funext fun j => ?_)
    simp [va_rf]
  | i + 1 => by
    show (Jvm.Free.Multi.outerC c N h0 i).setSlot i (.ref (h0 + 1 + i)) = _
    rw [vr_outer c N h0 i, arrV_store]
    refine congrArg (arrV c N) (funext fun j => ?_)
    by_cases e : j = i
    · subst e
      simp [updV, va_rf]
    · by_cases h : j < i
      · simp [updV, e, h, Nat.lt_succ_of_lt h]
      · simp [updV, e, h, show ¬ j < i + 1 by omega]
section VGM
variable {p : Program} {l : Launch} {e : Env} {R : Room} {s : State} {m : MethodId} {args : Array Value} {below : List Frame} {meth : Method} {c : Code} {H : Heap} {locs : List Loc} {cells slots : Nat} {Q : State → Prop}
variable {cc : ByteArray} {pc : Nat} {ls : Array Slot} {rest : List Value} {D : va_G} {cl : List vw_C} {A : Nat → Prop} {a : Nat} {tys : List (ClassId × FieldType)} {ws : va_W} {H0 : Heap}
theorem va_mna {X : va_W} {L : List Nat} {f : Nat → va_E} {cc : ByteArray} (hexec : p.tables.exec = Jvm.exec) (hb : c.code = cc) {own : String} {index : Nat} {ty : FieldType} {cy : ClassId} (hown : s.vm.findClass own = some m.cls) (hclink : (Cond.classLink own index ("[" ++ (FieldType.array ty).toString)).before args s = true) (hover : va_AOA ty s) (harr : (Cond.arrayClass ty).before args s = true) (hcy : s.vm.findClass (FieldType.array ty).toString = some cy)
    (hK : va_K D cl tys s) (hP : va_P D cl (X ++ va_pl L f) H) (hD : va_D A (X ++ va_pl L f)) (hS : va_S A H0 H locs) (hA : ∀ q, H0.size ≤ q → A q) {n k : Int32} {N' K' : Nat} {z : vp_A} (hn : ¬ n < 0) (hk : ¬ k < 0) (hN : n.toNatClampNeg = N') (hM : k.toNatClampNeg = K')
    (hb1 : N' * 4 ≤ 536870912) (hb2 : K' * componentBytes ty ≤ 536870912) (hb3 : K' ≤ 536870912) (hdf : fits ty (defaultValue ty) = true) (hdd : (defaultValue ty).isDefault = true) (hcells : cells + (1 + N') ≤ R.cells) (hslots : slots + (N' + N' * K') ≤ R.slots) (hz : ∀ c : ClassId, Jvm.Free.Multi.innerC c K' (defaultValue ty) = vp_cell c z) (hdg : decode cc pc = .ok (.multianewarray index 2, 4))
    (kk : ∀ (q : Nat) (r : Nat → Nat) (cA : ClassId) (H1 : Heap), (∀ i j : Nat, i < N' → j < N' → r i = r j → i = j) → (∀ i : Nat, i < N' → r i ∉ L) → va_K D cl (tys ++ [(cA, .array ty)]) s →
      va_P D cl ((X ++ [(q, .inl (cA, N', .inr (.inr (.inr (.inr (fun i => if i < N' then some (r i) else none))))))]) ++ va_pl (L ++ (List.range N').map r) (vr_up f ((List.range N').map r) (.inl (cy, z)))) H1 → va_D A ((X ++ [(q, .inl (cA, N', .inr (.inr (.inr (.inr (fun i => if i < N' then some (r i) else none))))))]) ++ va_pl (L ++ (List.range N').map r) (vr_up f ((List.range N').map r) (.inl (cy, z)))) → va_S A H0 H1 locs →
      W p l e R s m args below meth c H1 locs (cells + 1 + N') (slots + N' + N' * K') Q (F0 m (pc + 4) ls (.ref q :: rest))) : W p l e R s m args below meth c H locs cells slots Q (F0 m pc ls (.int k :: .int n :: rest)) := by
  subst hN
  subst hM
  intro T hT Xs
  obtain ⟨vm₁, cA, comp, -, fA, fC, hO, -, X', step⟩ := Xs.multianewarray2F hexec hown hclink (va_AOA.use hover) harr (g := F0 m pc ls (.int k :: .int n :: rest)) rfl (by rw [hb]; exact hdg) rfl hn hk hb1 hb2 hb3 hdf hdd hcells hslots
  have ec : some cy = some comp := hcy.symm.trans fC
  cases ec
  generalize hF : Jvm.Free.Multi.fill (T.setVm vm₁) cA cy n.toNatClampNeg k.toNatClampNeg (defaultValue ty) n.toNatClampNeg = F at X' step
  have hTh : (T.setVm vm₁).heap = H := hT
  obtain ⟨f1, f2, -, -⟩ := Jvm.Free.Multi.fill_facts (T.setVm vm₁) cA cy n.toNatClampNeg k.toNatClampNeg (defaultValue ty) n.toNatClampNeg
  rw [hF, hTh] at f1 f2
  have hold : ∀ x : Nat, x < H.size → F.heap[x]? = H[x]? := fun x hx => by
    have := Jvm.Free.Multi.fill_old (T.setVm vm₁) cA cy n.toNatClampNeg k.toNatClampNeg (defaultValue ty) (a := x) (by rw [hTh]; exact hx) n.toNatClampNeg
    rw [hF, hTh] at this
    exact this
  have hrow : ∀ j : Nat, j < n.toNatClampNeg → F.heap[H.size + 1 + j]? = some (vp_cell cy z) := fun j hj => by
    have := Jvm.Free.Multi.fill_inner (T.setVm vm₁) cA cy n.toNatClampNeg k.toNatClampNeg (defaultValue ty) n.toNatClampNeg j hj
    rw [hF, hTh, hz] at this
    exact this
  have hout : Jvm.Free.Multi.outerC cA n.toNatClampNeg H.size n.toNatClampNeg = vp_cell cA (n.toNatClampNeg, .inr (.inr (.inr (.inr (fun i => if i < n.toNatClampNeg then some (H.size + 1 + i) else none))))) := by
    rw [vp_cell_q]
    exact vr_outer cA n.toNatClampNeg H.size n.toNatClampNeg
  rw [hout] at f2
  have hlt : ∀ a, a ∈ L → a < H.size := fun a ha => by
    obtain ⟨k9, hk9⟩ := va_pl_get (X := X) (f := f) ha
    exact (hP k9 _ hk9).lt
  have hnl : ∀ i : Nat, i < n.toNatClampNeg → H.size + 1 + i ∉ L := fun i _ h => by
    have := hlt _ h
    omega
  have hnm : ∀ a, a ∈ (List.range n.toNatClampNeg).map (fun i => H.size + 1 + i) → a ∉ L := fun a ha h => by
    obtain ⟨i, -, rfl⟩ := List.mem_map.mp ha
    have := hlt _ h
    omega
  have hP0 : va_P D cl (X ++ va_pl L f) F.heap := hP.kept (fun k9 x hx => hold x.1 ((hP k9 x hx).lt))
  have hP1 : va_P D cl ((X ++ va_pl L f) ++ [(H.size, .inl (cA, n.toNatClampNeg, .inr (.inr (.inr (.inr (fun i => if i < n.toNatClampNeg then some (H.size + 1 + i) else none))))))]) F.heap := hP0.app (fun k9 x hx => by
    have h0 : k9 < 1 := (List.getElem?_eq_some_iff.mp hx).1
    rw [show k9 = 0 by omega] at hx
    cases hx
    exact f2)
  have hP2 : va_P D cl (((X ++ va_pl L f) ++ [(H.size, .inl (cA, n.toNatClampNeg, .inr (.inr (.inr (.inr (fun i => if i < n.toNatClampNeg then some (H.size + 1 + i) else none))))))]) ++ ((List.range n.toNatClampNeg).map (fun i => H.size + 1 + i)).map (fun a => (a, .inl (cy, z)))) F.heap := hP1.app (fun k9 x hx => by
    obtain ⟨a, ha, rfl⟩ := List.mem_map.mp (List.mem_of_getElem? hx)
    obtain ⟨i, hi, rfl⟩ := List.mem_map.mp ha
    exact hrow i (List.mem_range.mp hi))
  have hD2 : va_D A (((X ++ va_pl L f) ++ [(H.size, .inl (cA, n.toNatClampNeg, .inr (.inr (.inr (.inr (fun i => if i < n.toNatClampNeg then some (H.size + 1 + i) else none))))))]) ++ ((List.range n.toNatClampNeg).map (fun i => H.size + 1 + i)).map (fun a => (a, .inl (cy, z)))) := by
    have hD1 := hD.push (e := .inl (cA, n.toNatClampNeg, .inr (.inr (.inr (.inr (fun i => if i < n.toNatClampNeg then some (H.size + 1 + i) else none)))))) hP rfl (hA _ hS.1)
    generalize hW1 : (X ++ va_pl L f) ++ [(H.size, .inl (cA, n.toNatClampNeg, .inr (.inr (.inr (.inr (fun i => if i < n.toNatClampNeg then some (H.size + 1 + i) else none))))))] = W1 at hD1 hP1 ⊢
    have hle : ∀ (k9 : Nat) (x : Nat × va_E), W1[k9]? = some x → x.1 ≤ H.size := fun k9 x hx => by
      rw [← hW1] at hx
      by_cases hl : k9 < (X ++ va_pl L f).length
      · rw [List.getElem?_append_left hl] at hx
        exact Nat.le_of_lt ((hP k9 x hx).lt)
      · rw [List.getElem?_append_right (by omega)] at hx
        have h0 : k9 - (X ++ va_pl L f).length < 1 := (List.getElem?_eq_some_iff.mp hx).1
        rw [show k9 - (X ++ va_pl L f).length = 0 by omega] at hx
        cases hx
        exact Nat.le_refl _
    have hr : ∀ (k9 : Nat) (x : Nat × va_E), (((List.range n.toNatClampNeg).map (fun i => H.size + 1 + i)).map (fun a => ((a, .inl (cy, z)) : Nat × va_E)))[k9]? = some x → x.1 = H.size + 1 + k9 := fun k9 x hx => by
      rw [List.getElem?_map, List.getElem?_map] at hx
      by_cases h9 : k9 < n.toNatClampNeg
      · rw [List.getElem?_range h9] at hx
        cases hx
        rfl
      · have hn0 : (List.range n.toNatClampNeg)[k9]? = none := List.getElem?_eq_none (by rw [List.length_range]; omega)
        rw [hn0] at hx
        cases hx
    refine ⟨fun i j x y hi hj hxy => ?_, fun k9 x hx => ?_⟩
    · by_cases h1 : i < W1.length <;> by_cases h2 : j < W1.length
      · rw [List.getElem?_append_left h1] at hi
        rw [List.getElem?_append_left h2] at hj
        exact hD1.1 i j x y hi hj hxy
      · rw [List.getElem?_append_left h1] at hi
        rw [List.getElem?_append_right (by omega)] at hj
        have := hle _ _ hi
        have := hr _ _ hj
        omega
      · rw [List.getElem?_append_right (by omega)] at hi
        rw [List.getElem?_append_left h2] at hj
        have := hle _ _ hj
        have := hr _ _ hi
        omega
      · rw [List.getElem?_append_right (by omega)] at hi hj
        have := hr _ _ hi
        have := hr _ _ hj
        omega
    · by_cases h1 : k9 < W1.length
      · rw [List.getElem?_append_left h1] at hx
        exact hD1.2 k9 x hx
      · rw [List.getElem?_append_right (by omega)] at hx
        have := hr _ _ hx
        exact hA _ (by have := hS.1; omega)
  have hAr : ArrOfT s cA (.array ty) := fun N9 z9 => by
    obtain ⟨-, k9, hk9, cm9, hkk9⟩ := (hO 0 0 0).1
    exact ⟨(fun q hq => by cases hq), k9, hk9, cm9, hkk9⟩
  have hK2 : va_K D cl (tys ++ [(cA, .array ty)]) s := ⟨hK.1, fun k9 x hx => by
    by_cases hl : k9 < tys.length
    · rw [List.getElem?_append_left hl] at hx
      exact hK.2 k9 x hx
    · rw [List.getElem?_append_right (by omega)] at hx
      have h0 : k9 - tys.length < 1 := (List.getElem?_eq_some_iff.mp hx).1
      rw [show k9 - tys.length = 0 by omega] at hx
      cases hx
      exact ⟨hAr, fA⟩⟩
  obtain ⟨t, a1, b1⟩ := kk H.size (fun i => H.size + 1 + i) cA F.heap (fun i j _ _ h => by have h9 : H.size + 1 + i = H.size + 1 + j := h; omega) hnl hK2 (by rw [← vr_rows hnm]; exact vr_lay hP2) (by rw [← vr_rows hnm]; exact vr_layD hD2) ⟨by rw [f1]; have := hS.1; omega, fun x h1 h2 => (hold x (Nat.lt_of_lt_of_le h1 hS.1)).trans (hS.2.1 x h1 h2), hS.2.2⟩ F rfl X'
  refine ⟨t, step t ?_, b1⟩
  have e : T.heap.size = H.size := by rw [hT]
  rw [e]
  exact a1
end VGM
/-! ===== END ===== -/


def R_Ga : String := "GameRows"
def R_Fo : String := "GameRows$Forest"
def R_Ta : String := "GameRows$Table"
def R_Po : String := "GameRows$Points"
def R_Le : String := "GameRows$Leaving"
def R_An : String := "GameRows$Answering"
def R_Mo : String := "GameRowsModel"
def R_Lo : String := "java/lang/Long"
def R_Ma : String := "java/lang/Math"
def R_Ar : String := "java/util/Arrays"
def R_La : String := "GameRowsLaw"
def R_Ob : String := "java/lang/Object"
def T_Ga : u_T := fun k => match k with
  | 0 => ("GameRows", "forest", "LGameRows$Forest;", true)
  | 1 => ("GameRows", "table", "LGameRows$Table;", true)
  | 2 => ("GameRows", "points", "LGameRows$Points;", true)
  | 3 => ("GameRows", "leaving", "LGameRows$Leaving;", true)
  | _ => ("GameRows", "answering", "LGameRows$Answering;", true)
def ty_Ga : Nat → FieldType := fun k => match k with
  | 0 => .object "GameRows$Forest"
  | 1 => .object "GameRows$Table"
  | 2 => .object "GameRows$Points"
  | 3 => .object "GameRows$Leaving"
  | _ => .object "GameRows$Answering"
theorem nm_Ga : ∀ a, a < 5 → ∀ b, b < 5 → a ≠ b → (T_Ga a).2.1 ≠ (T_Ga b).2.1 := by decide +kernel
theorem ty_Ga_ok : ∀ k, k < 5 → parseFieldDescriptor (T_Ga k).2.2.1 = some (ty_Ga k) := by decide +kernel
def T_Fo : u_T := fun k => match k with
  | 0 => ("GameRows$Forest", "nodes", "I", false)
  | 1 => ("GameRows$Forest", "sets", "I", false)
  | 2 => ("GameRows$Forest", "version", "I", false)
  | 3 => ("GameRows$Forest", "sorts", "[I", true)
  | 4 => ("GameRows$Forest", "setOf", "[I", true)
  | 5 => ("GameRows$Forest", "parents", "[I", true)
  | 6 => ("GameRows$Forest", "actsOf", "[I", true)
  | 7 => ("GameRows$Forest", "worths", "[I", true)
  | 8 => ("GameRows$Forest", "children", "[I", true)
  | 9 => ("GameRows$Forest", "sizes", "[I", true)
  | 10 => ("GameRows$Forest", "depthsBelow", "[I", true)
  | 11 => ("GameRows$Forest", "chancesBelow", "[I", true)
  | 12 => ("GameRows$Forest", "nodesFrom", "[J", true)
  | 13 => ("GameRows$Forest", "setsFrom", "[I", true)
  | 14 => ("GameRows$Forest", "ownerOf", "[I", true)
  | 15 => ("GameRows$Forest", "nodesOf", "[J", true)
  | _ => ("GameRows$Forest", "offered", "[I", true)
def ty_Fo : Nat → FieldType := fun k => match k with
  | 0 => .int
  | 1 => .int
  | 2 => .int
  | 3 => .array .int
  | 4 => .array .int
  | 5 => .array .int
  | 6 => .array .int
  | 7 => .array .int
  | 8 => .array .int
  | 9 => .array .int
  | 10 => .array .int
  | 11 => .array .int
  | 12 => .array .long
  | 13 => .array .int
  | 14 => .array .int
  | 15 => .array .long
  | _ => .array .int
theorem nm_Fo : ∀ a, a < 17 → ∀ b, b < 17 → a ≠ b → (T_Fo a).2.1 ≠ (T_Fo b).2.1 := by decide +kernel
theorem ty_Fo_ok : ∀ k, k < 17 → parseFieldDescriptor (T_Fo k).2.2.1 = some (ty_Fo k) := by decide +kernel
def T_Ta : u_T := fun k => match k with
  | 0 => ("GameRows$Table", "plans", "[I", true)
  | 1 => ("GameRows$Table", "forest", "LGameRows$Forest;", true)
  | 2 => ("GameRows$Table", "worths", "[[I", true)
  | 3 => ("GameRows$Table", "acts", "[I", true)
  | 4 => ("GameRows$Table", "shares", "[I", true)
  | 5 => ("GameRows$Table", "madeFor", "I", false)
  | _ => ("GameRows$Table", "madeFrom", "I", false)
def ty_Ta : Nat → FieldType := fun k => match k with
  | 0 => .array .int
  | 1 => .object "GameRows$Forest"
  | 2 => .array (.array .int)
  | 3 => .array .int
  | 4 => .array .int
  | 5 => .int
  | _ => .int
theorem nm_Ta : ∀ a, a < 7 → ∀ b, b < 7 → a ≠ b → (T_Ta a).2.1 ≠ (T_Ta b).2.1 := by decide +kernel
theorem ty_Ta_ok : ∀ k, k < 7 → parseFieldDescriptor (T_Ta k).2.2.1 = some (ty_Ta k) := by decide +kernel
def T_Po : u_T := fun k => match k with
  | 0 => ("GameRows$Points", "forest", "LGameRows$Forest;", true)
  | 1 => ("GameRows$Points", "table", "LGameRows$Table;", true)
  | 2 => ("GameRows$Points", "rows", "[[J", true)
  | 3 => ("GameRows$Points", "madeFor", "[I", true)
  | 4 => ("GameRows$Points", "best", "[[I", true)
  | _ => ("GameRows$Points", "inner", "[[I", true)
def ty_Po : Nat → FieldType := fun k => match k with
  | 0 => .object "GameRows$Forest"
  | 1 => .object "GameRows$Table"
  | 2 => .array (.array .long)
  | 3 => .array .int
  | 4 => .array (.array .int)
  | _ => .array (.array .int)
theorem nm_Po : ∀ a, a < 6 → ∀ b, b < 6 → a ≠ b → (T_Po a).2.1 ≠ (T_Po b).2.1 := by decide +kernel
theorem ty_Po_ok : ∀ k, k < 6 → parseFieldDescriptor (T_Po k).2.2.1 = some (ty_Po k) := by decide +kernel
def T_Le : u_T := fun k => match k with
  | 0 => ("GameRows$Leaving", "forest", "LGameRows$Forest;", true)
  | 1 => ("GameRows$Leaving", "table", "LGameRows$Table;", true)
  | 2 => ("GameRows$Leaving", "goneIn", "[[I", true)
  | 3 => ("GameRows$Leaving", "left", "[J", true)
  | _ => ("GameRows$Leaving", "madeFor", "I", false)
def ty_Le : Nat → FieldType := fun k => match k with
  | 0 => .object "GameRows$Forest"
  | 1 => .object "GameRows$Table"
  | 2 => .array (.array .int)
  | 3 => .array .long
  | _ => .int
theorem nm_Le : ∀ a, a < 5 → ∀ b, b < 5 → a ≠ b → (T_Le a).2.1 ≠ (T_Le b).2.1 := by decide +kernel
theorem ty_Le_ok : ∀ k, k < 5 → parseFieldDescriptor (T_Le k).2.2.1 = some (ty_Le k) := by decide +kernel
def T_An : u_T := fun k => match k with
  | 0 => ("GameRows$Answering", "forest", "LGameRows$Forest;", true)
  | 1 => ("GameRows$Answering", "table", "LGameRows$Table;", true)
  | 2 => ("GameRows$Answering", "picks", "[[I", true)
  | 3 => ("GameRows$Answering", "sums", "[[I", true)
  | 4 => ("GameRows$Answering", "played", "I", false)
  | _ => ("GameRows$Answering", "madeFor", "I", false)
def ty_An : Nat → FieldType := fun k => match k with
  | 0 => .object "GameRows$Forest"
  | 1 => .object "GameRows$Table"
  | 2 => .array (.array .int)
  | 3 => .array (.array .int)
  | 4 => .int
  | _ => .int
theorem nm_An : ∀ a, a < 6 → ∀ b, b < 6 → a ≠ b → (T_An a).2.1 ≠ (T_An b).2.1 := by decide +kernel
theorem ty_An_ok : ∀ k, k < 6 → parseFieldDescriptor (T_An k).2.2.1 = some (ty_An k) := by decide +kernel
def T_Mo : u_T := fun k => match k with
  | 0 => ("GameRowsModel", "nodes", "I", false)
  | 1 => ("GameRowsModel", "sets", "I", false)
  | 2 => ("GameRowsModel", "sort", "[I", true)
  | 3 => ("GameRowsModel", "setOf", "[I", true)
  | 4 => ("GameRowsModel", "worthOf", "[I", true)
  | 5 => ("GameRowsModel", "child", "[I", true)
  | 6 => ("GameRowsModel", "parent", "[I", true)
  | 7 => ("GameRowsModel", "height", "[I", true)
  | 8 => ("GameRowsModel", "chances", "[I", true)
  | 9 => ("GameRowsModel", "playerOf", "[I", true)
  | 10 => ("GameRowsModel", "acts", "[I", true)
  | 11 => ("GameRowsModel", "inTree", "[Z", true)
  | 12 => ("GameRowsModel", "isIn", "[Z", true)
  | 13 => ("GameRowsModel", "value", "[I", true)
  | 14 => ("GameRowsModel", "worths", "[I", true)
  | 15 => ("GameRowsModel", "choice", "[I", true)
  | 16 => ("GameRowsModel", "plans0", "I", false)
  | 17 => ("GameRowsModel", "plans1", "I", false)
  | 18 => ("GameRowsModel", "isPoint", "[Z", true)
  | 19 => ("GameRowsModel", "pointFound", "I", false)
  | 20 => ("GameRowsModel", "gameFound", "I", false)
  | 21 => ("GameRowsModel", "left", "[Z", true)
  | 22 => ("GameRowsModel", "gone", "[I", true)
  | 23 => ("GameRowsModel", "goes", "[Z", true)
  | 24 => ("GameRowsModel", "took", "[I", true)
  | _ => ("GameRowsModel", "against", "[I", true)
def ty_Mo : Nat → FieldType := fun k => match k with
  | 0 => .int
  | 1 => .int
  | 2 => .array .int
  | 3 => .array .int
  | 4 => .array .int
  | 5 => .array .int
  | 6 => .array .int
  | 7 => .array .int
  | 8 => .array .int
  | 9 => .array .int
  | 10 => .array .int
  | 11 => .array .boolean
  | 12 => .array .boolean
  | 13 => .array .int
  | 14 => .array .int
  | 15 => .array .int
  | 16 => .int
  | 17 => .int
  | 18 => .array .boolean
  | 19 => .int
  | 20 => .int
  | 21 => .array .boolean
  | 22 => .array .int
  | 23 => .array .boolean
  | 24 => .array .int
  | _ => .array .int
theorem nm_Mo : ∀ a, a < 26 → ∀ b, b < 26 → a ≠ b → (T_Mo a).2.1 ≠ (T_Mo b).2.1 := by decide +kernel
theorem ty_Mo_ok : ∀ k, k < 26 → parseFieldDescriptor (T_Mo k).2.2.1 = some (ty_Mo k) := by decide +kernel
abbrev b_Ga_init_c : ByteArray := prog_1_method_1_code
def y_Ga_init : MethodName := ⟨R_Ga, "<init>", "()V"⟩
abbrev b_Fo_init_c : ByteArray := prog_3_method_1_code
def y_Fo_init : MethodName := ⟨R_Fo, "<init>", "()V"⟩
abbrev b_Ta_init_c : ByteArray := prog_6_method_1_code
def y_Ta_init : MethodName := ⟨R_Ta, "<init>", "(LGameRows$Forest;)V"⟩
abbrev b_Po_init_c : ByteArray := prog_5_method_1_code
def y_Po_init : MethodName := ⟨R_Po, "<init>", "(LGameRows$Forest;LGameRows$Table;)V"⟩
abbrev b_Le_init_c : ByteArray := prog_4_method_1_code
def y_Le_init : MethodName := ⟨R_Le, "<init>", "(LGameRows$Forest;LGameRows$Table;)V"⟩
abbrev b_An_init_c : ByteArray := prog_2_method_1_code
def y_An_init : MethodName := ⟨R_An, "<init>", "(LGameRows$Forest;LGameRows$Table;)V"⟩
abbrev b_Ga_clear_c : ByteArray := prog_1_method_2_code
def y_Ga_clear : MethodName := ⟨R_Ga, "clear", "()I"⟩
abbrev b_Fo_dropAll_c : ByteArray := prog_3_method_2_code
def y_Fo_dropAll : MethodName := ⟨R_Fo, "dropAll", "()I"⟩
abbrev b_Ga_set_c : ByteArray := prog_1_method_3_code
def y_Ga_set : MethodName := ⟨R_Ga, "set", "(II)I"⟩
abbrev b_Ga_isPlayer_c : ByteArray := prog_1_method_22_code
def y_Ga_isPlayer : MethodName := ⟨R_Ga, "isPlayer", "(I)Z"⟩
abbrev b_Ga_isAmong_c : ByteArray := prog_1_method_23_code
def y_Ga_isAmong : MethodName := ⟨R_Ga, "isAmong", "(III)Z"⟩
abbrev b_Fo_addSet_c : ByteArray := prog_3_method_3_code
def y_Fo_addSet : MethodName := ⟨R_Fo, "addSet", "(II)I"⟩
abbrev b_Ga_end_c : ByteArray := prog_1_method_4_code
def y_Ga_end : MethodName := ⟨R_Ga, "end", "(II)I"⟩
abbrev b_Fo_addEnd_c : ByteArray := prog_3_method_4_code
def y_Fo_addEnd : MethodName := ⟨R_Fo, "addEnd", "(II)I"⟩
abbrev b_Fo_startNode_c : ByteArray := prog_3_method_11_code
def y_Fo_startNode : MethodName := ⟨R_Fo, "startNode", "(II)I"⟩
abbrev b_Ga_chance_c : ByteArray := prog_1_method_5_code
def y_Ga_chance : MethodName := ⟨R_Ga, "chance", "(III)I"⟩
abbrev b_Fo_offer_c : ByteArray := prog_3_method_5_code
def y_Fo_offer : MethodName := ⟨R_Fo, "offer", "(III)V"⟩
abbrev b_Fo_addParent_c : ByteArray := prog_3_method_6_code
def y_Fo_addParent : MethodName := ⟨R_Fo, "addParent", "(II)I"⟩
abbrev b_Fo_areOfferedThere_c : ByteArray := prog_3_method_7_code
def y_Fo_areOfferedThere : MethodName := ⟨R_Fo, "areOfferedThere", "(I)Z"⟩
abbrev b_Fo_hasNode_c : ByteArray := prog_3_method_13_code
def y_Fo_hasNode : MethodName := ⟨R_Fo, "hasNode", "(I)Z"⟩
abbrev b_Fo_isOfferedTaken_c : ByteArray := prog_3_method_8_code
def y_Fo_isOfferedTaken : MethodName := ⟨R_Fo, "isOfferedTaken", "(I)Z"⟩
abbrev b_Fo_greatestOffered_c : ByteArray := prog_3_method_9_code
def y_Fo_greatestOffered : MethodName := ⟨R_Fo, "greatestOffered", "([II)I"⟩
abbrev b_Ma_max_c : ByteArray := prog_10_method_65_code
def y_Ma_max : MethodName := ⟨R_Ma, "max", "(II)I"⟩
abbrev b_Fo_setsOffered_c : ByteArray := prog_3_method_10_code
def y_Fo_setsOffered : MethodName := ⟨R_Fo, "setsOffered", "(I)I"⟩
abbrev b_Fo_plansWith_c : ByteArray := prog_3_method_22_code
def y_Fo_plansWith : MethodName := ⟨R_Fo, "plansWith", "(II)I"⟩
abbrev b_Ga_hasBit_c : ByteArray := prog_1_method_25_code
def y_Ga_hasBit : MethodName := ⟨R_Ga, "hasBit", "(JI)Z"⟩
abbrev b_Fo_adoptOffered_c : ByteArray := prog_3_method_12_code
def y_Fo_adoptOffered : MethodName := ⟨R_Fo, "adoptOffered", "(II)V"⟩
abbrev b_Ga_node_c : ByteArray := prog_1_method_6_code
def y_Ga_node : MethodName := ⟨R_Ga, "node", "(IIII)I"⟩
abbrev b_Fo_hasSet_c : ByteArray := prog_3_method_14_code
def y_Fo_hasSet : MethodName := ⟨R_Fo, "hasSet", "(I)Z"⟩
abbrev b_Ga_count_c : ByteArray := prog_1_method_7_code
def y_Ga_count : MethodName := ⟨R_Ga, "count", "(I)I"⟩
abbrev b_Ga_isEmpty_c : ByteArray := prog_1_method_20_code
def y_Ga_isEmpty : MethodName := ⟨R_Ga, "isEmpty", "()Z"⟩
abbrev b_Fo_nodesInTree_c : ByteArray := prog_3_method_18_code
def y_Fo_nodesInTree : MethodName := ⟨R_Fo, "nodesInTree", "()J"⟩
abbrev b_Fo_root_c : ByteArray := prog_3_method_17_code
def y_Fo_root : MethodName := ⟨R_Fo, "root", "()I"⟩
abbrev b_Lo_bitCount_c : ByteArray := prog_9_method_50_code
def y_Lo_bitCount : MethodName := ⟨R_Lo, "bitCount", "(J)I"⟩
abbrev b_Fo_plansOf_c : ByteArray := prog_3_method_21_code
def y_Fo_plansOf : MethodName := ⟨R_Fo, "plansOf", "(I)I"⟩
abbrev b_Fo_setsInTree_c : ByteArray := prog_3_method_19_code
def y_Fo_setsInTree : MethodName := ⟨R_Fo, "setsInTree", "()I"⟩
abbrev b_Po_find_c : ByteArray := prog_5_method_2_code
def y_Po_find : MethodName := ⟨R_Po, "find", "(Z)V"⟩
abbrev b_Po_placeOf_c : ByteArray := prog_5_method_3_code
def y_Po_placeOf : MethodName := ⟨R_Po, "placeOf", "(Z)I"⟩
abbrev b_Ga_firstBits_c : ByteArray := prog_1_method_26_code
def y_Ga_firstBits : MethodName := ⟨R_Ga, "firstBits", "(I)J"⟩
abbrev b_Ar_fillJ_c : ByteArray := prog_11_method_101_code
def y_Ar_fillJ : MethodName := ⟨R_Ar, "fill", "([JJ)V"⟩
abbrev b_Fo_gamesWithin_c : ByteArray := prog_3_method_28_code
def y_Fo_gamesWithin : MethodName := ⟨R_Fo, "gamesWithin", "()J"⟩
abbrev b_Fo_isGameWithin_c : ByteArray := prog_3_method_29_code
def y_Fo_isGameWithin : MethodName := ⟨R_Fo, "isGameWithin", "(I)Z"⟩
abbrev b_Po_keepPoints_c : ByteArray := prog_5_method_6_code
def y_Po_keepPoints : MethodName := ⟨R_Po, "keepPoints", "(I[J)V"⟩
abbrev b_Ta_fillFrom_c : ByteArray := prog_6_method_3_code
def y_Ta_fillFrom : MethodName := ⟨R_Ta, "fillFrom", "(I)V"⟩
abbrev b_Fo_plansFrom_c : ByteArray := prog_3_method_23_code
def y_Fo_plansFrom : MethodName := ⟨R_Fo, "plansFrom", "(II)I"⟩
abbrev b_Ar_fillI_c : ByteArray := prog_11_method_103_code
def y_Ar_fillI : MethodName := ⟨R_Ar, "fill", "([II)V"⟩
abbrev b_Ta_weighPair_c : ByteArray := prog_6_method_4_code
def y_Ta_weighPair : MethodName := ⟨R_Ta, "weighPair", "(II)V"⟩
abbrev b_Fo_worthAt_c : ByteArray := prog_3_method_15_code
def y_Fo_worthAt : MethodName := ⟨R_Fo, "worthAt", "(II)I"⟩
abbrev b_Ta_shareAmongAll_c : ByteArray := prog_6_method_5_code
def y_Ta_shareAmongAll : MethodName := ⟨R_Ta, "shareAmongAll", "(II)V"⟩
abbrev b_Fo_childAt_c : ByteArray := prog_3_method_16_code
def y_Fo_childAt : MethodName := ⟨R_Fo, "childAt", "(II)I"⟩
abbrev b_Fo_stepPlan_c : ByteArray := prog_3_method_27_code
def y_Fo_stepPlan : MethodName := ⟨R_Fo, "stepPlan", "(II[I)V"⟩
abbrev b_Fo_isPlayedFrom_c : ByteArray := prog_3_method_24_code
def y_Fo_isPlayedFrom : MethodName := ⟨R_Fo, "isPlayedFrom", "(III)Z"⟩
abbrev b_Po_findInner_c : ByteArray := prog_5_method_7_code
def y_Po_findInner : MethodName := ⟨R_Po, "findInner", "(II)I"⟩
abbrev b_Fo_planFrom_c : ByteArray := prog_3_method_26_code
def y_Fo_planFrom : MethodName := ⟨R_Fo, "planFrom", "(III)I"⟩
abbrev b_Po_findBest_c : ByteArray := prog_5_method_9_code
def y_Po_findBest : MethodName := ⟨R_Po, "findBest", "(I)V"⟩
abbrev b_Ga_otherThan_c : ByteArray := prog_1_method_24_code
def y_Ga_otherThan : MethodName := ⟨R_Ga, "otherThan", "(I)I"⟩
abbrev b_Ta_bestAgainst_c : ByteArray := prog_6_method_8_code
def y_Ta_bestAgainst : MethodName := ⟨R_Ta, "bestAgainst", "(II)I"⟩
abbrev b_Ta_value_c : ByteArray := prog_6_method_7_code
def y_Ta_value : MethodName := ⟨R_Ta, "value", "(III)I"⟩
abbrev b_Po_isPoint_c : ByteArray := prog_5_method_8_code
def y_Po_isPoint : MethodName := ⟨R_Po, "isPoint", "(II)Z"⟩
abbrev b_Po_howMany_c : ByteArray := prog_5_method_4_code
def y_Po_howMany : MethodName := ⟨R_Po, "howMany", "(Z)I"⟩
abbrev b_Ta_fillWhole_c : ByteArray := prog_6_method_2_code
def y_Ta_fillWhole : MethodName := ⟨R_Ta, "fillWhole", "()V"⟩
abbrev b_Le_playAll_c : ByteArray := prog_4_method_4_code
def y_Le_playAll : MethodName := ⟨R_Le, "playAll", "()V"⟩
abbrev b_Le_thoseThatGo_c : ByteArray := prog_4_method_5_code
def y_Le_thoseThatGo : MethodName := ⟨R_Le, "thoseThatGo", "(I)J"⟩
abbrev b_Ta_leastBetterAmong_c : ByteArray := prog_6_method_12_code
def y_Ta_leastBetterAmong : MethodName := ⟨R_Ta, "leastBetterAmong", "(IIJJ)I"⟩
abbrev b_Ta_isWorse_c : ByteArray := prog_6_method_13_code
def y_Ta_isWorse : MethodName := ⟨R_Ta, "isWorse", "(IIIJ)Z"⟩
abbrev b_Le_takeAway_c : ByteArray := prog_4_method_6_code
def y_Le_takeAway : MethodName := ⟨R_Le, "takeAway", "(IJI)V"⟩
abbrev b_Le_pairsLeft_c : ByteArray := prog_4_method_3_code
def y_Le_pairsLeft : MethodName := ⟨R_Le, "pairsLeft", "()I"⟩
abbrev b_Fo_depthOfTree_c : ByteArray := prog_3_method_20_code
def y_Fo_depthOfTree : MethodName := ⟨R_Fo, "depthOfTree", "()I"⟩
abbrev b_Ga_told_c : ByteArray := prog_1_method_8_code
def y_Ga_told : MethodName := ⟨R_Ga, "told", "(II)I"⟩
abbrev b_Ga_act_c : ByteArray := prog_1_method_9_code
def y_Ga_act : MethodName := ⟨R_Ga, "act", "(III)I"⟩
abbrev b_Ga_isPlan_c : ByteArray := prog_1_method_21_code
def y_Ga_isPlan : MethodName := ⟨R_Ga, "isPlan", "(II)Z"⟩
abbrev b_Fo_actNamed_c : ByteArray := prog_3_method_25_code
def y_Fo_actNamed : MethodName := ⟨R_Fo, "actNamed", "(III)I"⟩
abbrev b_Ga_worth_c : ByteArray := prog_1_method_10_code
def y_Ga_worth : MethodName := ⟨R_Ga, "worth", "(III)I"⟩
abbrev b_Ta_valueOfPair_c : ByteArray := prog_6_method_6_code
def y_Ta_valueOfPair : MethodName := ⟨R_Ta, "valueOfPair", "(III)I"⟩
abbrev b_Ga_answer_c : ByteArray := prog_1_method_11_code
def y_Ga_answer : MethodName := ⟨R_Ga, "answer", "(II)I"⟩
abbrev b_Ga_point_c : ByteArray := prog_1_method_12_code
def y_Ga_point : MethodName := ⟨R_Ga, "point", "(ZI)I"⟩
abbrev b_Po_pointAt_c : ByteArray := prog_5_method_5_code
def y_Po_pointAt : MethodName := ⟨R_Po, "pointAt", "(ZI)I"⟩
abbrev b_Ga_bitAt_c : ByteArray := prog_1_method_27_code
def y_Ga_bitAt : MethodName := ⟨R_Ga, "bitAt", "(JI)I"⟩
abbrev b_Ga_within_c : ByteArray := prog_1_method_13_code
def y_Ga_within : MethodName := ⟨R_Ga, "within", "(I)I"⟩
abbrev b_Ga_than_c : ByteArray := prog_1_method_14_code
def y_Ga_than : MethodName := ⟨R_Ga, "than", "(III)I"⟩
abbrev b_Ta_leastOneWith_c : ByteArray := prog_6_method_16_code
def y_Ta_leastOneWith : MethodName := ⟨R_Ta, "leastOneWith", "(II)I"⟩
abbrev b_Ta_areOne_c : ByteArray := prog_6_method_17_code
def y_Ta_areOne : MethodName := ⟨R_Ta, "areOne", "(III)Z"⟩
abbrev b_Ta_leastBetter_c : ByteArray := prog_6_method_11_code
def y_Ta_leastBetter : MethodName := ⟨R_Ta, "leastBetter", "(II)I"⟩
abbrev b_Ta_leastWeaklyBetter_c : ByteArray := prog_6_method_14_code
def y_Ta_leastWeaklyBetter : MethodName := ⟨R_Ta, "leastWeaklyBetter", "(II)I"⟩
abbrev b_Ta_isWeaklyWorse_c : ByteArray := prog_6_method_15_code
def y_Ta_isWeaklyWorse : MethodName := ⟨R_Ta, "isWeaklyWorse", "(III)Z"⟩
abbrev b_Ga_goes_c : ByteArray := prog_1_method_15_code
def y_Ga_goes : MethodName := ⟨R_Ga, "goes", "(II)I"⟩
abbrev b_Le_roundOf_c : ByteArray := prog_4_method_2_code
def y_Le_roundOf : MethodName := ⟨R_Le, "roundOf", "(II)I"⟩
abbrev b_Ga_sure_c : ByteArray := prog_1_method_16_code
def y_Ga_sure : MethodName := ⟨R_Ga, "sure", "(I)I"⟩
abbrev b_Ta_sureOf_c : ByteArray := prog_6_method_9_code
def y_Ta_sureOf : MethodName := ⟨R_Ta, "sureOf", "(I)I"⟩
abbrev b_Ta_leastOf_c : ByteArray := prog_6_method_10_code
def y_Ta_leastOf : MethodName := ⟨R_Ta, "leastOf", "(II)I"⟩
abbrev b_Ma_min_c : ByteArray := prog_10_method_69_code
def y_Ma_min : MethodName := ⟨R_Ma, "min", "(II)I"⟩
abbrev b_Ga_remembered_c : ByteArray := prog_1_method_17_code
def y_Ga_remembered : MethodName := ⟨R_Ga, "remembered", "(I)I"⟩
abbrev b_Fo_remembersAll_c : ByteArray := prog_3_method_30_code
def y_Fo_remembersAll : MethodName := ⟨R_Fo, "remembersAll", "(I)Z"⟩
abbrev b_Fo_areWaysAlike_c : ByteArray := prog_3_method_31_code
def y_Fo_areWaysAlike : MethodName := ⟨R_Fo, "areWaysAlike", "(II)Z"⟩
abbrev b_Fo_wayTo_c : ByteArray := prog_3_method_32_code
def y_Fo_wayTo : MethodName := ⟨R_Fo, "wayTo", "(II)J"⟩
abbrev b_Fo_actTo_c : ByteArray := prog_3_method_33_code
def y_Fo_actTo : MethodName := ⟨R_Fo, "actTo", "(II)I"⟩
abbrev b_Ga_taken_c : ByteArray := prog_1_method_18_code
def y_Ga_taken : MethodName := ⟨R_Ga, "taken", "(III)I"⟩
abbrev b_An_playTo_c : ByteArray := prog_2_method_7_code
def y_An_playTo : MethodName := ⟨R_An, "playTo", "(I)V"⟩
abbrev b_An_leastOfGreatest_c : ByteArray := prog_2_method_8_code
def y_An_leastOfGreatest : MethodName := ⟨R_An, "leastOfGreatest", "(I)I"⟩
abbrev b_An_addUp_c : ByteArray := prog_2_method_9_code
def y_An_addUp : MethodName := ⟨R_An, "addUp", "(II)V"⟩
abbrev b_An_timesTaken_c : ByteArray := prog_2_method_2_code
def y_An_timesTaken : MethodName := ⟨R_An, "timesTaken", "(III)I"⟩
abbrev b_Ga_bound_c : ByteArray := prog_1_method_19_code
def y_Ga_bound : MethodName := ⟨R_Ga, "bound", "(II)I"⟩
abbrev b_An_lowBehind_c : ByteArray := prog_2_method_3_code
def y_An_lowBehind : MethodName := ⟨R_An, "lowBehind", "(I)I"⟩
abbrev b_An_sumAgainst_c : ByteArray := prog_2_method_5_code
def y_An_sumAgainst : MethodName := ⟨R_An, "sumAgainst", "(II)I"⟩
abbrev b_An_highBehind_c : ByteArray := prog_2_method_4_code
def y_An_highBehind : MethodName := ⟨R_An, "highBehind", "(I)I"⟩
abbrev b_An_sumFor_c : ByteArray := prog_2_method_6_code
def y_An_sumFor : MethodName := ⟨R_An, "sumFor", "(II)I"⟩
abbrev b_Mo_init_c : ByteArray := prog_8_method_1_code
def y_Mo_init : MethodName := ⟨R_Mo, "<init>", "()V"⟩
abbrev b_Mo_clear_c : ByteArray := prog_8_method_3_code
def y_Mo_clear : MethodName := ⟨R_Mo, "clear", "()I"⟩
abbrev b_Mo_set_c : ByteArray := prog_8_method_4_code
def y_Mo_set : MethodName := ⟨R_Mo, "set", "(II)I"⟩
abbrev b_Mo_isFrom_c : ByteArray := prog_8_method_2_code
def y_Mo_isFrom : MethodName := ⟨R_Mo, "isFrom", "(III)Z"⟩
abbrev b_Mo_end_c : ByteArray := prog_8_method_6_code
def y_Mo_end : MethodName := ⟨R_Mo, "end", "(II)I"⟩
abbrev b_Mo_make_c : ByteArray := prog_8_method_5_code
def y_Mo_make : MethodName := ⟨R_Mo, "make", "(I)I"⟩
abbrev b_Mo_chance_c : ByteArray := prog_8_method_12_code
def y_Mo_chance : MethodName := ⟨R_Mo, "chance", "(III)I"⟩
abbrev b_Mo_isNode_c : ByteArray := prog_8_method_7_code
def y_Mo_isNode : MethodName := ⟨R_Mo, "isNode", "(I)Z"⟩
abbrev b_Mo_bar_c : ByteArray := prog_8_method_9_code
def y_Mo_bar : MethodName := ⟨R_Mo, "bar", "(IIIII)I"⟩
abbrev b_Mo_third_c : ByteArray := prog_8_method_8_code
def y_Mo_third : MethodName := ⟨R_Mo, "third", "(IIII)I"⟩
abbrev b_Mo_adopt_c : ByteArray := prog_8_method_10_code
def y_Mo_adopt : MethodName := ⟨R_Mo, "adopt", "(IIIIII)V"⟩
abbrev b_Mo_tooMany_c : ByteArray := prog_8_method_16_code
def y_Mo_tooMany : MethodName := ⟨R_Mo, "tooMany", "()Z"⟩
abbrev b_Mo_findTree_c : ByteArray := prog_8_method_14_code
def y_Mo_findTree : MethodName := ⟨R_Mo, "findTree", "()V"⟩
abbrev b_Mo_plansOf_c : ByteArray := prog_8_method_15_code
def y_Mo_plansOf : MethodName := ⟨R_Mo, "plansOf", "(I)I"⟩
abbrev b_Mo_undo_c : ByteArray := prog_8_method_11_code
def y_Mo_undo : MethodName := ⟨R_Mo, "undo", "(IIII)V"⟩
abbrev b_Mo_node_c : ByteArray := prog_8_method_13_code
def y_Mo_node : MethodName := ⟨R_Mo, "node", "(IIII)I"⟩
abbrev b_Mo_worth_c : ByteArray := prog_8_method_24_code
def y_Mo_worth : MethodName := ⟨R_Mo, "worth", "(III)I"⟩
abbrev b_Mo_root_c : ByteArray := prog_8_method_21_code
def y_Mo_root : MethodName := ⟨R_Mo, "root", "()I"⟩
abbrev b_Mo_workAll_c : ByteArray := prog_8_method_20_code
def y_Mo_workAll : MethodName := ⟨R_Mo, "workAll", "(I)V"⟩
abbrev b_Mo_work_c : ByteArray := prog_8_method_18_code
def y_Mo_work : MethodName := ⟨R_Mo, "work", "(III)V"⟩
abbrev b_Mo_actOf_c : ByteArray := prog_8_method_17_code
def y_Mo_actOf : MethodName := ⟨R_Mo, "actOf", "(III)I"⟩
abbrev b_Mo_mean_c : ByteArray := prog_8_method_19_code
def y_Mo_mean : MethodName := ⟨R_Mo, "mean", "(II)I"⟩
abbrev b_Mo_worthTo_c : ByteArray := prog_8_method_22_code
def y_Mo_worthTo : MethodName := ⟨R_Mo, "worthTo", "(III)I"⟩
abbrev b_Mo_act_c : ByteArray := prog_8_method_25_code
def y_Mo_act : MethodName := ⟨R_Mo, "act", "(III)I"⟩
abbrev b_Mo_answer_c : ByteArray := prog_8_method_27_code
def y_Mo_answer : MethodName := ⟨R_Mo, "answer", "(II)I"⟩
abbrev b_Mo_many_c : ByteArray := prog_8_method_23_code
def y_Mo_many : MethodName := ⟨R_Mo, "many", "(I)I"⟩
abbrev b_Mo_answerOf_c : ByteArray := prog_8_method_26_code
def y_Mo_answerOf : MethodName := ⟨R_Mo, "answerOf", "(II)I"⟩
abbrev b_Mo_point_c : ByteArray := prog_8_method_33_code
def y_Mo_point : MethodName := ⟨R_Mo, "point", "(ZI)I"⟩
abbrev b_Mo_countPoints_c : ByteArray := prog_8_method_32_code
def y_Mo_countPoints : MethodName := ⟨R_Mo, "countPoints", "(ZI)I"⟩
abbrev b_Mo_findPoints_c : ByteArray := prog_8_method_31_code
def y_Mo_findPoints : MethodName := ⟨R_Mo, "findPoints", "(Z)V"⟩
abbrev b_Mo_sift_c : ByteArray := prog_8_method_28_code
def y_Mo_sift : MethodName := ⟨R_Mo, "sift", "()V"⟩
abbrev b_Mo_isGame_c : ByteArray := prog_8_method_30_code
def y_Mo_isGame : MethodName := ⟨R_Mo, "isGame", "(I)Z"⟩
abbrev b_Mo_isBelow_c : ByteArray := prog_8_method_29_code
def y_Mo_isBelow : MethodName := ⟨R_Mo, "isBelow", "(II)Z"⟩
abbrev b_Mo_within_c : ByteArray := prog_8_method_35_code
def y_Mo_within : MethodName := ⟨R_Mo, "within", "(I)I"⟩
abbrev b_Mo_games_c : ByteArray := prog_8_method_34_code
def y_Mo_games : MethodName := ⟨R_Mo, "games", "(I)I"⟩
abbrev b_Mo_than_c : ByteArray := prog_8_method_41_code
def y_Mo_than : MethodName := ⟨R_Mo, "than", "(III)I"⟩
abbrev b_Mo_allLeft_c : ByteArray := prog_8_method_40_code
def y_Mo_allLeft : MethodName := ⟨R_Mo, "allLeft", "()V"⟩
abbrev b_Mo_isWorse_c : ByteArray := prog_8_method_37_code
def y_Mo_isWorse : MethodName := ⟨R_Mo, "isWorse", "(III)Z"⟩
abbrev b_Mo_isLeft_c : ByteArray := prog_8_method_36_code
def y_Mo_isLeft : MethodName := ⟨R_Mo, "isLeft", "(II)Z"⟩
abbrev b_Mo_isWeaker_c : ByteArray := prog_8_method_38_code
def y_Mo_isWeaker : MethodName := ⟨R_Mo, "isWeaker", "(III)Z"⟩
abbrev b_Mo_isOne_c : ByteArray := prog_8_method_39_code
def y_Mo_isOne : MethodName := ⟨R_Mo, "isOne", "(III)Z"⟩
abbrev b_Mo_goes_c : ByteArray := prog_8_method_45_code
def y_Mo_goes : MethodName := ⟨R_Mo, "goes", "(II)I"⟩
abbrev b_Mo_doRounds_c : ByteArray := prog_8_method_43_code
def y_Mo_doRounds : MethodName := ⟨R_Mo, "doRounds", "()I"⟩
abbrev b_Mo_isWorst_c : ByteArray := prog_8_method_42_code
def y_Mo_isWorst : MethodName := ⟨R_Mo, "isWorst", "(II)Z"⟩
abbrev b_Mo_leftOf_c : ByteArray := prog_8_method_44_code
def y_Mo_leftOf : MethodName := ⟨R_Mo, "leftOf", "(I)I"⟩
abbrev b_Mo_sure_c : ByteArray := prog_8_method_46_code
def y_Mo_sure : MethodName := ⟨R_Mo, "sure", "(I)I"⟩
abbrev b_Mo_remembered_c : ByteArray := prog_8_method_48_code
def y_Mo_remembered : MethodName := ⟨R_Mo, "remembered", "(I)I"⟩
abbrev b_Mo_memory_c : ByteArray := prog_8_method_47_code
def y_Mo_memory : MethodName := ⟨R_Mo, "memory", "(II)J"⟩
abbrev b_Mo_taken_c : ByteArray := prog_8_method_52_code
def y_Mo_taken : MethodName := ⟨R_Mo, "taken", "(III)I"⟩
abbrev b_Mo_answerAll_c : ByteArray := prog_8_method_51_code
def y_Mo_answerAll : MethodName := ⟨R_Mo, "answerAll", "(I)V"⟩
abbrev b_Mo_bestOf_c : ByteArray := prog_8_method_50_code
def y_Mo_bestOf : MethodName := ⟨R_Mo, "bestOf", "(I)I"⟩
abbrev b_Mo_take_c : ByteArray := prog_8_method_49_code
def y_Mo_take : MethodName := ⟨R_Mo, "take", "(II)V"⟩
abbrev b_Mo_bound_c : ByteArray := prog_8_method_53_code
def y_Mo_bound : MethodName := ⟨R_Mo, "bound", "(II)I"⟩
abbrev b_Mo_told_c : ByteArray := prog_8_method_54_code
def y_Mo_told : MethodName := ⟨R_Mo, "told", "(II)I"⟩
abbrev b_Mo_count_c : ByteArray := prog_8_method_55_code
def y_Mo_count : MethodName := ⟨R_Mo, "count", "(I)I"⟩
abbrev b_La_law_c : ByteArray := code
def y_La_law : MethodName := ⟨R_La, "law", "([I)Z"⟩
