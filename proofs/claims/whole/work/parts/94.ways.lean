/-! ways: what a player did on the way to a node, as a row; both sides' numbers of it -/
def enc (B : Nat) (c : Nat → Nat) : List Nat → Nat
  | [] => 0
  | d :: l => enc B c l * B + c d
theorem enc_inj {B : Nat} {c : Nat → Nat} (hc : ∀ d, d < 30 → 1 ≤ c d ∧ c d < B) (hi : ∀ d d', d < 30 → d' < 30 → c d = c d' → d = d') : ∀ (l l' : List Nat), (∀ d ∈ l, d < 30) → (∀ d ∈ l', d < 30) → enc B c l = enc B c l' → l = l'
  | [], [], _, _, _ => rfl
  | [], d' :: l', _, h', e => by
    have := hc d' (h' d' List.mem_cons_self)
    have e' : 0 = enc B c l' * B + c d' := e
    omega
  | d :: l, [], h, _, e => by
    have := hc d (h d List.mem_cons_self)
    have e' : enc B c l * B + c d = 0 := e
    omega
  | d :: l, d' :: l', h, h', e => by
    have h1 := hc d (h d List.mem_cons_self)
    have h2 := hc d' (h' d' List.mem_cons_self)
    have e' : enc B c l * B + c d = enc B c l' * B + c d' := e
    have m : c d = c d' := by
      have := congrArg (· % B) e'
      simp only [Nat.mul_add_mod_self_right, Nat.mod_eq_of_lt h1.2, Nat.mod_eq_of_lt h2.2] at this
      exact this
    rw [hi d d' (h d List.mem_cons_self) (h' d' List.mem_cons_self) m]
    rw [m] at e'
    have e2 := Nat.eq_of_mul_eq_mul_right (show 0 < B by omega) (Nat.add_right_cancel e')
    rw [enc_inj hc hi l l' (fun x hx => h x (List.mem_cons_of_mem _ hx)) (fun x hx => h' x (List.mem_cons_of_mem _ hx)) e2]
theorem enc_lt {B : Nat} {c : Nat → Nat} (hc : ∀ d, d < 30 → 1 ≤ c d ∧ c d < B) : ∀ (l : List Nat), (∀ d ∈ l, d < 30) → enc B c l < B ^ l.length
  | [], _ => by show 0 < B ^ 0; simp
  | d :: l, h => by
    have h1 := hc d (h d List.mem_cons_self)
    have ih := enc_lt hc l (fun x hx => h x (List.mem_cons_of_mem _ hx))
    show enc B c l * B + c d < B ^ (l.length + 1)
    rw [Nat.pow_succ]
    have h3 : (enc B c l + 1) * B ≤ B ^ l.length * B := Nat.mul_le_mul_right _ ih
    rw [Nat.add_mul, Nat.one_mul] at h3
    omega
def c31 (d : Nat) : Nat := 1 + d
def c40 (d : Nat) : Nat := 4 * (d / 3) + (d % 3 + 1)
theorem c31_ok (d : Nat) (h : d < 30) : 1 ≤ c31 d ∧ c31 d < 31 := by unfold c31; omega
theorem c40_ok (d : Nat) (h : d < 30) : 1 ≤ c40 d ∧ c40 d < 40 := by unfold c40; omega
theorem c31_inj (d d' : Nat) (_ : d < 30) (_ : d' < 30) (e : c31 d = c31 d') : d = d' := by unfold c31 at e; omega
theorem c40_inj (d d' : Nat) (_ : d < 30) (_ : d' < 30) (e : c40 d = c40 d') : d = d' := by unfold c40 at e; omega
/-- the act that leads from a to i -/
def acx (F : Fr) (a i : Nat) : Nat := if jch F a 0 = i then 0 else if jch F a 1 = i then 1 else 2
def wr (F : Fr) (pl : Nat) : Nat → Nat → List Nat → List Nat
  | 0, _, acc => acc
  | f + 1, i, acc => if jpa F i < 40 then wr F pl f (jpa F i) (if jso F (jpa F i) = 2 ∧ jow F (jse F (jpa F i)) = pl then (3 * jse F (jpa F i) + acx F (jpa F i) i) :: acc else acc) else acc
theorem acx_le (F : Fr) (a i : Nat) : acx F a i ≤ 2 := by
  unfold acx
  split
  · omega
  · split <;> omega
theorem wr_ok {F : Fr} (h : WF F) (pl : Nat) : ∀ (f i : Nat) (acc : List Nat), i < jn F → (∀ d ∈ acc, d < 30) → (∀ d ∈ wr F pl f i acc, d < 30) ∧ (wr F pl f i acc).length ≤ f + acc.length
  | 0, i, acc, _, ha => ⟨ha, by show acc.length ≤ 0 + acc.length; omega⟩
  | f + 1, i, acc, hi, ha => by
    unfold wr
    by_cases hp : jpa F i < 40
    · rw [if_pos hp]
      obtain ⟨-, h2⟩ := h.up hi hp
      by_cases w : jso F (jpa F i) = 2 ∧ jow F (jse F (jpa F i)) = pl
      · rw [if_pos w]
        have hs := ((h.2.2.1 _ h2).2.2.2.2 w.1).1
        have hk := h.1.2
        have ha2 := acx_le F (jpa F i) i
        obtain ⟨g1, g2⟩ := wr_ok h pl f (jpa F i) ((3 * jse F (jpa F i) + acx F (jpa F i) i) :: acc) h2 (fun d hd => by
          rcases List.mem_cons.mp hd with e | e
          · omega
          · exact ha d e)
        refine ⟨g1, ?_⟩
        rw [List.length_cons] at g2
        omega
      · rw [if_neg w]
        obtain ⟨g1, g2⟩ := wr_ok h pl f (jpa F i) acc h2 ha
        exact ⟨g1, by omega⟩
    · rw [if_neg hp]
      exact ⟨ha, by omega⟩
/-- the way to a node -/
def wv (F : Fr) (pl i : Nat) : List Nat := wr F pl 8 i []
theorem wv_ok {F : Fr} (h : WF F) (pl : Nat) {i : Nat} (hi : i < jn F) : (∀ d ∈ wv F pl i, d < 30) ∧ (wv F pl i).length ≤ 8 := by
  have := wr_ok h pl 8 i [] hi (fun d hd => absurd hd List.not_mem_nil)
  exact this
theorem enc_bd {F : Fr} (h : WF F) (pl : Nat) {i : Nat} (hi : i < jn F) {B : Nat} (hB : 1 ≤ B ∧ B ≤ 40) {c : Nat → Nat} (hc : ∀ d, d < 30 → 1 ≤ c d ∧ c d < B) : enc B c (wv F pl i) < 2 ^ 63 := by
  obtain ⟨h1, h2⟩ := wv_ok h pl hi
  have a := enc_lt hc _ h1
  have b : B ^ (wv F pl i).length ≤ B ^ 8 := Nat.pow_le_pow_right hB.1 h2
  have c : B ^ 8 ≤ 40 ^ 8 := Nat.pow_le_pow_left hB.2 8
  have d : (40 : Nat) ^ 8 < 2 ^ 63 := by decide
  omega
theorem enc_eq {F : Fr} (h : WF F) (pl : Nat) {i j : Nat} (hi : i < jn F) (hj : j < jn F) {B : Nat} (hB : 1 ≤ B ∧ B ≤ 40) {c : Nat → Nat} (hc : ∀ d, d < 30 → 1 ≤ c d ∧ c d < B) (hi2 : ∀ d d', d < 30 → d' < 30 → c d = c d' → d = d') : lN (enc B c (wv F pl i)) = lN (enc B c (wv F pl j)) ↔ wv F pl i = wv F pl j := by
  rw [pk_lEQ (enc_bd h pl hi hB hc) (enc_bd h pl hj hB hc)]
  exact ⟨enc_inj hc hi2 _ _ (wv_ok h pl hi).1 (wv_ok h pl hj).1, fun e => by rw [e]⟩
theorem acx_is {F : Fr} (h : WF F) {i : Nat} (hi : i < jn F) (hp : jpa F i < 40) : acx F (jpa F i) i < jcn F (jpa F i) ∧ ∀ j, j < jcn F (jpa F i) → (jch F (jpa F i) j = i ↔ j = acx F (jpa F i) i) := by
  obtain ⟨h1, j0, h2, h3⟩ := h.2.2.2.2.1 i hi hp
  have h4 := (h.2.2.1 _ h1).2.1
  have u : ∀ j, j < jcn F (jpa F i) → jch F (jpa F i) j = i → j = j0 := fun j hj e => (h.2.2.2.1 _ h1 j0 h2).2.2 j hj (by rw [e, h3])
  have key : acx F (jpa F i) i = j0 := by
    unfold acx
    by_cases e0 : jch F (jpa F i) 0 = i
    · rw [if_pos e0]
      exact u 0 (by omega) e0
    · rw [if_neg e0]
      by_cases e1 : jch F (jpa F i) 1 = i
      · rw [if_pos e1]
        have hj0 : j0 ≠ 0 := fun e => e0 (by rw [← e]; exact h3)
        exact u 1 (by omega) e1
      · rw [if_neg e1]
        have hj0 : j0 ≠ 0 := fun e => e0 (by rw [← e]; exact h3)
        have hj1 : j0 ≠ 1 := fun e => e1 (by rw [← e]; exact h3)
        omega
  rw [key]
  exact ⟨h2, fun j hj => ⟨u j hj, fun e => by rw [e]; exact h3⟩⟩
theorem fo_actTo {σ : gS} {F : Fr} (h : WF F) (hc : CR σ F) {i : Nat} (hi : i < jn F) (hp : jpa F i < 40) : f_Fo_actTo σ (nI (jpa F i)) (nI i) = some (nI (acx F (jpa F i) i)) := by
  have hl := h.1.1
  obtain ⟨-, ha⟩ := h.up hi hp
  obtain ⟨a1, a2⟩ := acx_is h hi hp
  have h3 := (h.2.2.1 _ ha).2.1
  generalize jpa F i = a at *
  unfold f_Fo_actTo b_Fo_actTo_0 l_Fo_actTo_5
  rw [show (nI a, nI i, (0 : Int32), (0 : Int32)) = (fun j => (nI a, nI i, nI (if acx F a i < j then acx F a i else 0), nI j)) 0 from by
    show _ = (nI a, nI i, nI (if acx F a i < 0 then acx F a i else 0), nI 0)
    rw [if_neg (by omega)]
    rfl]
  refine lpF_go (fun j => (nI a, nI i, nI (if acx F a i < j then acx F a i else 0), nI j)) (jcn F a) (fun j hj k => ?_) (fun k => ?_) (by omega)
  · show b_Fo_actTo_5 σ k (nI a) (nI i) (nI (if acx F a i < j then acx F a i else 0)) (nI j) = k (nI a, nI i, nI (if acx F a i < j + 1 then acx F a i else 0), nI (j + 1))
    have e := hc.1.2.2.2.2.2.1 a ha j (by omega)
    rw [if_pos hj] at e
    have hcl := (h.2.2.2.1 a ha j hj).1
    unfold b_Fo_actTo_5
    rw [ck_t (okI_lt (k := 8) (n := a) (L := 40) rfl rfl (by omega) (by decide)), nI_c (n := a) (by omega), hc.2.1 a ha, if_neg (nI_ge hj (by omega))]
    have ec : f_Fo_childAt σ (nI a) (nI j) = some (nI (jch F a j)) := by
      unfold f_Fo_childAt b_Fo_childAt_0
      rw [nI_3, ck_t (okI_lt (k := 7) (n := 3 * a + j) (L := 120) rfl rfl (by omega) (by decide)), nI_c (n := 3 * a + j) (by omega), e]
    rw [ec, Option.bind_some]
    by_cases w : jch F a j = i
    · have w2 := (a2 j hj).mp w
      rw [if_pos (by rw [w]), if_pos (by omega)]
      unfold b_Fo_actTo_30
      rw [bnd_e, nI_1, w2]
    · have w2 : j ≠ acx F a i := fun e => w ((a2 j hj).mpr e)
      rw [if_neg (fun e => w ((nI_eq (by omega) (by omega)).mp e))]
      unfold b_Fo_actTo_30
      rw [bnd_e, nI_1]
      by_cases v : acx F a i < j
      · rw [if_pos v, if_pos (by omega)]
      · rw [if_neg v, if_neg (by omega)]
  · show b_Fo_actTo_5 σ k (nI a) (nI i) (nI (if acx F a i < jcn F a then acx F a i else 0)) (nI (jcn F a)) = _
    unfold b_Fo_actTo_5
    rw [ck_t (okI_lt (k := 8) (n := a) (L := 40) rfl rfl (by omega) (by decide)), nI_c (n := a) (by omega), hc.2.1 a ha, if_pos (nI_le (Nat.le_refl _) (by omega)), if_pos a1]
theorem fo_way {σ : gS} {F : Fr} (h : WF F) (hc : CR σ F) {pl i : Nat} (hpl : pl < 2) (hi : i < jn F) : f_Fo_wayTo σ (nI pl) (nI i) = some (lN (enc 31 c31 (wv F pl i))) := by
  have hl := h.1.1
  have hk := h.1.2
  have main : ∀ (f N i : Nat) (acc : List Nat), i < jn F → f ≤ 8 → f + 1 < N → lpF (fun k (x : Int32 × Int64 × Int32 × Int32 × Int32) => b_Fo_wayTo_16 σ k x.1 x.2.1 x.2.2.1 x.2.2.2.1 x.2.2.2.2) N (nI pl, lN (enc 31 c31 acc), nI i, (if jpa F i < 40 then nI (jpa F i) else -1), nI (8 - f)) = some (lN (enc 31 c31 (wr F pl f i acc))) := by
    intro f
    induction f with
    | zero =>
      intro N i acc hi h8 hN
      obtain ⟨N, rfl⟩ : ∃ M, N = M + 1 := ⟨N - 1, by omega⟩
      rw [lpF_s]
      show b_Fo_wayTo_16 σ _ (nI pl) (lN (enc 31 c31 acc)) (nI i) _ (nI (8 - 0)) = _
      unfold b_Fo_wayTo_16
      rw [if_pos (show (8 : Int32) ≤ nI (8 - 0) by decide)]
      rfl
    | succ f ih =>
      intro N i acc hi h8 hN
      obtain ⟨N, rfl⟩ : ∃ M, N = M + 1 := ⟨N - 1, by omega⟩
      rw [lpF_s]
      show b_Fo_wayTo_16 σ _ (nI pl) (lN (enc 31 c31 acc)) (nI i) (if jpa F i < 40 then nI (jpa F i) else -1) (nI (8 - (f + 1))) = _
      unfold b_Fo_wayTo_16 wr
      rw [if_neg (show ¬ (8 : Int32) ≤ nI (8 - (f + 1)) from nI_ge (b := 8) (by omega) (by decide))]
      by_cases hp : jpa F i < 40
      · obtain ⟨h1, h2⟩ := h.up hi hp
        have e79 : ∀ (k : Int32 × Int64 × Int32 × Int32 × Int32 → Option Int64) y, b_Fo_wayTo_79 σ k (nI pl) y (nI (jpa F i)) (nI (8 - (f + 1))) = k (nI pl, y, nI (jpa F i), (if jpa F (jpa F i) < 40 then nI (jpa F (jpa F i)) else -1), nI (8 - f)) := fun k y => by
          unfold b_Fo_wayTo_79
          rw [ck_t (okI_lt (k := 4) (n := jpa F i) (L := 40) rfl rfl (by omega) (by decide)), bnd_e, bnd_e, nI_c (n := jpa F i) (by omega), hc.1.2.2.2.2.2.2.1 _ h2, nI_1, show 8 - (f + 1) + 1 = 8 - f by omega]
        rw [if_pos hp, if_pos hp, if_neg (nm1 (by omega)), ck_t (okI_lt (k := 3) (n := jpa F i) (L := 40) rfl rfl (by omega) (by decide)), bnd_e, nI_c (n := jpa F i) (by omega), hc.1.2.2.2.1 _ h2]
        by_cases w2 : jso F (jpa F i) = 2
        · have hs := ((h.2.2.1 _ h2).2.2.2.2 w2).1
          have how := (h.2.1 _ hs).1
          rw [if_pos w2, if_neg (nm1 (by omega)), ck_t (okI_lt (k := 13) (n := jse F (jpa F i)) (L := 10) rfl rfl (by omega) (by decide)), nI_c (n := jse F (jpa F i)) (by omega), hc.1.2.2.2.2.2.2.2.2.2.1 _ hs]
          by_cases w3 : jow F (jse F (jpa F i)) = pl
          · have ha2 := acx_le F (jpa F i) i
            rw [if_pos (by rw [w3]), if_pos ⟨w2, w3⟩, fo_actTo h hc hi hp, Option.bind_some, bnd_e, e79, show (3 : Int32) * nI (jse F (jpa F i)) = nI (3 * jse F (jpa F i)) from by rw [show (3 : Int32) = nI 3 from rfl, pk_mul], nI_l (n := 3 * jse F (jpa F i)) (by omega), nI_l (n := acx F (jpa F i) i) (by omega), show (31 : Int64) = lN 31 from rfl, lN_mul, lN_1, lN_add, lN_add]
            have e : enc 31 c31 acc * 31 + 1 + 3 * jse F (jpa F i) + acx F (jpa F i) i = enc 31 c31 ((3 * jse F (jpa F i) + acx F (jpa F i) i) :: acc) := by
              show _ = enc 31 c31 acc * 31 + (1 + (3 * jse F (jpa F i) + acx F (jpa F i) i))
              omega
            rw [e]
            exact ih N (jpa F i) _ h2 (by omega) (by omega)
          · rw [if_neg (fun e => w3 ((nI_eq (by omega) (by omega)).mp e)), if_neg (fun w => w3 w.2), e79]
            exact ih N (jpa F i) _ h2 (by omega) (by omega)
        · rw [if_neg w2, if_pos rfl, if_neg (fun w => w2 w.1), e79]
          exact ih N (jpa F i) _ h2 (by omega) (by omega)
      · rw [if_neg hp, if_neg hp, if_pos rfl]
  unfold f_Fo_wayTo b_Fo_wayTo_0 l_Fo_wayTo_16
  rw [ck_t (okI_lt (k := 4) (n := i) (L := 40) rfl rfl (by omega) (by decide)), bnd_e, nI_c (n := i) (by omega), hc.1.2.2.2.2.2.2.1 i hi]
  exact main 8 gF i [] hi (by decide) (by decide)
theorem mo_way {σ : gS} {F : Fr} (h : WF F) (hm : MR σ F) {pl i : Nat} (hpl : pl < 2) (hi : i < jn F) : f_Mo_memory σ (nI pl) (nI i) = some (lN (enc 40 c40 (wv F pl i))) := by
  have hl := h.1.1
  have hk := h.1.2
  have main : ∀ (f N i : Nat) (acc : List Nat), i < jn F → 8 - jhe F i ≤ f → f + 1 < N → lpF (fun k (x : Int32 × Int64 × Int32 × Int32) => b_Mo_memory_13 σ k x.1 x.2.1 x.2.2.1 x.2.2.2) N (nI pl, lN (enc 40 c40 acc), nI i, (if jpa F i < 40 then nI (jpa F i) else -1)) = some (lN (enc 40 c40 (wr F pl f i acc))) := by
    intro f
    induction f with
    | zero =>
      intro N i acc hi h8 hN
      obtain ⟨N, rfl⟩ : ∃ M, N = M + 1 := ⟨N - 1, by omega⟩
      have hp : ¬ jpa F i < 40 := fun hp => by
        obtain ⟨h1, j0, h2, h3⟩ := h.2.2.2.2.1 i hi hp
        obtain ⟨g1, -, g3⟩ := h.2.2.2.2.2.1 _ h1
        have := (g3 j0 h2).1
        rw [h3] at this
        omega
      rw [lpF_s]
      show b_Mo_memory_13 σ _ (nI pl) (lN (enc 40 c40 acc)) (nI i) (if jpa F i < 40 then nI (jpa F i) else -1) = _
      unfold b_Mo_memory_13
      rw [if_neg hp, if_pos rfl]
      rfl
    | succ f ih =>
      intro N i acc hi h8 hN
      obtain ⟨N, rfl⟩ : ∃ M, N = M + 1 := ⟨N - 1, by omega⟩
      rw [lpF_s]
      show b_Mo_memory_13 σ _ (nI pl) (lN (enc 40 c40 acc)) (nI i) (if jpa F i < 40 then nI (jpa F i) else -1) = _
      unfold b_Mo_memory_13 wr
      by_cases hp : jpa F i < 40
      · obtain ⟨h1, h2⟩ := h.up hi hp
        have hhe : jhe F i < jhe F (jpa F i) := by
          obtain ⟨h1, j0, h2, h3⟩ := h.2.2.2.2.1 i hi hp
          have := ((h.2.2.2.2.2.1 _ h1).2.2 j0 h2).1
          rw [h3] at this
          exact this
        have e110 : ∀ (k : Int32 × Int64 × Int32 × Int32 → Option Int64) y, b_Mo_memory_110 σ k (nI pl) y (nI (jpa F i)) = k (nI pl, y, nI (jpa F i), (if jpa F (jpa F i) < 40 then nI (jpa F (jpa F i)) else -1)) := fun k y => by
          unfold b_Mo_memory_110
          rw [ck_t (okI_lt (k := 51) (n := jpa F i) (L := 40) rfl rfl (by omega) (by decide)), bnd_e, nI_c (n := jpa F i) (by omega), hm.2.2.2.2.2.2.1 _ h2]
        have hso := (h.2.2.1 _ h2).1
        rw [if_pos hp, if_pos hp, if_neg (nm1 (by omega)), ck_t (okI_lt (k := 47) (n := jpa F i) (L := 40) rfl rfl (by omega) (by decide)), nI_c (n := jpa F i) (by omega), hm.2.2.1 _ h2]
        by_cases w2 : jso F (jpa F i) = 2
        · have hs := ((h.2.2.1 _ h2).2.2.2.2 w2).1
          have hcn := ((h.2.2.1 _ h2).2.2.2.2 w2).2
          have hac := (h.2.1 _ hs).2
          have how := (h.2.1 _ hs).1
          have e48 : gI σ 48 (jpa F i) = nI (jse F (jpa F i)) := by rw [hm.2.2.2.1 _ h2, if_pos w2]
          rw [if_pos (show nI (jso F (jpa F i)) = 2 by rw [w2]; rfl), ck_t (okI_lt (k := 48) (n := jpa F i) (L := 40) rfl rfl (by omega) (by decide)), e48, ck_t (okI_lt (k := 54) (n := jse F (jpa F i)) (L := 10) rfl rfl (by omega) (by decide)), nI_c (n := jse F (jpa F i)) (by omega), hm.2.2.2.2.2.2.2.2.2.1 _ hs]
          by_cases w3 : jow F (jse F (jpa F i)) = pl
          · have e85 : ∀ (k : Int32 × Int64 × Int32 × Int32 → Option Int64) (y : Nat), y < 3 → b_Mo_memory_85 σ k (nI pl) (lN (enc 40 c40 acc)) (nI (jpa F i)) (nI (y + 1)) = k (nI pl, lN (enc 40 c40 ((3 * jse F (jpa F i) + y) :: acc)), nI (jpa F i), (if jpa F (jpa F i) < 40 then nI (jpa F (jpa F i)) else -1)) := fun k y hy => by
              unfold b_Mo_memory_85
              rw [ck_t (okI_lt (k := 48) (n := jpa F i) (L := 40) rfl rfl (by omega) (by decide)), bnd_e, e110, nI_c (n := jpa F i) (by omega), e48, nI_l (n := jse F (jpa F i)) (by omega), nI_l (n := y + 1) (by omega), show (40 : Int64) = lN 40 from rfl, show (4 : Int64) = lN 4 from rfl, lN_mul, lN_mul, lN_add, lN_add]
              have e : enc 40 c40 acc * 40 + 4 * jse F (jpa F i) + (y + 1) = enc 40 c40 ((3 * jse F (jpa F i) + y) :: acc) := by
                show _ = enc 40 c40 acc * 40 + (4 * ((3 * jse F (jpa F i) + y) / 3) + ((3 * jse F (jpa F i) + y) % 3 + 1))
                omega
              rw [e]
            have c0 := hm.2.2.2.2.2.1 _ h2 0 (by decide)
            have c1 := hm.2.2.2.2.2.1 _ h2 1 (by decide)
            rw [if_pos (show 0 < jcn F (jpa F i) by omega)] at c0
            rw [if_pos (show 1 < jcn F (jpa F i) by omega)] at c1
            have l0 := (h.2.2.2.1 _ h2 0 (by omega)).1
            have l1 := (h.2.2.2.1 _ h2 1 (by omega)).1
            have e30 : (3 : Int32) * nI (jpa F i) = nI (3 * jpa F i + 0) := by rw [show (3 : Int32) = nI 3 from rfl, pk_mul, Nat.add_zero]
            rw [if_pos (show nI (jow F (jse F (jpa F i))) = nI pl by rw [w3]), if_pos (show jso F (jpa F i) = 2 ∧ jow F (jse F (jpa F i)) = pl from ⟨w2, w3⟩), e30, ck_t (okI_lt (k := 50) (n := 3 * jpa F i + 0) (L := 120) rfl rfl (by omega) (by decide)), nI_c (n := 3 * jpa F i + 0) (by omega), c0]
            unfold acx
            by_cases v0 : jch F (jpa F i) 0 = i
            · rw [if_pos (show nI (jch F (jpa F i) 0) = nI i by rw [v0]), if_pos v0, show (1 : Int32) = nI (0 + 1) from rfl, e85 _ 0 (by decide)]
              exact ih N (jpa F i) _ h2 (by omega) (by omega)
            · rw [if_neg (show ¬ nI (jch F (jpa F i) 0) = nI i from fun e => v0 ((nI_eq (by omega) (by omega)).mp e)), if_neg v0, Nat.add_zero, nI_1, ck_t (okI_lt (k := 50) (n := 3 * jpa F i + 1) (L := 120) rfl rfl (by omega) (by decide)), nI_c (n := 3 * jpa F i + 1) (by omega), c1]
              by_cases v1 : jch F (jpa F i) 1 = i
              · rw [if_pos (show nI (jch F (jpa F i) 1) = nI i by rw [v1]), if_pos v1, show (2 : Int32) = nI (1 + 1) from rfl, e85 _ 1 (by decide)]
                exact ih N (jpa F i) _ h2 (by omega) (by omega)
              · rw [if_neg (show ¬ nI (jch F (jpa F i) 1) = nI i from fun e => v1 ((nI_eq (by omega) (by omega)).mp e)), if_neg v1, show (3 : Int32) = nI (2 + 1) from rfl, e85 _ 2 (by decide)]
                exact ih N (jpa F i) _ h2 (by omega) (by omega)
          · rw [if_neg (show ¬ nI (jow F (jse F (jpa F i))) = nI pl from fun e => w3 ((nI_eq (by omega) (by omega)).mp e)), if_neg (show ¬ (jso F (jpa F i) = 2 ∧ jow F (jse F (jpa F i)) = pl) from fun w => w3 w.2), e110]
            exact ih N (jpa F i) _ h2 (by omega) (by omega)
        · rw [if_neg (show ¬ nI (jso F (jpa F i)) = 2 from fun e => w2 ((nI_eq (b := 2) (by omega) (by decide)).mp e)), if_neg (show ¬ (jso F (jpa F i) = 2 ∧ jow F (jse F (jpa F i)) = pl) from fun w => w2 w.1), e110]
          exact ih N (jpa F i) _ h2 (by omega) (by omega)
      · rw [if_neg hp, if_neg hp, if_pos rfl]
  unfold f_Mo_memory b_Mo_memory_0 l_Mo_memory_13
  rw [ck_t (okI_lt (k := 51) (n := i) (L := 40) rfl rfl (by omega) (by decide)), bnd_e, nI_c (n := i) (by omega), hm.2.2.2.2.2.2.1 i hi]
  exact main 8 gF i [] hi (by omega) (by decide)
