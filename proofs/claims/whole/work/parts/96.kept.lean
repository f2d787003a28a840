/-! a set more changes nothing that was worked out; what holds between two calls -/
theorem qd_set {rd rd' : Nat → Nat} {K : Nat} (h1 : rd' K = 1) (h : ∀ s, s < K → rd' s = rd s) (p : Nat) : ∀ t, t ≤ K → qd rd' (K + 1) p (t + 1) = qd rd K p t
  | 0, _ => by
    show p / rd' (K + 1 - 1 - 0) = p
    rw [show K + 1 - 1 - 0 = K by omega, h1, Nat.div_one]
  | t + 1, ht => by
    show qd rd' (K + 1) p (t + 1) / rd' (K + 1 - 1 - (t + 1)) = qd rd K p t / rd (K - 1 - t)
    rw [qd_set h1 h p t (by omega), show K + 1 - 1 - (t + 1) = K - 1 - t by omega, h _ (by omega)]
theorem rd_set {F : Fr} (h : WF F) (pl a m p : Nat) : rdF (addS F pl a) m p (jk F) = 1 ∧ ∀ s, s < jk F → rdF (addS F pl a) m p s = rdF F m p s := by
  constructor
  · unfold rdF
    rw [if_neg (fun w => by
      have := ins_lt h (show ins F m (jk F) = true from w.1)
      omega)]
  · intro s hs
    unfold rdF
    show (if ins F m s = true ∧ va_up (jow F) (jk F) pl s = p then va_up (jac F) (jk F) a s else 1) = _
    rw [va_up_ne _ _ (show s ≠ jk F by omega), va_up_ne _ _ (show s ≠ jk F by omega)]
theorem chP_set {F : Fr} (h : WF F) (pl a m p q : Nat) {s : Nat} (hs : s < jk F) : chP (addS F pl a) m p q s = chP F m p q s := by
  have key : ∀ w x, dg (rdF (addS F pl a) m w) (jk F + 1) x s = dg (rdF F m w) (jk F) x s := fun w x => by
    obtain ⟨r1, r2⟩ := rd_set h pl a m w
    unfold dg
    rw [show jk F + 1 - 1 - s = (jk F - 1 - s) + 1 by omega, qd_set r1 r2 x _ (by omega), r2 s hs]
  show (if va_up (jow F) (jk F) pl s = 0 then dg (rdF (addS F pl a) m 0) (jk F + 1) p s else dg (rdF (addS F pl a) m 1) (jk F + 1) q s) = (if jow F s = 0 then dg (rdF F m 0) (jk F) p s else dg (rdF F m 1) (jk F) q s)
  rw [va_up_ne _ _ (show s ≠ jk F by omega), key, key]
theorem valF_set (F : Fr) (pl a : Nat) (ch : Nat → Nat) (w : Nat) : ∀ f, valF (addS F pl a) ch w f = valF F ch w f
  | 0 => rfl
  | f + 1 => by
    funext n
    show (if jso F n = 0 then 7776 * (jwo F n w).toInt else if jso F n = 1 then sumN (fun j => valF (addS F pl a) ch w f (jch F n j)) (jcn F n) / (jcn F n : Int) else valF (addS F pl a) ch w f (jch F n (ch (jse F n)))) = _
    rw [valF_set F pl a ch w f]
    rfl
theorem val_set {F : Fr} (h : WF F) (pl a r p q w : Nat) {m : Nat} (hm : m < jn F) : val (addS F pl a) (chP (addS F pl a) r p q) w m = val F (chP F r p q) w m := by
  have e : ∀ s, s < jk F → chP (addS F pl a) r p q s = chP F r p q s := fun s hs => chP_set h pl a r p q hs
  show valF (addS F pl a) (chP (addS F pl a) r p q) w 41 m = _
  rw [valF_set]
  exact val_congr h (fun s hs => by rw [e s hs]; exact chP_ok h r p q s hs) (chP_ok h r p q) w (m := m) (fun s hs => e s (ins_lt h hs)) (m + 1) m (by omega) hm (bl_self F m)
theorem tF_set {F : Fr} (h : WF F) (pl a : Nat) {m : Nat} (hm : m < jn F) : tF (addS F pl a) m = tF F m := by
  funext w p q
  exact congrArg iI (val_set h pl a m p q w hm)
theorem tM_set {F : Fr} (h : WF F) (pl a : Nat) {m : Nat} (hm : m < jn F) : tM (addS F pl a) m = tM F m := by
  funext w p q
  exact congrArg iI (val_set h pl a (jn F - 1) p q w hm)
theorem plsf_set {F : Fr} (h : WF F) (pl a m : Nat) : pls (addS F pl a) m = pls F m := funext (pls_set h pl a m)
theorem PT_set {F : Fr} (h : WF F) (pl a : Nat) (pf : Bool) : PT (addS F pl a) pf = PT F pf := by
  funext p q
  show allB (fun m => !sta F pf m || ptB (tM (addS F pl a) m) (pls (addS F pl a) (jn F - 1)) p q) (jn F) = allB (fun m => !sta F pf m || ptB (tM F m) (pls F (jn F - 1)) p q) (jn F)
  refine allB_congr (fun m hm => ?_)
  show (!sta F pf m || ptB (tM (addS F pl a) m) (pls (addS F pl a) (jn F - 1)) p q) = (!sta F pf m || ptB (tM F m) (pls F (jn F - 1)) p q)
  rw [tM_set h pl a hm, plsf_set h]
/-- what was worked out stays true over another forest of the same tree -/
theorem CA_to {σ τ : gS} {F F' : Fr} (hs : sm (fun c => 16 ≤ c) σ τ) (hv : gI τ 1 2 = gI σ 1 2) (hn : jn F' = jn F) (hp : ∀ m, m < jn F → pls F' m = pls F m) (ht : ∀ m, m < jn F → tF F' m = tF F m) (hP : ∀ pf, PT F' pf = PT F pf) (h : CA σ F) : CA τ F' := by
  obtain ⟨h1, h2, h3, h4, h5⟩ := h
  have k : ∀ c, 16 ≤ c → ∀ i, gI τ c i = gI σ c i := fun c hc i => hs.i hc i
  have kl : ∀ c, 16 ≤ c → ∀ i, gL τ c i = gL σ c i := fun c hc i => hs.l hc i
  refine ⟨fun i hi => by rw [k 22 (by decide), h1 i hi], fun z m hm e => ?_, fun z pf e => ?_, fun z e => ?_, fun z e => ?_⟩
  · rw [k 16 (by decide), hv] at z
    rw [k 16 (by decide)] at e
    rw [hn] at hm
    have := TB_VC (h2 z m hm e)
    show VC τ (pls F' m) (tF F' m)
    rw [hp m hm, ht m hm]
    exact VC_s hs (by decide) (by decide) (by decide) this
  · rw [k 27 (by decide), hv] at e
    rw [hn] at z
    have := h3 z pf e
    intro p hp' q hq
    rw [hn, hp _ (by omega)] at hp' ⊢
    rw [kl _ (by omega), hP pf]
    exact this p hp' q hq
  · rw [k 34 (by decide), hv] at e
    rw [hn] at z ⊢
    rw [hp _ (by omega), ht _ (by omega)]
    obtain ⟨a1, a2⟩ := h4 z e
    refine ⟨fun pl hpl a ha => ?_, fun pl hpl a ha => by rw [kl 38 (by decide)]; exact a2 pl hpl a ha⟩
    rw [k _ (by omega)]
    exact a1 pl hpl a ha
  · rw [k 39 (by decide), hv] at e
    rw [hn] at z ⊢
    rw [hp _ (by omega), ht _ (by omega)]
    obtain ⟨r, r1, r2, r3⟩ := h5 z e
    refine ⟨r, r1, by rw [k 39 (by decide), r2], ?_⟩
    obtain ⟨a1, a2, a3⟩ := r3
    exact ⟨fun i hi => by rw [k 41 (by decide), k 42 (by decide)]; exact a1 i hi, fun a ha => by rw [k 44 (by decide)]; exact a2 a ha, fun a ha => by rw [k 45 (by decide)]; exact a3 a ha⟩
/-- nothing was made for this version -/
theorem CA_void {τ : gS} {F : Fr} (h1 : S0 τ) (h : ∀ c i, mfc c i → gI τ c i ≠ gI τ 1 2) : CA τ F := by
  refine ⟨h1, fun z => absurd z (h 16 5 (Or.inl ⟨rfl, rfl⟩)), fun _ pf z => absurd z (h 27 (ix pf) (Or.inr (Or.inl ⟨rfl, ix_lt pf⟩))), fun _ z => absurd z (h 34 4 (Or.inr (Or.inr (Or.inl ⟨rfl, rfl⟩)))), fun _ z => absurd z (h 39 5 (Or.inr (Or.inr (Or.inr ⟨rfl, rfl⟩))))⟩
def IvG (σ : gS) (F : Fr) (t : Nat) : Prop := WF F ∧ MR σ F ∧ CR σ F ∧ CA σ F ∧ ∃ u, u ≤ t ∧ gI σ 1 2 = nI u ∧ ∀ c i, mfc c i → gI σ c i = -1 ∨ ∃ u', u' ≤ u ∧ gI σ c i = nI u'
theorem mfc_16 {c i : Nat} (h : mfc c i) : 16 ≤ c ∧ c < 46 := by
  unfold mfc at h
  omega
theorem CA_s {σ τ : gS} {F : Fr} (hs : sm (fun c => c < 46) σ τ) (h : CA σ F) : CA τ F := ⟨fun i hi => by rw [hs.i (by decide), h.1 i hi], TC_s hs (by decide) (by decide) (by decide) (by decide) (by decide) h.2.1, PCF_s hs (by decide) (by decide) (by decide) (by decide) h.2.2.1, LCF_s hs (by decide) (by decide) (by decide) (by decide) (by decide) h.2.2.2.1, ACF_s hs (by decide) (by decide) (by decide) (by decide) (by decide) (by decide) h.2.2.2.2⟩
theorem GK_MR {σ τ : gS} {F : Fr} {t : Nat} (I : IvG σ F t) (g : GK σ F τ) : MR τ F := MR_sm (g.2.2.less (fun c hc => Or.inr hc)) I.2.1
theorem Inv_q {σ τ1 τ : gS} {F : Fr} {t : Nat} (I : IvG σ F t) (g : GK σ F τ1) (hm : MR τ F) (s : sm (fun c => c < 46) τ1 τ) : IvG τ F (t + 1) := by
  obtain ⟨i1, i2, i3, i4, u, u1, u2, u3⟩ := I
  obtain ⟨g1, g2, g3⟩ := g
  have hc1 : CR τ1 F := CB_sm g3 (fun c hc => Or.inl (by omega)) i3
  have hv : gI τ 1 2 = gI σ 1 2 := by rw [s.i (by decide), g3.i (Or.inl (by decide))]
  refine ⟨i1, hm, CB_sm s (fun c hc => by show c < 46; omega) hc1, CA_s s g1, u, by omega, by rw [hv, u2], fun c i hci => ?_⟩
  rw [s.i (show c < 46 from (mfc_16 hci).2)]
  rcases g2 c i hci with e | e
  · rw [e]; exact u3 c i hci
  · rw [e]; exact Or.inr ⟨u, Nat.le_refl _, u2⟩
theorem Inv_m {σ τ1 τ : gS} {F F' : Fr} {t : Nat} (ht : t < 1000) (I : IvG σ F t) (hw : WF F') (hc : CR τ1 F') (hv : (gI τ1 1 2 = gI σ 1 2 ∧ F' = F) ∨ gI τ1 1 2 = gI σ 1 2 + 1) (s1 : sm (fun c => 16 ≤ c) σ τ1) (hm : MR τ F') (s : sm (fun c => c < 46) τ1 τ) : IvG τ F' (t + 1) := by
  obtain ⟨i1, i2, i3, i4, u, u1, u2, u3⟩ := I
  have hk : ∀ c i, mfc c i → gI τ c i = gI σ c i := fun c i hci => by rw [s.i (show c < 46 from (mfc_16 hci).2), s1.i (show 16 ≤ c from (mfc_16 hci).1)]
  have h12 : gI τ 1 2 = gI τ1 1 2 := s.i (by decide) 2
  have hcτ : CR τ F' := CB_sm s (fun c hc => by show c < 46; omega) hc
  rcases hv with ⟨hv, rfl⟩ | hv
  · refine ⟨hw, hm, hcτ, CA_s s (CA_to s1 hv rfl (fun _ _ => rfl) (fun _ _ => rfl) (fun _ => rfl) i4), u, by omega, by rw [h12, hv, u2], fun c i hci => by rw [hk c i hci]; exact u3 c i hci⟩
  · have e : gI τ 1 2 = nI (u + 1) := by rw [h12, hv, u2, nI_1]
    refine ⟨hw, hm, hcτ, CA_void (fun i hi => by rw [s.i (by decide), s1.i (by decide), i4.1 i hi]) (fun c i hci w => ?_), u + 1, by omega, e, fun c i hci => ?_⟩
    · rw [hk c i hci, e] at w
      rcases u3 c i hci with q | ⟨u', q1, q2⟩
      · rw [q] at w
        exact nm1 (a := u + 1) (by omega) w.symm
      · rw [q2] at w
        have := (nI_eq (by omega) (by omega)).mp w
        omega
    · rw [hk c i hci]
      rcases u3 c i hci with q | ⟨u', q1, q2⟩
      · exact Or.inl q
      · exact Or.inr ⟨u', by omega, q2⟩
theorem Inv_set {σ τ1 τ : gS} {F : Fr} {t : Nat} (I : IvG σ F t) (x1 x2 : Int32) (hc : CR τ1 (setS F x1 x2).2) (hv : gI τ1 1 2 = gI σ 1 2) (s1 : sm (fun c => 15 ≤ c) σ τ1) (hm : MR τ (setS F x1 x2).2) (s : sm (fun c => c < 46) τ1 τ) : IvG τ (setS F x1 x2).2 (t + 1) := by
  have hw := WF_setS I.1 x1 x2
  obtain ⟨i1, i2, i3, i4, u, u1, u2, u3⟩ := I
  have s16 : sm (fun c => 16 ≤ c) σ τ1 := s1.less (fun c hc => by have : 16 ≤ c := hc; show 15 ≤ c; omega)
  have hk : ∀ c i, mfc c i → gI τ c i = gI σ c i := fun c i hci => by rw [s.i (show c < 46 from (mfc_16 hci).2), s16.i (show 16 ≤ c from (mfc_16 hci).1)]
  have hS : (setS F x1 x2).2 = F ∨ ∃ p a, (setS F x1 x2).2 = addS F p a := by
    unfold setS
    split
    · split
      · exact Or.inr ⟨_, _, rfl⟩
      · exact Or.inl rfl
    · exact Or.inl rfl
  have hA : CA τ1 (setS F x1 x2).2 := by
    generalize (setS F x1 x2).2 = F' at hS
    rcases hS with rfl | ⟨p, a, rfl⟩
    · exact CA_to (F := F') (F' := F') s16 hv rfl (fun _ _ => rfl) (fun _ _ => rfl) (fun _ => rfl) i4
    · exact CA_to (F := F) (F' := addS F p a) s16 hv rfl (fun m _ => plsf_set i1 p a m) (fun m hm => tF_set i1 p a hm) (fun pf => PT_set i1 p a pf) i4
  exact ⟨hw, hm, CB_sm s (fun c hc => by show c < 46; omega) hc, CA_s s hA, u, by omega, by rw [s.i (by decide), hv, u2], fun c i hci => by rw [hk c i hci]; exact u3 c i hci⟩
theorem Inv_up {σ : gS} {F : Fr} {t : Nat} (I : IvG σ F t) : IvG σ F (t + 1) := by
  obtain ⟨i1, i2, i3, i4, u, u1, u2⟩ := I
  exact ⟨i1, i2, i3, i4, u, by omega, u2⟩
def jF0 : Fr := ((0, 0), ((fun _ => 0), (fun _ => 0), (fun _ => 0), (fun _ => 0)), ((fun _ => 0), (fun _ => 0), (fun _ _ => 0)), ((fun _ => 0), (fun _ => 0), (fun _ _ => 0)))
theorem Inv_0 : IvG gs0 jF0 0 := by
  refine ⟨WF_clr jF0, ⟨rfl, rfl, fun i h => absurd h (Nat.not_lt_zero i), fun i h => absurd h (Nat.not_lt_zero i), fun i h => absurd h (Nat.not_lt_zero i), fun i h => absurd h (Nat.not_lt_zero i), fun i h => absurd h (Nat.not_lt_zero i), fun i h => absurd h (Nat.not_lt_zero i), fun i h => absurd h (Nat.not_lt_zero i), fun i h => absurd h (Nat.not_lt_zero i), fun i h => absurd h (Nat.not_lt_zero i)⟩, ⟨⟨rfl, rfl, fun i h => absurd h (Nat.not_lt_zero i), fun i h => absurd h (Nat.not_lt_zero i), fun i h => absurd h (Nat.not_lt_zero i), fun i h => absurd h (Nat.not_lt_zero i), fun i h => absurd h (Nat.not_lt_zero i), fun i h => absurd h (Nat.not_lt_zero i), fun i h => absurd h (Nat.not_lt_zero i), fun i h => absurd h (Nat.not_lt_zero i), fun i h => absurd h (Nat.not_lt_zero i)⟩, fun i h => absurd h (Nat.not_lt_zero i), fun i h => absurd h (Nat.not_lt_zero i), fun i h => absurd h (Nat.not_lt_zero i), fun i h => absurd h (Nat.not_lt_zero i)⟩, ?_, 0, Nat.le_refl _, rfl, ?_⟩
  · refine CA_void (fun i _ => rfl) ?_
    rintro c i (⟨rfl, rfl⟩ | ⟨rfl, hi⟩ | ⟨rfl, rfl⟩ | ⟨rfl, rfl⟩)
    · show (-1 : Int32) ≠ 0
      decide
    · rcases (show i = 0 ∨ i = 1 by omega) with rfl | rfl
      · show (-1 : Int32) ≠ 0
        decide
      · show (-1 : Int32) ≠ 0
        decide
    · show (-1 : Int32) ≠ 0
      decide
    · show (-1 : Int32) ≠ 0
      decide
  · rintro c i (⟨rfl, rfl⟩ | ⟨rfl, hi⟩ | ⟨rfl, rfl⟩ | ⟨rfl, rfl⟩)
    · exact Or.inl rfl
    · rcases (show i = 0 ∨ i = 1 by omega) with rfl | rfl
      · exact Or.inl rfl
      · exact Or.inl rfl
    · exact Or.inl rfl
    · exact Or.inl rfl
