/-! the class: a pair of plans, weighed -/
theorem pow6_cut {a v cnt : Nat} (h1 : 1 ≤ cnt) (h3 : cnt ≤ 3) {b : Nat} (hb : b + 1 ≤ a) (hv : 6 ^ a ∣ v) : cnt * (v / cnt) = v ∧ 6 ^ b ∣ v / cnt := by
  obtain ⟨d, hd⟩ := dvd6 h1 h3
  obtain ⟨e, he⟩ := pow6_le hb
  obtain ⟨q, rfl⟩ := hv
  have e1 : 6 ^ a * q = cnt * (6 ^ b * (d * (e * q))) := by
    rw [he, Nat.pow_succ]
    calc 6 ^ b * 6 * e * q = 6 ^ b * (cnt * d) * e * q := by rw [← hd]
      _ = _ := by simp only [Nat.mul_assoc, Nat.mul_left_comm, Nat.mul_comm]
  rw [e1, Nat.mul_div_cancel_left _ h1]
  exact ⟨rfl, ⟨_, rfl⟩⟩
/-- what holds on the way down: r nodes are left -/
def WP (F : Fr) (ch : Nat → Nat) (start r : Nat) (S0 S1 : Int) (sh : Nat → Nat) : Prop :=
  (∀ i, i < 40 → r ≤ i → sh i = 0) ∧ (∀ i, i < r → sh i ≠ 0 → sh i ≤ 7776 ∧ 6 ^ jcc F i ∣ sh i ∧ (i = start ∨ r ≤ jpa F i)) ∧
  7776 * S0 + sumN (fun i => (sh i : Int) * val F ch 0 i) r = 7776 * val F ch 0 start ∧ 7776 * S1 + sumN (fun i => (sh i : Int) * val F ch 1 i) r = 7776 * val F ch 1 start
theorem WP_0 {F : Fr} (h : WF F) (ch : Nat → Nat) {start : Nat} (hs : start < jn F) : WP F ch start (start + 1) 0 0 (fun i => if i = start then 7776 else 0) := by
  have hcc := (h.2.2.2.2.2.1 start hs).2.1
  have key : ∀ w, 7776 * (0 : Int) + sumN (fun i => ((if i = start then 7776 else 0 : Nat) : Int) * val F ch w i) (start + 1) = 7776 * val F ch w start := fun w => by
    have e : sumN (fun i => ((if i = start then 7776 else 0 : Nat) : Int) * val F ch w i) start = 0 := by
      rw [sumN_congr (g := fun i => (0 : Int) * val F ch w i) (fun j hj => by rw [if_neg (by omega)]; rfl), sumN_mul, Int.zero_mul]
    show 7776 * (0 : Int) + (sumN (fun i => ((if i = start then 7776 else 0 : Nat) : Int) * val F ch w i) start + ((if start = start then 7776 else 0 : Nat) : Int) * val F ch w start) = 7776 * val F ch w start
    rw [e, if_pos rfl]
    show 7776 * (0 : Int) + (0 + 7776 * val F ch w start) = _
    omega
  refine ⟨fun i hi hr => ?_, fun i hi hn => ?_, key 0, key 1⟩
  · show (if i = start then 7776 else 0) = 0
    rw [if_neg (by omega)]
  · by_cases z : i = start
    · subst z
      refine ⟨?_, ?_, Or.inl rfl⟩
      · show (if i = i then 7776 else 0) ≤ 7776
        rw [if_pos rfl]; exact Nat.le_refl _
      · show 6 ^ jcc F i ∣ (if i = i then 7776 else 0)
        rw [if_pos rfl]
        obtain ⟨d, e⟩ := pow6_le hcc
        exact ⟨d, e⟩
    · exact absurd (show (if i = start then 7776 else 0) = 0 from if_neg z) hn
/-- a node without a share -/
theorem WP_n {F : Fr} {ch : Nat → Nat} {start n : Nat} {S0 S1 : Int} {sh : Nat → Nat} (hp : WP F ch start (n + 1) S0 S1 sh) (z : sh n = 0) : WP F ch start n S0 S1 sh := by
  obtain ⟨p1, p2, p3, p4⟩ := hp
  have key : ∀ w, sumN (fun i => (sh i : Int) * val F ch w i) (n + 1) = sumN (fun i => (sh i : Int) * val F ch w i) n := fun w => by
    show sumN (fun i => (sh i : Int) * val F ch w i) n + (sh n : Int) * val F ch w n = _
    rw [z]
    show _ + (0 : Int) * _ = _
    rw [Int.zero_mul, Int.add_zero]
  rw [key] at p3 p4
  refine ⟨fun i hi hr => ?_, fun i hi hn => ?_, p3, p4⟩
  · by_cases e : i = n
    · rw [e, z]
    · exact p1 i hi (by omega)
  · obtain ⟨q1, q2, q3⟩ := p2 i (by omega) hn
    exact ⟨q1, q2, q3.elim Or.inl (fun q => Or.inr (by omega))⟩
theorem sum_n {F : Fr} {ch : Nat → Nat} {n : Nat} {sh : Nat → Nat} (w : Nat) : sumN (fun i => (sh i : Int) * val F ch w i) (n + 1) = sumN (fun i => (sh i : Int) * val F ch w i) n + (sh n : Int) * val F ch w n := rfl
/-- an end -/
theorem WP_e {F : Fr} {ch : Nat → Nat} {start n : Nat} {S0 S1 : Int} {sh : Nat → Nat} (hp : WP F ch start (n + 1) S0 S1 sh) (z : jso F n = 0) : WP F ch start n (S0 + (sh n : Int) * (jwo F n 0).toInt) (S1 + (sh n : Int) * (jwo F n 1).toInt) (fun i => if i = n then 0 else sh i) := by
  obtain ⟨p1, p2, p3, p4⟩ := hp
  have key : ∀ w, sumN (fun i => ((if i = n then 0 else sh i : Nat) : Int) * val F ch w i) n = sumN (fun i => (sh i : Int) * val F ch w i) n := fun w => sumN_congr (fun j hj => by rw [if_neg (by omega)])
  have k2 : ∀ w, (sh n : Int) * val F ch w n = 7776 * ((sh n : Int) * (jwo F n w).toInt) := fun w => by rw [val_0 ch w z, Int.mul_left_comm]
  rw [sum_n, k2] at p3 p4
  refine ⟨fun i hi hr => ?_, fun i hi hn => ?_, ?_, ?_⟩
  · by_cases e : i = n
    · show (if i = n then 0 else sh i) = 0
      rw [if_pos e]
    · show (if i = n then 0 else sh i) = 0
      rw [if_neg e]
      exact p1 i hi (by omega)
  · have e : (if i = n then 0 else sh i) = sh i := if_neg (by omega)
    replace hn : sh i ≠ 0 := fun q => hn (e.trans q)
    show (if i = n then 0 else sh i) ≤ 7776 ∧ 6 ^ jcc F i ∣ (if i = n then 0 else sh i) ∧ _
    rw [e]
    obtain ⟨q1, q2, q3⟩ := p2 i (by omega) hn
    exact ⟨q1, q2, q3.elim Or.inl (fun q => Or.inr (by omega))⟩
  · rw [key]; omega
  · rw [key]; omega
/-- a share goes to some children -/
theorem WP_c {F : Fr} (h : WF F) {ch : Nat → Nat} {start n : Nat} {S0 S1 : Int} {sh : Nat → Nat} (hn : n < jn F) (hns : n ≤ start) (hp : WP F ch start (n + 1) S0 S1 sh) {cnt u : Nat} {c : Nat → Nat} (h3 : cnt ≤ 3) (hc : ∀ j, j < cnt → ∃ j', j' < jcn F n ∧ c j = jch F n j') (inj : ∀ j, j < cnt → ∀ j', j' < cnt → c j' = c j → j' = j) (hu : u ≤ 7776) (hd : ∀ j, j < cnt → 6 ^ jcc F (c j) ∣ u) (hv : ∀ w, w < 2 → sumN (fun j => (u : Int) * val F ch w (c j)) cnt = (sh n : Int) * val F ch w n) : WP F ch start n S0 S1 (fun i => if isC cnt c i = true then u else if i = n then 0 else sh i) := by
  obtain ⟨p1, p2, p3, p4⟩ := hp
  have hl := h.1.1
  have hlt : ∀ j, j < cnt → c j < n ∧ jpa F (c j) = n := fun j hj => by
    obtain ⟨j', hj', e⟩ := hc j hj
    have := h.2.2.2.1 n hn j' hj'
    rw [e]
    exact ⟨this.1, this.2.1⟩
  have hz : ∀ j, j < cnt → (if c j = n then 0 else sh (c j)) = 0 := fun j hj => by
    obtain ⟨q1, q2⟩ := hlt j hj
    rw [if_neg (by omega)]
    by_cases z : sh (c j) = 0
    · exact z
    · rcases (p2 (c j) (by omega) z).2.2 with w | w
      · omega
      · omega
  have key : ∀ w, w < 2 → sumN (fun i => ((if isC cnt c i = true then u else if i = n then 0 else sh i : Nat) : Int) * val F ch w i) n = sumN (fun i => (sh i : Int) * val F ch w i) (n + 1) := fun w hw => by
    rw [sum_isC (V := val F ch w) (sh := fun i => if i = n then 0 else sh i) (u := u) h3 (fun j hj => (hlt j hj).1) inj hz, hv w hw, sum_n]
    rw [sumN_congr (f := fun m => ((if m = n then 0 else sh m : Nat) : Int) * val F ch w m) (g := fun i => (sh i : Int) * val F ch w i) (fun j hj => by rw [if_neg (by omega)])]
  refine ⟨fun i hi hr => ?_, fun i hi hni => ?_, by rw [key 0 (by decide)]; exact p3, by rw [key 1 (by decide)]; exact p4⟩
  · show (if isC cnt c i = true then u else if i = n then 0 else sh i) = 0
    rw [if_neg (fun w => by
      obtain ⟨j, hj, e⟩ := (isC_iff h3 c i).mp w
      have := (hlt j hj).1
      omega)]
    by_cases e : i = n
    · rw [if_pos e]
    · rw [if_neg e]
      exact p1 i hi (by omega)
  · show (if isC cnt c i = true then u else if i = n then 0 else sh i) ≤ 7776 ∧ 6 ^ jcc F i ∣ (if isC cnt c i = true then u else if i = n then 0 else sh i) ∧ _
    by_cases w : isC cnt c i = true
    · rw [if_pos w]
      obtain ⟨j, hj, e⟩ := (isC_iff h3 c i).mp w
      have h9 := hd j hj
      have h8 := (hlt j hj).2
      rw [e] at h9 h8
      exact ⟨hu, h9, Or.inr (by omega)⟩
    · rw [if_neg w, if_neg (show ¬ i = n by omega)]
      have e : (if isC cnt c i = true then u else if i = n then 0 else sh i) = sh i := by rw [if_neg w, if_neg (show ¬ i = n by omega)]
      have hni' : sh i ≠ 0 := fun q => hni (e.trans q)
      obtain ⟨q1, q2, q3⟩ := p2 i (by omega) hni'
      exact ⟨q1, q2, q3.elim Or.inl (fun q => Or.inr (by omega))⟩
theorem WP_end {F : Fr} {ch : Nat → Nat} {start : Nat} {S0 S1 : Int} {sh : Nat → Nat} (hp : WP F ch start 0 S0 S1 sh) : S0 = val F ch 0 start ∧ S1 = val F ch 1 start ∧ ∀ i, i < 40 → sh i = 0 := by
  obtain ⟨p1, p2, p3, p4⟩ := hp
  have e : ∀ f : Nat → Int, sumN f 0 = 0 := fun _ => rfl
  rw [e] at p3 p4
  exact ⟨by omega, by omega, fun i hi => p1 i hi (Nat.zero_le _)⟩
theorem ta_weigh {σ : gS} {F : Fr} (h : WF F) (hc : CR σ F) {ch : Nat → Nat} (hok : okC F ch) (ha : ∀ s, s < jk F → gI σ 21 s = nI (ch s)) {start pair : Nat} (hs : start < jn F) (hp : pair < 4096) (h22 : ∀ i, i < 40 → gI σ 22 i = 0) :
    ∃ τ, f_Ta_weighPair σ (nI start) (nI pair) = some τ ∧ (∀ i, gI τ 19 i = if i = pair then iI (val F ch 0 start) else gI σ 19 i) ∧ (∀ i, gI τ 20 i = if i = pair then iI (val F ch 1 start) else gI σ 20 i) ∧ (∀ i, i < 40 → gI τ 22 i = 0) ∧ sm (fun c => c ≠ 19 ∧ c ≠ 20 ∧ c ≠ 22) σ τ := by
  have hl := h.1.1
  have hk := h.1.2
  unfold f_Ta_weighPair b_Ta_weighPair_0
  rw [ck_t (okI_lt (k := 22) (n := start) (L := 40) rfl rfl (by omega) (by decide)), bnd_e, nI_c (by omega)]
  let I : Nat → (Int32 × Int32 × Int32 × Int32 × gS) → Prop := fun t x => ∃ (υ : gS) (S0 S1 : Int) (sh : Nat → Nat), x = (nI pair, iI S0, iI S1, nI (start + 1 - t) - 1, υ) ∧ (∀ i, i < 40 → gI υ 22 i = nI (sh i)) ∧ WP F ch start (start + 1 - t) S0 S1 sh ∧ sm (fun c => c ≠ 22) σ υ
  have h0 : I 0 (nI pair, 0, 0, nI start, sI σ 22 start 7776) := by
    refine ⟨sI σ 22 start 7776, 0, 0, fun i => if i = start then 7776 else 0, ?_, fun i hi => ?_, WP_0 h ch hs, sm_sI _ _ _ (fun w => w rfl)⟩
    · rw [show start + 1 - 0 = start + 1 from rfl, nI_pred]; rfl
    · show gI (sI σ 22 start 7776) 22 i = nI (if i = start then 7776 else 0)
      rw [gI_sI]
      by_cases z : i = start
      · rw [if_pos ⟨rfl, z⟩, if_pos z]; rfl
      · rw [if_neg (fun w => z w.2), if_neg z, h22 i hi]; rfl
  have hst : ∀ t, t < start + 1 → ∀ x, I t x → ∃ x', I (t + 1) x' ∧ ∀ k, b_Ta_weighPair_17 k x.1 x.2.1 x.2.2.1 x.2.2.2.1 x.2.2.2.2 = k x' := by
    rintro t ht x ⟨υ, S0, S1, sh, rfl, e1, e2, e3⟩
    obtain ⟨n, hn1⟩ : ∃ n, start + 1 - t = n + 1 := ⟨start - t, by omega⟩
    have hns : n ≤ start := by omega
    have hn : n < jn F := by omega
    have hn2 : start + 1 - (t + 1) = n := by omega
    have hcυ : CR υ F := CB_sm e3 (fun c hc => by omega) hc
    rw [hn1] at e2
    have o22 := okI_lt (k := 22) (n := n) (L := 40) rfl rfl (by omega) (by decide)
    have cn := nI_c (n := n) (by omega)
    obtain ⟨c1, c2, c3, c4, c5⟩ := h.2.2.1 n hn
    have pre : ∀ k, b_Ta_weighPair_17 k (nI pair) (iI S0) (iI S1) (nI (start + 1 - t) - 1) υ = b_Ta_weighPair_17 k (nI pair) (iI S0) (iI S1) (nI n) υ := fun k => by rw [hn1, nI_pred]
    have fin : ∀ (υ' : gS) (T0 T1 : Int) (sh' : Nat → Nat), (∀ i, i < 40 → gI υ' 22 i = nI (sh' i)) → WP F ch start n T0 T1 sh' → sm (fun c => c ≠ 22) υ υ' → I (t + 1) (nI pair, iI T0, iI T1, nI n - 1, υ') := fun υ' T0 T1 sh' k1 k2 k3 => ⟨υ', T0, T1, sh', by rw [hn2], k1, by rw [hn2]; exact k2, e3.tr k3⟩
    by_cases z : sh n = 0
    · refine ⟨_, fin υ S0 S1 sh e1 (WP_n e2 z) (sm_rf _ _), fun k => ?_⟩
      refine (pre k).trans ?_
      unfold b_Ta_weighPair_17
      rw [if_neg (nI_pos (by omega)), ck_t o22, bnd_e, cn, e1 n (by omega), z, if_pos (show nI 0 = 0 from rfl)]
      unfold b_Ta_weighPair_150
      rw [bnd_e, nI_m1]
    · obtain ⟨v1, v2, v3⟩ := e2.2.1 n (by omega) z
      have e1' : ∀ i, i < 40 → gI (sI υ 22 n 0) 22 i = nI (if i = n then 0 else sh i) := fun i hi => by
        rw [gI_sI]
        by_cases w : i = n
        · rw [if_pos ⟨rfl, w⟩, if_pos w]; rfl
        · rw [if_neg (fun q => w q.2), if_neg w, e1 i hi]
      have hsm : sm (fun c => c ≠ 22) υ (sI υ 22 n 0) := sm_sI _ _ _ (fun w => w rfl)
      have hcυ' : CR (sI υ 22 n 0) F := CB_sm hsm (fun c hc => by omega) hcυ
      have pre2 : ∀ k, b_Ta_weighPair_17 k (nI pair) (iI S0) (iI S1) (nI n) υ = (if nI (jso F n) = 0 then (f_Fo_worthAt (sI υ 22 n 0) (nI n) 0).bind fun r_23 => bnd (iI S0 + (nI (sh n) * r_23)) fun x3_24 => (f_Fo_worthAt (sI υ 22 n 0) (nI n) 1).bind fun r_25 => bnd (iI S1 + (nI (sh n) * r_25)) fun x4_26 => b_Ta_weighPair_150 k (nI pair) x3_24 x4_26 (nI n) (sI υ 22 n 0) else if nI (jso F n) = 1 then (f_Ta_shareAmongAll (sI υ 22 n 0) (nI n) (nI (sh n))).bind fun r_22 => b_Ta_weighPair_150 k (nI pair) (iI S0) (iI S1) (nI n) r_22 else ck (okI 3 (nI n)) <| ck (okI 21 (gI (sI υ 22 n 0) 3 n)) <| (f_Fo_childAt (sI υ 22 n 0) (nI n) (gI (sI υ 22 n 0) 21 (gI (sI υ 22 n 0) 3 n).toNatClampNeg)).bind fun r_19 => ck (okI 22 r_19) <| bnd (sI (sI υ 22 n 0) 22 r_19.toNatClampNeg (nI (sh n))) fun σ_21 => b_Ta_weighPair_150 k (nI pair) (iI S0) (iI S1) (nI n) σ_21) := fun k => by
        unfold b_Ta_weighPair_17
        rw [if_neg (nI_pos (by omega)), ck_t o22, bnd_e, cn, e1 n (by omega), if_neg (nI_ne0 (by omega) (by omega)), ck_t o22, bnd_e, ck_t (okI_lt (k := 2) (n := n) (L := 40) rfl rfl (by omega) (by decide)), hcυ'.1.2.2.1 n hn, ck_t (okI_lt (k := 2) (n := n) (L := 40) rfl rfl (by omega) (by decide))]
      rcases (show jso F n = 0 ∨ jso F n = 1 ∨ jso F n = 2 by omega) with y | y | y
      · refine ⟨_, fin (sI υ 22 n 0) _ _ _ e1' (WP_e e2 y) hsm, fun k => ?_⟩
        refine (pre k).trans ((pre2 k).trans ?_)
        rw [if_pos (by rw [y]; rfl), show f_Fo_worthAt (sI υ 22 n 0) (nI n) 0 = some (jwo F n 0) from f_worthAt h hcυ'.1 hn (w := 0) (by decide) y, Option.bind_some, bnd_e, show f_Fo_worthAt (sI υ 22 n 0) (nI n) 1 = some (jwo F n 1) from f_worthAt h hcυ'.1 hn (w := 1) (by decide) y, Option.bind_some, bnd_e]
        unfold b_Ta_weighPair_150
        rw [bnd_e, nI_m1, iI_nI (sh n), ← iI_add, ← iI_add, ← iI_mul, ← iI_mul, iI_toInt, iI_toInt]
      · obtain ⟨υ', g1, g2, g3⟩ := ta_share h hcυ' hn y v1 e1'
        have hcc : ∀ j, j < jcn F n → jcc F (jch F n j) + 1 ≤ jcc F n := fun j hj => by
          have := ((h.2.2.2.2.2.1 n hn).2.2 j hj).2
          rw [if_pos y] at this
          exact this
        have hW : WP F ch start n S0 S1 (fun i => if isC (jcn F n) (jch F n) i = true then sh n / jcn F n else if i = n then 0 else sh i) := by
          refine WP_c h hn hns e2 c2 (fun j hj => ⟨j, hj, rfl⟩) (fun j hj j' hj' e => (h.2.2.2.1 n hn j hj).2.2 j' hj' e) (Nat.le_trans (Nat.div_le_self _ _) v1) (fun j hj => (pow6_cut (c4 y) c2 (hcc j hj) v2).2) (fun w hw => ?_)
          rw [sumN_mul (sh n / jcn F n : Nat) (jcn F n), ← val_1 h hok hw hn y, ← Int.mul_assoc]
          have e9 := (pow6_cut (c4 y) c2 (hcc 0 (c4 y)) v2).1
          have e8 : ((sh n / jcn F n : Nat) : Int) * (jcn F n : Int) = (sh n : Int) := by
            rw [← Int.natCast_mul, Nat.mul_comm, e9]
          rw [e8]
        refine ⟨_, fin υ' S0 S1 _ g2 hW (hsm.tr g3), fun k => ?_⟩
        refine (pre k).trans ((pre2 k).trans ?_)
        rw [if_neg (show ¬ nI (jso F n) = 0 by rw [y]; decide), if_pos (by rw [y]; rfl), g1, Option.bind_some]
        unfold b_Ta_weighPair_150
        rw [bnd_e, nI_m1]
      · have hj := okC_in h hok hn y
        obtain ⟨s1, s2⟩ := c5 y
        have hcl := (h.2.2.2.1 n hn _ hj).1
        have e3n : gI (sI υ 22 n 0) 3 n = nI (jse F n) := by rw [hcυ'.1.2.2.2.1 n hn, if_pos y]
        have e21 : gI (sI υ 22 n 0) 21 (jse F n) = nI (ch (jse F n)) := by rw [(e3.tr hsm).i (by decide), ha _ s1]
        have hW : WP F ch start n S0 S1 (fun i => if isC 1 (fun _ => jch F n (ch (jse F n))) i = true then sh n else if i = n then 0 else sh i) := by
          refine WP_c h hn hns e2 (by decide) (fun j _ => ⟨_, hj, rfl⟩) (fun j hj j' hj' _ => by omega) v1 (fun j _ => ?_) (fun w hw => ?_)
          · have h9 := ((h.2.2.2.2.2.1 n hn).2.2 _ hj).2
            rw [if_neg (show ¬ jso F n = 1 by omega)] at h9
            obtain ⟨d, ed⟩ := pow6_le (show jcc F (jch F n (ch (jse F n))) ≤ jcc F n by omega)
            obtain ⟨q, eq⟩ := v2
            exact ⟨d * q, by rw [eq, ed, Nat.mul_assoc]⟩
          · show (0 : Int) + (sh n : Int) * val F ch w (jch F n (ch (jse F n))) = _
            rw [Int.zero_add, val_2 h hok w hn y]
        refine ⟨_, fin (sI (sI υ 22 n 0) 22 (jch F n (ch (jse F n))) (nI (sh n))) S0 S1 _ (fun i hi => ?_) hW (hsm.tr (sm_sI _ _ _ (fun w => w rfl))), fun k => ?_⟩
        · have key : isC 1 (fun _ => jch F n (ch (jse F n))) i = true ↔ jch F n (ch (jse F n)) = i := by
            rw [isC_iff (by decide)]
            exact ⟨fun ⟨j, _, e⟩ => e, fun e => ⟨0, by decide, e⟩⟩
          rw [gI_sI]
          by_cases w : i = jch F n (ch (jse F n))
          · rw [if_pos ⟨rfl, w⟩, if_pos (key.mpr w.symm)]
          · rw [if_neg (fun q => w q.2), if_neg (fun q => w (key.mp q).symm), e1' i hi]
        · refine (pre k).trans ((pre2 k).trans ?_)
          rw [if_neg (show ¬ nI (jso F n) = 0 by rw [y]; decide), if_neg (show ¬ nI (jso F n) = 1 by rw [y]; decide), ck_t (okI_lt (k := 3) (n := n) (L := 40) rfl rfl (by omega) (by decide)), e3n, ck_t (okI_lt (k := 21) (n := jse F n) (L := 10) rfl rfl (by omega) (by decide)), nI_c (by omega), e21, f_childAt h hcυ'.1 hn hj, Option.bind_some, ck_t (okI_lt (k := 22) (n := jch F n (ch (jse F n))) (L := 40) rfl rfl (by omega) (by decide)), bnd_e, nI_c (by omega)]
          unfold b_Ta_weighPair_150
          rw [bnd_e, nI_m1]
  obtain ⟨x', k, ⟨υ, S0, S1, sh, rfl, e1, e2, e3⟩, e⟩ := lpF_in I (start + 1) _ h0 hst (by omega)
  rw [Nat.sub_self] at e2
  obtain ⟨w1, w2, w3⟩ := WP_end e2
  refine ⟨sI (sI υ 19 pair (iI S0)) 20 pair (iI S1), ?_, fun i => ?_, fun i => ?_, fun i hi => ?_, ?_⟩
  · unfold l_Ta_weighPair_17
    refine e.trans ?_
    show b_Ta_weighPair_17 k (nI pair) (iI S0) (iI S1) (nI (start + 1 - (start + 1)) - 1) υ = _
    unfold b_Ta_weighPair_17
    rw [Nat.sub_self, if_pos (show nI 0 - 1 < 0 from by decide), ck_t (show inb 0 2 = true from rfl), ck_t (okI_lt (k := 19) (n := pair) (L := 4096) rfl rfl hp (by decide)), bnd_e, ck_t (show inb 1 2 = true from rfl), ck_t (okI_lt (k := 20) (n := pair) (L := 4096) rfl rfl hp (by decide)), bnd_e, nI_c (by omega)]
  · rw [gI_cell _ _ _ _ (by decide), gI_sI, ← w1]
    by_cases z : i = pair
    · rw [if_pos ⟨rfl, z⟩, if_pos z]
    · rw [if_neg (fun w => z w.2), if_neg z, e3.i (by decide)]
  · rw [gI_sI, ← w2]
    by_cases z : i = pair
    · rw [if_pos ⟨rfl, z⟩, if_pos z]
    · rw [if_neg (fun w => z w.2), if_neg z, gI_cell _ _ _ _ (by decide), e3.i (by decide)]
  · rw [gI_cell _ _ _ _ (by decide), gI_cell _ _ _ _ (by decide), e1 i hi, w3 i hi]; rfl
  · exact ((e3.less (fun c hc => hc.2.2)).tr (sm_sI _ _ _ (fun w => w.1 rfl))).tr (sm_sI _ _ _ (fun w => w.2.1 rfl))
