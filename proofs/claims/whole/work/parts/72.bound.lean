/-! taken and bound: what is read off -/
def smA (T : Tb) (n : Nat → Nat) (q : Nat) : Nat → Int32
  | 0 => 0
  | r + 1 => smA T n q r + T 0 (pik T n r 0) q
def wsm (T : Tb) (n : Nat → Nat) (q R : Nat) : Nat → Int32
  | 0 => 0
  | k + 1 => wsm T n q R k + nI (tkn T n 0 k R) * T 0 k q
theorem wsm_s (T : Tb) (n : Nat → Nat) (q R : Nat) : ∀ k, wsm T n q (R + 1) k = wsm T n q R k + (if pik T n R 0 < k then T 0 (pik T n R 0) q else 0)
  | 0 => by
    rw [if_neg (Nat.not_lt_zero _)]
    show (0 : Int32) = 0 + 0
    rfl
  | k + 1 => by
    show wsm T n q (R + 1) k + nI (tkn T n 0 k R + (if pik T n R 0 = k then 1 else 0)) * T 0 k q = wsm T n q R k + nI (tkn T n 0 k R) * T 0 k q + _
    rw [wsm_s T n q R k]
    by_cases z : pik T n R 0 = k
    · rw [if_neg (show ¬ pik T n R 0 < k by omega), if_pos z, if_pos (show pik T n R 0 < k + 1 by omega), z, Int32.add_zero, ← nI_1, Int32.add_mul, Int32.one_mul, Int32.add_assoc]
    · rw [if_neg z, Nat.add_zero]
      by_cases y : pik T n R 0 < k
      · rw [if_pos y, if_pos (show pik T n R 0 < k + 1 by omega), Int32.add_assoc, Int32.add_assoc, Int32.add_comm (T 0 (pik T n R 0) q)]
      · rw [if_neg y, if_neg (show ¬ pik T n R 0 < k + 1 by omega), Int32.add_zero, Int32.add_zero]
theorem wsm_0 (T : Tb) (n : Nat → Nat) (q : Nat) : ∀ k, wsm T n q 0 k = 0
  | 0 => rfl
  | k + 1 => by
    show wsm T n q 0 k + nI 0 * T 0 k q = 0
    rw [wsm_0 T n q k, show nI 0 = 0 from rfl, Int32.zero_mul, Int32.add_zero]
theorem wsm_eq (T : Tb) {n : Nat → Nat} (hn : nb n) (q : Nat) : ∀ R, wsm T n q R (n 0) = smA T n q R
  | 0 => wsm_0 T n q (n 0)
  | R + 1 => by
    rw [wsm_s, wsm_eq T hn q R, if_pos (pik_lt T hn R (by decide))]
    rfl
theorem mxv_amx (f : Nat → Int32) : ∀ {k : Nat}, 1 ≤ k → f (amx f k) = mxv f k
  | 1, _ => by rw [amx_1, mxv_1]
  | k + 2, _ => by
    have ih := mxv_amx f (show 1 ≤ k + 1 by omega)
    show f (if f (k + 1) ≤ f (amx f (k + 1)) then amx f (k + 1) else k + 1) = (if mxv f (k + 1) < f (k + 1) then f (k + 1) else mxv f (k + 1))
    by_cases z : f (k + 1) ≤ f (amx f (k + 1))
    · rw [if_pos z, ih, if_neg (by rw [← ih, Int32.not_lt]; exact z)]
    · rw [if_neg z, if_pos (by rw [← ih, ← Int32.not_le]; exact z)]
theorem mn_congr {f g : Nat → Int32} (h0 : f 0 = g 0) : ∀ {k : Nat}, (∀ j, j < k → f j = g j) → mn f k = mn g k
  | 0, _ => h0
  | k + 1, h => by
    show (if f k < mn f k then f k else mn f k) = (if g k < mn g k then g k else mn g k)
    rw [mn_congr h0 (k := k) (fun j hj => h j (by omega)), h k (by omega)]
theorem mxv_congr {f g : Nat → Int32} (h0 : f 0 = g 0) : ∀ {k : Nat}, (∀ j, j < k → f j = g j) → mxv f k = mxv g k
  | 0, _ => h0
  | k + 1, h => by
    show (if mxv f k < f k then f k else mxv f k) = (if mxv g k < g k then g k else mxv g k)
    rw [mxv_congr h0 (k := k) (fun j hj => h j (by omega)), h k (by omega)]
section BO
variable {σ : gS} {n : Nat → Nat} {T : Tb}
theorem c_pair (h : VC σ n T) (hn : nb n) {p q : Nat} (hp : p < n 0) (hq : q < n 1) : f_Ta_valueOfPair σ 0 (nI p) (nI q) = some (T 0 p q) := by
  have n0 := hn.1.2
  have n1 := hn.2.2
  unfold f_Ta_valueOfPair b_Ta_valueOfPair_0
  rw [ck_t (show inb 0 2 = true from rfl), n64, show 18 + 1 + (0 : Int32).toNatClampNeg = 19 from rfl, ck_t (okI_lt (k := 19) (n := 64 * p + q) (L := 4096) rfl rfl (by omega) (by decide)), nI_c (by omega), (h.2.2 p q hp hq).1]
theorem c_times {r R : Nat} (hp : AP σ n T r) (hn : nb n) (hR : R ≤ r) (hr : r ≤ 200) {pl a : Nat} (hpl : pl < 2) (ha : a < 64) : f_An_timesTaken σ (nI R) (nI pl) (nI a) = some (nI (tkn T n pl a R)) := by
  have ib : inb (nI pl) 2 = true := inb_nI hpl (by decide)
  unfold f_An_timesTaken b_An_timesTaken_0 l_An_timesTaken_6
  refine lpF_go (fun t => (nI R, nI pl, nI a, nI (tkn T n pl a t), nI t)) R (fun t ht k => ?_) (fun k => ?_) (by omega)
  · show b_An_timesTaken_6 σ k (nI R) (nI pl) (nI a) (nI (tkn T n pl a t)) (nI t) = k (nI R, nI pl, nI a, nI (tkn T n pl a t + (if pik T n t pl = a then 1 else 0)), nI (t + 1))
    have hpk : gI σ (40 + 1 + pl) t = nI (pik T n t pl) := by
      rcases (show pl = 0 ∨ pl = 1 by omega) with rfl | rfl
      · exact (hp.1 t (by omega)).1
      · exact (hp.1 t (by omega)).2
    have hlt := pik_lt T hn t hpl
    have hb := nb_le hn hpl
    unfold b_An_timesTaken_6
    rw [if_neg (nI_ge ht (by omega)), ck_t ib, nI_c (n := pl) (by omega), ck_t (ok41 hpl (by omega)), nI_c (n := t) (by omega), hpk]
    by_cases z : pik T n t pl = a
    · rw [if_pos (by rw [z]), if_pos z, bnd_e]
      unfold b_An_timesTaken_28
      rw [bnd_e, nI_1, nI_1]
    · rw [if_neg (fun e => z ((nI_eq (by omega) (by omega)).mp e)), if_neg z]
      unfold b_An_timesTaken_28
      rw [bnd_e, nI_1]
      rfl
  · show b_An_timesTaken_6 σ k (nI R) (nI pl) (nI a) (nI (tkn T n pl a R)) (nI R) = _
    unfold b_An_timesTaken_6
    rw [if_pos (nI_le (Nat.le_refl _) (by omega))]
theorem c_against (h : VC σ n T) (hn : nb n) {r R : Nat} (hp : AP σ n T r) (hR : R ≤ r) (hr : r ≤ 200) {q : Nat} (hq : q < n 1) : f_An_sumAgainst σ (nI q) (nI R) = some (smA T n q R) := by
  unfold f_An_sumAgainst b_An_sumAgainst_0 l_An_sumAgainst_5
  refine lpF_go (fun t => (nI q, nI R, smA T n q t, nI t)) R (fun t ht k => ?_) (fun k => ?_) (by omega)
  · show b_An_sumAgainst_5 σ k (nI q) (nI R) (smA T n q t) (nI t) = k (nI q, nI R, smA T n q t + T 0 (pik T n t 0) q, nI (t + 1))
    unfold b_An_sumAgainst_5
    rw [if_neg (nI_ge ht (by omega)), ck_t (show inb 0 2 = true from rfl), ck_t (ok41 (pl := 0) (by decide) (by omega)), nI_c (n := t) (by omega), (hp.1 t (by omega)).1, c_pair h hn (pik_lt T hn t (by decide)) hq, Option.bind_some, bnd_e, bnd_e, nI_1]
  · show b_An_sumAgainst_5 σ k (nI q) (nI R) (smA T n q R) (nI R) = _
    unfold b_An_sumAgainst_5
    rw [if_pos (nI_le (Nat.le_refl _) (by omega))]
theorem c_for (h : VC σ n T) (hn : nb n) {r R : Nat} (hp : AP σ n T r) (hR : R ≤ r) (hr : r ≤ 200) {p : Nat} (hq : p < n 0) : f_An_sumFor σ (nI p) (nI R) = some (sms T n R 0 p) := by
  unfold f_An_sumFor b_An_sumFor_0 l_An_sumFor_5
  refine lpF_go (fun t => (nI p, nI R, sms T n t 0 p, nI t)) R (fun t ht k => ?_) (fun k => ?_) (by omega)
  · show b_An_sumFor_5 σ k (nI p) (nI R) (sms T n t 0 p) (nI t) = k (nI p, nI R, sms T n t 0 p + T 0 p (pik T n t 1), nI (t + 1))
    unfold b_An_sumFor_5
    rw [if_neg (nI_ge ht (by omega)), ck_t (show inb 1 2 = true from rfl), ck_t (ok41 (pl := 1) (by decide) (by omega)), nI_c (n := t) (by omega), (hp.1 t (by omega)).2, c_pair h hn hq (pik_lt T hn t (by decide)), Option.bind_some, bnd_e, bnd_e, nI_1]
  · show b_An_sumFor_5 σ k (nI p) (nI R) (sms T n R 0 p) (nI R) = _
    unfold b_An_sumFor_5
    rw [if_pos (nI_le (Nat.le_refl _) (by omega))]
theorem c_low (h : VC σ n T) (hn : nb n) {r R : Nat} (hp : AP σ n T r) (hR : R ≤ r) (hr : r ≤ 200) : f_An_lowBehind σ (nI R) = some (mn (fun q => smA T n q R) (n 1)) := by
  have hl := nb_le hn (show 1 < 2 by decide)
  unfold f_An_lowBehind b_An_lowBehind_0 l_An_lowBehind_9
  rw [show f_An_sumAgainst σ 0 (nI R) = _ from c_against h hn hp hR hr (q := 0) (by omega), Option.bind_some]
  rw [show (nI R, smA T n 0 R, (1 : Int32)) = (fun t => (nI R, mn (fun q => smA T n q R) (t + 1), nI (t + 1))) 0 from by show _ = (nI R, mn (fun q => smA T n q R) 1, nI 1); rw [mn_1]; rfl]
  refine lpF_go (fun t => (nI R, mn (fun q => smA T n q R) (t + 1), nI (t + 1))) (n 1 - 1) (fun t ht k => ?_) (fun k => ?_) (by omega)
  · show b_An_lowBehind_9 σ k (nI R) (mn (fun q => smA T n q R) (t + 1)) (nI (t + 1)) = k (nI R, (if smA T n (t + 1) R < mn (fun q => smA T n q R) (t + 1) then smA T n (t + 1) R else mn (fun q => smA T n q R) (t + 1)), nI (t + 1 + 1))
    unfold b_An_lowBehind_9
    rw [ck_t (show okI 17 1 = true from rfl), show (1 : Int32).toNatClampNeg = 1 from rfl, h.2.1, if_neg (nI_ge (by omega) (by omega)), c_against h hn hp hR hr (by omega), Option.bind_some, c_min, Option.bind_some, bnd_e, nI_1]
  · show b_An_lowBehind_9 σ k (nI R) (mn (fun q => smA T n q R) (n 1 - 1 + 1)) (nI (n 1 - 1 + 1)) = _
    unfold b_An_lowBehind_9
    rw [ck_t (show okI 17 1 = true from rfl), show (1 : Int32).toNatClampNeg = 1 from rfl, h.2.1, show n 1 - 1 + 1 = n 1 by omega, if_pos (nI_le (Nat.le_refl _) (by omega))]
theorem c_high (h : VC σ n T) (hn : nb n) {r R : Nat} (hp : AP σ n T r) (hR : R ≤ r) (hr : r ≤ 200) : f_An_highBehind σ (nI R) = some (mxv (fun p => sms T n R 0 p) (n 0)) := by
  have hl := nb_le hn (show 0 < 2 by decide)
  unfold f_An_highBehind b_An_highBehind_0 l_An_highBehind_9
  rw [show f_An_sumFor σ 0 (nI R) = _ from c_for h hn hp hR hr (p := 0) (by omega), Option.bind_some]
  rw [show (nI R, sms T n R 0 0, (1 : Int32)) = (fun t => (nI R, mxv (fun p => sms T n R 0 p) (t + 1), nI (t + 1))) 0 from by show _ = (nI R, mxv (fun p => sms T n R 0 p) 1, nI 1); rw [mxv_1]; rfl]
  refine lpF_go (fun t => (nI R, mxv (fun p => sms T n R 0 p) (t + 1), nI (t + 1))) (n 0 - 1) (fun t ht k => ?_) (fun k => ?_) (by omega)
  · show b_An_highBehind_9 σ k (nI R) (mxv (fun p => sms T n R 0 p) (t + 1)) (nI (t + 1)) = k (nI R, (if mxv (fun p => sms T n R 0 p) (t + 1) < sms T n R 0 (t + 1) then sms T n R 0 (t + 1) else mxv (fun p => sms T n R 0 p) (t + 1)), nI (t + 1 + 1))
    unfold b_An_highBehind_9
    rw [ck_t (show okI 17 0 = true from rfl), show (0 : Int32).toNatClampNeg = 0 from rfl, h.1, if_neg (nI_ge (by omega) (by omega)), c_for h hn hp hR hr (by omega), Option.bind_some, c_max, Option.bind_some, bnd_e, nI_1]
  · show b_An_highBehind_9 σ k (nI R) (mxv (fun p => sms T n R 0 p) (n 0 - 1 + 1)) (nI (n 0 - 1 + 1)) = _
    unfold b_An_highBehind_9
    rw [ck_t (show okI 17 0 = true from rfl), show (0 : Int32).toNatClampNeg = 0 from rfl, h.1, show n 0 - 1 + 1 = n 0 by omega, if_pos (nI_le (Nat.le_refl _) (by omega))]
theorem m_low (h : VM σ n T) (hn : nb n) {R : Nat} (hR : R ≤ 200) (hp : MP σ n T R) : l_Mo_bound_56 (0, 0, σ) = some (mn (fun q => smA T n q R) (n 1), σ) := by
  have n0 := nb_le hn (show 0 < 2 by decide)
  have n1 := nb_le hn (show 1 < 2 by decide)
  let g : Nat → Int32 := fun q => smA T n q R
  unfold l_Mo_bound_56
  rw [show ((0 : Int32), (0 : Int32), σ) = (fun q => ((if q = 0 then 0 else mn g q), nI q, σ)) 0 from rfl]
  refine lpF_go (fun q => ((if q = 0 then 0 else mn g q), nI q, σ)) (n 1) (fun q hq k => ?_) (fun k => ?_) (by omega)
  · show b_Mo_bound_56 k (if q = 0 then 0 else mn g q) (nI q) σ = k ((if q + 1 = 0 then 0 else mn g (q + 1)), nI (q + 1), σ)
    rw [if_neg (show ¬ q + 1 = 0 by omega)]
    generalize hv : (if q = 0 then 0 else mn g q) = v
    unfold b_Mo_bound_56
    rw [h.2.1, if_neg (nI_ge hq (by omega))]
    unfold l_Mo_bound_71
    refine lpF_go (fun p => (v, nI q, wsm T n q R p, nI p, σ)) (n 0) (fun p hp' k' => ?_) (fun k' => ?_) (by omega)
    · show b_Mo_bound_71 k k' v (nI q) (wsm T n q R p) (nI p) σ = k' (v, nI q, wsm T n q R p + nI (tkn T n 0 p R) * T 0 p q, nI (p + 1), σ)
      have hq2 := (hp 0 (by decide) p hp').1
      rw [show 64 * 0 + p = p by omega] at hq2
      unfold b_Mo_bound_71
      rw [h.1, if_neg (nI_ge hp' (by omega)), ck_t (okI_lt (k := 65) (n := p) (L := 128) rfl rfl (by omega) (by decide)), show f_Mo_worthTo σ 0 (nI p) (nI q) = _ from m_value h hn (pl := 0) (by decide) hp' hq, Option.bind_some, bnd_e, bnd_e, nI_c (by omega), hq2, nI_1]
      rfl
    · show b_Mo_bound_71 k k' v (nI q) (wsm T n q R (n 0)) (nI (n 0)) σ = _
      rw [wsm_eq T hn]
      have emn : mn g (q + 1) = if g q < mn g q then g q else mn g q := rfl
      unfold b_Mo_bound_71 b_Mo_bound_119 b_Mo_bound_125
      rw [h.1, if_pos (nI_le (Nat.le_refl _) (by omega)), bnd_e, bnd_e, nI_1]
      by_cases z : q = 0
      · subst z
        rw [if_pos (show nI 0 = 0 from rfl), mn_1]
      · rw [if_neg z] at hv
        rw [if_neg (nI_ne0 (by omega) (by omega)), emn, ← hv]
        by_cases y : g q < mn g q
        · rw [if_pos y, if_neg (show ¬ mn g q ≤ smA T n q R by rw [Int32.not_le]; exact y)]
        · rw [if_neg y, if_pos (show mn g q ≤ smA T n q R by rw [← Int32.not_lt]; exact y)]
  · show b_Mo_bound_56 k (if n 1 = 0 then 0 else mn g (n 1)) (nI (n 1)) σ = _
    unfold b_Mo_bound_56
    rw [h.2.1, if_pos (nI_le (Nat.le_refl _) (by omega)), if_neg (by omega)]
end BO
