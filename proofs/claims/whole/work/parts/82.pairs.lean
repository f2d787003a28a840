/-! the pairs that are left -/
theorem c_pairs {σ : gS} {n : Nat → Nat} {T : Tb} (hn : nb n) {r : Nat} (hp : LeP σ n T r) : f_Le_pairsLeft σ = some (nI (cntB (lf T n r 0) (n 0)) * nI (cntB (lf T n r 1) (n 1))) := by
  have key : ∀ pl, pl < 2 → cntB (tb (gL σ 38 pl)) 64 = cntB (lf T n r pl) (n pl) := fun pl hpl => by
    have hb := nb_le hn hpl
    have := cntB_cut (f := tb (gL σ 38 pl)) (g := lf T n r pl) (n := n pl) (64 - n pl) (fun j hj => hp.2 pl hpl j (by omega))
    rw [show n pl + (64 - n pl) = 64 by omega] at this
    exact this
  unfold f_Le_pairsLeft b_Le_pairsLeft_0
  rw [ck_t (show okJ 38 0 = true from rfl), show (0 : Int32).toNatClampNeg = 0 from rfl, f_bitCount, Option.bind_some, ck_t (show okJ 38 1 = true from rfl), show (1 : Int32).toNatClampNeg = 1 from rfl, f_bitCount, Option.bind_some, key 0 (by decide), key 1 (by decide)]
