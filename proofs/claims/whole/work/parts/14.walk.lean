theorem d_Ga_taken_0 : decode b_Ga_taken_c 0 = .ok (.aload_n 0, 1) := by decide +kernel
theorem d_Ga_taken_1 : decode b_Ga_taken_c 1 = .ok (.invokevirtual 81, 3) := by decide +kernel
theorem d_Ga_taken_4 : decode b_Ga_taken_c 4 = .ok (.ifCond .eq 6, 3) := by decide +kernel
theorem d_Ga_taken_7 : decode b_Ga_taken_c 7 = .ok (.ldc 85, 2) := by decide +kernel
theorem d_Ga_taken_9 : decode b_Ga_taken_c 9 = .ok (.ireturn, 1) := by decide +kernel
theorem d_Ga_taken_10 : decode b_Ga_taken_c 10 = .ok (.iload_n 1, 1) := by decide +kernel
theorem d_Ga_taken_11 : decode b_Ga_taken_c 11 = .ok (.iconst 1, 1) := by decide +kernel
theorem d_Ga_taken_12 : decode b_Ga_taken_c 12 = .ok (.sipush 200, 3) := by decide +kernel
theorem d_Ga_taken_15 : decode b_Ga_taken_c 15 = .ok (.invokestatic 56, 3) := by decide +kernel
theorem d_Ga_taken_18 : decode b_Ga_taken_c 18 = .ok (.ifCond .eq 12, 3) := by decide +kernel
theorem d_Ga_taken_21 : decode b_Ga_taken_c 21 = .ok (.aload_n 0, 1) := by decide +kernel
theorem d_Ga_taken_22 : decode b_Ga_taken_c 22 = .ok (.iload_n 2, 1) := by decide +kernel
theorem d_Ga_taken_23 : decode b_Ga_taken_c 23 = .ok (.iload_n 3, 1) := by decide +kernel
theorem d_Ga_taken_24 : decode b_Ga_taken_c 24 = .ok (.invokevirtual 148, 3) := by decide +kernel
theorem d_Ga_taken_27 : decode b_Ga_taken_c 27 = .ok (.ifCond .ne 6, 3) := by decide +kernel
theorem d_Ga_taken_30 : decode b_Ga_taken_c 30 = .ok (.bipush (-2), 2) := by decide +kernel
theorem d_Ga_taken_32 : decode b_Ga_taken_c 32 = .ok (.ireturn, 1) := by decide +kernel
theorem d_Ga_taken_33 : decode b_Ga_taken_c 33 = .ok (.aload_n 0, 1) := by decide +kernel
theorem d_Ga_taken_34 : decode b_Ga_taken_c 34 = .ok (.getfield 21, 3) := by decide +kernel
theorem d_Ga_taken_37 : decode b_Ga_taken_c 37 = .ok (.invokevirtual 118, 3) := by decide +kernel
theorem d_Ga_taken_40 : decode b_Ga_taken_c 40 = .ok (.aload_n 0, 1) := by decide +kernel
theorem d_Ga_taken_41 : decode b_Ga_taken_c 41 = .ok (.getfield 44, 3) := by decide +kernel
theorem d_Ga_taken_44 : decode b_Ga_taken_c 44 = .ok (.iload_n 1, 1) := by decide +kernel
theorem d_Ga_taken_45 : decode b_Ga_taken_c 45 = .ok (.invokevirtual 191, 3) := by decide +kernel
theorem d_Ga_taken_48 : decode b_Ga_taken_c 48 = .ok (.aload_n 0, 1) := by decide +kernel
theorem d_Ga_taken_49 : decode b_Ga_taken_c 49 = .ok (.getfield 44, 3) := by decide +kernel
theorem d_Ga_taken_52 : decode b_Ga_taken_c 52 = .ok (.iload_n 1, 1) := by decide +kernel
theorem d_Ga_taken_53 : decode b_Ga_taken_c 53 = .ok (.iload_n 2, 1) := by decide +kernel
theorem d_Ga_taken_54 : decode b_Ga_taken_c 54 = .ok (.iload_n 3, 1) := by decide +kernel
theorem d_Ga_taken_55 : decode b_Ga_taken_c 55 = .ok (.invokevirtual 195, 3) := by decide +kernel
theorem d_Ga_taken_58 : decode b_Ga_taken_c 58 = .ok (.ireturn, 1) := by decide +kernel
/-! GameRows.taken(III)I -/
set_option maxHeartbeats 4000000 in
set_option maxRecDepth 100000 in
theorem t_Ga_taken_0 {X : gX} {r : (Int32 × gS)} (C : gC X b_Ga_taken_c R_Ga 4 5 115) (hR : ∀ pc lv, decode b_Ga_taken_c pc = .ok (.ireturn, 1) → G X pc lv [.int r.1] r.2) (x1 : Int32) (x2 : Int32) (x3 : Int32) (σ : gS) (h : b_Ga_taken_0 x1 x2 x3 σ = some r) : G X 0 [(0, .ref (gA X 0)), (1, .int x1), (2, .int x2), (3, .int x3)] [] σ := by
  unfold b_Ga_taken_0 at h
  refine r_aload_n C 0 d_Ga_taken_0 rfl rfl ?_
  obtain ⟨r_1, er_1, h⟩ := bind_some h
  refine r_callV C (As := []) (rest := []) (st1 := [.int r_1]) (c_Ga_isEmpty X.1.2.1 σ  er_1) k_Ga_isEmpty m_283 (by decide) cel_Ga rfl rfl rfl rfl (Nat.le_of_ble_eq_true rfl) ⟨Nat.le_of_ble_eq_true rfl, Nat.le_of_ble_eq_true rfl⟩ d_Ga_taken_1 rfl ?_
  refine r_if_eq C (tgt := 10) d_Ga_taken_4 (by decide) (fun hc_2 => ?_) (fun hc_2 => ?_)
  · rw [if_pos hc_2] at h
    refine r_iload_n C 1 d_Ga_taken_10 rfl rfl ?_
    refine r_iconst C (v := 1) d_Ga_taken_11 (by decide) ?_
    refine r_sipush C (v := 200) d_Ga_taken_12 (by decide) ?_
    obtain ⟨r_3, er_3, h⟩ := bind_some h
    refine r_callS C (As := [.int x1, .int 1, .int 200]) (rest := []) (st1 := [.int r_3]) (c_Ga_isAmong X.1.2.1 σ x1 1 200 er_3) k_Ga_isAmong m_16 rfl rfl rfl (Nat.le_of_ble_eq_true rfl) ⟨Nat.le_of_ble_eq_true rfl, Nat.le_of_ble_eq_true rfl⟩ d_Ga_taken_15 rfl ?_
    refine r_if_eq C (tgt := 30) d_Ga_taken_18 (by decide) (fun hc_4 => ?_) (fun hc_4 => ?_)
    · rw [if_pos hc_4] at h
      refine r_bipush C (v := (-2)) d_Ga_taken_30 (by decide) ?_
      cases h
      exact hR _ _ d_Ga_taken_32
    · rw [if_neg hc_4] at h
      refine r_aload_n C 0 d_Ga_taken_21 rfl rfl ?_
      refine r_iload_n C 2 d_Ga_taken_22 rfl rfl ?_
      refine r_iload_n C 3 d_Ga_taken_23 rfl rfl ?_
      obtain ⟨r_5, er_5, h⟩ := bind_some h
      refine r_callV C (As := [.int x2, .int x3]) (rest := []) (st1 := [.int r_5]) (c_Ga_isPlan X.1.2.1 σ x2 x3 er_5) k_Ga_isPlan m_294 (by decide) cel_Ga rfl rfl rfl rfl (Nat.le_of_ble_eq_true rfl) ⟨Nat.le_of_ble_eq_true rfl, Nat.le_of_ble_eq_true rfl⟩ d_Ga_taken_24 rfl ?_
      refine r_if_ne C (tgt := 33) d_Ga_taken_27 (by decide) (fun hc_6 => ?_) (fun hc_6 => ?_)
      · rw [if_neg hc_6] at h
        refine r_aload_n C 0 d_Ga_taken_33 rfl rfl ?_
        refine q_Ga_21 C d_Ga_taken_34 ?_
        obtain ⟨r_7, er_7, h⟩ := bind_some h
        refine r_callV C (As := []) (rest := []) (st1 := []) (c_Ta_fillWhole X.1.2.1 σ  er_7) k_Ta_fillWhole m_270 (by decide) cel_Ta rfl rfl rfl rfl (Nat.le_of_ble_eq_true rfl) ⟨Nat.le_of_ble_eq_true rfl, Nat.le_of_ble_eq_true rfl⟩ d_Ga_taken_37 rfl ?_
        refine r_aload_n C 0 d_Ga_taken_40 rfl rfl ?_
        refine q_Ga_44 C d_Ga_taken_41 ?_
        refine r_iload_n C 1 d_Ga_taken_44 rfl rfl ?_
        obtain ⟨r_8, er_8, h⟩ := bind_some h
        refine r_callV C (As := [.int x1]) (rest := []) (st1 := []) (c_An_playTo X.1.2.1 r_7 x1 er_8) k_An_playTo m_392 (by decide) cel_An rfl rfl rfl rfl (Nat.le_of_ble_eq_true rfl) ⟨Nat.le_of_ble_eq_true rfl, Nat.le_of_ble_eq_true rfl⟩ d_Ga_taken_45 rfl ?_
        refine r_aload_n C 0 d_Ga_taken_48 rfl rfl ?_
        refine q_Ga_44 C d_Ga_taken_49 ?_
        refine r_iload_n C 1 d_Ga_taken_52 rfl rfl ?_
        refine r_iload_n C 2 d_Ga_taken_53 rfl rfl ?_
        refine r_iload_n C 3 d_Ga_taken_54 rfl rfl ?_
        obtain ⟨r_9, er_9, h⟩ := bind_some h
        refine r_callV C (As := [.int x1, .int x2, .int x3]) (rest := []) (st1 := [.int r_9]) (c_An_timesTaken X.1.2.1 r_8 x1 x2 x3 er_9) k_An_timesTaken m_396 (by decide) cel_An rfl rfl rfl rfl (Nat.le_of_ble_eq_true rfl) ⟨Nat.le_of_ble_eq_true rfl, Nat.le_of_ble_eq_true rfl⟩ d_Ga_taken_55 rfl ?_
        cases h
        exact hR _ _ d_Ga_taken_58
      · rw [if_pos hc_6] at h
        refine r_bipush C (v := (-2)) d_Ga_taken_30 (by decide) ?_
        cases h
        exact hR _ _ d_Ga_taken_32
  · rw [if_neg hc_2] at h
    refine r_ldc C (v := (-1000000)) m_287 d_Ga_taken_7 ?_
    cases h
    exact hR _ _ d_Ga_taken_9
set_option maxHeartbeats 4000000 in
set_option maxRecDepth 100000 in
theorem c_Ga_taken (l : Launch) (σ : gS) (x1 : Int32) (x2 : Int32) (x3 : Int32) {r : (Int32 × gS)} (h : f_Ga_taken σ x1 x2 x3 = some r) : gMet l y_Ga_taken b_Ga_taken_c 4 (some .int) 5 115 (fun a => [.ref (a 0), .int x1, .int x2, .int x3]) σ (some (.int r.1)) r.2 := by
  refine gMet_i (by decide +kernel) (fun a => Nat.le_of_ble_eq_true rfl) (fun X _ C hR => ?_)
  refine r_sub [0, 1, 2, 3] (lv' := [(0, .ref (gA X 0)), (1, .int x1), (2, .int x2), (3, .int x3)]) rfl ?_
  exact t_Ga_taken_0 C hR x1 x2 x3 σ h
theorem d_An_sumAgainst_0 : decode b_An_sumAgainst_c 0 = .ok (.iconst 0, 1) := by decide +kernel
theorem d_An_sumAgainst_1 : decode b_An_sumAgainst_c 1 = .ok (.istore_n 3, 1) := by decide +kernel
theorem d_An_sumAgainst_2 : decode b_An_sumAgainst_c 2 = .ok (.iconst 0, 1) := by decide +kernel
theorem d_An_sumAgainst_3 : decode b_An_sumAgainst_c 3 = .ok (.istore 4, 2) := by decide +kernel
theorem d_An_sumAgainst_5 : decode b_An_sumAgainst_c 5 = .ok (.iload 4, 2) := by decide +kernel
theorem d_An_sumAgainst_7 : decode b_An_sumAgainst_c 7 = .ok (.iload_n 2, 1) := by decide +kernel
theorem d_An_sumAgainst_8 : decode b_An_sumAgainst_c 8 = .ok (.if_icmp .ge 30, 3) := by decide +kernel
theorem d_An_sumAgainst_11 : decode b_An_sumAgainst_c 11 = .ok (.iload_n 3, 1) := by decide +kernel
theorem d_An_sumAgainst_12 : decode b_An_sumAgainst_c 12 = .ok (.aload_n 0, 1) := by decide +kernel
theorem d_An_sumAgainst_13 : decode b_An_sumAgainst_c 13 = .ok (.getfield 30, 3) := by decide +kernel
theorem d_An_sumAgainst_16 : decode b_An_sumAgainst_c 16 = .ok (.iconst 0, 1) := by decide +kernel
theorem d_An_sumAgainst_17 : decode b_An_sumAgainst_c 17 = .ok (.aload_n 0, 1) := by decide +kernel
theorem d_An_sumAgainst_18 : decode b_An_sumAgainst_c 18 = .ok (.getfield 11, 3) := by decide +kernel
theorem d_An_sumAgainst_21 : decode b_An_sumAgainst_c 21 = .ok (.iconst 0, 1) := by decide +kernel
theorem d_An_sumAgainst_22 : decode b_An_sumAgainst_c 22 = .ok (.aaload, 1) := by decide +kernel
theorem d_An_sumAgainst_23 : decode b_An_sumAgainst_c 23 = .ok (.iload 4, 2) := by decide +kernel
theorem d_An_sumAgainst_25 : decode b_An_sumAgainst_c 25 = .ok (.iaload, 1) := by decide +kernel
theorem d_An_sumAgainst_26 : decode b_An_sumAgainst_c 26 = .ok (.iload_n 1, 1) := by decide +kernel
theorem d_An_sumAgainst_27 : decode b_An_sumAgainst_c 27 = .ok (.invokevirtual 55, 3) := by decide +kernel
theorem d_An_sumAgainst_30 : decode b_An_sumAgainst_c 30 = .ok (.iadd, 1) := by decide +kernel
theorem d_An_sumAgainst_31 : decode b_An_sumAgainst_c 31 = .ok (.istore_n 3, 1) := by decide +kernel
theorem d_An_sumAgainst_32 : decode b_An_sumAgainst_c 32 = .ok (.iinc 4 1, 3) := by decide +kernel
theorem d_An_sumAgainst_35 : decode b_An_sumAgainst_c 35 = .ok (.goto (-30), 3) := by decide +kernel
theorem d_An_sumAgainst_38 : decode b_An_sumAgainst_c 38 = .ok (.iload_n 3, 1) := by decide +kernel
theorem d_An_sumAgainst_39 : decode b_An_sumAgainst_c 39 = .ok (.ireturn, 1) := by decide +kernel
/-! GameRows$Answering.sumAgainst(II)I -/
set_option maxHeartbeats 4000000 in
set_option maxRecDepth 100000 in
theorem t_An_sumAgainst_5 {X : gX} {r : Int32} {σ : gS} (C : gC X b_An_sumAgainst_c R_An 5 1 23) (hR : ∀ pc lv, decode b_An_sumAgainst_c pc = .ok (.ireturn, 1) → G X pc lv [.int r] σ) {k5 : Int32 × Int32 × Int32 × Int32 → Option Int32}  (hk5 : ∀ x, k5 x = some r → G X 5 [(0, .ref (gA X 39)), (1, .int x.1), (2, .int x.2.1), (3, .int x.2.2.1), (4, .int x.2.2.2)] [] σ) (x1 : Int32) (x2 : Int32) (x3 : Int32) (x4 : Int32) (h : b_An_sumAgainst_5 σ k5 x1 x2 x3 x4 = some r) : G X 5 [(0, .ref (gA X 39)), (1, .int x1), (2, .int x2), (3, .int x3), (4, .int x4)] [] σ := by
  unfold b_An_sumAgainst_5 at h
  refine r_iload C 4 d_An_sumAgainst_5 rfl ?_
  refine r_iload_n C 2 d_An_sumAgainst_7 rfl rfl ?_
  refine r_icmp_ge C (tgt := 38) d_An_sumAgainst_8 (by decide) (fun hc_1 => ?_) (fun hc_1 => ?_)
  · rw [if_pos hc_1] at h
    refine r_iload_n C 3 d_An_sumAgainst_38 rfl rfl ?_
    cases h
    exact hR _ _ d_An_sumAgainst_39
  · rw [if_neg hc_1] at h
    refine r_iload_n C 3 d_An_sumAgainst_11 rfl rfl ?_
    refine r_aload_n C 0 d_An_sumAgainst_12 rfl rfl ?_
    refine q_An_30 C d_An_sumAgainst_13 ?_
    refine r_iconst C (v := 0) d_An_sumAgainst_16 (by decide) ?_
    refine r_aload_n C 0 d_An_sumAgainst_17 rfl rfl ?_
    refine q_An_11 C d_An_sumAgainst_18 ?_
    refine r_iconst C (v := 0) d_An_sumAgainst_21 (by decide) ?_
    obtain ⟨hi_2, h⟩ := ck_some h
    refine o_40 C (k' := 41) hi_2 rfl d_An_sumAgainst_22 ?_
    refine r_iload C 4 d_An_sumAgainst_23 rfl ?_
    obtain ⟨hi_3, h⟩ := ck_some h
    refine r_iald C hi_3 d_An_sumAgainst_25 ?_
    refine r_iload_n C 1 d_An_sumAgainst_26 rfl rfl ?_
    obtain ⟨r_4, er_4, h⟩ := bind_some h
    refine r_callV C (As := [.int 0, .int (gI σ 41 x4.toNatClampNeg), .int x1]) (rest := [.int x3]) (st1 := [.int r_4, .int x3]) (c_Ta_valueOfPair X.1.2.1 σ 0 (gI σ 41 x4.toNatClampNeg) x1 er_4) k_Ta_valueOfPair m_400 (by decide) cel_Ta rfl rfl rfl rfl (Nat.le_of_ble_eq_true rfl) ⟨Nat.le_of_ble_eq_true rfl, Nat.le_of_ble_eq_true rfl⟩ d_An_sumAgainst_27 rfl ?_
    refine r_iadd C d_An_sumAgainst_30 ?_
    obtain ⟨x3_5, ex3_5, h⟩ := bnd_some h
    refine r_istore_n C (lv' := [(3, .int x3_5), (0, .ref (gA X 39)), (1, .int x1), (2, .int x2), (4, .int x4)]) d_An_sumAgainst_31 rfl (by decide) ex3_5 rfl ?_
    obtain ⟨x4_6, ex4_6, h⟩ := bnd_some h
    refine r_iinc C 4 (lv' := [(4, .int x4_6), (3, .int x3_5), (0, .ref (gA X 39)), (1, .int x1), (2, .int x2)]) d_An_sumAgainst_32 rfl (by rw [ex4_6]; rfl) (by decide) rfl ?_
    refine r_goto C (tgt := 5) d_An_sumAgainst_35 (by decide) ?_
    refine r_sub [2, 3, 4, 1, 0] (lv' := [(0, .ref (gA X 39)), (1, .int x1), (2, .int x2), (3, .int x3_5), (4, .int x4_6)]) rfl ?_
    exact hk5 _ h
set_option maxHeartbeats 4000000 in
set_option maxRecDepth 100000 in
theorem u_An_sumAgainst_5 {X : gX} {r : Int32} {σ : gS} (C : gC X b_An_sumAgainst_c R_An 5 1 23) (hR : ∀ pc lv, decode b_An_sumAgainst_c pc = .ok (.ireturn, 1) → G X pc lv [.int r] σ)  (x : Int32 × Int32 × Int32 × Int32) (h : l_An_sumAgainst_5 σ x = some r) : G X 5 [(0, .ref (gA X 39)), (1, .int x.1), (2, .int x.2.1), (3, .int x.2.2.1), (4, .int x.2.2.2)] [] σ :=
  lpF_ind (P := fun x => G X 5 [(0, .ref (gA X 39)), (1, .int x.1), (2, .int x.2.1), (3, .int x.2.2.1), (4, .int x.2.2.2)] [] σ) (fun k hk x h => t_An_sumAgainst_5 C hR hk x.1 x.2.1 x.2.2.1 x.2.2.2 h) gF x h
set_option maxHeartbeats 4000000 in
set_option maxRecDepth 100000 in
theorem t_An_sumAgainst_0 {X : gX} {r : Int32} {σ : gS} (C : gC X b_An_sumAgainst_c R_An 5 1 23) (hR : ∀ pc lv, decode b_An_sumAgainst_c pc = .ok (.ireturn, 1) → G X pc lv [.int r] σ) (x1 : Int32) (x2 : Int32) (h : b_An_sumAgainst_0 σ x1 x2 = some r) : G X 0 [(0, .ref (gA X 39)), (1, .int x1), (2, .int x2)] [] σ := by
  unfold b_An_sumAgainst_0 at h
  refine r_iconst C (v := 0) d_An_sumAgainst_0 (by decide) ?_
  refine r_istore_n C (lv' := [(3, .int 0), (0, .ref (gA X 39)), (1, .int x1), (2, .int x2)]) d_An_sumAgainst_1 rfl (by decide) rfl rfl ?_
  refine r_iconst C (v := 0) d_An_sumAgainst_2 (by decide) ?_
  refine r_istore C (lv' := [(4, .int 0), (3, .int 0), (0, .ref (gA X 39)), (1, .int x1), (2, .int x2)]) d_An_sumAgainst_3 (by decide) rfl rfl ?_
  refine r_sub [2, 3, 4, 1, 0] (lv' := [(0, .ref (gA X 39)), (1, .int x1), (2, .int x2), (3, .int 0), (4, .int 0)]) rfl ?_
  exact u_An_sumAgainst_5 C hR  (x1, x2, 0, 0) h
set_option maxHeartbeats 4000000 in
set_option maxRecDepth 100000 in
theorem c_An_sumAgainst (l : Launch) (σ : gS) (x1 : Int32) (x2 : Int32) {r : Int32} (h : f_An_sumAgainst σ x1 x2 = some r) : gMet l y_An_sumAgainst b_An_sumAgainst_c 5 (some .int) 1 23 (fun a => [.ref (a 39), .int x1, .int x2]) σ (some (.int r)) σ := by
  refine gMet_i (by decide +kernel) (fun a => Nat.le_of_ble_eq_true rfl) (fun X _ C hR => ?_)
  refine r_sub [0, 1, 2] (lv' := [(0, .ref (gA X 39)), (1, .int x1), (2, .int x2)]) rfl ?_
  exact t_An_sumAgainst_0 C hR x1 x2 h
theorem d_An_lowBehind_0 : decode b_An_lowBehind_c 0 = .ok (.aload_n 0, 1) := by decide +kernel
theorem d_An_lowBehind_1 : decode b_An_lowBehind_c 1 = .ok (.iconst 0, 1) := by decide +kernel
theorem d_An_lowBehind_2 : decode b_An_lowBehind_c 2 = .ok (.iload_n 1, 1) := by decide +kernel
theorem d_An_lowBehind_3 : decode b_An_lowBehind_c 3 = .ok (.invokevirtual 34, 3) := by decide +kernel
theorem d_An_lowBehind_6 : decode b_An_lowBehind_c 6 = .ok (.istore_n 2, 1) := by decide +kernel
theorem d_An_lowBehind_7 : decode b_An_lowBehind_c 7 = .ok (.iconst 1, 1) := by decide +kernel
theorem d_An_lowBehind_8 : decode b_An_lowBehind_c 8 = .ok (.istore_n 3, 1) := by decide +kernel
theorem d_An_lowBehind_9 : decode b_An_lowBehind_c 9 = .ok (.iload_n 3, 1) := by decide +kernel
theorem d_An_lowBehind_10 : decode b_An_lowBehind_c 10 = .ok (.aload_n 0, 1) := by decide +kernel
theorem d_An_lowBehind_11 : decode b_An_lowBehind_c 11 = .ok (.getfield 30, 3) := by decide +kernel
theorem d_An_lowBehind_14 : decode b_An_lowBehind_c 14 = .ok (.getfield 38, 3) := by decide +kernel
theorem d_An_lowBehind_17 : decode b_An_lowBehind_c 17 = .ok (.iconst 1, 1) := by decide +kernel
theorem d_An_lowBehind_18 : decode b_An_lowBehind_c 18 = .ok (.iaload, 1) := by decide +kernel
theorem d_An_lowBehind_19 : decode b_An_lowBehind_c 19 = .ok (.if_icmp .ge 20, 3) := by decide +kernel
theorem d_An_lowBehind_22 : decode b_An_lowBehind_c 22 = .ok (.iload_n 2, 1) := by decide +kernel
theorem d_An_lowBehind_23 : decode b_An_lowBehind_c 23 = .ok (.aload_n 0, 1) := by decide +kernel
theorem d_An_lowBehind_24 : decode b_An_lowBehind_c 24 = .ok (.iload_n 3, 1) := by decide +kernel
theorem d_An_lowBehind_25 : decode b_An_lowBehind_c 25 = .ok (.iload_n 1, 1) := by decide +kernel
theorem d_An_lowBehind_26 : decode b_An_lowBehind_c 26 = .ok (.invokevirtual 34, 3) := by decide +kernel
theorem d_An_lowBehind_29 : decode b_An_lowBehind_c 29 = .ok (.invokestatic 44, 3) := by decide +kernel
theorem d_An_lowBehind_32 : decode b_An_lowBehind_c 32 = .ok (.istore_n 2, 1) := by decide +kernel
theorem d_An_lowBehind_33 : decode b_An_lowBehind_c 33 = .ok (.iinc 3 1, 3) := by decide +kernel
theorem d_An_lowBehind_36 : decode b_An_lowBehind_c 36 = .ok (.goto (-27), 3) := by decide +kernel
theorem d_An_lowBehind_39 : decode b_An_lowBehind_c 39 = .ok (.iload_n 2, 1) := by decide +kernel
theorem d_An_lowBehind_40 : decode b_An_lowBehind_c 40 = .ok (.ireturn, 1) := by decide +kernel
/-! GameRows$Answering.lowBehind(I)I -/
set_option maxHeartbeats 4000000 in
set_option maxRecDepth 100000 in
theorem t_An_lowBehind_9 {X : gX} {r : Int32} {σ : gS} (C : gC X b_An_lowBehind_c R_An 4 2 47) (hR : ∀ pc lv, decode b_An_lowBehind_c pc = .ok (.ireturn, 1) → G X pc lv [.int r] σ) {k9 : Int32 × Int32 × Int32 → Option Int32}  (hk9 : ∀ x, k9 x = some r → G X 9 [(0, .ref (gA X 39)), (1, .int x.1), (2, .int x.2.1), (3, .int x.2.2)] [] σ) (x1 : Int32) (x2 : Int32) (x3 : Int32) (h : b_An_lowBehind_9 σ k9 x1 x2 x3 = some r) : G X 9 [(0, .ref (gA X 39)), (1, .int x1), (2, .int x2), (3, .int x3)] [] σ := by
  unfold b_An_lowBehind_9 at h
  refine r_iload_n C 3 d_An_lowBehind_9 rfl rfl ?_
  refine r_aload_n C 0 d_An_lowBehind_10 rfl rfl ?_
  refine q_An_30 C d_An_lowBehind_11 ?_
  refine q_An_38 C d_An_lowBehind_14 ?_
  refine r_iconst C (v := 1) d_An_lowBehind_17 (by decide) ?_
  obtain ⟨hi_1, h⟩ := ck_some h
  refine r_iald C hi_1 d_An_lowBehind_18 ?_
  refine r_icmp_ge C (tgt := 39) d_An_lowBehind_19 (by decide) (fun hc_2 => ?_) (fun hc_2 => ?_)
  · rw [if_pos hc_2] at h
    refine r_iload_n C 2 d_An_lowBehind_39 rfl rfl ?_
    cases h
    exact hR _ _ d_An_lowBehind_40
  · rw [if_neg hc_2] at h
    refine r_iload_n C 2 d_An_lowBehind_22 rfl rfl ?_
    refine r_aload_n C 0 d_An_lowBehind_23 rfl rfl ?_
    refine r_iload_n C 3 d_An_lowBehind_24 rfl rfl ?_
    refine r_iload_n C 1 d_An_lowBehind_25 rfl rfl ?_
    obtain ⟨r_3, er_3, h⟩ := bind_some h
    refine r_callV C (As := [.int x3, .int x1]) (rest := [.int x2]) (st1 := [.int r_3, .int x2]) (c_An_sumAgainst X.1.2.1 σ x3 x1 er_3) k_An_sumAgainst m_401 (by decide) cel_An rfl rfl rfl rfl (Nat.le_of_ble_eq_true rfl) ⟨Nat.le_of_ble_eq_true rfl, Nat.le_of_ble_eq_true rfl⟩ d_An_lowBehind_26 rfl ?_
    obtain ⟨r_4, er_4, h⟩ := bind_some h
    refine r_callS C (As := [.int x2, .int r_3]) (rest := []) (st1 := [.int r_4]) (c_Ma_min X.1.2.1 σ x2 r_3 er_4) k_Ma_min m_405 rfl rfl rfl (Nat.le_of_ble_eq_true rfl) ⟨Nat.le_of_ble_eq_true rfl, Nat.le_of_ble_eq_true rfl⟩ d_An_lowBehind_29 rfl ?_
    refine r_istore_n C (lv' := [(2, .int r_4), (0, .ref (gA X 39)), (1, .int x1), (3, .int x3)]) d_An_lowBehind_32 rfl (by decide) rfl rfl ?_
    obtain ⟨x3_5, ex3_5, h⟩ := bnd_some h
    refine r_iinc C 3 (lv' := [(3, .int x3_5), (2, .int r_4), (0, .ref (gA X 39)), (1, .int x1)]) d_An_lowBehind_33 rfl (by rw [ex3_5]; rfl) (by decide) rfl ?_
    refine r_goto C (tgt := 9) d_An_lowBehind_36 (by decide) ?_
    refine r_sub [2, 3, 1, 0] (lv' := [(0, .ref (gA X 39)), (1, .int x1), (2, .int r_4), (3, .int x3_5)]) rfl ?_
    exact hk9 _ h
set_option maxHeartbeats 4000000 in
set_option maxRecDepth 100000 in
theorem u_An_lowBehind_9 {X : gX} {r : Int32} {σ : gS} (C : gC X b_An_lowBehind_c R_An 4 2 47) (hR : ∀ pc lv, decode b_An_lowBehind_c pc = .ok (.ireturn, 1) → G X pc lv [.int r] σ)  (x : Int32 × Int32 × Int32) (h : l_An_lowBehind_9 σ x = some r) : G X 9 [(0, .ref (gA X 39)), (1, .int x.1), (2, .int x.2.1), (3, .int x.2.2)] [] σ :=
  lpF_ind (P := fun x => G X 9 [(0, .ref (gA X 39)), (1, .int x.1), (2, .int x.2.1), (3, .int x.2.2)] [] σ) (fun k hk x h => t_An_lowBehind_9 C hR hk x.1 x.2.1 x.2.2 h) gF x h
set_option maxHeartbeats 4000000 in
set_option maxRecDepth 100000 in
theorem t_An_lowBehind_0 {X : gX} {r : Int32} {σ : gS} (C : gC X b_An_lowBehind_c R_An 4 2 47) (hR : ∀ pc lv, decode b_An_lowBehind_c pc = .ok (.ireturn, 1) → G X pc lv [.int r] σ) (x1 : Int32) (h : b_An_lowBehind_0 σ x1 = some r) : G X 0 [(0, .ref (gA X 39)), (1, .int x1)] [] σ := by
  unfold b_An_lowBehind_0 at h
  refine r_aload_n C 0 d_An_lowBehind_0 rfl rfl ?_
  refine r_iconst C (v := 0) d_An_lowBehind_1 (by decide) ?_
  refine r_iload_n C 1 d_An_lowBehind_2 rfl rfl ?_
  obtain ⟨r_1, er_1, h⟩ := bind_some h
  refine r_callV C (As := [.int 0, .int x1]) (rest := []) (st1 := [.int r_1]) (c_An_sumAgainst X.1.2.1 σ 0 x1 er_1) k_An_sumAgainst m_401 (by decide) cel_An rfl rfl rfl rfl (Nat.le_of_ble_eq_true rfl) ⟨Nat.le_of_ble_eq_true rfl, Nat.le_of_ble_eq_true rfl⟩ d_An_lowBehind_3 rfl ?_
  refine r_istore_n C (lv' := [(2, .int r_1), (0, .ref (gA X 39)), (1, .int x1)]) d_An_lowBehind_6 rfl (by decide) rfl rfl ?_
  refine r_iconst C (v := 1) d_An_lowBehind_7 (by decide) ?_
  refine r_istore_n C (lv' := [(3, .int 1), (2, .int r_1), (0, .ref (gA X 39)), (1, .int x1)]) d_An_lowBehind_8 rfl (by decide) rfl rfl ?_
  refine r_sub [2, 3, 1, 0] (lv' := [(0, .ref (gA X 39)), (1, .int x1), (2, .int r_1), (3, .int 1)]) rfl ?_
  exact u_An_lowBehind_9 C hR  (x1, r_1, 1) h
set_option maxHeartbeats 4000000 in
set_option maxRecDepth 100000 in
theorem c_An_lowBehind (l : Launch) (σ : gS) (x1 : Int32) {r : Int32} (h : f_An_lowBehind σ x1 = some r) : gMet l y_An_lowBehind b_An_lowBehind_c 4 (some .int) 2 47 (fun a => [.ref (a 39), .int x1]) σ (some (.int r)) σ := by
  refine gMet_i (by decide +kernel) (fun a => Nat.le_of_ble_eq_true rfl) (fun X _ C hR => ?_)
  refine r_sub [0, 1] (lv' := [(0, .ref (gA X 39)), (1, .int x1)]) rfl ?_
  exact t_An_lowBehind_0 C hR x1 h
theorem d_An_sumFor_0 : decode b_An_sumFor_c 0 = .ok (.iconst 0, 1) := by decide +kernel
theorem d_An_sumFor_1 : decode b_An_sumFor_c 1 = .ok (.istore_n 3, 1) := by decide +kernel
theorem d_An_sumFor_2 : decode b_An_sumFor_c 2 = .ok (.iconst 0, 1) := by decide +kernel
theorem d_An_sumFor_3 : decode b_An_sumFor_c 3 = .ok (.istore 4, 2) := by decide +kernel
theorem d_An_sumFor_5 : decode b_An_sumFor_c 5 = .ok (.iload 4, 2) := by decide +kernel
theorem d_An_sumFor_7 : decode b_An_sumFor_c 7 = .ok (.iload_n 2, 1) := by decide +kernel
theorem d_An_sumFor_8 : decode b_An_sumFor_c 8 = .ok (.if_icmp .ge 30, 3) := by decide +kernel
theorem d_An_sumFor_11 : decode b_An_sumFor_c 11 = .ok (.iload_n 3, 1) := by decide +kernel
theorem d_An_sumFor_12 : decode b_An_sumFor_c 12 = .ok (.aload_n 0, 1) := by decide +kernel
theorem d_An_sumFor_13 : decode b_An_sumFor_c 13 = .ok (.getfield 30, 3) := by decide +kernel
theorem d_An_sumFor_16 : decode b_An_sumFor_c 16 = .ok (.iconst 0, 1) := by decide +kernel
theorem d_An_sumFor_17 : decode b_An_sumFor_c 17 = .ok (.iload_n 1, 1) := by decide +kernel
theorem d_An_sumFor_18 : decode b_An_sumFor_c 18 = .ok (.aload_n 0, 1) := by decide +kernel
theorem d_An_sumFor_19 : decode b_An_sumFor_c 19 = .ok (.getfield 11, 3) := by decide +kernel
theorem d_An_sumFor_22 : decode b_An_sumFor_c 22 = .ok (.iconst 1, 1) := by decide +kernel
theorem d_An_sumFor_23 : decode b_An_sumFor_c 23 = .ok (.aaload, 1) := by decide +kernel
theorem d_An_sumFor_24 : decode b_An_sumFor_c 24 = .ok (.iload 4, 2) := by decide +kernel
theorem d_An_sumFor_26 : decode b_An_sumFor_c 26 = .ok (.iaload, 1) := by decide +kernel
theorem d_An_sumFor_27 : decode b_An_sumFor_c 27 = .ok (.invokevirtual 55, 3) := by decide +kernel
theorem d_An_sumFor_30 : decode b_An_sumFor_c 30 = .ok (.iadd, 1) := by decide +kernel
theorem d_An_sumFor_31 : decode b_An_sumFor_c 31 = .ok (.istore_n 3, 1) := by decide +kernel
theorem d_An_sumFor_32 : decode b_An_sumFor_c 32 = .ok (.iinc 4 1, 3) := by decide +kernel
theorem d_An_sumFor_35 : decode b_An_sumFor_c 35 = .ok (.goto (-30), 3) := by decide +kernel
theorem d_An_sumFor_38 : decode b_An_sumFor_c 38 = .ok (.iload_n 3, 1) := by decide +kernel
theorem d_An_sumFor_39 : decode b_An_sumFor_c 39 = .ok (.ireturn, 1) := by decide +kernel
/-! GameRows$Answering.sumFor(II)I -/
set_option maxHeartbeats 4000000 in
set_option maxRecDepth 100000 in
theorem t_An_sumFor_5 {X : gX} {r : Int32} {σ : gS} (C : gC X b_An_sumFor_c R_An 5 1 23) (hR : ∀ pc lv, decode b_An_sumFor_c pc = .ok (.ireturn, 1) → G X pc lv [.int r] σ) {k5 : Int32 × Int32 × Int32 × Int32 → Option Int32}  (hk5 : ∀ x, k5 x = some r → G X 5 [(0, .ref (gA X 39)), (1, .int x.1), (2, .int x.2.1), (3, .int x.2.2.1), (4, .int x.2.2.2)] [] σ) (x1 : Int32) (x2 : Int32) (x3 : Int32) (x4 : Int32) (h : b_An_sumFor_5 σ k5 x1 x2 x3 x4 = some r) : G X 5 [(0, .ref (gA X 39)), (1, .int x1), (2, .int x2), (3, .int x3), (4, .int x4)] [] σ := by
  unfold b_An_sumFor_5 at h
  refine r_iload C 4 d_An_sumFor_5 rfl ?_
  refine r_iload_n C 2 d_An_sumFor_7 rfl rfl ?_
  refine r_icmp_ge C (tgt := 38) d_An_sumFor_8 (by decide) (fun hc_1 => ?_) (fun hc_1 => ?_)
  · rw [if_pos hc_1] at h
    refine r_iload_n C 3 d_An_sumFor_38 rfl rfl ?_
    cases h
    exact hR _ _ d_An_sumFor_39
  · rw [if_neg hc_1] at h
    refine r_iload_n C 3 d_An_sumFor_11 rfl rfl ?_
    refine r_aload_n C 0 d_An_sumFor_12 rfl rfl ?_
    refine q_An_30 C d_An_sumFor_13 ?_
    refine r_iconst C (v := 0) d_An_sumFor_16 (by decide) ?_
    refine r_iload_n C 1 d_An_sumFor_17 rfl rfl ?_
    refine r_aload_n C 0 d_An_sumFor_18 rfl rfl ?_
    refine q_An_11 C d_An_sumFor_19 ?_
    refine r_iconst C (v := 1) d_An_sumFor_22 (by decide) ?_
    obtain ⟨hi_2, h⟩ := ck_some h
    refine o_40 C (k' := 42) hi_2 rfl d_An_sumFor_23 ?_
    refine r_iload C 4 d_An_sumFor_24 rfl ?_
    obtain ⟨hi_3, h⟩ := ck_some h
    refine r_iald C hi_3 d_An_sumFor_26 ?_
    obtain ⟨r_4, er_4, h⟩ := bind_some h
    refine r_callV C (As := [.int 0, .int x1, .int (gI σ 42 x4.toNatClampNeg)]) (rest := [.int x3]) (st1 := [.int r_4, .int x3]) (c_Ta_valueOfPair X.1.2.1 σ 0 x1 (gI σ 42 x4.toNatClampNeg) er_4) k_Ta_valueOfPair m_400 (by decide) cel_Ta rfl rfl rfl rfl (Nat.le_of_ble_eq_true rfl) ⟨Nat.le_of_ble_eq_true rfl, Nat.le_of_ble_eq_true rfl⟩ d_An_sumFor_27 rfl ?_
    refine r_iadd C d_An_sumFor_30 ?_
    obtain ⟨x3_5, ex3_5, h⟩ := bnd_some h
    refine r_istore_n C (lv' := [(3, .int x3_5), (0, .ref (gA X 39)), (1, .int x1), (2, .int x2), (4, .int x4)]) d_An_sumFor_31 rfl (by decide) ex3_5 rfl ?_
    obtain ⟨x4_6, ex4_6, h⟩ := bnd_some h
    refine r_iinc C 4 (lv' := [(4, .int x4_6), (3, .int x3_5), (0, .ref (gA X 39)), (1, .int x1), (2, .int x2)]) d_An_sumFor_32 rfl (by rw [ex4_6]; rfl) (by decide) rfl ?_
    refine r_goto C (tgt := 5) d_An_sumFor_35 (by decide) ?_
    refine r_sub [2, 3, 4, 1, 0] (lv' := [(0, .ref (gA X 39)), (1, .int x1), (2, .int x2), (3, .int x3_5), (4, .int x4_6)]) rfl ?_
    exact hk5 _ h
set_option maxHeartbeats 4000000 in
set_option maxRecDepth 100000 in
theorem u_An_sumFor_5 {X : gX} {r : Int32} {σ : gS} (C : gC X b_An_sumFor_c R_An 5 1 23) (hR : ∀ pc lv, decode b_An_sumFor_c pc = .ok (.ireturn, 1) → G X pc lv [.int r] σ)  (x : Int32 × Int32 × Int32 × Int32) (h : l_An_sumFor_5 σ x = some r) : G X 5 [(0, .ref (gA X 39)), (1, .int x.1), (2, .int x.2.1), (3, .int x.2.2.1), (4, .int x.2.2.2)] [] σ :=
  lpF_ind (P := fun x => G X 5 [(0, .ref (gA X 39)), (1, .int x.1), (2, .int x.2.1), (3, .int x.2.2.1), (4, .int x.2.2.2)] [] σ) (fun k hk x h => t_An_sumFor_5 C hR hk x.1 x.2.1 x.2.2.1 x.2.2.2 h) gF x h
set_option maxHeartbeats 4000000 in
set_option maxRecDepth 100000 in
theorem t_An_sumFor_0 {X : gX} {r : Int32} {σ : gS} (C : gC X b_An_sumFor_c R_An 5 1 23) (hR : ∀ pc lv, decode b_An_sumFor_c pc = .ok (.ireturn, 1) → G X pc lv [.int r] σ) (x1 : Int32) (x2 : Int32) (h : b_An_sumFor_0 σ x1 x2 = some r) : G X 0 [(0, .ref (gA X 39)), (1, .int x1), (2, .int x2)] [] σ := by
  unfold b_An_sumFor_0 at h
  refine r_iconst C (v := 0) d_An_sumFor_0 (by decide) ?_
  refine r_istore_n C (lv' := [(3, .int 0), (0, .ref (gA X 39)), (1, .int x1), (2, .int x2)]) d_An_sumFor_1 rfl (by decide) rfl rfl ?_
  refine r_iconst C (v := 0) d_An_sumFor_2 (by decide) ?_
  refine r_istore C (lv' := [(4, .int 0), (3, .int 0), (0, .ref (gA X 39)), (1, .int x1), (2, .int x2)]) d_An_sumFor_3 (by decide) rfl rfl ?_
  refine r_sub [2, 3, 4, 1, 0] (lv' := [(0, .ref (gA X 39)), (1, .int x1), (2, .int x2), (3, .int 0), (4, .int 0)]) rfl ?_
  exact u_An_sumFor_5 C hR  (x1, x2, 0, 0) h
set_option maxHeartbeats 4000000 in
set_option maxRecDepth 100000 in
theorem c_An_sumFor (l : Launch) (σ : gS) (x1 : Int32) (x2 : Int32) {r : Int32} (h : f_An_sumFor σ x1 x2 = some r) : gMet l y_An_sumFor b_An_sumFor_c 5 (some .int) 1 23 (fun a => [.ref (a 39), .int x1, .int x2]) σ (some (.int r)) σ := by
  refine gMet_i (by decide +kernel) (fun a => Nat.le_of_ble_eq_true rfl) (fun X _ C hR => ?_)
  refine r_sub [0, 1, 2] (lv' := [(0, .ref (gA X 39)), (1, .int x1), (2, .int x2)]) rfl ?_
  exact t_An_sumFor_0 C hR x1 x2 h
theorem d_An_highBehind_0 : decode b_An_highBehind_c 0 = .ok (.aload_n 0, 1) := by decide +kernel
theorem d_An_highBehind_1 : decode b_An_highBehind_c 1 = .ok (.iconst 0, 1) := by decide +kernel
theorem d_An_highBehind_2 : decode b_An_highBehind_c 2 = .ok (.iload_n 1, 1) := by decide +kernel
theorem d_An_highBehind_3 : decode b_An_highBehind_c 3 = .ok (.invokevirtual 49, 3) := by decide +kernel
theorem d_An_highBehind_6 : decode b_An_highBehind_c 6 = .ok (.istore_n 2, 1) := by decide +kernel
theorem d_An_highBehind_7 : decode b_An_highBehind_c 7 = .ok (.iconst 1, 1) := by decide +kernel
theorem d_An_highBehind_8 : decode b_An_highBehind_c 8 = .ok (.istore_n 3, 1) := by decide +kernel
theorem d_An_highBehind_9 : decode b_An_highBehind_c 9 = .ok (.iload_n 3, 1) := by decide +kernel
theorem d_An_highBehind_10 : decode b_An_highBehind_c 10 = .ok (.aload_n 0, 1) := by decide +kernel
theorem d_An_highBehind_11 : decode b_An_highBehind_c 11 = .ok (.getfield 30, 3) := by decide +kernel
theorem d_An_highBehind_14 : decode b_An_highBehind_c 14 = .ok (.getfield 38, 3) := by decide +kernel
theorem d_An_highBehind_17 : decode b_An_highBehind_c 17 = .ok (.iconst 0, 1) := by decide +kernel
theorem d_An_highBehind_18 : decode b_An_highBehind_c 18 = .ok (.iaload, 1) := by decide +kernel
theorem d_An_highBehind_19 : decode b_An_highBehind_c 19 = .ok (.if_icmp .ge 20, 3) := by decide +kernel
theorem d_An_highBehind_22 : decode b_An_highBehind_c 22 = .ok (.iload_n 2, 1) := by decide +kernel
theorem d_An_highBehind_23 : decode b_An_highBehind_c 23 = .ok (.aload_n 0, 1) := by decide +kernel
theorem d_An_highBehind_24 : decode b_An_highBehind_c 24 = .ok (.iload_n 3, 1) := by decide +kernel
theorem d_An_highBehind_25 : decode b_An_highBehind_c 25 = .ok (.iload_n 1, 1) := by decide +kernel
theorem d_An_highBehind_26 : decode b_An_highBehind_c 26 = .ok (.invokevirtual 49, 3) := by decide +kernel
theorem d_An_highBehind_29 : decode b_An_highBehind_c 29 = .ok (.invokestatic 52, 3) := by decide +kernel
theorem d_An_highBehind_32 : decode b_An_highBehind_c 32 = .ok (.istore_n 2, 1) := by decide +kernel
theorem d_An_highBehind_33 : decode b_An_highBehind_c 33 = .ok (.iinc 3 1, 3) := by decide +kernel
theorem d_An_highBehind_36 : decode b_An_highBehind_c 36 = .ok (.goto (-27), 3) := by decide +kernel
theorem d_An_highBehind_39 : decode b_An_highBehind_c 39 = .ok (.iload_n 2, 1) := by decide +kernel
theorem d_An_highBehind_40 : decode b_An_highBehind_c 40 = .ok (.ireturn, 1) := by decide +kernel
/-! GameRows$Answering.highBehind(I)I -/
set_option maxHeartbeats 4000000 in
set_option maxRecDepth 100000 in
theorem t_An_highBehind_9 {X : gX} {r : Int32} {σ : gS} (C : gC X b_An_highBehind_c R_An 4 2 47) (hR : ∀ pc lv, decode b_An_highBehind_c pc = .ok (.ireturn, 1) → G X pc lv [.int r] σ) {k9 : Int32 × Int32 × Int32 → Option Int32}  (hk9 : ∀ x, k9 x = some r → G X 9 [(0, .ref (gA X 39)), (1, .int x.1), (2, .int x.2.1), (3, .int x.2.2)] [] σ) (x1 : Int32) (x2 : Int32) (x3 : Int32) (h : b_An_highBehind_9 σ k9 x1 x2 x3 = some r) : G X 9 [(0, .ref (gA X 39)), (1, .int x1), (2, .int x2), (3, .int x3)] [] σ := by
  unfold b_An_highBehind_9 at h
  refine r_iload_n C 3 d_An_highBehind_9 rfl rfl ?_
  refine r_aload_n C 0 d_An_highBehind_10 rfl rfl ?_
  refine q_An_30 C d_An_highBehind_11 ?_
  refine q_An_38 C d_An_highBehind_14 ?_
  refine r_iconst C (v := 0) d_An_highBehind_17 (by decide) ?_
  obtain ⟨hi_1, h⟩ := ck_some h
  refine r_iald C hi_1 d_An_highBehind_18 ?_
  refine r_icmp_ge C (tgt := 39) d_An_highBehind_19 (by decide) (fun hc_2 => ?_) (fun hc_2 => ?_)
  · rw [if_pos hc_2] at h
    refine r_iload_n C 2 d_An_highBehind_39 rfl rfl ?_
    cases h
    exact hR _ _ d_An_highBehind_40
  · rw [if_neg hc_2] at h
    refine r_iload_n C 2 d_An_highBehind_22 rfl rfl ?_
    refine r_aload_n C 0 d_An_highBehind_23 rfl rfl ?_
    refine r_iload_n C 3 d_An_highBehind_24 rfl rfl ?_
    refine r_iload_n C 1 d_An_highBehind_25 rfl rfl ?_
    obtain ⟨r_3, er_3, h⟩ := bind_some h
    refine r_callV C (As := [.int x3, .int x1]) (rest := [.int x2]) (st1 := [.int r_3, .int x2]) (c_An_sumFor X.1.2.1 σ x3 x1 er_3) k_An_sumFor m_406 (by decide) cel_An rfl rfl rfl rfl (Nat.le_of_ble_eq_true rfl) ⟨Nat.le_of_ble_eq_true rfl, Nat.le_of_ble_eq_true rfl⟩ d_An_highBehind_26 rfl ?_
    obtain ⟨r_4, er_4, h⟩ := bind_some h
    refine r_callS C (As := [.int x2, .int r_3]) (rest := []) (st1 := [.int r_4]) (c_Ma_max X.1.2.1 σ x2 r_3 er_4) k_Ma_max m_376 rfl rfl rfl (Nat.le_of_ble_eq_true rfl) ⟨Nat.le_of_ble_eq_true rfl, Nat.le_of_ble_eq_true rfl⟩ d_An_highBehind_29 rfl ?_
    refine r_istore_n C (lv' := [(2, .int r_4), (0, .ref (gA X 39)), (1, .int x1), (3, .int x3)]) d_An_highBehind_32 rfl (by decide) rfl rfl ?_
    obtain ⟨x3_5, ex3_5, h⟩ := bnd_some h
    refine r_iinc C 3 (lv' := [(3, .int x3_5), (2, .int r_4), (0, .ref (gA X 39)), (1, .int x1)]) d_An_highBehind_33 rfl (by rw [ex3_5]; rfl) (by decide) rfl ?_
    refine r_goto C (tgt := 9) d_An_highBehind_36 (by decide) ?_
    refine r_sub [2, 3, 1, 0] (lv' := [(0, .ref (gA X 39)), (1, .int x1), (2, .int r_4), (3, .int x3_5)]) rfl ?_
    exact hk9 _ h
set_option maxHeartbeats 4000000 in
set_option maxRecDepth 100000 in
theorem u_An_highBehind_9 {X : gX} {r : Int32} {σ : gS} (C : gC X b_An_highBehind_c R_An 4 2 47) (hR : ∀ pc lv, decode b_An_highBehind_c pc = .ok (.ireturn, 1) → G X pc lv [.int r] σ)  (x : Int32 × Int32 × Int32) (h : l_An_highBehind_9 σ x = some r) : G X 9 [(0, .ref (gA X 39)), (1, .int x.1), (2, .int x.2.1), (3, .int x.2.2)] [] σ :=
  lpF_ind (P := fun x => G X 9 [(0, .ref (gA X 39)), (1, .int x.1), (2, .int x.2.1), (3, .int x.2.2)] [] σ) (fun k hk x h => t_An_highBehind_9 C hR hk x.1 x.2.1 x.2.2 h) gF x h
set_option maxHeartbeats 4000000 in
set_option maxRecDepth 100000 in
theorem t_An_highBehind_0 {X : gX} {r : Int32} {σ : gS} (C : gC X b_An_highBehind_c R_An 4 2 47) (hR : ∀ pc lv, decode b_An_highBehind_c pc = .ok (.ireturn, 1) → G X pc lv [.int r] σ) (x1 : Int32) (h : b_An_highBehind_0 σ x1 = some r) : G X 0 [(0, .ref (gA X 39)), (1, .int x1)] [] σ := by
  unfold b_An_highBehind_0 at h
  refine r_aload_n C 0 d_An_highBehind_0 rfl rfl ?_
  refine r_iconst C (v := 0) d_An_highBehind_1 (by decide) ?_
  refine r_iload_n C 1 d_An_highBehind_2 rfl rfl ?_
  obtain ⟨r_1, er_1, h⟩ := bind_some h
  refine r_callV C (As := [.int 0, .int x1]) (rest := []) (st1 := [.int r_1]) (c_An_sumFor X.1.2.1 σ 0 x1 er_1) k_An_sumFor m_406 (by decide) cel_An rfl rfl rfl rfl (Nat.le_of_ble_eq_true rfl) ⟨Nat.le_of_ble_eq_true rfl, Nat.le_of_ble_eq_true rfl⟩ d_An_highBehind_3 rfl ?_
  refine r_istore_n C (lv' := [(2, .int r_1), (0, .ref (gA X 39)), (1, .int x1)]) d_An_highBehind_6 rfl (by decide) rfl rfl ?_
  refine r_iconst C (v := 1) d_An_highBehind_7 (by decide) ?_
  refine r_istore_n C (lv' := [(3, .int 1), (2, .int r_1), (0, .ref (gA X 39)), (1, .int x1)]) d_An_highBehind_8 rfl (by decide) rfl rfl ?_
  refine r_sub [2, 3, 1, 0] (lv' := [(0, .ref (gA X 39)), (1, .int x1), (2, .int r_1), (3, .int 1)]) rfl ?_
  exact u_An_highBehind_9 C hR  (x1, r_1, 1) h
set_option maxHeartbeats 4000000 in
set_option maxRecDepth 100000 in
theorem c_An_highBehind (l : Launch) (σ : gS) (x1 : Int32) {r : Int32} (h : f_An_highBehind σ x1 = some r) : gMet l y_An_highBehind b_An_highBehind_c 4 (some .int) 2 47 (fun a => [.ref (a 39), .int x1]) σ (some (.int r)) σ := by
  refine gMet_i (by decide +kernel) (fun a => Nat.le_of_ble_eq_true rfl) (fun X _ C hR => ?_)
  refine r_sub [0, 1] (lv' := [(0, .ref (gA X 39)), (1, .int x1)]) rfl ?_
  exact t_An_highBehind_0 C hR x1 h
theorem d_Ga_bound_0 : decode b_Ga_bound_c 0 = .ok (.aload_n 0, 1) := by decide +kernel
theorem d_Ga_bound_1 : decode b_Ga_bound_c 1 = .ok (.invokevirtual 81, 3) := by decide +kernel
theorem d_Ga_bound_4 : decode b_Ga_bound_c 4 = .ok (.ifCond .ne 23, 3) := by decide +kernel
theorem d_Ga_bound_7 : decode b_Ga_bound_c 7 = .ok (.iload_n 1, 1) := by decide +kernel
theorem d_Ga_bound_8 : decode b_Ga_bound_c 8 = .ok (.iconst 1, 1) := by decide +kernel
theorem d_Ga_bound_9 : decode b_Ga_bound_c 9 = .ok (.sipush 200, 3) := by decide +kernel
theorem d_Ga_bound_12 : decode b_Ga_bound_c 12 = .ok (.invokestatic 56, 3) := by decide +kernel
theorem d_Ga_bound_15 : decode b_Ga_bound_c 15 = .ok (.ifCond .eq 12, 3) := by decide +kernel
theorem d_Ga_bound_18 : decode b_Ga_bound_c 18 = .ok (.iload_n 2, 1) := by decide +kernel
theorem d_Ga_bound_19 : decode b_Ga_bound_c 19 = .ok (.iconst 0, 1) := by decide +kernel
theorem d_Ga_bound_20 : decode b_Ga_bound_c 20 = .ok (.iconst 1, 1) := by decide +kernel
theorem d_Ga_bound_21 : decode b_Ga_bound_c 21 = .ok (.invokestatic 56, 3) := by decide +kernel
theorem d_Ga_bound_24 : decode b_Ga_bound_c 24 = .ok (.ifCond .ne 6, 3) := by decide +kernel
theorem d_Ga_bound_27 : decode b_Ga_bound_c 27 = .ok (.ldc 85, 2) := by decide +kernel
theorem d_Ga_bound_29 : decode b_Ga_bound_c 29 = .ok (.ireturn, 1) := by decide +kernel
theorem d_Ga_bound_30 : decode b_Ga_bound_c 30 = .ok (.aload_n 0, 1) := by decide +kernel
theorem d_Ga_bound_31 : decode b_Ga_bound_c 31 = .ok (.getfield 21, 3) := by decide +kernel
theorem d_Ga_bound_34 : decode b_Ga_bound_c 34 = .ok (.invokevirtual 118, 3) := by decide +kernel
theorem d_Ga_bound_37 : decode b_Ga_bound_c 37 = .ok (.aload_n 0, 1) := by decide +kernel
theorem d_Ga_bound_38 : decode b_Ga_bound_c 38 = .ok (.getfield 44, 3) := by decide +kernel
theorem d_Ga_bound_41 : decode b_Ga_bound_c 41 = .ok (.iload_n 1, 1) := by decide +kernel
theorem d_Ga_bound_42 : decode b_Ga_bound_c 42 = .ok (.invokevirtual 191, 3) := by decide +kernel
theorem d_Ga_bound_45 : decode b_Ga_bound_c 45 = .ok (.iload_n 2, 1) := by decide +kernel
theorem d_Ga_bound_46 : decode b_Ga_bound_c 46 = .ok (.ifCond .ne 14, 3) := by decide +kernel
theorem d_Ga_bound_49 : decode b_Ga_bound_c 49 = .ok (.aload_n 0, 1) := by decide +kernel
theorem d_Ga_bound_50 : decode b_Ga_bound_c 50 = .ok (.getfield 44, 3) := by decide +kernel
theorem d_Ga_bound_53 : decode b_Ga_bound_c 53 = .ok (.iload_n 1, 1) := by decide +kernel
theorem d_Ga_bound_54 : decode b_Ga_bound_c 54 = .ok (.invokevirtual 198, 3) := by decide +kernel
theorem d_Ga_bound_57 : decode b_Ga_bound_c 57 = .ok (.goto 11, 3) := by decide +kernel
theorem d_Ga_bound_60 : decode b_Ga_bound_c 60 = .ok (.aload_n 0, 1) := by decide +kernel
theorem d_Ga_bound_61 : decode b_Ga_bound_c 61 = .ok (.getfield 44, 3) := by decide +kernel
theorem d_Ga_bound_64 : decode b_Ga_bound_c 64 = .ok (.iload_n 1, 1) := by decide +kernel
theorem d_Ga_bound_65 : decode b_Ga_bound_c 65 = .ok (.invokevirtual 201, 3) := by decide +kernel
theorem d_Ga_bound_68 : decode b_Ga_bound_c 68 = .ok (.ireturn, 1) := by decide +kernel
/-! GameRows.bound(II)I -/
set_option maxHeartbeats 4000000 in
set_option maxRecDepth 100000 in
theorem t_Ga_bound_0 {X : gX} {r : (Int32 × gS)} (C : gC X b_Ga_bound_c R_Ga 3 5 115) (hR : ∀ pc lv, decode b_Ga_bound_c pc = .ok (.ireturn, 1) → G X pc lv [.int r.1] r.2) (x1 : Int32) (x2 : Int32) (σ : gS) (h : b_Ga_bound_0 x1 x2 σ = some r) : G X 0 [(0, .ref (gA X 0)), (1, .int x1), (2, .int x2)] [] σ := by
  unfold b_Ga_bound_0 at h
  refine r_aload_n C 0 d_Ga_bound_0 rfl rfl ?_
  obtain ⟨r_1, er_1, h⟩ := bind_some h
  refine r_callV C (As := []) (rest := []) (st1 := [.int r_1]) (c_Ga_isEmpty X.1.2.1 σ  er_1) k_Ga_isEmpty m_283 (by decide) cel_Ga rfl rfl rfl rfl (Nat.le_of_ble_eq_true rfl) ⟨Nat.le_of_ble_eq_true rfl, Nat.le_of_ble_eq_true rfl⟩ d_Ga_bound_1 rfl ?_
  refine r_if_ne C (tgt := 27) d_Ga_bound_4 (by decide) (fun hc_2 => ?_) (fun hc_2 => ?_)
  · rw [if_neg hc_2] at h
    refine r_ldc C (v := (-1000000)) m_287 d_Ga_bound_27 ?_
    cases h
    exact hR _ _ d_Ga_bound_29
  · rw [if_pos hc_2] at h
    refine r_iload_n C 1 d_Ga_bound_7 rfl rfl ?_
    refine r_iconst C (v := 1) d_Ga_bound_8 (by decide) ?_
    refine r_sipush C (v := 200) d_Ga_bound_9 (by decide) ?_
    obtain ⟨r_3, er_3, h⟩ := bind_some h
    refine r_callS C (As := [.int x1, .int 1, .int 200]) (rest := []) (st1 := [.int r_3]) (c_Ga_isAmong X.1.2.1 σ x1 1 200 er_3) k_Ga_isAmong m_16 rfl rfl rfl (Nat.le_of_ble_eq_true rfl) ⟨Nat.le_of_ble_eq_true rfl, Nat.le_of_ble_eq_true rfl⟩ d_Ga_bound_12 rfl ?_
    refine r_if_eq C (tgt := 27) d_Ga_bound_15 (by decide) (fun hc_4 => ?_) (fun hc_4 => ?_)
    · rw [if_pos hc_4] at h
      refine r_ldc C (v := (-1000000)) m_287 d_Ga_bound_27 ?_
      cases h
      exact hR _ _ d_Ga_bound_29
    · rw [if_neg hc_4] at h
      refine r_iload_n C 2 d_Ga_bound_18 rfl rfl ?_
      refine r_iconst C (v := 0) d_Ga_bound_19 (by decide) ?_
      refine r_iconst C (v := 1) d_Ga_bound_20 (by decide) ?_
      obtain ⟨r_5, er_5, h⟩ := bind_some h
      refine r_callS C (As := [.int x2, .int 0, .int 1]) (rest := []) (st1 := [.int r_5]) (c_Ga_isAmong X.1.2.1 σ x2 0 1 er_5) k_Ga_isAmong m_16 rfl rfl rfl (Nat.le_of_ble_eq_true rfl) ⟨Nat.le_of_ble_eq_true rfl, Nat.le_of_ble_eq_true rfl⟩ d_Ga_bound_21 rfl ?_
      refine r_if_ne C (tgt := 30) d_Ga_bound_24 (by decide) (fun hc_6 => ?_) (fun hc_6 => ?_)
      · rw [if_neg hc_6] at h
        refine r_aload_n C 0 d_Ga_bound_30 rfl rfl ?_
        refine q_Ga_21 C d_Ga_bound_31 ?_
        obtain ⟨r_7, er_7, h⟩ := bind_some h
        refine r_callV C (As := []) (rest := []) (st1 := []) (c_Ta_fillWhole X.1.2.1 σ  er_7) k_Ta_fillWhole m_270 (by decide) cel_Ta rfl rfl rfl rfl (Nat.le_of_ble_eq_true rfl) ⟨Nat.le_of_ble_eq_true rfl, Nat.le_of_ble_eq_true rfl⟩ d_Ga_bound_34 rfl ?_
        refine r_aload_n C 0 d_Ga_bound_37 rfl rfl ?_
        refine q_Ga_44 C d_Ga_bound_38 ?_
        refine r_iload_n C 1 d_Ga_bound_41 rfl rfl ?_
        obtain ⟨r_8, er_8, h⟩ := bind_some h
        refine r_callV C (As := [.int x1]) (rest := []) (st1 := []) (c_An_playTo X.1.2.1 r_7 x1 er_8) k_An_playTo m_392 (by decide) cel_An rfl rfl rfl rfl (Nat.le_of_ble_eq_true rfl) ⟨Nat.le_of_ble_eq_true rfl, Nat.le_of_ble_eq_true rfl⟩ d_Ga_bound_42 rfl ?_
        refine r_iload_n C 2 d_Ga_bound_45 rfl rfl ?_
        refine r_if_ne C (tgt := 60) d_Ga_bound_46 (by decide) (fun hc_9 => ?_) (fun hc_9 => ?_)
        · rw [if_neg hc_9] at h
          refine r_aload_n C 0 d_Ga_bound_60 rfl rfl ?_
          refine q_Ga_44 C d_Ga_bound_61 ?_
          refine r_iload_n C 1 d_Ga_bound_64 rfl rfl ?_
          obtain ⟨r_10, er_10, h⟩ := bind_some h
          refine r_callV C (As := [.int x1]) (rest := []) (st1 := [.int r_10]) (c_An_highBehind X.1.2.1 r_8 x1 er_10) k_An_highBehind m_410 (by decide) cel_An rfl rfl rfl rfl (Nat.le_of_ble_eq_true rfl) ⟨Nat.le_of_ble_eq_true rfl, Nat.le_of_ble_eq_true rfl⟩ d_Ga_bound_65 rfl ?_
          cases h
          exact hR _ _ d_Ga_bound_68
        · rw [if_pos hc_9] at h
          refine r_aload_n C 0 d_Ga_bound_49 rfl rfl ?_
          refine q_Ga_44 C d_Ga_bound_50 ?_
          refine r_iload_n C 1 d_Ga_bound_53 rfl rfl ?_
          obtain ⟨r_11, er_11, h⟩ := bind_some h
          refine r_callV C (As := [.int x1]) (rest := []) (st1 := [.int r_11]) (c_An_lowBehind X.1.2.1 r_8 x1 er_11) k_An_lowBehind m_414 (by decide) cel_An rfl rfl rfl rfl (Nat.le_of_ble_eq_true rfl) ⟨Nat.le_of_ble_eq_true rfl, Nat.le_of_ble_eq_true rfl⟩ d_Ga_bound_54 rfl ?_
          refine r_goto C (tgt := 68) d_Ga_bound_57 (by decide) ?_
          cases h
          exact hR _ _ d_Ga_bound_68
      · rw [if_pos hc_6] at h
        refine r_ldc C (v := (-1000000)) m_287 d_Ga_bound_27 ?_
        cases h
        exact hR _ _ d_Ga_bound_29
set_option maxHeartbeats 4000000 in
set_option maxRecDepth 100000 in
theorem c_Ga_bound (l : Launch) (σ : gS) (x1 : Int32) (x2 : Int32) {r : (Int32 × gS)} (h : f_Ga_bound σ x1 x2 = some r) : gMet l y_Ga_bound b_Ga_bound_c 3 (some .int) 5 115 (fun a => [.ref (a 0), .int x1, .int x2]) σ (some (.int r.1)) r.2 := by
  refine gMet_i (by decide +kernel) (fun a => Nat.le_of_ble_eq_true rfl) (fun X _ C hR => ?_)
  refine r_sub [0, 1, 2] (lv' := [(0, .ref (gA X 0)), (1, .int x1), (2, .int x2)]) rfl ?_
  exact t_Ga_bound_0 C hR x1 x2 σ h
theorem d_Mo_clear_0 : decode b_Mo_clear_c 0 = .ok (.aload_n 0, 1) := by decide +kernel
theorem d_Mo_clear_1 : decode b_Mo_clear_c 1 = .ok (.getfield 71, 3) := by decide +kernel
theorem d_Mo_clear_4 : decode b_Mo_clear_c 4 = .ok (.istore_n 1, 1) := by decide +kernel
theorem d_Mo_clear_5 : decode b_Mo_clear_c 5 = .ok (.aload_n 0, 1) := by decide +kernel
theorem d_Mo_clear_6 : decode b_Mo_clear_c 6 = .ok (.iconst 0, 1) := by decide +kernel
theorem d_Mo_clear_7 : decode b_Mo_clear_c 7 = .ok (.putfield 71, 3) := by decide +kernel
theorem d_Mo_clear_10 : decode b_Mo_clear_c 10 = .ok (.aload_n 0, 1) := by decide +kernel
theorem d_Mo_clear_11 : decode b_Mo_clear_c 11 = .ok (.iconst 0, 1) := by decide +kernel
theorem d_Mo_clear_12 : decode b_Mo_clear_c 12 = .ok (.putfield 75, 3) := by decide +kernel
theorem d_Mo_clear_15 : decode b_Mo_clear_c 15 = .ok (.iload_n 1, 1) := by decide +kernel
theorem d_Mo_clear_16 : decode b_Mo_clear_c 16 = .ok (.ireturn, 1) := by decide +kernel
/-! GameRowsModel.clear()I -/
set_option maxHeartbeats 4000000 in
set_option maxRecDepth 100000 in
theorem t_Mo_clear_0 {X : gX} {r : (Int32 × gS)} (C : gC X b_Mo_clear_c R_Mo 2 0 0) (hR : ∀ pc lv, decode b_Mo_clear_c pc = .ok (.ireturn, 1) → G X pc lv [.int r.1] r.2) (σ : gS) (h : b_Mo_clear_0 σ = some r) : G X 0 [(0, .ref (gA X 46))] [] σ := by
  unfold b_Mo_clear_0 at h
  refine r_aload_n C 0 d_Mo_clear_0 rfl rfl ?_
  refine q_Mo_71 C d_Mo_clear_1 ?_
  obtain ⟨x1_1, ex1_1, h⟩ := bnd_some h
  refine r_istore_n C (lv' := [(1, .int x1_1), (0, .ref (gA X 46))]) d_Mo_clear_4 rfl (by decide) ex1_1 rfl ?_
  refine r_aload_n C 1 d_Mo_clear_5 rfl rfl ?_
  refine r_iconst C (v := 0) d_Mo_clear_6 (by decide) ?_
  obtain ⟨σ_2, eσ_2, h⟩ := bnd_some h
  refine p_Mo_71 C eσ_2 d_Mo_clear_7 ?_
  refine r_aload_n C 1 d_Mo_clear_10 rfl rfl ?_
  refine r_iconst C (v := 0) d_Mo_clear_11 (by decide) ?_
  obtain ⟨σ_3, eσ_3, h⟩ := bnd_some h
  refine p_Mo_75 C eσ_3 d_Mo_clear_12 ?_
  refine r_iload_n C 0 d_Mo_clear_15 rfl rfl ?_
  cases h
  exact hR _ _ d_Mo_clear_16
set_option maxHeartbeats 4000000 in
set_option maxRecDepth 100000 in
theorem c_Mo_clear (l : Launch) (σ : gS)  {r : (Int32 × gS)} (h : f_Mo_clear σ = some r) : gMet l y_Mo_clear b_Mo_clear_c 2 (some .int) 0 0 (fun a => [.ref (a 46)]) σ (some (.int r.1)) r.2 := by
  refine gMet_i (by decide +kernel) (fun a => Nat.le_of_ble_eq_true rfl) (fun X _ C hR => ?_)
  refine r_sub [0] (lv' := [(0, .ref (gA X 46))]) rfl ?_
  exact t_Mo_clear_0 C hR σ h
theorem d_Mo_isFrom_0 : decode b_Mo_isFrom_c 0 = .ok (.iload_n 0, 1) := by decide +kernel
theorem d_Mo_isFrom_1 : decode b_Mo_isFrom_c 1 = .ok (.iload_n 1, 1) := by decide +kernel
theorem d_Mo_isFrom_2 : decode b_Mo_isFrom_c 2 = .ok (.if_icmp .lt 12, 3) := by decide +kernel
theorem d_Mo_isFrom_5 : decode b_Mo_isFrom_c 5 = .ok (.iload_n 0, 1) := by decide +kernel
theorem d_Mo_isFrom_6 : decode b_Mo_isFrom_c 6 = .ok (.iload_n 2, 1) := by decide +kernel
theorem d_Mo_isFrom_7 : decode b_Mo_isFrom_c 7 = .ok (.if_icmp .gt 7, 3) := by decide +kernel
theorem d_Mo_isFrom_10 : decode b_Mo_isFrom_c 10 = .ok (.iconst 1, 1) := by decide +kernel
theorem d_Mo_isFrom_11 : decode b_Mo_isFrom_c 11 = .ok (.goto 4, 3) := by decide +kernel
theorem d_Mo_isFrom_14 : decode b_Mo_isFrom_c 14 = .ok (.iconst 0, 1) := by decide +kernel
theorem d_Mo_isFrom_15 : decode b_Mo_isFrom_c 15 = .ok (.ireturn, 1) := by decide +kernel
/-! GameRowsModel.isFrom(III)Z -/
set_option maxHeartbeats 4000000 in
set_option maxRecDepth 100000 in
theorem t_Mo_isFrom_0 {X : gX} {r : Int32} {σ : gS} (C : gC X b_Mo_isFrom_c R_Mo 3 0 0) (hR : ∀ pc lv, isB r = true → decode b_Mo_isFrom_c pc = .ok (.ireturn, 1) → G X pc lv [.int r] σ) (x0 : Int32) (x1 : Int32) (x2 : Int32) (h : b_Mo_isFrom_0 x0 x1 x2 = some r) : G X 0 [(0, .int x0), (1, .int x1), (2, .int x2)] [] σ := by
  unfold b_Mo_isFrom_0 at h
  refine r_iload_n C 0 d_Mo_isFrom_0 rfl rfl ?_
  refine r_iload_n C 1 d_Mo_isFrom_1 rfl rfl ?_
  refine r_icmp_lt C (tgt := 14) d_Mo_isFrom_2 (by decide) (fun hc_1 => ?_) (fun hc_1 => ?_)
  · rw [if_pos hc_1] at h
    refine r_iconst C (v := 0) d_Mo_isFrom_14 (by decide) ?_
    obtain ⟨hB, h⟩ := ck_some h
    cases h
    exact hR _ _ hB d_Mo_isFrom_15
  · rw [if_neg hc_1] at h
    refine r_iload_n C 0 d_Mo_isFrom_5 rfl rfl ?_
    refine r_iload_n C 2 d_Mo_isFrom_6 rfl rfl ?_
    refine r_icmp_gt C (tgt := 14) d_Mo_isFrom_7 (by decide) (fun hc_2 => ?_) (fun hc_2 => ?_)
    · rw [if_pos hc_2] at h
      refine r_iconst C (v := 0) d_Mo_isFrom_14 (by decide) ?_
      obtain ⟨hB, h⟩ := ck_some h
      cases h
      exact hR _ _ hB d_Mo_isFrom_15
    · rw [if_neg hc_2] at h
      refine r_iconst C (v := 1) d_Mo_isFrom_10 (by decide) ?_
      refine r_goto C (tgt := 15) d_Mo_isFrom_11 (by decide) ?_
      obtain ⟨hB, h⟩ := ck_some h
      cases h
      exact hR _ _ hB d_Mo_isFrom_15
set_option maxHeartbeats 4000000 in
set_option maxRecDepth 100000 in
theorem c_Mo_isFrom (l : Launch) (σ : gS) (x0 : Int32) (x1 : Int32) (x2 : Int32) {r : Int32} (h : f_Mo_isFrom x0 x1 x2 = some r) : gMet l y_Mo_isFrom b_Mo_isFrom_c 3 (some .boolean) 0 0 (fun a => [.int x0, .int x1, .int x2]) σ (some (.int r)) σ := by
  refine gMet_z (by decide +kernel) (fun a => Nat.le_of_ble_eq_true rfl) (fun X _ C hR => ?_)
  refine r_sub [0, 1, 2] (lv' := [(0, .int x0), (1, .int x1), (2, .int x2)]) rfl ?_
  exact t_Mo_isFrom_0 C hR x0 x1 x2 h
theorem d_Mo_set_0 : decode b_Mo_set_c 0 = .ok (.iload_n 1, 1) := by decide +kernel
theorem d_Mo_set_1 : decode b_Mo_set_c 1 = .ok (.iconst 0, 1) := by decide +kernel
theorem d_Mo_set_2 : decode b_Mo_set_c 2 = .ok (.iconst 1, 1) := by decide +kernel
theorem d_Mo_set_3 : decode b_Mo_set_c 3 = .ok (.invokestatic 78, 3) := by decide +kernel
theorem d_Mo_set_6 : decode b_Mo_set_c 6 = .ok (.ifCond .eq 12, 3) := by decide +kernel
theorem d_Mo_set_9 : decode b_Mo_set_c 9 = .ok (.iload_n 2, 1) := by decide +kernel
theorem d_Mo_set_10 : decode b_Mo_set_c 10 = .ok (.iconst 2, 1) := by decide +kernel
theorem d_Mo_set_11 : decode b_Mo_set_c 11 = .ok (.iconst 3, 1) := by decide +kernel
theorem d_Mo_set_12 : decode b_Mo_set_c 12 = .ok (.invokestatic 78, 3) := by decide +kernel
theorem d_Mo_set_15 : decode b_Mo_set_c 15 = .ok (.ifCond .ne 6, 3) := by decide +kernel
theorem d_Mo_set_18 : decode b_Mo_set_c 18 = .ok (.bipush (-2), 2) := by decide +kernel
theorem d_Mo_set_20 : decode b_Mo_set_c 20 = .ok (.ireturn, 1) := by decide +kernel
theorem d_Mo_set_21 : decode b_Mo_set_c 21 = .ok (.aload_n 0, 1) := by decide +kernel
theorem d_Mo_set_22 : decode b_Mo_set_c 22 = .ok (.getfield 75, 3) := by decide +kernel
theorem d_Mo_set_25 : decode b_Mo_set_c 25 = .ok (.bipush 10, 2) := by decide +kernel
theorem d_Mo_set_27 : decode b_Mo_set_c 27 = .ok (.if_icmp .ne 6, 3) := by decide +kernel
theorem d_Mo_set_30 : decode b_Mo_set_c 30 = .ok (.bipush (-3), 2) := by decide +kernel
theorem d_Mo_set_32 : decode b_Mo_set_c 32 = .ok (.ireturn, 1) := by decide +kernel
theorem d_Mo_set_33 : decode b_Mo_set_c 33 = .ok (.aload_n 0, 1) := by decide +kernel
theorem d_Mo_set_34 : decode b_Mo_set_c 34 = .ok (.getfield 31, 3) := by decide +kernel
theorem d_Mo_set_37 : decode b_Mo_set_c 37 = .ok (.aload_n 0, 1) := by decide +kernel
theorem d_Mo_set_38 : decode b_Mo_set_c 38 = .ok (.getfield 75, 3) := by decide +kernel
theorem d_Mo_set_41 : decode b_Mo_set_c 41 = .ok (.iload_n 1, 1) := by decide +kernel
theorem d_Mo_set_42 : decode b_Mo_set_c 42 = .ok (.iastore, 1) := by decide +kernel
theorem d_Mo_set_43 : decode b_Mo_set_c 43 = .ok (.aload_n 0, 1) := by decide +kernel
theorem d_Mo_set_44 : decode b_Mo_set_c 44 = .ok (.getfield 34, 3) := by decide +kernel
theorem d_Mo_set_47 : decode b_Mo_set_c 47 = .ok (.aload_n 0, 1) := by decide +kernel
theorem d_Mo_set_48 : decode b_Mo_set_c 48 = .ok (.getfield 75, 3) := by decide +kernel
theorem d_Mo_set_51 : decode b_Mo_set_c 51 = .ok (.iload_n 2, 1) := by decide +kernel
theorem d_Mo_set_52 : decode b_Mo_set_c 52 = .ok (.iastore, 1) := by decide +kernel
theorem d_Mo_set_53 : decode b_Mo_set_c 53 = .ok (.aload_n 0, 1) := by decide +kernel
theorem d_Mo_set_54 : decode b_Mo_set_c 54 = .ok (.dup, 1) := by decide +kernel
theorem d_Mo_set_55 : decode b_Mo_set_c 55 = .ok (.getfield 75, 3) := by decide +kernel
theorem d_Mo_set_58 : decode b_Mo_set_c 58 = .ok (.iconst 1, 1) := by decide +kernel
theorem d_Mo_set_59 : decode b_Mo_set_c 59 = .ok (.iadd, 1) := by decide +kernel
theorem d_Mo_set_60 : decode b_Mo_set_c 60 = .ok (.putfield 75, 3) := by decide +kernel
theorem d_Mo_set_63 : decode b_Mo_set_c 63 = .ok (.aload_n 0, 1) := by decide +kernel
theorem d_Mo_set_64 : decode b_Mo_set_c 64 = .ok (.getfield 75, 3) := by decide +kernel
theorem d_Mo_set_67 : decode b_Mo_set_c 67 = .ok (.iconst 1, 1) := by decide +kernel
theorem d_Mo_set_68 : decode b_Mo_set_c 68 = .ok (.isub, 1) := by decide +kernel
theorem d_Mo_set_69 : decode b_Mo_set_c 69 = .ok (.ireturn, 1) := by decide +kernel
/-! GameRowsModel.set(II)I -/
set_option maxHeartbeats 4000000 in
set_option maxRecDepth 100000 in
theorem t_Mo_set_0 {X : gX} {r : (Int32 × gS)} (C : gC X b_Mo_set_c R_Mo 3 1 22) (hR : ∀ pc lv, decode b_Mo_set_c pc = .ok (.ireturn, 1) → G X pc lv [.int r.1] r.2) (x1 : Int32) (x2 : Int32) (σ : gS) (h : b_Mo_set_0 x1 x2 σ = some r) : G X 0 [(0, .ref (gA X 46)), (1, .int x1), (2, .int x2)] [] σ := by
  unfold b_Mo_set_0 at h
  refine r_iload_n C 1 d_Mo_set_0 rfl rfl ?_
  refine r_iconst C (v := 0) d_Mo_set_1 (by decide) ?_
  refine r_iconst C (v := 1) d_Mo_set_2 (by decide) ?_
  obtain ⟨r_1, er_1, h⟩ := bind_some h
  refine r_callS C (As := [.int x1, .int 0, .int 1]) (rest := []) (st1 := [.int r_1]) (c_Mo_isFrom X.1.2.1 σ x1 0 1 er_1) k_Mo_isFrom m_420 rfl rfl rfl (Nat.le_of_ble_eq_true rfl) ⟨Nat.le_of_ble_eq_true rfl, Nat.le_of_ble_eq_true rfl⟩ d_Mo_set_3 rfl ?_
  refine r_if_eq C (tgt := 18) d_Mo_set_6 (by decide) (fun hc_2 => ?_) (fun hc_2 => ?_)
  · rw [if_pos hc_2] at h
    refine r_bipush C (v := (-2)) d_Mo_set_18 (by decide) ?_
    cases h
    exact hR _ _ d_Mo_set_20
  · rw [if_neg hc_2] at h
    refine r_iload_n C 2 d_Mo_set_9 rfl rfl ?_
    refine r_iconst C (v := 2) d_Mo_set_10 (by decide) ?_
    refine r_iconst C (v := 3) d_Mo_set_11 (by decide) ?_
    obtain ⟨r_3, er_3, h⟩ := bind_some h
    refine r_callS C (As := [.int x2, .int 2, .int 3]) (rest := []) (st1 := [.int r_3]) (c_Mo_isFrom X.1.2.1 σ x2 2 3 er_3) k_Mo_isFrom m_420 rfl rfl rfl (Nat.le_of_ble_eq_true rfl) ⟨Nat.le_of_ble_eq_true rfl, Nat.le_of_ble_eq_true rfl⟩ d_Mo_set_12 rfl ?_
    refine r_if_ne C (tgt := 21) d_Mo_set_15 (by decide) (fun hc_4 => ?_) (fun hc_4 => ?_)
    · rw [if_neg hc_4] at h
      refine r_aload_n C 0 d_Mo_set_21 rfl rfl ?_
      refine q_Mo_75 C d_Mo_set_22 ?_
      refine r_bipush C (v := 10) d_Mo_set_25 (by decide) ?_
      refine r_icmp_ne C (tgt := 33) d_Mo_set_27 (by decide) (fun hc_5 => ?_) (fun hc_5 => ?_)
      · rw [if_neg hc_5] at h
        refine r_aload_n C 0 d_Mo_set_33 rfl rfl ?_
        refine q_Mo_31 C d_Mo_set_34 ?_
        refine r_aload_n C 0 d_Mo_set_37 rfl rfl ?_
        refine q_Mo_75 C d_Mo_set_38 ?_
        refine r_iload_n C 1 d_Mo_set_41 rfl rfl ?_
        obtain ⟨hi_6, h⟩ := ck_some h
        obtain ⟨σ_7, eσ_7, h⟩ := bnd_some h
        refine r_iast C hi_6 eσ_7 d_Mo_set_42 ?_
        refine r_aload_n C 0 d_Mo_set_43 rfl rfl ?_
        refine q_Mo_34 C d_Mo_set_44 ?_
        refine r_aload_n C 0 d_Mo_set_47 rfl rfl ?_
        refine q_Mo_75 C d_Mo_set_48 ?_
        refine r_iload_n C 2 d_Mo_set_51 rfl rfl ?_
        obtain ⟨hi_8, h⟩ := ck_some h
        obtain ⟨σ_9, eσ_9, h⟩ := bnd_some h
        refine r_iast C hi_8 eσ_9 d_Mo_set_52 ?_
        refine r_aload_n C 0 d_Mo_set_53 rfl rfl ?_
        refine r_dup C d_Mo_set_54 rfl ?_
        refine q_Mo_75 C d_Mo_set_55 ?_
        refine r_iconst C (v := 1) d_Mo_set_58 (by decide) ?_
        refine r_iadd C d_Mo_set_59 ?_
        obtain ⟨σ_10, eσ_10, h⟩ := bnd_some h
        refine p_Mo_75 C eσ_10 d_Mo_set_60 ?_
        refine r_aload_n C 0 d_Mo_set_63 rfl rfl ?_
        refine q_Mo_75 C d_Mo_set_64 ?_
        refine r_iconst C (v := 1) d_Mo_set_67 (by decide) ?_
        refine r_isub C d_Mo_set_68 ?_
        cases h
        exact hR _ _ d_Mo_set_69
      · rw [if_pos hc_5] at h
        refine r_bipush C (v := (-3)) d_Mo_set_30 (by decide) ?_
        cases h
        exact hR _ _ d_Mo_set_32
    · rw [if_pos hc_4] at h
      refine r_bipush C (v := (-2)) d_Mo_set_18 (by decide) ?_
      cases h
      exact hR _ _ d_Mo_set_20
set_option maxHeartbeats 4000000 in
set_option maxRecDepth 100000 in
theorem c_Mo_set (l : Launch) (σ : gS) (x1 : Int32) (x2 : Int32) {r : (Int32 × gS)} (h : f_Mo_set σ x1 x2 = some r) : gMet l y_Mo_set b_Mo_set_c 3 (some .int) 1 22 (fun a => [.ref (a 46), .int x1, .int x2]) σ (some (.int r.1)) r.2 := by
  refine gMet_i (by decide +kernel) (fun a => Nat.le_of_ble_eq_true rfl) (fun X _ C hR => ?_)
  refine r_sub [0, 1, 2] (lv' := [(0, .ref (gA X 46)), (1, .int x1), (2, .int x2)]) rfl ?_
  exact t_Mo_set_0 C hR x1 x2 σ h
theorem d_Mo_make_0 : decode b_Mo_make_c 0 = .ok (.aload_n 0, 1) := by decide +kernel
theorem d_Mo_make_1 : decode b_Mo_make_c 1 = .ok (.getfield 7, 3) := by decide +kernel
theorem d_Mo_make_4 : decode b_Mo_make_c 4 = .ok (.aload_n 0, 1) := by decide +kernel
theorem d_Mo_make_5 : decode b_Mo_make_c 5 = .ok (.getfield 71, 3) := by decide +kernel
theorem d_Mo_make_8 : decode b_Mo_make_c 8 = .ok (.iload_n 1, 1) := by decide +kernel
theorem d_Mo_make_9 : decode b_Mo_make_c 9 = .ok (.iastore, 1) := by decide +kernel
theorem d_Mo_make_10 : decode b_Mo_make_c 10 = .ok (.aload_n 0, 1) := by decide +kernel
theorem d_Mo_make_11 : decode b_Mo_make_c 11 = .ok (.getfield 13, 3) := by decide +kernel
theorem d_Mo_make_14 : decode b_Mo_make_c 14 = .ok (.aload_n 0, 1) := by decide +kernel
theorem d_Mo_make_15 : decode b_Mo_make_c 15 = .ok (.getfield 71, 3) := by decide +kernel
theorem d_Mo_make_18 : decode b_Mo_make_c 18 = .ok (.iconst (-1), 1) := by decide +kernel
theorem d_Mo_make_19 : decode b_Mo_make_c 19 = .ok (.iastore, 1) := by decide +kernel
theorem d_Mo_make_20 : decode b_Mo_make_c 20 = .ok (.aload_n 0, 1) := by decide +kernel
theorem d_Mo_make_21 : decode b_Mo_make_c 21 = .ok (.getfield 16, 3) := by decide +kernel
theorem d_Mo_make_24 : decode b_Mo_make_c 24 = .ok (.iconst 2, 1) := by decide +kernel
theorem d_Mo_make_25 : decode b_Mo_make_c 25 = .ok (.aload_n 0, 1) := by decide +kernel
theorem d_Mo_make_26 : decode b_Mo_make_c 26 = .ok (.getfield 71, 3) := by decide +kernel
theorem d_Mo_make_29 : decode b_Mo_make_c 29 = .ok (.imul, 1) := by decide +kernel
theorem d_Mo_make_30 : decode b_Mo_make_c 30 = .ok (.iconst 0, 1) := by decide +kernel
theorem d_Mo_make_31 : decode b_Mo_make_c 31 = .ok (.iastore, 1) := by decide +kernel
theorem d_Mo_make_32 : decode b_Mo_make_c 32 = .ok (.aload_n 0, 1) := by decide +kernel
theorem d_Mo_make_33 : decode b_Mo_make_c 33 = .ok (.getfield 16, 3) := by decide +kernel
theorem d_Mo_make_36 : decode b_Mo_make_c 36 = .ok (.iconst 2, 1) := by decide +kernel
theorem d_Mo_make_37 : decode b_Mo_make_c 37 = .ok (.aload_n 0, 1) := by decide +kernel
theorem d_Mo_make_38 : decode b_Mo_make_c 38 = .ok (.getfield 71, 3) := by decide +kernel
theorem d_Mo_make_41 : decode b_Mo_make_c 41 = .ok (.imul, 1) := by decide +kernel
theorem d_Mo_make_42 : decode b_Mo_make_c 42 = .ok (.iconst 1, 1) := by decide +kernel
theorem d_Mo_make_43 : decode b_Mo_make_c 43 = .ok (.iadd, 1) := by decide +kernel
theorem d_Mo_make_44 : decode b_Mo_make_c 44 = .ok (.iconst 0, 1) := by decide +kernel
theorem d_Mo_make_45 : decode b_Mo_make_c 45 = .ok (.iastore, 1) := by decide +kernel
theorem d_Mo_make_46 : decode b_Mo_make_c 46 = .ok (.aload_n 0, 1) := by decide +kernel
theorem d_Mo_make_47 : decode b_Mo_make_c 47 = .ok (.getfield 22, 3) := by decide +kernel
theorem d_Mo_make_50 : decode b_Mo_make_c 50 = .ok (.aload_n 0, 1) := by decide +kernel
theorem d_Mo_make_51 : decode b_Mo_make_c 51 = .ok (.getfield 71, 3) := by decide +kernel
theorem d_Mo_make_54 : decode b_Mo_make_c 54 = .ok (.iconst (-1), 1) := by decide +kernel
theorem d_Mo_make_55 : decode b_Mo_make_c 55 = .ok (.iastore, 1) := by decide +kernel
theorem d_Mo_make_56 : decode b_Mo_make_c 56 = .ok (.aload_n 0, 1) := by decide +kernel
theorem d_Mo_make_57 : decode b_Mo_make_c 57 = .ok (.getfield 25, 3) := by decide +kernel
theorem d_Mo_make_60 : decode b_Mo_make_c 60 = .ok (.aload_n 0, 1) := by decide +kernel
theorem d_Mo_make_61 : decode b_Mo_make_c 61 = .ok (.getfield 71, 3) := by decide +kernel
theorem d_Mo_make_64 : decode b_Mo_make_c 64 = .ok (.iconst 0, 1) := by decide +kernel
theorem d_Mo_make_65 : decode b_Mo_make_c 65 = .ok (.iastore, 1) := by decide +kernel
theorem d_Mo_make_66 : decode b_Mo_make_c 66 = .ok (.aload_n 0, 1) := by decide +kernel
theorem d_Mo_make_67 : decode b_Mo_make_c 67 = .ok (.getfield 28, 3) := by decide +kernel
theorem d_Mo_make_70 : decode b_Mo_make_c 70 = .ok (.aload_n 0, 1) := by decide +kernel
theorem d_Mo_make_71 : decode b_Mo_make_c 71 = .ok (.getfield 71, 3) := by decide +kernel
theorem d_Mo_make_74 : decode b_Mo_make_c 74 = .ok (.iconst 0, 1) := by decide +kernel
theorem d_Mo_make_75 : decode b_Mo_make_c 75 = .ok (.iastore, 1) := by decide +kernel
theorem d_Mo_make_76 : decode b_Mo_make_c 76 = .ok (.iconst 0, 1) := by decide +kernel
theorem d_Mo_make_77 : decode b_Mo_make_c 77 = .ok (.istore_n 2, 1) := by decide +kernel
theorem d_Mo_make_78 : decode b_Mo_make_c 78 = .ok (.iload_n 2, 1) := by decide +kernel
theorem d_Mo_make_79 : decode b_Mo_make_c 79 = .ok (.iconst 3, 1) := by decide +kernel
theorem d_Mo_make_80 : decode b_Mo_make_c 80 = .ok (.if_icmp .ge 23, 3) := by decide +kernel
theorem d_Mo_make_83 : decode b_Mo_make_c 83 = .ok (.aload_n 0, 1) := by decide +kernel
theorem d_Mo_make_84 : decode b_Mo_make_c 84 = .ok (.getfield 19, 3) := by decide +kernel
theorem d_Mo_make_87 : decode b_Mo_make_c 87 = .ok (.iconst 3, 1) := by decide +kernel
theorem d_Mo_make_88 : decode b_Mo_make_c 88 = .ok (.aload_n 0, 1) := by decide +kernel
theorem d_Mo_make_89 : decode b_Mo_make_c 89 = .ok (.getfield 71, 3) := by decide +kernel
theorem d_Mo_make_92 : decode b_Mo_make_c 92 = .ok (.imul, 1) := by decide +kernel
theorem d_Mo_make_93 : decode b_Mo_make_c 93 = .ok (.iload_n 2, 1) := by decide +kernel
theorem d_Mo_make_94 : decode b_Mo_make_c 94 = .ok (.iadd, 1) := by decide +kernel
theorem d_Mo_make_95 : decode b_Mo_make_c 95 = .ok (.iconst (-1), 1) := by decide +kernel
theorem d_Mo_make_96 : decode b_Mo_make_c 96 = .ok (.iastore, 1) := by decide +kernel
theorem d_Mo_make_97 : decode b_Mo_make_c 97 = .ok (.iinc 2 1, 3) := by decide +kernel
theorem d_Mo_make_100 : decode b_Mo_make_c 100 = .ok (.goto (-22), 3) := by decide +kernel
theorem d_Mo_make_103 : decode b_Mo_make_c 103 = .ok (.aload_n 0, 1) := by decide +kernel
theorem d_Mo_make_104 : decode b_Mo_make_c 104 = .ok (.dup, 1) := by decide +kernel
theorem d_Mo_make_105 : decode b_Mo_make_c 105 = .ok (.getfield 71, 3) := by decide +kernel
theorem d_Mo_make_108 : decode b_Mo_make_c 108 = .ok (.iconst 1, 1) := by decide +kernel
theorem d_Mo_make_109 : decode b_Mo_make_c 109 = .ok (.iadd, 1) := by decide +kernel
theorem d_Mo_make_110 : decode b_Mo_make_c 110 = .ok (.putfield 71, 3) := by decide +kernel
theorem d_Mo_make_113 : decode b_Mo_make_c 113 = .ok (.aload_n 0, 1) := by decide +kernel
theorem d_Mo_make_114 : decode b_Mo_make_c 114 = .ok (.getfield 71, 3) := by decide +kernel
theorem d_Mo_make_117 : decode b_Mo_make_c 117 = .ok (.iconst 1, 1) := by decide +kernel
theorem d_Mo_make_118 : decode b_Mo_make_c 118 = .ok (.isub, 1) := by decide +kernel
theorem d_Mo_make_119 : decode b_Mo_make_c 119 = .ok (.ireturn, 1) := by decide +kernel
/-! GameRowsModel.make(I)I -/
set_option maxHeartbeats 4000000 in
set_option maxRecDepth 100000 in
theorem t_Mo_make_78 {X : gX} {r : (Int32 × gS)} (C : gC X b_Mo_make_c R_Mo 3 0 0) (hR : ∀ pc lv, decode b_Mo_make_c pc = .ok (.ireturn, 1) → G X pc lv [.int r.1] r.2) {k78 : Int32 × gS → Option (Int32 × gS)}  (hk78 : ∀ x, k78 x = some r → G X 78 [(0, .ref (gA X 46)), (2, .int x.1)] [] x.2) (x2 : Int32) (σ : gS) (h : b_Mo_make_78 k78 x2 σ = some r) : G X 78 [(0, .ref (gA X 46)), (2, .int x2)] [] σ := by
  unfold b_Mo_make_78 at h
  refine r_iload_n C 1 d_Mo_make_78 rfl rfl ?_
  refine r_iconst C (v := 3) d_Mo_make_79 (by decide) ?_
  refine r_icmp_ge C (tgt := 103) d_Mo_make_80 (by decide) (fun hc_1 => ?_) (fun hc_1 => ?_)
  · rw [if_pos hc_1] at h
    refine r_aload_n C 0 d_Mo_make_103 rfl rfl ?_
    refine r_dup C d_Mo_make_104 rfl ?_
    refine q_Mo_71 C d_Mo_make_105 ?_
    refine r_iconst C (v := 1) d_Mo_make_108 (by decide) ?_
    refine r_iadd C d_Mo_make_109 ?_
    obtain ⟨σ_2, eσ_2, h⟩ := bnd_some h
    refine p_Mo_71 C eσ_2 d_Mo_make_110 ?_
    refine r_aload_n C 0 d_Mo_make_113 rfl rfl ?_
    refine q_Mo_71 C d_Mo_make_114 ?_
    refine r_iconst C (v := 1) d_Mo_make_117 (by decide) ?_
    refine r_isub C d_Mo_make_118 ?_
    cases h
    exact hR _ _ d_Mo_make_119
  · rw [if_neg hc_1] at h
    refine r_aload_n C 0 d_Mo_make_83 rfl rfl ?_
    refine q_Mo_19 C d_Mo_make_84 ?_
    refine r_iconst C (v := 3) d_Mo_make_87 (by decide) ?_
    refine r_aload_n C 0 d_Mo_make_88 rfl rfl ?_
    refine q_Mo_71 C d_Mo_make_89 ?_
    refine r_imul C d_Mo_make_92 ?_
    refine r_iload_n C 1 d_Mo_make_93 rfl rfl ?_
    refine r_iadd C d_Mo_make_94 ?_
    refine r_iconst C (v := (-1)) d_Mo_make_95 (by decide) ?_
    obtain ⟨hi_3, h⟩ := ck_some h
    obtain ⟨σ_4, eσ_4, h⟩ := bnd_some h
    refine r_iast C hi_3 eσ_4 d_Mo_make_96 ?_
    obtain ⟨x2_5, ex2_5, h⟩ := bnd_some h
    refine r_iinc C 1 (lv' := [(2, .int x2_5), (0, .ref (gA X 46))]) d_Mo_make_97 rfl (by rw [ex2_5]; rfl) (by decide) rfl ?_
    refine r_goto C (tgt := 78) d_Mo_make_100 (by decide) ?_
    refine r_sub [1, 0] (lv' := [(0, .ref (gA X 46)), (2, .int x2_5)]) rfl ?_
    exact hk78 _ h
set_option maxHeartbeats 4000000 in
set_option maxRecDepth 100000 in
theorem u_Mo_make_78 {X : gX} {r : (Int32 × gS)} (C : gC X b_Mo_make_c R_Mo 3 0 0) (hR : ∀ pc lv, decode b_Mo_make_c pc = .ok (.ireturn, 1) → G X pc lv [.int r.1] r.2)  (x : Int32 × gS) (h : l_Mo_make_78 x = some r) : G X 78 [(0, .ref (gA X 46)), (2, .int x.1)] [] x.2 :=
  lpF_ind (P := fun x => G X 78 [(0, .ref (gA X 46)), (2, .int x.1)] [] x.2) (fun k hk x h => t_Mo_make_78 C hR hk x.1 x.2 h) gF x h
set_option maxHeartbeats 4000000 in
set_option maxRecDepth 100000 in
theorem t_Mo_make_0 {X : gX} {r : (Int32 × gS)} (C : gC X b_Mo_make_c R_Mo 3 0 0) (hR : ∀ pc lv, decode b_Mo_make_c pc = .ok (.ireturn, 1) → G X pc lv [.int r.1] r.2) (x1 : Int32) (σ : gS) (h : b_Mo_make_0 x1 σ = some r) : G X 0 [(0, .ref (gA X 46)), (1, .int x1)] [] σ := by
  unfold b_Mo_make_0 at h
  refine r_aload_n C 0 d_Mo_make_0 rfl rfl ?_
  refine q_Mo_7 C d_Mo_make_1 ?_
  refine r_aload_n C 0 d_Mo_make_4 rfl rfl ?_
  refine q_Mo_71 C d_Mo_make_5 ?_
  refine r_iload_n C 1 d_Mo_make_8 rfl rfl ?_
  obtain ⟨hi_1, h⟩ := ck_some h
  obtain ⟨σ_2, eσ_2, h⟩ := bnd_some h
  refine r_iast C hi_1 eσ_2 d_Mo_make_9 ?_
  refine r_aload_n C 0 d_Mo_make_10 rfl rfl ?_
  refine q_Mo_13 C d_Mo_make_11 ?_
  refine r_aload_n C 0 d_Mo_make_14 rfl rfl ?_
  refine q_Mo_71 C d_Mo_make_15 ?_
  refine r_iconst C (v := (-1)) d_Mo_make_18 (by decide) ?_
  obtain ⟨hi_3, h⟩ := ck_some h
  obtain ⟨σ_4, eσ_4, h⟩ := bnd_some h
  refine r_iast C hi_3 eσ_4 d_Mo_make_19 ?_
  refine r_aload_n C 0 d_Mo_make_20 rfl rfl ?_
  refine q_Mo_16 C d_Mo_make_21 ?_
  refine r_iconst C (v := 2) d_Mo_make_24 (by decide) ?_
  refine r_aload_n C 0 d_Mo_make_25 rfl rfl ?_
  refine q_Mo_71 C d_Mo_make_26 ?_
  refine r_imul C d_Mo_make_29 ?_
  refine r_iconst C (v := 0) d_Mo_make_30 (by decide) ?_
  obtain ⟨hi_5, h⟩ := ck_some h
  obtain ⟨σ_6, eσ_6, h⟩ := bnd_some h
  refine r_iast C hi_5 eσ_6 d_Mo_make_31 ?_
  refine r_aload_n C 0 d_Mo_make_32 rfl rfl ?_
  refine q_Mo_16 C d_Mo_make_33 ?_
  refine r_iconst C (v := 2) d_Mo_make_36 (by decide) ?_
  refine r_aload_n C 0 d_Mo_make_37 rfl rfl ?_
  refine q_Mo_71 C d_Mo_make_38 ?_
  refine r_imul C d_Mo_make_41 ?_
  refine r_iconst C (v := 1) d_Mo_make_42 (by decide) ?_
  refine r_iadd C d_Mo_make_43 ?_
  refine r_iconst C (v := 0) d_Mo_make_44 (by decide) ?_
  obtain ⟨hi_7, h⟩ := ck_some h
  obtain ⟨σ_8, eσ_8, h⟩ := bnd_some h
  refine r_iast C hi_7 eσ_8 d_Mo_make_45 ?_
  refine r_aload_n C 0 d_Mo_make_46 rfl rfl ?_
  refine q_Mo_22 C d_Mo_make_47 ?_
  refine r_aload_n C 0 d_Mo_make_50 rfl rfl ?_
  refine q_Mo_71 C d_Mo_make_51 ?_
  refine r_iconst C (v := (-1)) d_Mo_make_54 (by decide) ?_
  obtain ⟨hi_9, h⟩ := ck_some h
  obtain ⟨σ_10, eσ_10, h⟩ := bnd_some h
  refine r_iast C hi_9 eσ_10 d_Mo_make_55 ?_
  refine r_aload_n C 0 d_Mo_make_56 rfl rfl ?_
  refine q_Mo_25 C d_Mo_make_57 ?_
  refine r_aload_n C 0 d_Mo_make_60 rfl rfl ?_
  refine q_Mo_71 C d_Mo_make_61 ?_
  refine r_iconst C (v := 0) d_Mo_make_64 (by decide) ?_
  obtain ⟨hi_11, h⟩ := ck_some h
  obtain ⟨σ_12, eσ_12, h⟩ := bnd_some h
  refine r_iast C hi_11 eσ_12 d_Mo_make_65 ?_
  refine r_aload_n C 0 d_Mo_make_66 rfl rfl ?_
  refine q_Mo_28 C d_Mo_make_67 ?_
  refine r_aload_n C 0 d_Mo_make_70 rfl rfl ?_
  refine q_Mo_71 C d_Mo_make_71 ?_
  refine r_iconst C (v := 0) d_Mo_make_74 (by decide) ?_
  obtain ⟨hi_13, h⟩ := ck_some h
  obtain ⟨σ_14, eσ_14, h⟩ := bnd_some h
  refine r_iast C hi_13 eσ_14 d_Mo_make_75 ?_
  refine r_iconst C (v := 0) d_Mo_make_76 (by decide) ?_
  refine r_istore_n C (lv' := [(2, .int 0), (0, .ref (gA X 46)), (1, .int x1)]) d_Mo_make_77 rfl (by decide) rfl rfl ?_
  refine r_sub [1, 0] (lv' := [(0, .ref (gA X 46)), (2, .int 0)]) rfl ?_
  exact u_Mo_make_78 C hR  (0, σ_14) h
set_option maxHeartbeats 4000000 in
set_option maxRecDepth 100000 in
theorem c_Mo_make (l : Launch) (σ : gS) (x1 : Int32) {r : (Int32 × gS)} (h : f_Mo_make σ x1 = some r) : gMet l y_Mo_make b_Mo_make_c 3 (some .int) 0 0 (fun a => [.ref (a 46), .int x1]) σ (some (.int r.1)) r.2 := by
  refine gMet_i (by decide +kernel) (fun a => Nat.le_of_ble_eq_true rfl) (fun X _ C hR => ?_)
  refine r_sub [0, 1] (lv' := [(0, .ref (gA X 46)), (1, .int x1)]) rfl ?_
  exact t_Mo_make_0 C hR x1 σ h
theorem d_Mo_end_0 : decode b_Mo_end_c 0 = .ok (.iload_n 1, 1) := by decide +kernel
theorem d_Mo_end_1 : decode b_Mo_end_c 1 = .ok (.bipush (-100), 2) := by decide +kernel
theorem d_Mo_end_3 : decode b_Mo_end_c 3 = .ok (.bipush 100, 2) := by decide +kernel
theorem d_Mo_end_5 : decode b_Mo_end_c 5 = .ok (.invokestatic 78, 3) := by decide +kernel
theorem d_Mo_end_8 : decode b_Mo_end_c 8 = .ok (.ifCond .eq 14, 3) := by decide +kernel
theorem d_Mo_end_11 : decode b_Mo_end_c 11 = .ok (.iload_n 2, 1) := by decide +kernel
theorem d_Mo_end_12 : decode b_Mo_end_c 12 = .ok (.bipush (-100), 2) := by decide +kernel
theorem d_Mo_end_14 : decode b_Mo_end_c 14 = .ok (.bipush 100, 2) := by decide +kernel
theorem d_Mo_end_16 : decode b_Mo_end_c 16 = .ok (.invokestatic 78, 3) := by decide +kernel
theorem d_Mo_end_19 : decode b_Mo_end_c 19 = .ok (.ifCond .ne 6, 3) := by decide +kernel
theorem d_Mo_end_22 : decode b_Mo_end_c 22 = .ok (.bipush (-2), 2) := by decide +kernel
theorem d_Mo_end_24 : decode b_Mo_end_c 24 = .ok (.ireturn, 1) := by decide +kernel
theorem d_Mo_end_25 : decode b_Mo_end_c 25 = .ok (.aload_n 0, 1) := by decide +kernel
theorem d_Mo_end_26 : decode b_Mo_end_c 26 = .ok (.getfield 71, 3) := by decide +kernel
theorem d_Mo_end_29 : decode b_Mo_end_c 29 = .ok (.bipush 40, 2) := by decide +kernel
theorem d_Mo_end_31 : decode b_Mo_end_c 31 = .ok (.if_icmp .ne 6, 3) := by decide +kernel
theorem d_Mo_end_34 : decode b_Mo_end_c 34 = .ok (.bipush (-3), 2) := by decide +kernel
theorem d_Mo_end_36 : decode b_Mo_end_c 36 = .ok (.ireturn, 1) := by decide +kernel
theorem d_Mo_end_37 : decode b_Mo_end_c 37 = .ok (.aload_n 0, 1) := by decide +kernel
theorem d_Mo_end_38 : decode b_Mo_end_c 38 = .ok (.iconst 0, 1) := by decide +kernel
theorem d_Mo_end_39 : decode b_Mo_end_c 39 = .ok (.invokevirtual 82, 3) := by decide +kernel
theorem d_Mo_end_42 : decode b_Mo_end_c 42 = .ok (.istore_n 3, 1) := by decide +kernel
theorem d_Mo_end_43 : decode b_Mo_end_c 43 = .ok (.aload_n 0, 1) := by decide +kernel
theorem d_Mo_end_44 : decode b_Mo_end_c 44 = .ok (.getfield 16, 3) := by decide +kernel
theorem d_Mo_end_47 : decode b_Mo_end_c 47 = .ok (.iconst 2, 1) := by decide +kernel
theorem d_Mo_end_48 : decode b_Mo_end_c 48 = .ok (.iload_n 3, 1) := by decide +kernel
theorem d_Mo_end_49 : decode b_Mo_end_c 49 = .ok (.imul, 1) := by decide +kernel
theorem d_Mo_end_50 : decode b_Mo_end_c 50 = .ok (.iload_n 1, 1) := by decide +kernel
theorem d_Mo_end_51 : decode b_Mo_end_c 51 = .ok (.iastore, 1) := by decide +kernel
theorem d_Mo_end_52 : decode b_Mo_end_c 52 = .ok (.aload_n 0, 1) := by decide +kernel
theorem d_Mo_end_53 : decode b_Mo_end_c 53 = .ok (.getfield 16, 3) := by decide +kernel
theorem d_Mo_end_56 : decode b_Mo_end_c 56 = .ok (.iconst 2, 1) := by decide +kernel
theorem d_Mo_end_57 : decode b_Mo_end_c 57 = .ok (.iload_n 3, 1) := by decide +kernel
theorem d_Mo_end_58 : decode b_Mo_end_c 58 = .ok (.imul, 1) := by decide +kernel
theorem d_Mo_end_59 : decode b_Mo_end_c 59 = .ok (.iconst 1, 1) := by decide +kernel
theorem d_Mo_end_60 : decode b_Mo_end_c 60 = .ok (.iadd, 1) := by decide +kernel
theorem d_Mo_end_61 : decode b_Mo_end_c 61 = .ok (.iload_n 2, 1) := by decide +kernel
theorem d_Mo_end_62 : decode b_Mo_end_c 62 = .ok (.iastore, 1) := by decide +kernel
theorem d_Mo_end_63 : decode b_Mo_end_c 63 = .ok (.iload_n 3, 1) := by decide +kernel
theorem d_Mo_end_64 : decode b_Mo_end_c 64 = .ok (.ireturn, 1) := by decide +kernel
/-! GameRowsModel.end(II)I -/
set_option maxHeartbeats 4000000 in
set_option maxRecDepth 100000 in
theorem t_Mo_end_0 {X : gX} {r : (Int32 × gS)} (C : gC X b_Mo_end_c R_Mo 4 1 22) (hR : ∀ pc lv, decode b_Mo_end_c pc = .ok (.ireturn, 1) → G X pc lv [.int r.1] r.2) (x1 : Int32) (x2 : Int32) (σ : gS) (h : b_Mo_end_0 x1 x2 σ = some r) : G X 0 [(0, .ref (gA X 46)), (1, .int x1), (2, .int x2)] [] σ := by
  unfold b_Mo_end_0 at h
  refine r_iload_n C 1 d_Mo_end_0 rfl rfl ?_
  refine r_bipush C (v := (-100)) d_Mo_end_1 (by decide) ?_
  refine r_bipush C (v := 100) d_Mo_end_3 (by decide) ?_
  obtain ⟨r_1, er_1, h⟩ := bind_some h
  refine r_callS C (As := [.int x1, .int (-100), .int 100]) (rest := []) (st1 := [.int r_1]) (c_Mo_isFrom X.1.2.1 σ x1 (-100) 100 er_1) k_Mo_isFrom m_420 rfl rfl rfl (Nat.le_of_ble_eq_true rfl) ⟨Nat.le_of_ble_eq_true rfl, Nat.le_of_ble_eq_true rfl⟩ d_Mo_end_5 rfl ?_
  refine r_if_eq C (tgt := 22) d_Mo_end_8 (by decide) (fun hc_2 => ?_) (fun hc_2 => ?_)
  · rw [if_pos hc_2] at h
    refine r_bipush C (v := (-2)) d_Mo_end_22 (by decide) ?_
    cases h
    exact hR _ _ d_Mo_end_24
  · rw [if_neg hc_2] at h
    refine r_iload_n C 2 d_Mo_end_11 rfl rfl ?_
    refine r_bipush C (v := (-100)) d_Mo_end_12 (by decide) ?_
    refine r_bipush C (v := 100) d_Mo_end_14 (by decide) ?_
    obtain ⟨r_3, er_3, h⟩ := bind_some h
    refine r_callS C (As := [.int x2, .int (-100), .int 100]) (rest := []) (st1 := [.int r_3]) (c_Mo_isFrom X.1.2.1 σ x2 (-100) 100 er_3) k_Mo_isFrom m_420 rfl rfl rfl (Nat.le_of_ble_eq_true rfl) ⟨Nat.le_of_ble_eq_true rfl, Nat.le_of_ble_eq_true rfl⟩ d_Mo_end_16 rfl ?_
    refine r_if_ne C (tgt := 25) d_Mo_end_19 (by decide) (fun hc_4 => ?_) (fun hc_4 => ?_)
    · rw [if_neg hc_4] at h
      refine r_aload_n C 0 d_Mo_end_25 rfl rfl ?_
      refine q_Mo_71 C d_Mo_end_26 ?_
      refine r_bipush C (v := 40) d_Mo_end_29 (by decide) ?_
      refine r_icmp_ne C (tgt := 37) d_Mo_end_31 (by decide) (fun hc_5 => ?_) (fun hc_5 => ?_)
      · rw [if_neg hc_5] at h
        refine r_aload_n C 0 d_Mo_end_37 rfl rfl ?_
        refine r_iconst C (v := 0) d_Mo_end_38 (by decide) ?_
        obtain ⟨r_6, er_6, h⟩ := bind_some h
        refine r_callV C (As := [.int 0]) (rest := []) (st1 := [.int r_6.1]) (c_Mo_make X.1.2.1 σ 0 er_6) k_Mo_make m_433 (by decide) cel_Mo rfl rfl rfl rfl (Nat.le_of_ble_eq_true rfl) ⟨Nat.le_of_ble_eq_true rfl, Nat.le_of_ble_eq_true rfl⟩ d_Mo_end_39 rfl ?_
        obtain ⟨x3_7, ex3_7, h⟩ := bnd_some h
        refine r_istore_n C (lv' := [(3, .int x3_7), (0, .ref (gA X 46)), (1, .int x1), (2, .int x2)]) d_Mo_end_42 rfl (by decide) ex3_7 rfl ?_
        refine r_aload_n C 1 d_Mo_end_43 rfl rfl ?_
        refine q_Mo_16 C d_Mo_end_44 ?_
        refine r_iconst C (v := 2) d_Mo_end_47 (by decide) ?_
        refine r_iload_n C 0 d_Mo_end_48 rfl rfl ?_
        refine r_imul C d_Mo_end_49 ?_
        refine r_iload_n C 2 d_Mo_end_50 rfl rfl ?_
        obtain ⟨hi_8, h⟩ := ck_some h
        obtain ⟨σ_9, eσ_9, h⟩ := bnd_some h
        refine r_iast C hi_8 eσ_9 d_Mo_end_51 ?_
        refine r_aload_n C 1 d_Mo_end_52 rfl rfl ?_
        refine q_Mo_16 C d_Mo_end_53 ?_
        refine r_iconst C (v := 2) d_Mo_end_56 (by decide) ?_
        refine r_iload_n C 0 d_Mo_end_57 rfl rfl ?_
        refine r_imul C d_Mo_end_58 ?_
        refine r_iconst C (v := 1) d_Mo_end_59 (by decide) ?_
        refine r_iadd C d_Mo_end_60 ?_
        refine r_iload_n C 3 d_Mo_end_61 rfl rfl ?_
        obtain ⟨hi_10, h⟩ := ck_some h
        obtain ⟨σ_11, eσ_11, h⟩ := bnd_some h
        refine r_iast C hi_10 eσ_11 d_Mo_end_62 ?_
        refine r_iload_n C 0 d_Mo_end_63 rfl rfl ?_
        cases h
        exact hR _ _ d_Mo_end_64
      · rw [if_pos hc_5] at h
        refine r_bipush C (v := (-3)) d_Mo_end_34 (by decide) ?_
        cases h
        exact hR _ _ d_Mo_end_36
    · rw [if_pos hc_4] at h
      refine r_bipush C (v := (-2)) d_Mo_end_22 (by decide) ?_
      cases h
      exact hR _ _ d_Mo_end_24
set_option maxHeartbeats 4000000 in
set_option maxRecDepth 100000 in
theorem c_Mo_end (l : Launch) (σ : gS) (x1 : Int32) (x2 : Int32) {r : (Int32 × gS)} (h : f_Mo_end σ x1 x2 = some r) : gMet l y_Mo_end b_Mo_end_c 4 (some .int) 1 22 (fun a => [.ref (a 46), .int x1, .int x2]) σ (some (.int r.1)) r.2 := by
  refine gMet_i (by decide +kernel) (fun a => Nat.le_of_ble_eq_true rfl) (fun X _ C hR => ?_)
  refine r_sub [0, 1, 2] (lv' := [(0, .ref (gA X 46)), (1, .int x1), (2, .int x2)]) rfl ?_
  exact t_Mo_end_0 C hR x1 x2 σ h
theorem d_Mo_isNode_0 : decode b_Mo_isNode_c 0 = .ok (.iload_n 1, 1) := by decide +kernel
theorem d_Mo_isNode_1 : decode b_Mo_isNode_c 1 = .ok (.iconst 0, 1) := by decide +kernel
theorem d_Mo_isNode_2 : decode b_Mo_isNode_c 2 = .ok (.aload_n 0, 1) := by decide +kernel
theorem d_Mo_isNode_3 : decode b_Mo_isNode_c 3 = .ok (.getfield 71, 3) := by decide +kernel
theorem d_Mo_isNode_6 : decode b_Mo_isNode_c 6 = .ok (.iconst 1, 1) := by decide +kernel
theorem d_Mo_isNode_7 : decode b_Mo_isNode_c 7 = .ok (.isub, 1) := by decide +kernel
theorem d_Mo_isNode_8 : decode b_Mo_isNode_c 8 = .ok (.invokestatic 78, 3) := by decide +kernel
theorem d_Mo_isNode_11 : decode b_Mo_isNode_c 11 = .ok (.ireturn, 1) := by decide +kernel
/-! GameRowsModel.isNode(I)Z -/
set_option maxHeartbeats 4000000 in
set_option maxRecDepth 100000 in
theorem t_Mo_isNode_0 {X : gX} {r : Int32} {σ : gS} (C : gC X b_Mo_isNode_c R_Mo 2 1 22) (hR : ∀ pc lv, isB r = true → decode b_Mo_isNode_c pc = .ok (.ireturn, 1) → G X pc lv [.int r] σ) (x1 : Int32) (h : b_Mo_isNode_0 σ x1 = some r) : G X 0 [(0, .ref (gA X 46)), (1, .int x1)] [] σ := by
  unfold b_Mo_isNode_0 at h
  refine r_iload_n C 1 d_Mo_isNode_0 rfl rfl ?_
  refine r_iconst C (v := 0) d_Mo_isNode_1 (by decide) ?_
  refine r_aload_n C 0 d_Mo_isNode_2 rfl rfl ?_
  refine q_Mo_71 C d_Mo_isNode_3 ?_
  refine r_iconst C (v := 1) d_Mo_isNode_6 (by decide) ?_
  refine r_isub C d_Mo_isNode_7 ?_
  obtain ⟨r_1, er_1, h⟩ := bind_some h
  refine r_callS C (As := [.int x1, .int 0, .int ((gI σ 46 0) - 1)]) (rest := []) (st1 := [.int r_1]) (c_Mo_isFrom X.1.2.1 σ x1 0 ((gI σ 46 0) - 1) er_1) k_Mo_isFrom m_420 rfl rfl rfl (Nat.le_of_ble_eq_true rfl) ⟨Nat.le_of_ble_eq_true rfl, Nat.le_of_ble_eq_true rfl⟩ d_Mo_isNode_8 rfl ?_
  obtain ⟨hB, h⟩ := ck_some h
  cases h
  exact hR _ _ hB d_Mo_isNode_11
set_option maxHeartbeats 4000000 in
set_option maxRecDepth 100000 in
theorem c_Mo_isNode (l : Launch) (σ : gS) (x1 : Int32) {r : Int32} (h : f_Mo_isNode σ x1 = some r) : gMet l y_Mo_isNode b_Mo_isNode_c 2 (some .boolean) 1 22 (fun a => [.ref (a 46), .int x1]) σ (some (.int r)) σ := by
  refine gMet_z (by decide +kernel) (fun a => Nat.le_of_ble_eq_true rfl) (fun X _ C hR => ?_)
  refine r_sub [0, 1] (lv' := [(0, .ref (gA X 46)), (1, .int x1)]) rfl ?_
  exact t_Mo_isNode_0 C hR x1 h
theorem d_Mo_third_0 : decode b_Mo_third_c 0 = .ok (.iload_n 3, 1) := by decide +kernel
theorem d_Mo_third_1 : decode b_Mo_third_c 1 = .ok (.ifCond .ne 7, 3) := by decide +kernel
theorem d_Mo_third_4 : decode b_Mo_third_c 4 = .ok (.iload_n 0, 1) := by decide +kernel
theorem d_Mo_third_5 : decode b_Mo_third_c 5 = .ok (.goto 13, 3) := by decide +kernel
theorem d_Mo_third_8 : decode b_Mo_third_c 8 = .ok (.iload_n 3, 1) := by decide +kernel
theorem d_Mo_third_9 : decode b_Mo_third_c 9 = .ok (.iconst 1, 1) := by decide +kernel
theorem d_Mo_third_10 : decode b_Mo_third_c 10 = .ok (.if_icmp .ne 7, 3) := by decide +kernel
theorem d_Mo_third_13 : decode b_Mo_third_c 13 = .ok (.iload_n 1, 1) := by decide +kernel
theorem d_Mo_third_14 : decode b_Mo_third_c 14 = .ok (.goto 4, 3) := by decide +kernel
theorem d_Mo_third_17 : decode b_Mo_third_c 17 = .ok (.iload_n 2, 1) := by decide +kernel
theorem d_Mo_third_18 : decode b_Mo_third_c 18 = .ok (.ireturn, 1) := by decide +kernel
/-! GameRowsModel.third(IIII)I -/
set_option maxHeartbeats 4000000 in
set_option maxRecDepth 100000 in
theorem t_Mo_third_0 {X : gX} {r : Int32} {σ : gS} (C : gC X b_Mo_third_c R_Mo 4 0 0) (hR : ∀ pc lv, decode b_Mo_third_c pc = .ok (.ireturn, 1) → G X pc lv [.int r] σ) (x0 : Int32) (x1 : Int32) (x2 : Int32) (x3 : Int32) (h : b_Mo_third_0 x0 x1 x2 x3 = some r) : G X 0 [(0, .int x0), (1, .int x1), (2, .int x2), (3, .int x3)] [] σ := by
  unfold b_Mo_third_0 at h
  refine r_iload_n C 3 d_Mo_third_0 rfl rfl ?_
  refine r_if_ne C (tgt := 8) d_Mo_third_1 (by decide) (fun hc_1 => ?_) (fun hc_1 => ?_)
  · rw [if_neg hc_1] at h
    refine r_iload_n C 3 d_Mo_third_8 rfl rfl ?_
    refine r_iconst C (v := 1) d_Mo_third_9 (by decide) ?_
    refine r_icmp_ne C (tgt := 17) d_Mo_third_10 (by decide) (fun hc_2 => ?_) (fun hc_2 => ?_)
    · rw [if_neg hc_2] at h
      refine r_iload_n C 2 d_Mo_third_17 rfl rfl ?_
      cases h
      exact hR _ _ d_Mo_third_18
    · rw [if_pos hc_2] at h
      refine r_iload_n C 1 d_Mo_third_13 rfl rfl ?_
      refine r_goto C (tgt := 18) d_Mo_third_14 (by decide) ?_
      cases h
      exact hR _ _ d_Mo_third_18
  · rw [if_pos hc_1] at h
    refine r_iload_n C 0 d_Mo_third_4 rfl rfl ?_
    refine r_goto C (tgt := 18) d_Mo_third_5 (by decide) ?_
    cases h
    exact hR _ _ d_Mo_third_18
set_option maxHeartbeats 4000000 in
set_option maxRecDepth 100000 in
theorem c_Mo_third (l : Launch) (σ : gS) (x0 : Int32) (x1 : Int32) (x2 : Int32) (x3 : Int32) {r : Int32} (h : f_Mo_third x0 x1 x2 x3 = some r) : gMet l y_Mo_third b_Mo_third_c 4 (some .int) 0 0 (fun a => [.int x0, .int x1, .int x2, .int x3]) σ (some (.int r)) σ := by
  refine gMet_i (by decide +kernel) (fun a => Nat.le_of_ble_eq_true rfl) (fun X _ C hR => ?_)
  refine r_sub [0, 1, 2, 3] (lv' := [(0, .int x0), (1, .int x1), (2, .int x2), (3, .int x3)]) rfl ?_
  exact t_Mo_third_0 C hR x0 x1 x2 x3 h
theorem d_Mo_bar_0 : decode b_Mo_bar_c 0 = .ok (.iload_n 1, 1) := by decide +kernel
theorem d_Mo_bar_1 : decode b_Mo_bar_c 1 = .ok (.iconst 1, 1) := by decide +kernel
theorem d_Mo_bar_2 : decode b_Mo_bar_c 2 = .ok (.if_icmp .le 8, 3) := by decide +kernel
theorem d_Mo_bar_5 : decode b_Mo_bar_c 5 = .ok (.iload_n 2, 1) := by decide +kernel
theorem d_Mo_bar_6 : decode b_Mo_bar_c 6 = .ok (.iload_n 3, 1) := by decide +kernel
theorem d_Mo_bar_7 : decode b_Mo_bar_c 7 = .ok (.if_icmp .eq 20, 3) := by decide +kernel
theorem d_Mo_bar_10 : decode b_Mo_bar_c 10 = .ok (.iload_n 1, 1) := by decide +kernel
theorem d_Mo_bar_11 : decode b_Mo_bar_c 11 = .ok (.iconst 2, 1) := by decide +kernel
theorem d_Mo_bar_12 : decode b_Mo_bar_c 12 = .ok (.if_icmp .le 19, 3) := by decide +kernel
theorem d_Mo_bar_15 : decode b_Mo_bar_c 15 = .ok (.iload_n 2, 1) := by decide +kernel
theorem d_Mo_bar_16 : decode b_Mo_bar_c 16 = .ok (.iload 4, 2) := by decide +kernel
theorem d_Mo_bar_18 : decode b_Mo_bar_c 18 = .ok (.if_icmp .eq 9, 3) := by decide +kernel
theorem d_Mo_bar_21 : decode b_Mo_bar_c 21 = .ok (.iload_n 3, 1) := by decide +kernel
theorem d_Mo_bar_22 : decode b_Mo_bar_c 22 = .ok (.iload 4, 2) := by decide +kernel
theorem d_Mo_bar_24 : decode b_Mo_bar_c 24 = .ok (.if_icmp .ne 7, 3) := by decide +kernel
theorem d_Mo_bar_27 : decode b_Mo_bar_c 27 = .ok (.iconst 1, 1) := by decide +kernel
theorem d_Mo_bar_28 : decode b_Mo_bar_c 28 = .ok (.goto 4, 3) := by decide +kernel
theorem d_Mo_bar_31 : decode b_Mo_bar_c 31 = .ok (.iconst 0, 1) := by decide +kernel
theorem d_Mo_bar_32 : decode b_Mo_bar_c 32 = .ok (.istore 6, 2) := by decide +kernel
theorem d_Mo_bar_34 : decode b_Mo_bar_c 34 = .ok (.iconst 0, 1) := by decide +kernel
theorem d_Mo_bar_35 : decode b_Mo_bar_c 35 = .ok (.istore 7, 2) := by decide +kernel
theorem d_Mo_bar_37 : decode b_Mo_bar_c 37 = .ok (.iconst 0, 1) := by decide +kernel
theorem d_Mo_bar_38 : decode b_Mo_bar_c 38 = .ok (.istore 8, 2) := by decide +kernel
theorem d_Mo_bar_40 : decode b_Mo_bar_c 40 = .ok (.iconst 0, 1) := by decide +kernel
theorem d_Mo_bar_41 : decode b_Mo_bar_c 41 = .ok (.istore 9, 2) := by decide +kernel
theorem d_Mo_bar_43 : decode b_Mo_bar_c 43 = .ok (.iload 9, 2) := by decide +kernel
theorem d_Mo_bar_45 : decode b_Mo_bar_c 45 = .ok (.iload_n 1, 1) := by decide +kernel
theorem d_Mo_bar_46 : decode b_Mo_bar_c 46 = .ok (.if_icmp .ge 95, 3) := by decide +kernel
theorem d_Mo_bar_49 : decode b_Mo_bar_c 49 = .ok (.iload_n 2, 1) := by decide +kernel
theorem d_Mo_bar_50 : decode b_Mo_bar_c 50 = .ok (.iload_n 3, 1) := by decide +kernel
theorem d_Mo_bar_51 : decode b_Mo_bar_c 51 = .ok (.iload 4, 2) := by decide +kernel
theorem d_Mo_bar_53 : decode b_Mo_bar_c 53 = .ok (.iload 9, 2) := by decide +kernel
theorem d_Mo_bar_55 : decode b_Mo_bar_c 55 = .ok (.invokestatic 86, 3) := by decide +kernel
theorem d_Mo_bar_58 : decode b_Mo_bar_c 58 = .ok (.istore 10, 2) := by decide +kernel
theorem d_Mo_bar_60 : decode b_Mo_bar_c 60 = .ok (.iload 6, 2) := by decide +kernel
theorem d_Mo_bar_62 : decode b_Mo_bar_c 62 = .ok (.ifCond .ne 14, 3) := by decide +kernel
theorem d_Mo_bar_65 : decode b_Mo_bar_c 65 = .ok (.aload_n 0, 1) := by decide +kernel
theorem d_Mo_bar_66 : decode b_Mo_bar_c 66 = .ok (.getfield 22, 3) := by decide +kernel
theorem d_Mo_bar_69 : decode b_Mo_bar_c 69 = .ok (.iload 10, 2) := by decide +kernel
theorem d_Mo_bar_71 : decode b_Mo_bar_c 71 = .ok (.iaload, 1) := by decide +kernel
theorem d_Mo_bar_72 : decode b_Mo_bar_c 72 = .ok (.iconst (-1), 1) := by decide +kernel
theorem d_Mo_bar_73 : decode b_Mo_bar_c 73 = .ok (.if_icmp .eq 7, 3) := by decide +kernel
theorem d_Mo_bar_76 : decode b_Mo_bar_c 76 = .ok (.iconst 1, 1) := by decide +kernel
theorem d_Mo_bar_77 : decode b_Mo_bar_c 77 = .ok (.goto 4, 3) := by decide +kernel
theorem d_Mo_bar_80 : decode b_Mo_bar_c 80 = .ok (.iconst 0, 1) := by decide +kernel
theorem d_Mo_bar_81 : decode b_Mo_bar_c 81 = .ok (.istore 6, 2) := by decide +kernel
theorem d_Mo_bar_83 : decode b_Mo_bar_c 83 = .ok (.aload_n 0, 1) := by decide +kernel
theorem d_Mo_bar_84 : decode b_Mo_bar_c 84 = .ok (.getfield 25, 3) := by decide +kernel
theorem d_Mo_bar_87 : decode b_Mo_bar_c 87 = .ok (.iload 10, 2) := by decide +kernel
theorem d_Mo_bar_89 : decode b_Mo_bar_c 89 = .ok (.iaload, 1) := by decide +kernel
theorem d_Mo_bar_90 : decode b_Mo_bar_c 90 = .ok (.iload 7, 2) := by decide +kernel
theorem d_Mo_bar_92 : decode b_Mo_bar_c 92 = .ok (.if_icmp .le 13, 3) := by decide +kernel
theorem d_Mo_bar_95 : decode b_Mo_bar_c 95 = .ok (.aload_n 0, 1) := by decide +kernel
theorem d_Mo_bar_96 : decode b_Mo_bar_c 96 = .ok (.getfield 25, 3) := by decide +kernel
theorem d_Mo_bar_99 : decode b_Mo_bar_c 99 = .ok (.iload 10, 2) := by decide +kernel
theorem d_Mo_bar_101 : decode b_Mo_bar_c 101 = .ok (.iaload, 1) := by decide +kernel
theorem d_Mo_bar_102 : decode b_Mo_bar_c 102 = .ok (.goto 5, 3) := by decide +kernel
theorem d_Mo_bar_105 : decode b_Mo_bar_c 105 = .ok (.iload 7, 2) := by decide +kernel
theorem d_Mo_bar_107 : decode b_Mo_bar_c 107 = .ok (.istore 7, 2) := by decide +kernel
theorem d_Mo_bar_109 : decode b_Mo_bar_c 109 = .ok (.aload_n 0, 1) := by decide +kernel
theorem d_Mo_bar_110 : decode b_Mo_bar_c 110 = .ok (.getfield 28, 3) := by decide +kernel
theorem d_Mo_bar_113 : decode b_Mo_bar_c 113 = .ok (.iload 10, 2) := by decide +kernel
theorem d_Mo_bar_115 : decode b_Mo_bar_c 115 = .ok (.iaload, 1) := by decide +kernel
theorem d_Mo_bar_116 : decode b_Mo_bar_c 116 = .ok (.iload 8, 2) := by decide +kernel
theorem d_Mo_bar_118 : decode b_Mo_bar_c 118 = .ok (.if_icmp .le 13, 3) := by decide +kernel
theorem d_Mo_bar_121 : decode b_Mo_bar_c 121 = .ok (.aload_n 0, 1) := by decide +kernel
theorem d_Mo_bar_122 : decode b_Mo_bar_c 122 = .ok (.getfield 28, 3) := by decide +kernel
theorem d_Mo_bar_125 : decode b_Mo_bar_c 125 = .ok (.iload 10, 2) := by decide +kernel
theorem d_Mo_bar_127 : decode b_Mo_bar_c 127 = .ok (.iaload, 1) := by decide +kernel
theorem d_Mo_bar_128 : decode b_Mo_bar_c 128 = .ok (.goto 5, 3) := by decide +kernel
theorem d_Mo_bar_131 : decode b_Mo_bar_c 131 = .ok (.iload 8, 2) := by decide +kernel
theorem d_Mo_bar_133 : decode b_Mo_bar_c 133 = .ok (.istore 8, 2) := by decide +kernel
theorem d_Mo_bar_135 : decode b_Mo_bar_c 135 = .ok (.iinc 9 1, 3) := by decide +kernel
theorem d_Mo_bar_138 : decode b_Mo_bar_c 138 = .ok (.goto (-95), 3) := by decide +kernel
theorem d_Mo_bar_141 : decode b_Mo_bar_c 141 = .ok (.iload 6, 2) := by decide +kernel
theorem d_Mo_bar_143 : decode b_Mo_bar_c 143 = .ok (.ifCond .eq 8, 3) := by decide +kernel
theorem d_Mo_bar_146 : decode b_Mo_bar_c 146 = .ok (.bipush (-4), 2) := by decide +kernel
theorem d_Mo_bar_148 : decode b_Mo_bar_c 148 = .ok (.goto 27, 3) := by decide +kernel
theorem d_Mo_bar_151 : decode b_Mo_bar_c 151 = .ok (.iload 7, 2) := by decide +kernel
theorem d_Mo_bar_153 : decode b_Mo_bar_c 153 = .ok (.iconst 1, 1) := by decide +kernel
theorem d_Mo_bar_154 : decode b_Mo_bar_c 154 = .ok (.iadd, 1) := by decide +kernel
theorem d_Mo_bar_155 : decode b_Mo_bar_c 155 = .ok (.bipush 8, 2) := by decide +kernel
theorem d_Mo_bar_157 : decode b_Mo_bar_c 157 = .ok (.if_icmp .gt 12, 3) := by decide +kernel
theorem d_Mo_bar_160 : decode b_Mo_bar_c 160 = .ok (.iload 8, 2) := by decide +kernel
theorem d_Mo_bar_162 : decode b_Mo_bar_c 162 = .ok (.iload 5, 2) := by decide +kernel
theorem d_Mo_bar_164 : decode b_Mo_bar_c 164 = .ok (.iadd, 1) := by decide +kernel
theorem d_Mo_bar_165 : decode b_Mo_bar_c 165 = .ok (.iconst 5, 1) := by decide +kernel
theorem d_Mo_bar_166 : decode b_Mo_bar_c 166 = .ok (.if_icmp .le 8, 3) := by decide +kernel
theorem d_Mo_bar_169 : decode b_Mo_bar_c 169 = .ok (.bipush (-5), 2) := by decide +kernel
theorem d_Mo_bar_171 : decode b_Mo_bar_c 171 = .ok (.goto 4, 3) := by decide +kernel
theorem d_Mo_bar_174 : decode b_Mo_bar_c 174 = .ok (.iconst 0, 1) := by decide +kernel
theorem d_Mo_bar_175 : decode b_Mo_bar_c 175 = .ok (.ireturn, 1) := by decide +kernel
/-! GameRowsModel.bar(IIIII)I -/
set_option maxHeartbeats 4000000 in
set_option maxRecDepth 100000 in
theorem t_Mo_bar_133 {X : gX} {r : Int32} {σ : gS} (C : gC X b_Mo_bar_c R_Mo 11 1 23) (hR : ∀ pc lv, decode b_Mo_bar_c pc = .ok (.ireturn, 1) → G X pc lv [.int r] σ) {k43 : Int32 × Int32 × Int32 × Int32 × Int32 × Int32 × Int32 × Int32 × Int32 → Option Int32}  (hk43 : ∀ x, k43 x = some r → G X 43 [(0, .ref (gA X 46)), (1, .int x.1), (2, .int x.2.1), (3, .int x.2.2.1), (4, .int x.2.2.2.1), (5, .int x.2.2.2.2.1), (6, .int x.2.2.2.2.2.1), (7, .int x.2.2.2.2.2.2.1), (8, .int x.2.2.2.2.2.2.2.1), (9, .int x.2.2.2.2.2.2.2.2)] [] σ) (x1 : Int32) (x2 : Int32) (x3 : Int32) (x4 : Int32) (x5 : Int32) (x6 : Int32) (x7 : Int32) (x9 : Int32) (y0 : Int32) (h : b_Mo_bar_133 σ k43 x1 x2 x3 x4 x5 x6 x7 x9 y0 = some r) : G X 133 [(0, .ref (gA X 46)), (1, .int x1), (2, .int x2), (3, .int x3), (4, .int x4), (5, .int x5), (6, .int x6), (7, .int x7), (9, .int x9)] [.int y0] σ := by
  unfold b_Mo_bar_133 at h
  refine r_istore C (lv' := [(8, .int y0), (0, .ref (gA X 46)), (1, .int x1), (2, .int x2), (3, .int x3), (4, .int x4), (5, .int x5), (6, .int x6), (7, .int x7), (9, .int x9)]) d_Mo_bar_133 (by decide) rfl rfl ?_
  obtain ⟨x9_1, ex9_1, h⟩ := bnd_some h
  refine r_iinc C 9 (lv' := [(9, .int x9_1), (8, .int y0), (0, .ref (gA X 46)), (1, .int x1), (2, .int x2), (3, .int x3), (4, .int x4), (5, .int x5), (6, .int x6), (7, .int x7)]) d_Mo_bar_135 rfl (by rw [ex9_1]; rfl) (by decide) rfl ?_
  refine r_goto C (tgt := 43) d_Mo_bar_138 (by decide) ?_
  refine r_sub [2, 3, 4, 5, 6, 7, 8, 9, 1, 0] (lv' := [(0, .ref (gA X 46)), (1, .int x1), (2, .int x2), (3, .int x3), (4, .int x4), (5, .int x5), (6, .int x6), (7, .int x7), (8, .int y0), (9, .int x9_1)]) rfl ?_
  exact hk43 _ h
set_option maxHeartbeats 4000000 in
set_option maxRecDepth 100000 in
theorem t_Mo_bar_107 {X : gX} {r : Int32} {σ : gS} (C : gC X b_Mo_bar_c R_Mo 11 1 23) (hR : ∀ pc lv, decode b_Mo_bar_c pc = .ok (.ireturn, 1) → G X pc lv [.int r] σ) {k43 : Int32 × Int32 × Int32 × Int32 × Int32 × Int32 × Int32 × Int32 × Int32 → Option Int32}  (hk43 : ∀ x, k43 x = some r → G X 43 [(0, .ref (gA X 46)), (1, .int x.1), (2, .int x.2.1), (3, .int x.2.2.1), (4, .int x.2.2.2.1), (5, .int x.2.2.2.2.1), (6, .int x.2.2.2.2.2.1), (7, .int x.2.2.2.2.2.2.1), (8, .int x.2.2.2.2.2.2.2.1), (9, .int x.2.2.2.2.2.2.2.2)] [] σ) (x1 : Int32) (x2 : Int32) (x3 : Int32) (x4 : Int32) (x5 : Int32) (x6 : Int32) (x8 : Int32) (x9 : Int32) (x10 : Int32) (y0 : Int32) (h : b_Mo_bar_107 σ k43 x1 x2 x3 x4 x5 x6 x8 x9 x10 y0 = some r) : G X 107 [(0, .ref (gA X 46)), (1, .int x1), (2, .int x2), (3, .int x3), (4, .int x4), (5, .int x5), (6, .int x6), (8, .int x8), (9, .int x9), (10, .int x10)] [.int y0] σ := by
  unfold b_Mo_bar_107 at h
  refine r_istore C (lv' := [(7, .int y0), (0, .ref (gA X 46)), (1, .int x1), (2, .int x2), (3, .int x3), (4, .int x4), (5, .int x5), (6, .int x6), (8, .int x8), (9, .int x9), (10, .int x10)]) d_Mo_bar_107 (by decide) rfl rfl ?_
  refine r_aload_n C 1 d_Mo_bar_109 rfl rfl ?_
  refine q_Mo_28 C d_Mo_bar_110 ?_
  refine r_iload C 10 d_Mo_bar_113 rfl ?_
  obtain ⟨hi_1, h⟩ := ck_some h
  refine r_iald C hi_1 d_Mo_bar_115 ?_
  refine r_iload C 8 d_Mo_bar_116 rfl ?_
  refine r_icmp_le C (tgt := 131) d_Mo_bar_118 (by decide) (fun hc_2 => ?_) (fun hc_2 => ?_)
  · rw [if_pos hc_2] at h
    refine r_iload C 8 d_Mo_bar_131 rfl ?_
    refine r_sub [1, 2, 3, 4, 5, 6, 7, 0, 9] (lv' := [(0, .ref (gA X 46)), (1, .int x1), (2, .int x2), (3, .int x3), (4, .int x4), (5, .int x5), (6, .int x6), (7, .int y0), (9, .int x9)]) rfl ?_
    exact t_Mo_bar_133 C hR hk43 x1 x2 x3 x4 x5 x6 y0 x9 x8 h
  · rw [if_neg hc_2] at h
    refine r_aload_n C 1 d_Mo_bar_121 rfl rfl ?_
    refine q_Mo_28 C d_Mo_bar_122 ?_
    refine r_iload C 10 d_Mo_bar_125 rfl ?_
    obtain ⟨hi_3, h⟩ := ck_some h
    refine r_iald C hi_3 d_Mo_bar_127 ?_
    refine r_goto C (tgt := 133) d_Mo_bar_128 (by decide) ?_
    refine r_sub [1, 2, 3, 4, 5, 6, 7, 0, 9] (lv' := [(0, .ref (gA X 46)), (1, .int x1), (2, .int x2), (3, .int x3), (4, .int x4), (5, .int x5), (6, .int x6), (7, .int y0), (9, .int x9)]) rfl ?_
    exact t_Mo_bar_133 C hR hk43 x1 x2 x3 x4 x5 x6 y0 x9 (gI σ 53 x10.toNatClampNeg) h
set_option maxHeartbeats 4000000 in
set_option maxRecDepth 100000 in
theorem t_Mo_bar_81 {X : gX} {r : Int32} {σ : gS} (C : gC X b_Mo_bar_c R_Mo 11 1 23) (hR : ∀ pc lv, decode b_Mo_bar_c pc = .ok (.ireturn, 1) → G X pc lv [.int r] σ) {k43 : Int32 × Int32 × Int32 × Int32 × Int32 × Int32 × Int32 × Int32 × Int32 → Option Int32}  (hk43 : ∀ x, k43 x = some r → G X 43 [(0, .ref (gA X 46)), (1, .int x.1), (2, .int x.2.1), (3, .int x.2.2.1), (4, .int x.2.2.2.1), (5, .int x.2.2.2.2.1), (6, .int x.2.2.2.2.2.1), (7, .int x.2.2.2.2.2.2.1), (8, .int x.2.2.2.2.2.2.2.1), (9, .int x.2.2.2.2.2.2.2.2)] [] σ) (x1 : Int32) (x2 : Int32) (x3 : Int32) (x4 : Int32) (x5 : Int32) (x7 : Int32) (x8 : Int32) (x9 : Int32) (x10 : Int32) (y0 : Int32) (h : b_Mo_bar_81 σ k43 x1 x2 x3 x4 x5 x7 x8 x9 x10 y0 = some r) : G X 81 [(0, .ref (gA X 46)), (1, .int x1), (2, .int x2), (3, .int x3), (4, .int x4), (5, .int x5), (7, .int x7), (8, .int x8), (9, .int x9), (10, .int x10)] [.int y0] σ := by
  unfold b_Mo_bar_81 at h
  refine r_istore C (lv' := [(6, .int y0), (0, .ref (gA X 46)), (1, .int x1), (2, .int x2), (3, .int x3), (4, .int x4), (5, .int x5), (7, .int x7), (8, .int x8), (9, .int x9), (10, .int x10)]) d_Mo_bar_81 (by decide) rfl rfl ?_
  refine r_aload_n C 1 d_Mo_bar_83 rfl rfl ?_
  refine q_Mo_25 C d_Mo_bar_84 ?_
  refine r_iload C 10 d_Mo_bar_87 rfl ?_
  obtain ⟨hi_1, h⟩ := ck_some h
  refine r_iald C hi_1 d_Mo_bar_89 ?_
  refine r_iload C 7 d_Mo_bar_90 rfl ?_
  refine r_icmp_le C (tgt := 105) d_Mo_bar_92 (by decide) (fun hc_2 => ?_) (fun hc_2 => ?_)
  · rw [if_pos hc_2] at h
    refine r_iload C 7 d_Mo_bar_105 rfl ?_
    refine r_sub [1, 2, 3, 4, 5, 6, 0, 8, 9, 10] (lv' := [(0, .ref (gA X 46)), (1, .int x1), (2, .int x2), (3, .int x3), (4, .int x4), (5, .int x5), (6, .int y0), (8, .int x8), (9, .int x9), (10, .int x10)]) rfl ?_
    exact t_Mo_bar_107 C hR hk43 x1 x2 x3 x4 x5 y0 x8 x9 x10 x7 h
  · rw [if_neg hc_2] at h
    refine r_aload_n C 1 d_Mo_bar_95 rfl rfl ?_
    refine q_Mo_25 C d_Mo_bar_96 ?_
    refine r_iload C 10 d_Mo_bar_99 rfl ?_
    obtain ⟨hi_3, h⟩ := ck_some h
    refine r_iald C hi_3 d_Mo_bar_101 ?_
    refine r_goto C (tgt := 107) d_Mo_bar_102 (by decide) ?_
    refine r_sub [1, 2, 3, 4, 5, 6, 0, 8, 9, 10] (lv' := [(0, .ref (gA X 46)), (1, .int x1), (2, .int x2), (3, .int x3), (4, .int x4), (5, .int x5), (6, .int y0), (8, .int x8), (9, .int x9), (10, .int x10)]) rfl ?_
    exact t_Mo_bar_107 C hR hk43 x1 x2 x3 x4 x5 y0 x8 x9 x10 (gI σ 52 x10.toNatClampNeg) h
set_option maxHeartbeats 4000000 in
set_option maxRecDepth 100000 in
theorem t_Mo_bar_76 {X : gX} {r : Int32} {σ : gS} (C : gC X b_Mo_bar_c R_Mo 11 1 23) (hR : ∀ pc lv, decode b_Mo_bar_c pc = .ok (.ireturn, 1) → G X pc lv [.int r] σ) {k43 : Int32 × Int32 × Int32 × Int32 × Int32 × Int32 × Int32 × Int32 × Int32 → Option Int32}  (hk43 : ∀ x, k43 x = some r → G X 43 [(0, .ref (gA X 46)), (1, .int x.1), (2, .int x.2.1), (3, .int x.2.2.1), (4, .int x.2.2.2.1), (5, .int x.2.2.2.2.1), (6, .int x.2.2.2.2.2.1), (7, .int x.2.2.2.2.2.2.1), (8, .int x.2.2.2.2.2.2.2.1), (9, .int x.2.2.2.2.2.2.2.2)] [] σ) (x1 : Int32) (x2 : Int32) (x3 : Int32) (x4 : Int32) (x5 : Int32) (x7 : Int32) (x8 : Int32) (x9 : Int32) (x10 : Int32) (h : b_Mo_bar_76 σ k43 x1 x2 x3 x4 x5 x7 x8 x9 x10 = some r) : G X 76 [(0, .ref (gA X 46)), (1, .int x1), (2, .int x2), (3, .int x3), (4, .int x4), (5, .int x5), (7, .int x7), (8, .int x8), (9, .int x9), (10, .int x10)] [] σ := by
  unfold b_Mo_bar_76 at h
  refine r_iconst C (v := 1) d_Mo_bar_76 (by decide) ?_
  refine r_goto C (tgt := 81) d_Mo_bar_77 (by decide) ?_
  exact t_Mo_bar_81 C hR hk43 x1 x2 x3 x4 x5 x7 x8 x9 x10 1 h
set_option maxHeartbeats 4000000 in
set_option maxRecDepth 100000 in
theorem t_Mo_bar_43 {X : gX} {r : Int32} {σ : gS} (C : gC X b_Mo_bar_c R_Mo 11 1 23) (hR : ∀ pc lv, decode b_Mo_bar_c pc = .ok (.ireturn, 1) → G X pc lv [.int r] σ) {k43 : Int32 × Int32 × Int32 × Int32 × Int32 × Int32 × Int32 × Int32 × Int32 → Option Int32}  (hk43 : ∀ x, k43 x = some r → G X 43 [(0, .ref (gA X 46)), (1, .int x.1), (2, .int x.2.1), (3, .int x.2.2.1), (4, .int x.2.2.2.1), (5, .int x.2.2.2.2.1), (6, .int x.2.2.2.2.2.1), (7, .int x.2.2.2.2.2.2.1), (8, .int x.2.2.2.2.2.2.2.1), (9, .int x.2.2.2.2.2.2.2.2)] [] σ) (x1 : Int32) (x2 : Int32) (x3 : Int32) (x4 : Int32) (x5 : Int32) (x6 : Int32) (x7 : Int32) (x8 : Int32) (x9 : Int32) (h : b_Mo_bar_43 σ k43 x1 x2 x3 x4 x5 x6 x7 x8 x9 = some r) : G X 43 [(0, .ref (gA X 46)), (1, .int x1), (2, .int x2), (3, .int x3), (4, .int x4), (5, .int x5), (6, .int x6), (7, .int x7), (8, .int x8), (9, .int x9)] [] σ := by
  unfold b_Mo_bar_43 at h
  refine r_iload C 9 d_Mo_bar_43 rfl ?_
  refine r_iload_n C 1 d_Mo_bar_45 rfl rfl ?_
  refine r_icmp_ge C (tgt := 141) d_Mo_bar_46 (by decide) (fun hc_1 => ?_) (fun hc_1 => ?_)
  · rw [if_pos hc_1] at h
    refine r_iload C 6 d_Mo_bar_141 rfl ?_
    refine r_if_eq C (tgt := 151) d_Mo_bar_143 (by decide) (fun hc_2 => ?_) (fun hc_2 => ?_)
    · rw [if_pos hc_2] at h
      refine r_iload C 7 d_Mo_bar_151 rfl ?_
      refine r_iconst C (v := 1) d_Mo_bar_153 (by decide) ?_
      refine r_iadd C d_Mo_bar_154 ?_
      refine r_bipush C (v := 8) d_Mo_bar_155 (by decide) ?_
      refine r_icmp_gt C (tgt := 169) d_Mo_bar_157 (by decide) (fun hc_3 => ?_) (fun hc_3 => ?_)
      · rw [if_pos hc_3] at h
        refine r_bipush C (v := (-5)) d_Mo_bar_169 (by decide) ?_
        refine r_goto C (tgt := 175) d_Mo_bar_171 (by decide) ?_
        cases h
        exact hR _ _ d_Mo_bar_175
      · rw [if_neg hc_3] at h
        refine r_iload C 8 d_Mo_bar_160 rfl ?_
        refine r_iload C 5 d_Mo_bar_162 rfl ?_
        refine r_iadd C d_Mo_bar_164 ?_
        refine r_iconst C (v := 5) d_Mo_bar_165 (by decide) ?_
        refine r_icmp_le C (tgt := 174) d_Mo_bar_166 (by decide) (fun hc_4 => ?_) (fun hc_4 => ?_)
        · rw [if_pos hc_4] at h
          refine r_iconst C (v := 0) d_Mo_bar_174 (by decide) ?_
          cases h
          exact hR _ _ d_Mo_bar_175
        · rw [if_neg hc_4] at h
          refine r_bipush C (v := (-5)) d_Mo_bar_169 (by decide) ?_
          refine r_goto C (tgt := 175) d_Mo_bar_171 (by decide) ?_
          cases h
          exact hR _ _ d_Mo_bar_175
    · rw [if_neg hc_2] at h
      refine r_bipush C (v := (-4)) d_Mo_bar_146 (by decide) ?_
      refine r_goto C (tgt := 175) d_Mo_bar_148 (by decide) ?_
      cases h
      exact hR _ _ d_Mo_bar_175
  · rw [if_neg hc_1] at h
    refine r_iload_n C 2 d_Mo_bar_49 rfl rfl ?_
    refine r_iload_n C 3 d_Mo_bar_50 rfl rfl ?_
    refine r_iload C 4 d_Mo_bar_51 rfl ?_
    refine r_iload C 9 d_Mo_bar_53 rfl ?_
    obtain ⟨r_5, er_5, h⟩ := bind_some h
    refine r_callS C (As := [.int x2, .int x3, .int x4, .int x9]) (rest := []) (st1 := [.int r_5]) (c_Mo_third X.1.2.1 σ x2 x3 x4 x9 er_5) k_Mo_third m_437 rfl rfl rfl (Nat.le_of_ble_eq_true rfl) ⟨Nat.le_of_ble_eq_true rfl, Nat.le_of_ble_eq_true rfl⟩ d_Mo_bar_55 rfl ?_
    refine r_istore C (lv' := [(10, .int r_5), (0, .ref (gA X 46)), (1, .int x1), (2, .int x2), (3, .int x3), (4, .int x4), (5, .int x5), (6, .int x6), (7, .int x7), (8, .int x8), (9, .int x9)]) d_Mo_bar_58 (by decide) rfl rfl ?_
    refine r_iload C 7 d_Mo_bar_60 rfl ?_
    refine r_if_ne C (tgt := 76) d_Mo_bar_62 (by decide) (fun hc_6 => ?_) (fun hc_6 => ?_)
    · rw [if_neg hc_6] at h
      refine r_sub [1, 2, 3, 4, 5, 6, 8, 9, 10, 0] (lv' := [(0, .ref (gA X 46)), (1, .int x1), (2, .int x2), (3, .int x3), (4, .int x4), (5, .int x5), (7, .int x7), (8, .int x8), (9, .int x9), (10, .int r_5)]) rfl ?_
      exact t_Mo_bar_76 C hR hk43 x1 x2 x3 x4 x5 x7 x8 x9 r_5 h
    · rw [if_pos hc_6] at h
      refine r_aload_n C 1 d_Mo_bar_65 rfl rfl ?_
      refine q_Mo_22 C d_Mo_bar_66 ?_
      refine r_iload C 0 d_Mo_bar_69 rfl ?_
      obtain ⟨hi_7, h⟩ := ck_some h
      refine r_iald C hi_7 d_Mo_bar_71 ?_
      refine r_iconst C (v := (-1)) d_Mo_bar_72 (by decide) ?_
      refine r_icmp_eq C (tgt := 80) d_Mo_bar_73 (by decide) (fun hc_8 => ?_) (fun hc_8 => ?_)
      · rw [if_pos hc_8] at h
        refine r_iconst C (v := 0) d_Mo_bar_80 (by decide) ?_
        refine r_sub [1, 2, 3, 4, 5, 6, 8, 9, 10, 0] (lv' := [(0, .ref (gA X 46)), (1, .int x1), (2, .int x2), (3, .int x3), (4, .int x4), (5, .int x5), (7, .int x7), (8, .int x8), (9, .int x9), (10, .int r_5)]) rfl ?_
        exact t_Mo_bar_81 C hR hk43 x1 x2 x3 x4 x5 x7 x8 x9 r_5 0 h
      · rw [if_neg hc_8] at h
        refine r_sub [1, 2, 3, 4, 5, 6, 8, 9, 10, 0] (lv' := [(0, .ref (gA X 46)), (1, .int x1), (2, .int x2), (3, .int x3), (4, .int x4), (5, .int x5), (7, .int x7), (8, .int x8), (9, .int x9), (10, .int r_5)]) rfl ?_
        exact t_Mo_bar_76 C hR hk43 x1 x2 x3 x4 x5 x7 x8 x9 r_5 h
set_option maxHeartbeats 4000000 in
set_option maxRecDepth 100000 in
theorem u_Mo_bar_43 {X : gX} {r : Int32} {σ : gS} (C : gC X b_Mo_bar_c R_Mo 11 1 23) (hR : ∀ pc lv, decode b_Mo_bar_c pc = .ok (.ireturn, 1) → G X pc lv [.int r] σ)  (x : Int32 × Int32 × Int32 × Int32 × Int32 × Int32 × Int32 × Int32 × Int32) (h : l_Mo_bar_43 σ x = some r) : G X 43 [(0, .ref (gA X 46)), (1, .int x.1), (2, .int x.2.1), (3, .int x.2.2.1), (4, .int x.2.2.2.1), (5, .int x.2.2.2.2.1), (6, .int x.2.2.2.2.2.1), (7, .int x.2.2.2.2.2.2.1), (8, .int x.2.2.2.2.2.2.2.1), (9, .int x.2.2.2.2.2.2.2.2)] [] σ :=
  lpF_ind (P := fun x => G X 43 [(0, .ref (gA X 46)), (1, .int x.1), (2, .int x.2.1), (3, .int x.2.2.1), (4, .int x.2.2.2.1), (5, .int x.2.2.2.2.1), (6, .int x.2.2.2.2.2.1), (7, .int x.2.2.2.2.2.2.1), (8, .int x.2.2.2.2.2.2.2.1), (9, .int x.2.2.2.2.2.2.2.2)] [] σ) (fun k hk x h => t_Mo_bar_43 C hR hk x.1 x.2.1 x.2.2.1 x.2.2.2.1 x.2.2.2.2.1 x.2.2.2.2.2.1 x.2.2.2.2.2.2.1 x.2.2.2.2.2.2.2.1 x.2.2.2.2.2.2.2.2 h) gF x h
set_option maxHeartbeats 4000000 in
set_option maxRecDepth 100000 in
theorem t_Mo_bar_32 {X : gX} {r : Int32} {σ : gS} (C : gC X b_Mo_bar_c R_Mo 11 1 23) (hR : ∀ pc lv, decode b_Mo_bar_c pc = .ok (.ireturn, 1) → G X pc lv [.int r] σ) (x1 : Int32) (x2 : Int32) (x3 : Int32) (x4 : Int32) (x5 : Int32) (y0 : Int32) (h : b_Mo_bar_32 σ x1 x2 x3 x4 x5 y0 = some r) : G X 32 [(0, .ref (gA X 46)), (1, .int x1), (2, .int x2), (3, .int x3), (4, .int x4), (5, .int x5)] [.int y0] σ := by
  unfold b_Mo_bar_32 at h
  refine r_istore C (lv' := [(6, .int y0), (0, .ref (gA X 46)), (1, .int x1), (2, .int x2), (3, .int x3), (4, .int x4), (5, .int x5)]) d_Mo_bar_32 (by decide) rfl rfl ?_
  refine r_iconst C (v := 0) d_Mo_bar_34 (by decide) ?_
  refine r_istore C (lv' := [(7, .int 0), (6, .int y0), (0, .ref (gA X 46)), (1, .int x1), (2, .int x2), (3, .int x3), (4, .int x4), (5, .int x5)]) d_Mo_bar_35 (by decide) rfl rfl ?_
  refine r_iconst C (v := 0) d_Mo_bar_37 (by decide) ?_
  refine r_istore C (lv' := [(8, .int 0), (7, .int 0), (6, .int y0), (0, .ref (gA X 46)), (1, .int x1), (2, .int x2), (3, .int x3), (4, .int x4), (5, .int x5)]) d_Mo_bar_38 (by decide) rfl rfl ?_
  refine r_iconst C (v := 0) d_Mo_bar_40 (by decide) ?_
  refine r_istore C (lv' := [(9, .int 0), (8, .int 0), (7, .int 0), (6, .int y0), (0, .ref (gA X 46)), (1, .int x1), (2, .int x2), (3, .int x3), (4, .int x4), (5, .int x5)]) d_Mo_bar_41 (by decide) rfl rfl ?_
  refine r_sub [4, 5, 6, 7, 8, 9, 3, 2, 1, 0] (lv' := [(0, .ref (gA X 46)), (1, .int x1), (2, .int x2), (3, .int x3), (4, .int x4), (5, .int x5), (6, .int y0), (7, .int 0), (8, .int 0), (9, .int 0)]) rfl ?_
  exact u_Mo_bar_43 C hR  (x1, x2, x3, x4, x5, y0, 0, 0, 0) h
set_option maxHeartbeats 4000000 in
set_option maxRecDepth 100000 in
theorem t_Mo_bar_31 {X : gX} {r : Int32} {σ : gS} (C : gC X b_Mo_bar_c R_Mo 11 1 23) (hR : ∀ pc lv, decode b_Mo_bar_c pc = .ok (.ireturn, 1) → G X pc lv [.int r] σ) (x1 : Int32) (x2 : Int32) (x3 : Int32) (x4 : Int32) (x5 : Int32) (h : b_Mo_bar_31 σ x1 x2 x3 x4 x5 = some r) : G X 31 [(0, .ref (gA X 46)), (1, .int x1), (2, .int x2), (3, .int x3), (4, .int x4), (5, .int x5)] [] σ := by
  unfold b_Mo_bar_31 at h
  refine r_iconst C (v := 0) d_Mo_bar_31 (by decide) ?_
  exact t_Mo_bar_32 C hR x1 x2 x3 x4 x5 0 h
set_option maxHeartbeats 4000000 in
set_option maxRecDepth 100000 in
theorem t_Mo_bar_27 {X : gX} {r : Int32} {σ : gS} (C : gC X b_Mo_bar_c R_Mo 11 1 23) (hR : ∀ pc lv, decode b_Mo_bar_c pc = .ok (.ireturn, 1) → G X pc lv [.int r] σ) (x1 : Int32) (x2 : Int32) (x3 : Int32) (x4 : Int32) (x5 : Int32) (h : b_Mo_bar_27 σ x1 x2 x3 x4 x5 = some r) : G X 27 [(0, .ref (gA X 46)), (1, .int x1), (2, .int x2), (3, .int x3), (4, .int x4), (5, .int x5)] [] σ := by
  unfold b_Mo_bar_27 at h
  refine r_iconst C (v := 1) d_Mo_bar_27 (by decide) ?_
  refine r_goto C (tgt := 32) d_Mo_bar_28 (by decide) ?_
  exact t_Mo_bar_32 C hR x1 x2 x3 x4 x5 1 h
set_option maxHeartbeats 4000000 in
set_option maxRecDepth 100000 in
theorem t_Mo_bar_10 {X : gX} {r : Int32} {σ : gS} (C : gC X b_Mo_bar_c R_Mo 11 1 23) (hR : ∀ pc lv, decode b_Mo_bar_c pc = .ok (.ireturn, 1) → G X pc lv [.int r] σ) (x1 : Int32) (x2 : Int32) (x3 : Int32) (x4 : Int32) (x5 : Int32) (h : b_Mo_bar_10 σ x1 x2 x3 x4 x5 = some r) : G X 10 [(0, .ref (gA X 46)), (1, .int x1), (2, .int x2), (3, .int x3), (4, .int x4), (5, .int x5)] [] σ := by
  unfold b_Mo_bar_10 at h
  refine r_iload_n C 1 d_Mo_bar_10 rfl rfl ?_
  refine r_iconst C (v := 2) d_Mo_bar_11 (by decide) ?_
  refine r_icmp_le C (tgt := 31) d_Mo_bar_12 (by decide) (fun hc_1 => ?_) (fun hc_1 => ?_)
  · rw [if_pos hc_1] at h
    exact t_Mo_bar_31 C hR x1 x2 x3 x4 x5 h
  · rw [if_neg hc_1] at h
    refine r_iload_n C 2 d_Mo_bar_15 rfl rfl ?_
    refine r_iload C 4 d_Mo_bar_16 rfl ?_
    refine r_icmp_eq C (tgt := 27) d_Mo_bar_18 (by decide) (fun hc_2 => ?_) (fun hc_2 => ?_)
    · rw [if_pos hc_2] at h
      exact t_Mo_bar_27 C hR x1 x2 x3 x4 x5 h
    · rw [if_neg hc_2] at h
      refine r_iload_n C 3 d_Mo_bar_21 rfl rfl ?_
      refine r_iload C 4 d_Mo_bar_22 rfl ?_
      refine r_icmp_ne C (tgt := 31) d_Mo_bar_24 (by decide) (fun hc_3 => ?_) (fun hc_3 => ?_)
      · rw [if_neg hc_3] at h
        exact t_Mo_bar_31 C hR x1 x2 x3 x4 x5 h
      · rw [if_pos hc_3] at h
        exact t_Mo_bar_27 C hR x1 x2 x3 x4 x5 h
set_option maxHeartbeats 4000000 in
set_option maxRecDepth 100000 in
theorem t_Mo_bar_0 {X : gX} {r : Int32} {σ : gS} (C : gC X b_Mo_bar_c R_Mo 11 1 23) (hR : ∀ pc lv, decode b_Mo_bar_c pc = .ok (.ireturn, 1) → G X pc lv [.int r] σ) (x1 : Int32) (x2 : Int32) (x3 : Int32) (x4 : Int32) (x5 : Int32) (h : b_Mo_bar_0 σ x1 x2 x3 x4 x5 = some r) : G X 0 [(0, .ref (gA X 46)), (1, .int x1), (2, .int x2), (3, .int x3), (4, .int x4), (5, .int x5)] [] σ := by
  unfold b_Mo_bar_0 at h
  refine r_iload_n C 1 d_Mo_bar_0 rfl rfl ?_
  refine r_iconst C (v := 1) d_Mo_bar_1 (by decide) ?_
  refine r_icmp_le C (tgt := 10) d_Mo_bar_2 (by decide) (fun hc_1 => ?_) (fun hc_1 => ?_)
  · rw [if_pos hc_1] at h
    exact t_Mo_bar_10 C hR x1 x2 x3 x4 x5 h
  · rw [if_neg hc_1] at h
    refine r_iload_n C 2 d_Mo_bar_5 rfl rfl ?_
    refine r_iload_n C 3 d_Mo_bar_6 rfl rfl ?_
    refine r_icmp_eq C (tgt := 27) d_Mo_bar_7 (by decide) (fun hc_2 => ?_) (fun hc_2 => ?_)
    · rw [if_pos hc_2] at h
      exact t_Mo_bar_27 C hR x1 x2 x3 x4 x5 h
    · rw [if_neg hc_2] at h
      exact t_Mo_bar_10 C hR x1 x2 x3 x4 x5 h
set_option maxHeartbeats 4000000 in
set_option maxRecDepth 100000 in
theorem c_Mo_bar (l : Launch) (σ : gS) (x1 : Int32) (x2 : Int32) (x3 : Int32) (x4 : Int32) (x5 : Int32) {r : Int32} (h : f_Mo_bar σ x1 x2 x3 x4 x5 = some r) : gMet l y_Mo_bar b_Mo_bar_c 11 (some .int) 1 23 (fun a => [.ref (a 46), .int x1, .int x2, .int x3, .int x4, .int x5]) σ (some (.int r)) σ := by
  refine gMet_i (by decide +kernel) (fun a => Nat.le_of_ble_eq_true rfl) (fun X _ C hR => ?_)
  refine r_sub [0, 1, 2, 3, 4, 5] (lv' := [(0, .ref (gA X 46)), (1, .int x1), (2, .int x2), (3, .int x3), (4, .int x4), (5, .int x5)]) rfl ?_
  exact t_Mo_bar_0 C hR x1 x2 x3 x4 x5 h
theorem d_Mo_adopt_0 : decode b_Mo_adopt_c 0 = .ok (.iconst 0, 1) := by decide +kernel
theorem d_Mo_adopt_1 : decode b_Mo_adopt_c 1 = .ok (.istore 7, 2) := by decide +kernel
theorem d_Mo_adopt_3 : decode b_Mo_adopt_c 3 = .ok (.iload 7, 2) := by decide +kernel
theorem d_Mo_adopt_5 : decode b_Mo_adopt_c 5 = .ok (.iload_n 2, 1) := by decide +kernel
theorem d_Mo_adopt_6 : decode b_Mo_adopt_c 6 = .ok (.if_icmp .ge 128, 3) := by decide +kernel
theorem d_Mo_adopt_9 : decode b_Mo_adopt_c 9 = .ok (.iload_n 3, 1) := by decide +kernel
theorem d_Mo_adopt_10 : decode b_Mo_adopt_c 10 = .ok (.iload 4, 2) := by decide +kernel
theorem d_Mo_adopt_12 : decode b_Mo_adopt_c 12 = .ok (.iload 5, 2) := by decide +kernel
theorem d_Mo_adopt_14 : decode b_Mo_adopt_c 14 = .ok (.iload 7, 2) := by decide +kernel
theorem d_Mo_adopt_16 : decode b_Mo_adopt_c 16 = .ok (.invokestatic 86, 3) := by decide +kernel
theorem d_Mo_adopt_19 : decode b_Mo_adopt_c 19 = .ok (.istore 8, 2) := by decide +kernel
theorem d_Mo_adopt_21 : decode b_Mo_adopt_c 21 = .ok (.aload_n 0, 1) := by decide +kernel
theorem d_Mo_adopt_22 : decode b_Mo_adopt_c 22 = .ok (.getfield 19, 3) := by decide +kernel
theorem d_Mo_adopt_25 : decode b_Mo_adopt_c 25 = .ok (.iconst 3, 1) := by decide +kernel
theorem d_Mo_adopt_26 : decode b_Mo_adopt_c 26 = .ok (.iload_n 1, 1) := by decide +kernel
theorem d_Mo_adopt_27 : decode b_Mo_adopt_c 27 = .ok (.imul, 1) := by decide +kernel
theorem d_Mo_adopt_28 : decode b_Mo_adopt_c 28 = .ok (.iload 7, 2) := by decide +kernel
theorem d_Mo_adopt_30 : decode b_Mo_adopt_c 30 = .ok (.iadd, 1) := by decide +kernel
theorem d_Mo_adopt_31 : decode b_Mo_adopt_c 31 = .ok (.iload 8, 2) := by decide +kernel
theorem d_Mo_adopt_33 : decode b_Mo_adopt_c 33 = .ok (.iastore, 1) := by decide +kernel
theorem d_Mo_adopt_34 : decode b_Mo_adopt_c 34 = .ok (.aload_n 0, 1) := by decide +kernel
theorem d_Mo_adopt_35 : decode b_Mo_adopt_c 35 = .ok (.getfield 22, 3) := by decide +kernel
theorem d_Mo_adopt_38 : decode b_Mo_adopt_c 38 = .ok (.iload 8, 2) := by decide +kernel
theorem d_Mo_adopt_40 : decode b_Mo_adopt_c 40 = .ok (.iload_n 1, 1) := by decide +kernel
theorem d_Mo_adopt_41 : decode b_Mo_adopt_c 41 = .ok (.iastore, 1) := by decide +kernel
theorem d_Mo_adopt_42 : decode b_Mo_adopt_c 42 = .ok (.aload_n 0, 1) := by decide +kernel
theorem d_Mo_adopt_43 : decode b_Mo_adopt_c 43 = .ok (.getfield 25, 3) := by decide +kernel
theorem d_Mo_adopt_46 : decode b_Mo_adopt_c 46 = .ok (.iload_n 1, 1) := by decide +kernel
theorem d_Mo_adopt_47 : decode b_Mo_adopt_c 47 = .ok (.aload_n 0, 1) := by decide +kernel
theorem d_Mo_adopt_48 : decode b_Mo_adopt_c 48 = .ok (.getfield 25, 3) := by decide +kernel
theorem d_Mo_adopt_51 : decode b_Mo_adopt_c 51 = .ok (.iload 8, 2) := by decide +kernel
theorem d_Mo_adopt_53 : decode b_Mo_adopt_c 53 = .ok (.iaload, 1) := by decide +kernel
theorem d_Mo_adopt_54 : decode b_Mo_adopt_c 54 = .ok (.iconst 1, 1) := by decide +kernel
theorem d_Mo_adopt_55 : decode b_Mo_adopt_c 55 = .ok (.iadd, 1) := by decide +kernel
theorem d_Mo_adopt_56 : decode b_Mo_adopt_c 56 = .ok (.aload_n 0, 1) := by decide +kernel
theorem d_Mo_adopt_57 : decode b_Mo_adopt_c 57 = .ok (.getfield 25, 3) := by decide +kernel
theorem d_Mo_adopt_60 : decode b_Mo_adopt_c 60 = .ok (.iload_n 1, 1) := by decide +kernel
theorem d_Mo_adopt_61 : decode b_Mo_adopt_c 61 = .ok (.iaload, 1) := by decide +kernel
theorem d_Mo_adopt_62 : decode b_Mo_adopt_c 62 = .ok (.if_icmp .le 15, 3) := by decide +kernel
theorem d_Mo_adopt_65 : decode b_Mo_adopt_c 65 = .ok (.aload_n 0, 1) := by decide +kernel
theorem d_Mo_adopt_66 : decode b_Mo_adopt_c 66 = .ok (.getfield 25, 3) := by decide +kernel
theorem d_Mo_adopt_69 : decode b_Mo_adopt_c 69 = .ok (.iload 8, 2) := by decide +kernel
theorem d_Mo_adopt_71 : decode b_Mo_adopt_c 71 = .ok (.iaload, 1) := by decide +kernel
theorem d_Mo_adopt_72 : decode b_Mo_adopt_c 72 = .ok (.iconst 1, 1) := by decide +kernel
theorem d_Mo_adopt_73 : decode b_Mo_adopt_c 73 = .ok (.iadd, 1) := by decide +kernel
theorem d_Mo_adopt_74 : decode b_Mo_adopt_c 74 = .ok (.goto 9, 3) := by decide +kernel
theorem d_Mo_adopt_77 : decode b_Mo_adopt_c 77 = .ok (.aload_n 0, 1) := by decide +kernel
theorem d_Mo_adopt_78 : decode b_Mo_adopt_c 78 = .ok (.getfield 25, 3) := by decide +kernel
theorem d_Mo_adopt_81 : decode b_Mo_adopt_c 81 = .ok (.iload_n 1, 1) := by decide +kernel
theorem d_Mo_adopt_82 : decode b_Mo_adopt_c 82 = .ok (.iaload, 1) := by decide +kernel
theorem d_Mo_adopt_83 : decode b_Mo_adopt_c 83 = .ok (.iastore, 1) := by decide +kernel
theorem d_Mo_adopt_84 : decode b_Mo_adopt_c 84 = .ok (.aload_n 0, 1) := by decide +kernel
theorem d_Mo_adopt_85 : decode b_Mo_adopt_c 85 = .ok (.getfield 28, 3) := by decide +kernel
theorem d_Mo_adopt_88 : decode b_Mo_adopt_c 88 = .ok (.iload_n 1, 1) := by decide +kernel
theorem d_Mo_adopt_89 : decode b_Mo_adopt_c 89 = .ok (.aload_n 0, 1) := by decide +kernel
theorem d_Mo_adopt_90 : decode b_Mo_adopt_c 90 = .ok (.getfield 28, 3) := by decide +kernel
theorem d_Mo_adopt_93 : decode b_Mo_adopt_c 93 = .ok (.iload 8, 2) := by decide +kernel
theorem d_Mo_adopt_95 : decode b_Mo_adopt_c 95 = .ok (.iaload, 1) := by decide +kernel
theorem d_Mo_adopt_96 : decode b_Mo_adopt_c 96 = .ok (.iload 6, 2) := by decide +kernel
theorem d_Mo_adopt_98 : decode b_Mo_adopt_c 98 = .ok (.iadd, 1) := by decide +kernel
theorem d_Mo_adopt_99 : decode b_Mo_adopt_c 99 = .ok (.aload_n 0, 1) := by decide +kernel
theorem d_Mo_adopt_100 : decode b_Mo_adopt_c 100 = .ok (.getfield 28, 3) := by decide +kernel
theorem d_Mo_adopt_103 : decode b_Mo_adopt_c 103 = .ok (.iload_n 1, 1) := by decide +kernel
theorem d_Mo_adopt_104 : decode b_Mo_adopt_c 104 = .ok (.iaload, 1) := by decide +kernel
theorem d_Mo_adopt_105 : decode b_Mo_adopt_c 105 = .ok (.if_icmp .le 16, 3) := by decide +kernel
theorem d_Mo_adopt_108 : decode b_Mo_adopt_c 108 = .ok (.aload_n 0, 1) := by decide +kernel
theorem d_Mo_adopt_109 : decode b_Mo_adopt_c 109 = .ok (.getfield 28, 3) := by decide +kernel
theorem d_Mo_adopt_112 : decode b_Mo_adopt_c 112 = .ok (.iload 8, 2) := by decide +kernel
theorem d_Mo_adopt_114 : decode b_Mo_adopt_c 114 = .ok (.iaload, 1) := by decide +kernel
theorem d_Mo_adopt_115 : decode b_Mo_adopt_c 115 = .ok (.iload 6, 2) := by decide +kernel
theorem d_Mo_adopt_117 : decode b_Mo_adopt_c 117 = .ok (.iadd, 1) := by decide +kernel
theorem d_Mo_adopt_118 : decode b_Mo_adopt_c 118 = .ok (.goto 9, 3) := by decide +kernel
theorem d_Mo_adopt_121 : decode b_Mo_adopt_c 121 = .ok (.aload_n 0, 1) := by decide +kernel
theorem d_Mo_adopt_122 : decode b_Mo_adopt_c 122 = .ok (.getfield 28, 3) := by decide +kernel
theorem d_Mo_adopt_125 : decode b_Mo_adopt_c 125 = .ok (.iload_n 1, 1) := by decide +kernel
theorem d_Mo_adopt_126 : decode b_Mo_adopt_c 126 = .ok (.iaload, 1) := by decide +kernel
theorem d_Mo_adopt_127 : decode b_Mo_adopt_c 127 = .ok (.iastore, 1) := by decide +kernel
theorem d_Mo_adopt_128 : decode b_Mo_adopt_c 128 = .ok (.iinc 7 1, 3) := by decide +kernel
theorem d_Mo_adopt_131 : decode b_Mo_adopt_c 131 = .ok (.goto (-128), 3) := by decide +kernel
theorem d_Mo_adopt_134 : decode b_Mo_adopt_c 134 = .ok (.return_, 1) := by decide +kernel
/-! GameRowsModel.adopt(IIIIII)V -/
set_option maxHeartbeats 4000000 in
set_option maxRecDepth 100000 in
theorem t_Mo_adopt_127 {X : gX} {r : gS} (C : gC X b_Mo_adopt_c R_Mo 9 1 23) (hR : ∀ pc lv, decode b_Mo_adopt_c pc = .ok (.return_, 1) → G X pc lv [] r) {k3 : Int32 × Int32 × Int32 × Int32 × Int32 × Int32 × Int32 × gS → Option gS}  (hk3 : ∀ x, k3 x = some r → G X 3 [(0, .ref (gA X 46)), (1, .int x.1), (2, .int x.2.1), (3, .int x.2.2.1), (4, .int x.2.2.2.1), (5, .int x.2.2.2.2.1), (6, .int x.2.2.2.2.2.1), (7, .int x.2.2.2.2.2.2.1)] [] x.2.2.2.2.2.2.2) (x1 : Int32) (x2 : Int32) (x3 : Int32) (x4 : Int32) (x5 : Int32) (x6 : Int32) (x7 : Int32) (y1 : Int32) (y2 : Int32) (σ : gS) (h : b_Mo_adopt_127 k3 x1 x2 x3 x4 x5 x6 x7 y1 y2 σ = some r) : G X 127 [(0, .ref (gA X 46)), (1, .int x1), (2, .int x2), (3, .int x3), (4, .int x4), (5, .int x5), (6, .int x6), (7, .int x7)] [.int y2, .int y1, .ref (gA X 53)] σ := by
  unfold b_Mo_adopt_127 at h
  obtain ⟨hi_1, h⟩ := ck_some h
  obtain ⟨σ_2, eσ_2, h⟩ := bnd_some h
  refine r_iast C hi_1 eσ_2 d_Mo_adopt_127 ?_
  obtain ⟨x7_3, ex7_3, h⟩ := bnd_some h
  refine r_iinc C 7 (lv' := [(7, .int x7_3), (0, .ref (gA X 46)), (1, .int x1), (2, .int x2), (3, .int x3), (4, .int x4), (5, .int x5), (6, .int x6)]) d_Mo_adopt_128 rfl (by rw [ex7_3]; rfl) (by decide) rfl ?_
  refine r_goto C (tgt := 3) d_Mo_adopt_131 (by decide) ?_
  refine r_sub [1, 2, 3, 4, 5, 6, 7, 0] (lv' := [(0, .ref (gA X 46)), (1, .int x1), (2, .int x2), (3, .int x3), (4, .int x4), (5, .int x5), (6, .int x6), (7, .int x7_3)]) rfl ?_
  exact hk3 _ h
set_option maxHeartbeats 4000000 in
set_option maxRecDepth 100000 in
theorem t_Mo_adopt_83 {X : gX} {r : gS} (C : gC X b_Mo_adopt_c R_Mo 9 1 23) (hR : ∀ pc lv, decode b_Mo_adopt_c pc = .ok (.return_, 1) → G X pc lv [] r) {k3 : Int32 × Int32 × Int32 × Int32 × Int32 × Int32 × Int32 × gS → Option gS}  (hk3 : ∀ x, k3 x = some r → G X 3 [(0, .ref (gA X 46)), (1, .int x.1), (2, .int x.2.1), (3, .int x.2.2.1), (4, .int x.2.2.2.1), (5, .int x.2.2.2.2.1), (6, .int x.2.2.2.2.2.1), (7, .int x.2.2.2.2.2.2.1)] [] x.2.2.2.2.2.2.2) (x1 : Int32) (x2 : Int32) (x3 : Int32) (x4 : Int32) (x5 : Int32) (x6 : Int32) (x7 : Int32) (x8 : Int32) (y1 : Int32) (y2 : Int32) (σ : gS) (h : b_Mo_adopt_83 k3 x1 x2 x3 x4 x5 x6 x7 x8 y1 y2 σ = some r) : G X 83 [(0, .ref (gA X 46)), (1, .int x1), (2, .int x2), (3, .int x3), (4, .int x4), (5, .int x5), (6, .int x6), (7, .int x7), (8, .int x8)] [.int y2, .int y1, .ref (gA X 52)] σ := by
  unfold b_Mo_adopt_83 at h
  obtain ⟨hi_1, h⟩ := ck_some h
  obtain ⟨σ_2, eσ_2, h⟩ := bnd_some h
  refine r_iast C hi_1 eσ_2 d_Mo_adopt_83 ?_
  refine r_aload_n C 0 d_Mo_adopt_84 rfl rfl ?_
  refine q_Mo_28 C d_Mo_adopt_85 ?_
  refine r_iload_n C 1 d_Mo_adopt_88 rfl rfl ?_
  refine r_aload_n C 0 d_Mo_adopt_89 rfl rfl ?_
  refine q_Mo_28 C d_Mo_adopt_90 ?_
  refine r_iload C 8 d_Mo_adopt_93 rfl ?_
  obtain ⟨hi_3, h⟩ := ck_some h
  refine r_iald C hi_3 d_Mo_adopt_95 ?_
  refine r_iload C 6 d_Mo_adopt_96 rfl ?_
  refine r_iadd C d_Mo_adopt_98 ?_
  refine r_aload_n C 0 d_Mo_adopt_99 rfl rfl ?_
  refine q_Mo_28 C d_Mo_adopt_100 ?_
  refine r_iload_n C 1 d_Mo_adopt_103 rfl rfl ?_
  obtain ⟨hi_4, h⟩ := ck_some h
  refine r_iald C hi_4 d_Mo_adopt_104 ?_
  refine r_icmp_le C (tgt := 121) d_Mo_adopt_105 (by decide) (fun hc_5 => ?_) (fun hc_5 => ?_)
  · rw [if_pos hc_5] at h
    refine r_aload_n C 0 d_Mo_adopt_121 rfl rfl ?_
    refine q_Mo_28 C d_Mo_adopt_122 ?_
    refine r_iload_n C 1 d_Mo_adopt_125 rfl rfl ?_
    obtain ⟨hi_6, h⟩ := ck_some h
    refine r_iald C hi_6 d_Mo_adopt_126 ?_
    refine r_sub [0, 1, 2, 3, 4, 5, 6, 7] (lv' := [(0, .ref (gA X 46)), (1, .int x1), (2, .int x2), (3, .int x3), (4, .int x4), (5, .int x5), (6, .int x6), (7, .int x7)]) rfl ?_
    exact t_Mo_adopt_127 C hR hk3 x1 x2 x3 x4 x5 x6 x7 x1 (gI σ_2 53 x1.toNatClampNeg) σ_2 h
  · rw [if_neg hc_5] at h
    refine r_aload_n C 0 d_Mo_adopt_108 rfl rfl ?_
    refine q_Mo_28 C d_Mo_adopt_109 ?_
    refine r_iload C 8 d_Mo_adopt_112 rfl ?_
    obtain ⟨hi_7, h⟩ := ck_some h
    refine r_iald C hi_7 d_Mo_adopt_114 ?_
    refine r_iload C 6 d_Mo_adopt_115 rfl ?_
    refine r_iadd C d_Mo_adopt_117 ?_
    refine r_goto C (tgt := 127) d_Mo_adopt_118 (by decide) ?_
    refine r_sub [0, 1, 2, 3, 4, 5, 6, 7] (lv' := [(0, .ref (gA X 46)), (1, .int x1), (2, .int x2), (3, .int x3), (4, .int x4), (5, .int x5), (6, .int x6), (7, .int x7)]) rfl ?_
    exact t_Mo_adopt_127 C hR hk3 x1 x2 x3 x4 x5 x6 x7 x1 ((gI σ_2 53 x8.toNatClampNeg) + x6) σ_2 h
set_option maxHeartbeats 4000000 in
set_option maxRecDepth 100000 in
theorem t_Mo_adopt_3 {X : gX} {r : gS} (C : gC X b_Mo_adopt_c R_Mo 9 1 23) (hR : ∀ pc lv, decode b_Mo_adopt_c pc = .ok (.return_, 1) → G X pc lv [] r) {k3 : Int32 × Int32 × Int32 × Int32 × Int32 × Int32 × Int32 × gS → Option gS}  (hk3 : ∀ x, k3 x = some r → G X 3 [(0, .ref (gA X 46)), (1, .int x.1), (2, .int x.2.1), (3, .int x.2.2.1), (4, .int x.2.2.2.1), (5, .int x.2.2.2.2.1), (6, .int x.2.2.2.2.2.1), (7, .int x.2.2.2.2.2.2.1)] [] x.2.2.2.2.2.2.2) (x1 : Int32) (x2 : Int32) (x3 : Int32) (x4 : Int32) (x5 : Int32) (x6 : Int32) (x7 : Int32) (σ : gS) (h : b_Mo_adopt_3 k3 x1 x2 x3 x4 x5 x6 x7 σ = some r) : G X 3 [(0, .ref (gA X 46)), (1, .int x1), (2, .int x2), (3, .int x3), (4, .int x4), (5, .int x5), (6, .int x6), (7, .int x7)] [] σ := by
  unfold b_Mo_adopt_3 at h
  refine r_iload C 7 d_Mo_adopt_3 rfl ?_
  refine r_iload_n C 2 d_Mo_adopt_5 rfl rfl ?_
  refine r_icmp_ge C (tgt := 134) d_Mo_adopt_6 (by decide) (fun hc_1 => ?_) (fun hc_1 => ?_)
  · rw [if_pos hc_1] at h
    cases h
    exact hR _ _ d_Mo_adopt_134
  · rw [if_neg hc_1] at h
    refine r_iload_n C 3 d_Mo_adopt_9 rfl rfl ?_
    refine r_iload C 4 d_Mo_adopt_10 rfl ?_
    refine r_iload C 5 d_Mo_adopt_12 rfl ?_
    refine r_iload C 7 d_Mo_adopt_14 rfl ?_
    obtain ⟨r_2, er_2, h⟩ := bind_some h
    refine r_callS C (As := [.int x3, .int x4, .int x5, .int x7]) (rest := []) (st1 := [.int r_2]) (c_Mo_third X.1.2.1 σ x3 x4 x5 x7 er_2) k_Mo_third m_437 rfl rfl rfl (Nat.le_of_ble_eq_true rfl) ⟨Nat.le_of_ble_eq_true rfl, Nat.le_of_ble_eq_true rfl⟩ d_Mo_adopt_16 rfl ?_
    refine r_istore C (lv' := [(8, .int r_2), (0, .ref (gA X 46)), (1, .int x1), (2, .int x2), (3, .int x3), (4, .int x4), (5, .int x5), (6, .int x6), (7, .int x7)]) d_Mo_adopt_19 (by decide) rfl rfl ?_
    refine r_aload_n C 1 d_Mo_adopt_21 rfl rfl ?_
    refine q_Mo_19 C d_Mo_adopt_22 ?_
    refine r_iconst C (v := 3) d_Mo_adopt_25 (by decide) ?_
    refine r_iload_n C 2 d_Mo_adopt_26 rfl rfl ?_
    refine r_imul C d_Mo_adopt_27 ?_
    refine r_iload C 8 d_Mo_adopt_28 rfl ?_
    refine r_iadd C d_Mo_adopt_30 ?_
    refine r_iload C 0 d_Mo_adopt_31 rfl ?_
    obtain ⟨hi_3, h⟩ := ck_some h
    obtain ⟨σ_4, eσ_4, h⟩ := bnd_some h
    refine r_iast C hi_3 eσ_4 d_Mo_adopt_33 ?_
    refine r_aload_n C 1 d_Mo_adopt_34 rfl rfl ?_
    refine q_Mo_22 C d_Mo_adopt_35 ?_
    refine r_iload C 0 d_Mo_adopt_38 rfl ?_
    refine r_iload_n C 2 d_Mo_adopt_40 rfl rfl ?_
    obtain ⟨hi_5, h⟩ := ck_some h
    obtain ⟨σ_6, eσ_6, h⟩ := bnd_some h
    refine r_iast C hi_5 eσ_6 d_Mo_adopt_41 ?_
    refine r_aload_n C 1 d_Mo_adopt_42 rfl rfl ?_
    refine q_Mo_25 C d_Mo_adopt_43 ?_
    refine r_iload_n C 2 d_Mo_adopt_46 rfl rfl ?_
    refine r_aload_n C 1 d_Mo_adopt_47 rfl rfl ?_
    refine q_Mo_25 C d_Mo_adopt_48 ?_
    refine r_iload C 0 d_Mo_adopt_51 rfl ?_
    obtain ⟨hi_7, h⟩ := ck_some h
    refine r_iald C hi_7 d_Mo_adopt_53 ?_
    refine r_iconst C (v := 1) d_Mo_adopt_54 (by decide) ?_
    refine r_iadd C d_Mo_adopt_55 ?_
    refine r_aload_n C 1 d_Mo_adopt_56 rfl rfl ?_
    refine q_Mo_25 C d_Mo_adopt_57 ?_
    refine r_iload_n C 2 d_Mo_adopt_60 rfl rfl ?_
    obtain ⟨hi_8, h⟩ := ck_some h
    refine r_iald C hi_8 d_Mo_adopt_61 ?_
    refine r_icmp_le C (tgt := 77) d_Mo_adopt_62 (by decide) (fun hc_9 => ?_) (fun hc_9 => ?_)
    · rw [if_pos hc_9] at h
      refine r_aload_n C 1 d_Mo_adopt_77 rfl rfl ?_
      refine q_Mo_25 C d_Mo_adopt_78 ?_
      refine r_iload_n C 2 d_Mo_adopt_81 rfl rfl ?_
      obtain ⟨hi_10, h⟩ := ck_some h
      refine r_iald C hi_10 d_Mo_adopt_82 ?_
      refine r_sub [1, 2, 3, 4, 5, 6, 7, 8, 0] (lv' := [(0, .ref (gA X 46)), (1, .int x1), (2, .int x2), (3, .int x3), (4, .int x4), (5, .int x5), (6, .int x6), (7, .int x7), (8, .int r_2)]) rfl ?_
      exact t_Mo_adopt_83 C hR hk3 x1 x2 x3 x4 x5 x6 x7 r_2 x1 (gI σ_6 52 x1.toNatClampNeg) σ_6 h
    · rw [if_neg hc_9] at h
      refine r_aload_n C 1 d_Mo_adopt_65 rfl rfl ?_
      refine q_Mo_25 C d_Mo_adopt_66 ?_
      refine r_iload C 0 d_Mo_adopt_69 rfl ?_
      obtain ⟨hi_11, h⟩ := ck_some h
      refine r_iald C hi_11 d_Mo_adopt_71 ?_
      refine r_iconst C (v := 1) d_Mo_adopt_72 (by decide) ?_
      refine r_iadd C d_Mo_adopt_73 ?_
      refine r_goto C (tgt := 83) d_Mo_adopt_74 (by decide) ?_
      refine r_sub [1, 2, 3, 4, 5, 6, 7, 8, 0] (lv' := [(0, .ref (gA X 46)), (1, .int x1), (2, .int x2), (3, .int x3), (4, .int x4), (5, .int x5), (6, .int x6), (7, .int x7), (8, .int r_2)]) rfl ?_
      exact t_Mo_adopt_83 C hR hk3 x1 x2 x3 x4 x5 x6 x7 r_2 x1 ((gI σ_6 52 r_2.toNatClampNeg) + 1) σ_6 h
set_option maxHeartbeats 4000000 in
set_option maxRecDepth 100000 in
theorem u_Mo_adopt_3 {X : gX} {r : gS} (C : gC X b_Mo_adopt_c R_Mo 9 1 23) (hR : ∀ pc lv, decode b_Mo_adopt_c pc = .ok (.return_, 1) → G X pc lv [] r)  (x : Int32 × Int32 × Int32 × Int32 × Int32 × Int32 × Int32 × gS) (h : l_Mo_adopt_3 x = some r) : G X 3 [(0, .ref (gA X 46)), (1, .int x.1), (2, .int x.2.1), (3, .int x.2.2.1), (4, .int x.2.2.2.1), (5, .int x.2.2.2.2.1), (6, .int x.2.2.2.2.2.1), (7, .int x.2.2.2.2.2.2.1)] [] x.2.2.2.2.2.2.2 :=
  lpF_ind (P := fun x => G X 3 [(0, .ref (gA X 46)), (1, .int x.1), (2, .int x.2.1), (3, .int x.2.2.1), (4, .int x.2.2.2.1), (5, .int x.2.2.2.2.1), (6, .int x.2.2.2.2.2.1), (7, .int x.2.2.2.2.2.2.1)] [] x.2.2.2.2.2.2.2) (fun k hk x h => t_Mo_adopt_3 C hR hk x.1 x.2.1 x.2.2.1 x.2.2.2.1 x.2.2.2.2.1 x.2.2.2.2.2.1 x.2.2.2.2.2.2.1 x.2.2.2.2.2.2.2 h) gF x h
set_option maxHeartbeats 4000000 in
set_option maxRecDepth 100000 in
theorem t_Mo_adopt_0 {X : gX} {r : gS} (C : gC X b_Mo_adopt_c R_Mo 9 1 23) (hR : ∀ pc lv, decode b_Mo_adopt_c pc = .ok (.return_, 1) → G X pc lv [] r) (x1 : Int32) (x2 : Int32) (x3 : Int32) (x4 : Int32) (x5 : Int32) (x6 : Int32) (σ : gS) (h : b_Mo_adopt_0 x1 x2 x3 x4 x5 x6 σ = some r) : G X 0 [(0, .ref (gA X 46)), (1, .int x1), (2, .int x2), (3, .int x3), (4, .int x4), (5, .int x5), (6, .int x6)] [] σ := by
  unfold b_Mo_adopt_0 at h
  refine r_iconst C (v := 0) d_Mo_adopt_0 (by decide) ?_
  refine r_istore C (lv' := [(7, .int 0), (0, .ref (gA X 46)), (1, .int x1), (2, .int x2), (3, .int x3), (4, .int x4), (5, .int x5), (6, .int x6)]) d_Mo_adopt_1 (by decide) rfl rfl ?_
  refine r_sub [1, 2, 3, 4, 5, 6, 7, 0] (lv' := [(0, .ref (gA X 46)), (1, .int x1), (2, .int x2), (3, .int x3), (4, .int x4), (5, .int x5), (6, .int x6), (7, .int 0)]) rfl ?_
  exact u_Mo_adopt_3 C hR  (x1, x2, x3, x4, x5, x6, 0, σ) h
set_option maxHeartbeats 4000000 in
set_option maxRecDepth 100000 in
theorem c_Mo_adopt (l : Launch) (σ : gS) (x1 : Int32) (x2 : Int32) (x3 : Int32) (x4 : Int32) (x5 : Int32) (x6 : Int32) {r : gS} (h : f_Mo_adopt σ x1 x2 x3 x4 x5 x6 = some r) : gMet l y_Mo_adopt b_Mo_adopt_c 9 (none) 1 23 (fun a => [.ref (a 46), .int x1, .int x2, .int x3, .int x4, .int x5, .int x6]) σ (none) r := by
  refine gMet_v (by decide +kernel) (fun a => Nat.le_of_ble_eq_true rfl) (fun X _ C hR => ?_)
  refine r_sub [0, 1, 2, 3, 4, 5, 6] (lv' := [(0, .ref (gA X 46)), (1, .int x1), (2, .int x2), (3, .int x3), (4, .int x4), (5, .int x5), (6, .int x6)]) rfl ?_
  exact t_Mo_adopt_0 C hR x1 x2 x3 x4 x5 x6 σ h
theorem d_Mo_findTree_0 : decode b_Mo_findTree_c 0 = .ok (.iconst 0, 1) := by decide +kernel
theorem d_Mo_findTree_1 : decode b_Mo_findTree_c 1 = .ok (.istore_n 1, 1) := by decide +kernel
theorem d_Mo_findTree_2 : decode b_Mo_findTree_c 2 = .ok (.iload_n 1, 1) := by decide +kernel
theorem d_Mo_findTree_3 : decode b_Mo_findTree_c 3 = .ok (.bipush 10, 2) := by decide +kernel
theorem d_Mo_findTree_5 : decode b_Mo_findTree_c 5 = .ok (.if_icmp .ge 16, 3) := by decide +kernel
theorem d_Mo_findTree_8 : decode b_Mo_findTree_c 8 = .ok (.aload_n 0, 1) := by decide +kernel
theorem d_Mo_findTree_9 : decode b_Mo_findTree_c 9 = .ok (.getfield 41, 3) := by decide +kernel
theorem d_Mo_findTree_12 : decode b_Mo_findTree_c 12 = .ok (.iload_n 1, 1) := by decide +kernel
theorem d_Mo_findTree_13 : decode b_Mo_findTree_c 13 = .ok (.iconst 0, 1) := by decide +kernel
theorem d_Mo_findTree_14 : decode b_Mo_findTree_c 14 = .ok (.bastore, 1) := by decide +kernel
theorem d_Mo_findTree_15 : decode b_Mo_findTree_c 15 = .ok (.iinc 1 1, 3) := by decide +kernel
theorem d_Mo_findTree_18 : decode b_Mo_findTree_c 18 = .ok (.goto (-16), 3) := by decide +kernel
theorem d_Mo_findTree_21 : decode b_Mo_findTree_c 21 = .ok (.aload_n 0, 1) := by decide +kernel
theorem d_Mo_findTree_22 : decode b_Mo_findTree_c 22 = .ok (.getfield 71, 3) := by decide +kernel
theorem d_Mo_findTree_25 : decode b_Mo_findTree_c 25 = .ok (.iconst 1, 1) := by decide +kernel
theorem d_Mo_findTree_26 : decode b_Mo_findTree_c 26 = .ok (.isub, 1) := by decide +kernel
theorem d_Mo_findTree_27 : decode b_Mo_findTree_c 27 = .ok (.istore_n 1, 1) := by decide +kernel
theorem d_Mo_findTree_28 : decode b_Mo_findTree_c 28 = .ok (.iload_n 1, 1) := by decide +kernel
theorem d_Mo_findTree_29 : decode b_Mo_findTree_c 29 = .ok (.ifCond .lt 85, 3) := by decide +kernel
theorem d_Mo_findTree_32 : decode b_Mo_findTree_c 32 = .ok (.aload_n 0, 1) := by decide +kernel
theorem d_Mo_findTree_33 : decode b_Mo_findTree_c 33 = .ok (.getfield 37, 3) := by decide +kernel
theorem d_Mo_findTree_36 : decode b_Mo_findTree_c 36 = .ok (.iload_n 1, 1) := by decide +kernel
theorem d_Mo_findTree_37 : decode b_Mo_findTree_c 37 = .ok (.iload_n 1, 1) := by decide +kernel
theorem d_Mo_findTree_38 : decode b_Mo_findTree_c 38 = .ok (.aload_n 0, 1) := by decide +kernel
theorem d_Mo_findTree_39 : decode b_Mo_findTree_c 39 = .ok (.getfield 71, 3) := by decide +kernel
theorem d_Mo_findTree_42 : decode b_Mo_findTree_c 42 = .ok (.iconst 1, 1) := by decide +kernel
theorem d_Mo_findTree_43 : decode b_Mo_findTree_c 43 = .ok (.isub, 1) := by decide +kernel
theorem d_Mo_findTree_44 : decode b_Mo_findTree_c 44 = .ok (.if_icmp .eq 27, 3) := by decide +kernel
theorem d_Mo_findTree_47 : decode b_Mo_findTree_c 47 = .ok (.aload_n 0, 1) := by decide +kernel
theorem d_Mo_findTree_48 : decode b_Mo_findTree_c 48 = .ok (.getfield 22, 3) := by decide +kernel
theorem d_Mo_findTree_51 : decode b_Mo_findTree_c 51 = .ok (.iload_n 1, 1) := by decide +kernel
theorem d_Mo_findTree_52 : decode b_Mo_findTree_c 52 = .ok (.iaload, 1) := by decide +kernel
theorem d_Mo_findTree_53 : decode b_Mo_findTree_c 53 = .ok (.iconst (-1), 1) := by decide +kernel
theorem d_Mo_findTree_54 : decode b_Mo_findTree_c 54 = .ok (.if_icmp .eq 21, 3) := by decide +kernel
theorem d_Mo_findTree_57 : decode b_Mo_findTree_c 57 = .ok (.aload_n 0, 1) := by decide +kernel
theorem d_Mo_findTree_58 : decode b_Mo_findTree_c 58 = .ok (.getfield 37, 3) := by decide +kernel
theorem d_Mo_findTree_61 : decode b_Mo_findTree_c 61 = .ok (.aload_n 0, 1) := by decide +kernel
theorem d_Mo_findTree_62 : decode b_Mo_findTree_c 62 = .ok (.getfield 22, 3) := by decide +kernel
theorem d_Mo_findTree_65 : decode b_Mo_findTree_c 65 = .ok (.iload_n 1, 1) := by decide +kernel
theorem d_Mo_findTree_66 : decode b_Mo_findTree_c 66 = .ok (.iaload, 1) := by decide +kernel
theorem d_Mo_findTree_67 : decode b_Mo_findTree_c 67 = .ok (.baload, 1) := by decide +kernel
theorem d_Mo_findTree_68 : decode b_Mo_findTree_c 68 = .ok (.ifCond .eq 7, 3) := by decide +kernel
theorem d_Mo_findTree_71 : decode b_Mo_findTree_c 71 = .ok (.iconst 1, 1) := by decide +kernel
theorem d_Mo_findTree_72 : decode b_Mo_findTree_c 72 = .ok (.goto 4, 3) := by decide +kernel
theorem d_Mo_findTree_75 : decode b_Mo_findTree_c 75 = .ok (.iconst 0, 1) := by decide +kernel
theorem d_Mo_findTree_76 : decode b_Mo_findTree_c 76 = .ok (.bastore, 1) := by decide +kernel
theorem d_Mo_findTree_77 : decode b_Mo_findTree_c 77 = .ok (.aload_n 0, 1) := by decide +kernel
theorem d_Mo_findTree_78 : decode b_Mo_findTree_c 78 = .ok (.getfield 37, 3) := by decide +kernel
theorem d_Mo_findTree_81 : decode b_Mo_findTree_c 81 = .ok (.iload_n 1, 1) := by decide +kernel
theorem d_Mo_findTree_82 : decode b_Mo_findTree_c 82 = .ok (.baload, 1) := by decide +kernel
theorem d_Mo_findTree_83 : decode b_Mo_findTree_c 83 = .ok (.ifCond .eq 25, 3) := by decide +kernel
theorem d_Mo_findTree_86 : decode b_Mo_findTree_c 86 = .ok (.aload_n 0, 1) := by decide +kernel
theorem d_Mo_findTree_87 : decode b_Mo_findTree_c 87 = .ok (.getfield 7, 3) := by decide +kernel
theorem d_Mo_findTree_90 : decode b_Mo_findTree_c 90 = .ok (.iload_n 1, 1) := by decide +kernel
theorem d_Mo_findTree_91 : decode b_Mo_findTree_c 91 = .ok (.iaload, 1) := by decide +kernel
theorem d_Mo_findTree_92 : decode b_Mo_findTree_c 92 = .ok (.iconst 2, 1) := by decide +kernel
theorem d_Mo_findTree_93 : decode b_Mo_findTree_c 93 = .ok (.if_icmp .ne 15, 3) := by decide +kernel
theorem d_Mo_findTree_96 : decode b_Mo_findTree_c 96 = .ok (.aload_n 0, 1) := by decide +kernel
theorem d_Mo_findTree_97 : decode b_Mo_findTree_c 97 = .ok (.getfield 41, 3) := by decide +kernel
theorem d_Mo_findTree_100 : decode b_Mo_findTree_c 100 = .ok (.aload_n 0, 1) := by decide +kernel
theorem d_Mo_findTree_101 : decode b_Mo_findTree_c 101 = .ok (.getfield 13, 3) := by decide +kernel
theorem d_Mo_findTree_104 : decode b_Mo_findTree_c 104 = .ok (.iload_n 1, 1) := by decide +kernel
theorem d_Mo_findTree_105 : decode b_Mo_findTree_c 105 = .ok (.iaload, 1) := by decide +kernel
theorem d_Mo_findTree_106 : decode b_Mo_findTree_c 106 = .ok (.iconst 1, 1) := by decide +kernel
theorem d_Mo_findTree_107 : decode b_Mo_findTree_c 107 = .ok (.bastore, 1) := by decide +kernel
theorem d_Mo_findTree_108 : decode b_Mo_findTree_c 108 = .ok (.iinc 1 (-1), 3) := by decide +kernel
theorem d_Mo_findTree_111 : decode b_Mo_findTree_c 111 = .ok (.goto (-83), 3) := by decide +kernel
theorem d_Mo_findTree_114 : decode b_Mo_findTree_c 114 = .ok (.return_, 1) := by decide +kernel
/-! GameRowsModel.findTree()V -/
set_option maxHeartbeats 4000000 in
set_option maxRecDepth 100000 in
theorem t_Mo_findTree_108 {X : gX} {r : gS} (C : gC X b_Mo_findTree_c R_Mo 2 0 0) (hR : ∀ pc lv, decode b_Mo_findTree_c pc = .ok (.return_, 1) → G X pc lv [] r) {k28 : Int32 × gS → Option gS}  (hk28 : ∀ x, k28 x = some r → G X 28 [(0, .ref (gA X 46)), (1, .int x.1)] [] x.2) (x1 : Int32) (σ : gS) (h : b_Mo_findTree_108 k28 x1 σ = some r) : G X 108 [(0, .ref (gA X 46)), (1, .int x1)] [] σ := by
  unfold b_Mo_findTree_108 at h
  obtain ⟨x1_1, ex1_1, h⟩ := bnd_some h
  refine r_iinc C 1 (lv' := [(1, .int x1_1), (0, .ref (gA X 46))]) d_Mo_findTree_108 rfl (by rw [ex1_1]; rfl) (by decide) rfl ?_
  refine r_goto C (tgt := 28) d_Mo_findTree_111 (by decide) ?_
  refine r_sub [1, 0] (lv' := [(0, .ref (gA X 46)), (1, .int x1_1)]) rfl ?_
  exact hk28 _ h
set_option maxHeartbeats 4000000 in
set_option maxRecDepth 100000 in
theorem t_Mo_findTree_76 {X : gX} {r : gS} (C : gC X b_Mo_findTree_c R_Mo 2 0 0) (hR : ∀ pc lv, decode b_Mo_findTree_c pc = .ok (.return_, 1) → G X pc lv [] r) {k28 : Int32 × gS → Option gS}  (hk28 : ∀ x, k28 x = some r → G X 28 [(0, .ref (gA X 46)), (1, .int x.1)] [] x.2) (x1 : Int32) (y1 : Int32) (y2 : Int32) (σ : gS) (h : b_Mo_findTree_76 k28 x1 y1 y2 σ = some r) : G X 76 [(0, .ref (gA X 46)), (1, .int x1)] [.int y2, .int y1, .ref (gA X 56)] σ := by
  unfold b_Mo_findTree_76 at h
  obtain ⟨hi_1, h⟩ := ck_some h
  obtain ⟨hb_3, h⟩ := ck_some h
  obtain ⟨σ_2, eσ_2, h⟩ := bnd_some h
  refine r_zast C hi_1 hb_3 eσ_2 d_Mo_findTree_76 ?_
  refine r_aload_n C 0 d_Mo_findTree_77 rfl rfl ?_
  refine q_Mo_37 C d_Mo_findTree_78 ?_
  refine r_iload_n C 1 d_Mo_findTree_81 rfl rfl ?_
  obtain ⟨hi_4, h⟩ := ck_some h
  refine r_zald C hi_4 d_Mo_findTree_82 ?_
  refine r_if_eq C (tgt := 108) d_Mo_findTree_83 (by decide) (fun hc_5 => ?_) (fun hc_5 => ?_)
  · rw [if_pos hc_5] at h
    exact t_Mo_findTree_108 C hR hk28 x1 σ_2 h
  · rw [if_neg hc_5] at h
    refine r_aload_n C 0 d_Mo_findTree_86 rfl rfl ?_
    refine q_Mo_7 C d_Mo_findTree_87 ?_
    refine r_iload_n C 1 d_Mo_findTree_90 rfl rfl ?_
    obtain ⟨hi_6, h⟩ := ck_some h
    refine r_iald C hi_6 d_Mo_findTree_91 ?_
    refine r_iconst C (v := 2) d_Mo_findTree_92 (by decide) ?_
    refine r_icmp_ne C (tgt := 108) d_Mo_findTree_93 (by decide) (fun hc_7 => ?_) (fun hc_7 => ?_)
    · rw [if_neg hc_7] at h
      exact t_Mo_findTree_108 C hR hk28 x1 σ_2 h
    · rw [if_pos hc_7] at h
      refine r_aload_n C 0 d_Mo_findTree_96 rfl rfl ?_
      refine q_Mo_41 C d_Mo_findTree_97 ?_
      refine r_aload_n C 0 d_Mo_findTree_100 rfl rfl ?_
      refine q_Mo_13 C d_Mo_findTree_101 ?_
      refine r_iload_n C 1 d_Mo_findTree_104 rfl rfl ?_
      obtain ⟨hi_8, h⟩ := ck_some h
      refine r_iald C hi_8 d_Mo_findTree_105 ?_
      refine r_iconst C (v := 1) d_Mo_findTree_106 (by decide) ?_
      obtain ⟨hi_9, h⟩ := ck_some h
      obtain ⟨hb_11, h⟩ := ck_some h
      obtain ⟨σ_10, eσ_10, h⟩ := bnd_some h
      refine r_zast C hi_9 hb_11 eσ_10 d_Mo_findTree_107 ?_
      exact t_Mo_findTree_108 C hR hk28 x1 σ_10 h
set_option maxHeartbeats 4000000 in
set_option maxRecDepth 100000 in
theorem t_Mo_findTree_75 {X : gX} {r : gS} (C : gC X b_Mo_findTree_c R_Mo 2 0 0) (hR : ∀ pc lv, decode b_Mo_findTree_c pc = .ok (.return_, 1) → G X pc lv [] r) {k28 : Int32 × gS → Option gS}  (hk28 : ∀ x, k28 x = some r → G X 28 [(0, .ref (gA X 46)), (1, .int x.1)] [] x.2) (x1 : Int32) (y1 : Int32) (σ : gS) (h : b_Mo_findTree_75 k28 x1 y1 σ = some r) : G X 75 [(0, .ref (gA X 46)), (1, .int x1)] [.int y1, .ref (gA X 56)] σ := by
  unfold b_Mo_findTree_75 at h
  refine r_iconst C (v := 0) d_Mo_findTree_75 (by decide) ?_
  exact t_Mo_findTree_76 C hR hk28 x1 y1 0 σ h
set_option maxHeartbeats 4000000 in
set_option maxRecDepth 100000 in
theorem t_Mo_findTree_71 {X : gX} {r : gS} (C : gC X b_Mo_findTree_c R_Mo 2 0 0) (hR : ∀ pc lv, decode b_Mo_findTree_c pc = .ok (.return_, 1) → G X pc lv [] r) {k28 : Int32 × gS → Option gS}  (hk28 : ∀ x, k28 x = some r → G X 28 [(0, .ref (gA X 46)), (1, .int x.1)] [] x.2) (x1 : Int32) (y1 : Int32) (σ : gS) (h : b_Mo_findTree_71 k28 x1 y1 σ = some r) : G X 71 [(0, .ref (gA X 46)), (1, .int x1)] [.int y1, .ref (gA X 56)] σ := by
  unfold b_Mo_findTree_71 at h
  refine r_iconst C (v := 1) d_Mo_findTree_71 (by decide) ?_
  refine r_goto C (tgt := 76) d_Mo_findTree_72 (by decide) ?_
  exact t_Mo_findTree_76 C hR hk28 x1 y1 1 σ h
set_option maxHeartbeats 4000000 in
set_option maxRecDepth 100000 in
theorem t_Mo_findTree_28 {X : gX} {r : gS} (C : gC X b_Mo_findTree_c R_Mo 2 0 0) (hR : ∀ pc lv, decode b_Mo_findTree_c pc = .ok (.return_, 1) → G X pc lv [] r) {k28 : Int32 × gS → Option gS}  (hk28 : ∀ x, k28 x = some r → G X 28 [(0, .ref (gA X 46)), (1, .int x.1)] [] x.2) (x1 : Int32) (σ : gS) (h : b_Mo_findTree_28 k28 x1 σ = some r) : G X 28 [(0, .ref (gA X 46)), (1, .int x1)] [] σ := by
  unfold b_Mo_findTree_28 at h
  refine r_iload_n C 1 d_Mo_findTree_28 rfl rfl ?_
  refine r_if_lt C (tgt := 114) d_Mo_findTree_29 (by decide) (fun hc_1 => ?_) (fun hc_1 => ?_)
  · rw [if_pos hc_1] at h
    cases h
    exact hR _ _ d_Mo_findTree_114
  · rw [if_neg hc_1] at h
    refine r_aload_n C 0 d_Mo_findTree_32 rfl rfl ?_
    refine q_Mo_37 C d_Mo_findTree_33 ?_
    refine r_iload_n C 1 d_Mo_findTree_36 rfl rfl ?_
    refine r_iload_n C 1 d_Mo_findTree_37 rfl rfl ?_
    refine r_aload_n C 0 d_Mo_findTree_38 rfl rfl ?_
    refine q_Mo_71 C d_Mo_findTree_39 ?_
    refine r_iconst C (v := 1) d_Mo_findTree_42 (by decide) ?_
    refine r_isub C d_Mo_findTree_43 ?_
    refine r_icmp_eq C (tgt := 71) d_Mo_findTree_44 (by decide) (fun hc_2 => ?_) (fun hc_2 => ?_)
    · rw [if_pos hc_2] at h
      exact t_Mo_findTree_71 C hR hk28 x1 x1 σ h
    · rw [if_neg hc_2] at h
      refine r_aload_n C 0 d_Mo_findTree_47 rfl rfl ?_
      refine q_Mo_22 C d_Mo_findTree_48 ?_
      refine r_iload_n C 1 d_Mo_findTree_51 rfl rfl ?_
      obtain ⟨hi_3, h⟩ := ck_some h
      refine r_iald C hi_3 d_Mo_findTree_52 ?_
      refine r_iconst C (v := (-1)) d_Mo_findTree_53 (by decide) ?_
      refine r_icmp_eq C (tgt := 75) d_Mo_findTree_54 (by decide) (fun hc_4 => ?_) (fun hc_4 => ?_)
      · rw [if_pos hc_4] at h
        exact t_Mo_findTree_75 C hR hk28 x1 x1 σ h
      · rw [if_neg hc_4] at h
        refine r_aload_n C 0 d_Mo_findTree_57 rfl rfl ?_
        refine q_Mo_37 C d_Mo_findTree_58 ?_
        refine r_aload_n C 0 d_Mo_findTree_61 rfl rfl ?_
        refine q_Mo_22 C d_Mo_findTree_62 ?_
        refine r_iload_n C 1 d_Mo_findTree_65 rfl rfl ?_
        obtain ⟨hi_5, h⟩ := ck_some h
        refine r_iald C hi_5 d_Mo_findTree_66 ?_
        obtain ⟨hi_6, h⟩ := ck_some h
        refine r_zald C hi_6 d_Mo_findTree_67 ?_
        refine r_if_eq C (tgt := 75) d_Mo_findTree_68 (by decide) (fun hc_7 => ?_) (fun hc_7 => ?_)
        · rw [if_pos hc_7] at h
          exact t_Mo_findTree_75 C hR hk28 x1 x1 σ h
        · rw [if_neg hc_7] at h
          exact t_Mo_findTree_71 C hR hk28 x1 x1 σ h
set_option maxHeartbeats 4000000 in
set_option maxRecDepth 100000 in
theorem u_Mo_findTree_28 {X : gX} {r : gS} (C : gC X b_Mo_findTree_c R_Mo 2 0 0) (hR : ∀ pc lv, decode b_Mo_findTree_c pc = .ok (.return_, 1) → G X pc lv [] r)  (x : Int32 × gS) (h : l_Mo_findTree_28 x = some r) : G X 28 [(0, .ref (gA X 46)), (1, .int x.1)] [] x.2 :=
  lpF_ind (P := fun x => G X 28 [(0, .ref (gA X 46)), (1, .int x.1)] [] x.2) (fun k hk x h => t_Mo_findTree_28 C hR hk x.1 x.2 h) gF x h
set_option maxHeartbeats 4000000 in
set_option maxRecDepth 100000 in
theorem t_Mo_findTree_2 {X : gX} {r : gS} (C : gC X b_Mo_findTree_c R_Mo 2 0 0) (hR : ∀ pc lv, decode b_Mo_findTree_c pc = .ok (.return_, 1) → G X pc lv [] r) {k2 : Int32 × gS → Option gS}  (hk2 : ∀ x, k2 x = some r → G X 2 [(0, .ref (gA X 46)), (1, .int x.1)] [] x.2) (x1 : Int32) (σ : gS) (h : b_Mo_findTree_2 k2 x1 σ = some r) : G X 2 [(0, .ref (gA X 46)), (1, .int x1)] [] σ := by
  unfold b_Mo_findTree_2 at h
  refine r_iload_n C 1 d_Mo_findTree_2 rfl rfl ?_
  refine r_bipush C (v := 10) d_Mo_findTree_3 (by decide) ?_
  refine r_icmp_ge C (tgt := 21) d_Mo_findTree_5 (by decide) (fun hc_1 => ?_) (fun hc_1 => ?_)
  · rw [if_pos hc_1] at h
    refine r_aload_n C 0 d_Mo_findTree_21 rfl rfl ?_
    refine q_Mo_71 C d_Mo_findTree_22 ?_
    refine r_iconst C (v := 1) d_Mo_findTree_25 (by decide) ?_
    refine r_isub C d_Mo_findTree_26 ?_
    obtain ⟨x1_2, ex1_2, h⟩ := bnd_some h
    refine r_istore_n C (lv' := [(1, .int x1_2), (0, .ref (gA X 46))]) d_Mo_findTree_27 rfl (by decide) ex1_2 rfl ?_
    refine r_sub [1, 0] (lv' := [(0, .ref (gA X 46)), (1, .int x1_2)]) rfl ?_
    exact u_Mo_findTree_28 C hR  (x1_2, σ) h
  · rw [if_neg hc_1] at h
    refine r_aload_n C 0 d_Mo_findTree_8 rfl rfl ?_
    refine q_Mo_41 C d_Mo_findTree_9 ?_
    refine r_iload_n C 1 d_Mo_findTree_12 rfl rfl ?_
    refine r_iconst C (v := 0) d_Mo_findTree_13 (by decide) ?_
    obtain ⟨hi_3, h⟩ := ck_some h
    obtain ⟨hb_5, h⟩ := ck_some h
    obtain ⟨σ_4, eσ_4, h⟩ := bnd_some h
    refine r_zast C hi_3 hb_5 eσ_4 d_Mo_findTree_14 ?_
    obtain ⟨x1_6, ex1_6, h⟩ := bnd_some h
    refine r_iinc C 1 (lv' := [(1, .int x1_6), (0, .ref (gA X 46))]) d_Mo_findTree_15 rfl (by rw [ex1_6]; rfl) (by decide) rfl ?_
    refine r_goto C (tgt := 2) d_Mo_findTree_18 (by decide) ?_
    refine r_sub [1, 0] (lv' := [(0, .ref (gA X 46)), (1, .int x1_6)]) rfl ?_
    exact hk2 _ h
set_option maxHeartbeats 4000000 in
set_option maxRecDepth 100000 in
theorem u_Mo_findTree_2 {X : gX} {r : gS} (C : gC X b_Mo_findTree_c R_Mo 2 0 0) (hR : ∀ pc lv, decode b_Mo_findTree_c pc = .ok (.return_, 1) → G X pc lv [] r)  (x : Int32 × gS) (h : l_Mo_findTree_2 x = some r) : G X 2 [(0, .ref (gA X 46)), (1, .int x.1)] [] x.2 :=
  lpF_ind (P := fun x => G X 2 [(0, .ref (gA X 46)), (1, .int x.1)] [] x.2) (fun k hk x h => t_Mo_findTree_2 C hR hk x.1 x.2 h) gF x h
set_option maxHeartbeats 4000000 in
set_option maxRecDepth 100000 in
theorem t_Mo_findTree_0 {X : gX} {r : gS} (C : gC X b_Mo_findTree_c R_Mo 2 0 0) (hR : ∀ pc lv, decode b_Mo_findTree_c pc = .ok (.return_, 1) → G X pc lv [] r) (σ : gS) (h : b_Mo_findTree_0 σ = some r) : G X 0 [(0, .ref (gA X 46))] [] σ := by
  unfold b_Mo_findTree_0 at h
  refine r_iconst C (v := 0) d_Mo_findTree_0 (by decide) ?_
  refine r_istore_n C (lv' := [(1, .int 0), (0, .ref (gA X 46))]) d_Mo_findTree_1 rfl (by decide) rfl rfl ?_
  refine r_sub [1, 0] (lv' := [(0, .ref (gA X 46)), (1, .int 0)]) rfl ?_
  exact u_Mo_findTree_2 C hR  (0, σ) h
set_option maxHeartbeats 4000000 in
set_option maxRecDepth 100000 in
theorem c_Mo_findTree (l : Launch) (σ : gS)  {r : gS} (h : f_Mo_findTree σ = some r) : gMet l y_Mo_findTree b_Mo_findTree_c 2 (none) 0 0 (fun a => [.ref (a 46)]) σ (none) r := by
  refine gMet_v (by decide +kernel) (fun a => Nat.le_of_ble_eq_true rfl) (fun X _ C hR => ?_)
  refine r_sub [0] (lv' := [(0, .ref (gA X 46))]) rfl ?_
  exact t_Mo_findTree_0 C hR σ h
theorem d_Mo_plansOf_0 : decode b_Mo_plansOf_c 0 = .ok (.iconst 1, 1) := by decide +kernel
theorem d_Mo_plansOf_1 : decode b_Mo_plansOf_c 1 = .ok (.istore_n 2, 1) := by decide +kernel
theorem d_Mo_plansOf_2 : decode b_Mo_plansOf_c 2 = .ok (.iconst 0, 1) := by decide +kernel
theorem d_Mo_plansOf_3 : decode b_Mo_plansOf_c 3 = .ok (.istore_n 3, 1) := by decide +kernel
theorem d_Mo_plansOf_4 : decode b_Mo_plansOf_c 4 = .ok (.iload_n 3, 1) := by decide +kernel
theorem d_Mo_plansOf_5 : decode b_Mo_plansOf_c 5 = .ok (.aload_n 0, 1) := by decide +kernel
theorem d_Mo_plansOf_6 : decode b_Mo_plansOf_c 6 = .ok (.getfield 75, 3) := by decide +kernel
theorem d_Mo_plansOf_9 : decode b_Mo_plansOf_c 9 = .ok (.if_icmp .ge 41, 3) := by decide +kernel
theorem d_Mo_plansOf_12 : decode b_Mo_plansOf_c 12 = .ok (.aload_n 0, 1) := by decide +kernel
theorem d_Mo_plansOf_13 : decode b_Mo_plansOf_c 13 = .ok (.getfield 41, 3) := by decide +kernel
theorem d_Mo_plansOf_16 : decode b_Mo_plansOf_c 16 = .ok (.iload_n 3, 1) := by decide +kernel
theorem d_Mo_plansOf_17 : decode b_Mo_plansOf_c 17 = .ok (.baload, 1) := by decide +kernel
theorem d_Mo_plansOf_18 : decode b_Mo_plansOf_c 18 = .ok (.ifCond .eq 24, 3) := by decide +kernel
theorem d_Mo_plansOf_21 : decode b_Mo_plansOf_c 21 = .ok (.aload_n 0, 1) := by decide +kernel
theorem d_Mo_plansOf_22 : decode b_Mo_plansOf_c 22 = .ok (.getfield 31, 3) := by decide +kernel
theorem d_Mo_plansOf_25 : decode b_Mo_plansOf_c 25 = .ok (.iload_n 3, 1) := by decide +kernel
theorem d_Mo_plansOf_26 : decode b_Mo_plansOf_c 26 = .ok (.iaload, 1) := by decide +kernel
theorem d_Mo_plansOf_27 : decode b_Mo_plansOf_c 27 = .ok (.iload_n 1, 1) := by decide +kernel
theorem d_Mo_plansOf_28 : decode b_Mo_plansOf_c 28 = .ok (.if_icmp .ne 14, 3) := by decide +kernel
theorem d_Mo_plansOf_31 : decode b_Mo_plansOf_c 31 = .ok (.iload_n 2, 1) := by decide +kernel
theorem d_Mo_plansOf_32 : decode b_Mo_plansOf_c 32 = .ok (.aload_n 0, 1) := by decide +kernel
theorem d_Mo_plansOf_33 : decode b_Mo_plansOf_c 33 = .ok (.getfield 34, 3) := by decide +kernel
theorem d_Mo_plansOf_36 : decode b_Mo_plansOf_c 36 = .ok (.iload_n 3, 1) := by decide +kernel
theorem d_Mo_plansOf_37 : decode b_Mo_plansOf_c 37 = .ok (.iaload, 1) := by decide +kernel
theorem d_Mo_plansOf_38 : decode b_Mo_plansOf_c 38 = .ok (.imul, 1) := by decide +kernel
theorem d_Mo_plansOf_39 : decode b_Mo_plansOf_c 39 = .ok (.goto 4, 3) := by decide +kernel
theorem d_Mo_plansOf_42 : decode b_Mo_plansOf_c 42 = .ok (.iload_n 2, 1) := by decide +kernel
theorem d_Mo_plansOf_43 : decode b_Mo_plansOf_c 43 = .ok (.istore_n 2, 1) := by decide +kernel
theorem d_Mo_plansOf_44 : decode b_Mo_plansOf_c 44 = .ok (.iinc 3 1, 3) := by decide +kernel
theorem d_Mo_plansOf_47 : decode b_Mo_plansOf_c 47 = .ok (.goto (-43), 3) := by decide +kernel
theorem d_Mo_plansOf_50 : decode b_Mo_plansOf_c 50 = .ok (.iload_n 2, 1) := by decide +kernel
theorem d_Mo_plansOf_51 : decode b_Mo_plansOf_c 51 = .ok (.ireturn, 1) := by decide +kernel
/-! GameRowsModel.plansOf(I)I -/
set_option maxHeartbeats 4000000 in
set_option maxRecDepth 100000 in
theorem t_Mo_plansOf_43 {X : gX} {r : Int32} {σ : gS} (C : gC X b_Mo_plansOf_c R_Mo 4 0 0) (hR : ∀ pc lv, decode b_Mo_plansOf_c pc = .ok (.ireturn, 1) → G X pc lv [.int r] σ) {k4 : Int32 × Int32 × Int32 → Option Int32}  (hk4 : ∀ x, k4 x = some r → G X 4 [(0, .ref (gA X 46)), (1, .int x.1), (2, .int x.2.1), (3, .int x.2.2)] [] σ) (x1 : Int32) (x3 : Int32) (y0 : Int32) (h : b_Mo_plansOf_43 σ k4 x1 x3 y0 = some r) : G X 43 [(0, .ref (gA X 46)), (1, .int x1), (3, .int x3)] [.int y0] σ := by
  unfold b_Mo_plansOf_43 at h
  refine r_istore_n C (lv' := [(2, .int y0), (0, .ref (gA X 46)), (1, .int x1), (3, .int x3)]) d_Mo_plansOf_43 rfl (by decide) rfl rfl ?_
  obtain ⟨x3_1, ex3_1, h⟩ := bnd_some h
  refine r_iinc C 3 (lv' := [(3, .int x3_1), (2, .int y0), (0, .ref (gA X 46)), (1, .int x1)]) d_Mo_plansOf_44 rfl (by rw [ex3_1]; rfl) (by decide) rfl ?_
  refine r_goto C (tgt := 4) d_Mo_plansOf_47 (by decide) ?_
  refine r_sub [2, 3, 1, 0] (lv' := [(0, .ref (gA X 46)), (1, .int x1), (2, .int y0), (3, .int x3_1)]) rfl ?_
  exact hk4 _ h
set_option maxHeartbeats 4000000 in
set_option maxRecDepth 100000 in
theorem t_Mo_plansOf_42 {X : gX} {r : Int32} {σ : gS} (C : gC X b_Mo_plansOf_c R_Mo 4 0 0) (hR : ∀ pc lv, decode b_Mo_plansOf_c pc = .ok (.ireturn, 1) → G X pc lv [.int r] σ) {k4 : Int32 × Int32 × Int32 → Option Int32}  (hk4 : ∀ x, k4 x = some r → G X 4 [(0, .ref (gA X 46)), (1, .int x.1), (2, .int x.2.1), (3, .int x.2.2)] [] σ) (x1 : Int32) (x2 : Int32) (x3 : Int32) (h : b_Mo_plansOf_42 σ k4 x1 x2 x3 = some r) : G X 42 [(0, .ref (gA X 46)), (1, .int x1), (2, .int x2), (3, .int x3)] [] σ := by
  unfold b_Mo_plansOf_42 at h
  refine r_iload_n C 2 d_Mo_plansOf_42 rfl rfl ?_
  refine r_sub [0, 1, 3] (lv' := [(0, .ref (gA X 46)), (1, .int x1), (3, .int x3)]) rfl ?_
  exact t_Mo_plansOf_43 C hR hk4 x1 x3 x2 h
set_option maxHeartbeats 4000000 in
set_option maxRecDepth 100000 in
theorem t_Mo_plansOf_4 {X : gX} {r : Int32} {σ : gS} (C : gC X b_Mo_plansOf_c R_Mo 4 0 0) (hR : ∀ pc lv, decode b_Mo_plansOf_c pc = .ok (.ireturn, 1) → G X pc lv [.int r] σ) {k4 : Int32 × Int32 × Int32 → Option Int32}  (hk4 : ∀ x, k4 x = some r → G X 4 [(0, .ref (gA X 46)), (1, .int x.1), (2, .int x.2.1), (3, .int x.2.2)] [] σ) (x1 : Int32) (x2 : Int32) (x3 : Int32) (h : b_Mo_plansOf_4 σ k4 x1 x2 x3 = some r) : G X 4 [(0, .ref (gA X 46)), (1, .int x1), (2, .int x2), (3, .int x3)] [] σ := by
  unfold b_Mo_plansOf_4 at h
  refine r_iload_n C 3 d_Mo_plansOf_4 rfl rfl ?_
  refine r_aload_n C 0 d_Mo_plansOf_5 rfl rfl ?_
  refine q_Mo_75 C d_Mo_plansOf_6 ?_
  refine r_icmp_ge C (tgt := 50) d_Mo_plansOf_9 (by decide) (fun hc_1 => ?_) (fun hc_1 => ?_)
  · rw [if_pos hc_1] at h
    refine r_iload_n C 2 d_Mo_plansOf_50 rfl rfl ?_
    cases h
    exact hR _ _ d_Mo_plansOf_51
  · rw [if_neg hc_1] at h
    refine r_aload_n C 0 d_Mo_plansOf_12 rfl rfl ?_
    refine q_Mo_41 C d_Mo_plansOf_13 ?_
    refine r_iload_n C 3 d_Mo_plansOf_16 rfl rfl ?_
    obtain ⟨hi_2, h⟩ := ck_some h
    refine r_zald C hi_2 d_Mo_plansOf_17 ?_
    refine r_if_eq C (tgt := 42) d_Mo_plansOf_18 (by decide) (fun hc_3 => ?_) (fun hc_3 => ?_)
    · rw [if_pos hc_3] at h
      exact t_Mo_plansOf_42 C hR hk4 x1 x2 x3 h
    · rw [if_neg hc_3] at h
      refine r_aload_n C 0 d_Mo_plansOf_21 rfl rfl ?_
      refine q_Mo_31 C d_Mo_plansOf_22 ?_
      refine r_iload_n C 3 d_Mo_plansOf_25 rfl rfl ?_
      obtain ⟨hi_4, h⟩ := ck_some h
      refine r_iald C hi_4 d_Mo_plansOf_26 ?_
      refine r_iload_n C 1 d_Mo_plansOf_27 rfl rfl ?_
      refine r_icmp_ne C (tgt := 42) d_Mo_plansOf_28 (by decide) (fun hc_5 => ?_) (fun hc_5 => ?_)
      · rw [if_neg hc_5] at h
        exact t_Mo_plansOf_42 C hR hk4 x1 x2 x3 h
      · rw [if_pos hc_5] at h
        refine r_iload_n C 2 d_Mo_plansOf_31 rfl rfl ?_
        refine r_aload_n C 0 d_Mo_plansOf_32 rfl rfl ?_
        refine q_Mo_34 C d_Mo_plansOf_33 ?_
        refine r_iload_n C 3 d_Mo_plansOf_36 rfl rfl ?_
        obtain ⟨hi_6, h⟩ := ck_some h
        refine r_iald C hi_6 d_Mo_plansOf_37 ?_
        refine r_imul C d_Mo_plansOf_38 ?_
        refine r_goto C (tgt := 43) d_Mo_plansOf_39 (by decide) ?_
        refine r_sub [0, 1, 3] (lv' := [(0, .ref (gA X 46)), (1, .int x1), (3, .int x3)]) rfl ?_
        exact t_Mo_plansOf_43 C hR hk4 x1 x3 (x2 * (gI σ 55 x3.toNatClampNeg)) h
set_option maxHeartbeats 4000000 in
set_option maxRecDepth 100000 in
theorem u_Mo_plansOf_4 {X : gX} {r : Int32} {σ : gS} (C : gC X b_Mo_plansOf_c R_Mo 4 0 0) (hR : ∀ pc lv, decode b_Mo_plansOf_c pc = .ok (.ireturn, 1) → G X pc lv [.int r] σ)  (x : Int32 × Int32 × Int32) (h : l_Mo_plansOf_4 σ x = some r) : G X 4 [(0, .ref (gA X 46)), (1, .int x.1), (2, .int x.2.1), (3, .int x.2.2)] [] σ :=
  lpF_ind (P := fun x => G X 4 [(0, .ref (gA X 46)), (1, .int x.1), (2, .int x.2.1), (3, .int x.2.2)] [] σ) (fun k hk x h => t_Mo_plansOf_4 C hR hk x.1 x.2.1 x.2.2 h) gF x h
set_option maxHeartbeats 4000000 in
set_option maxRecDepth 100000 in
theorem t_Mo_plansOf_0 {X : gX} {r : Int32} {σ : gS} (C : gC X b_Mo_plansOf_c R_Mo 4 0 0) (hR : ∀ pc lv, decode b_Mo_plansOf_c pc = .ok (.ireturn, 1) → G X pc lv [.int r] σ) (x1 : Int32) (h : b_Mo_plansOf_0 σ x1 = some r) : G X 0 [(0, .ref (gA X 46)), (1, .int x1)] [] σ := by
  unfold b_Mo_plansOf_0 at h
  refine r_iconst C (v := 1) d_Mo_plansOf_0 (by decide) ?_
  refine r_istore_n C (lv' := [(2, .int 1), (0, .ref (gA X 46)), (1, .int x1)]) d_Mo_plansOf_1 rfl (by decide) rfl rfl ?_
  refine r_iconst C (v := 0) d_Mo_plansOf_2 (by decide) ?_
  refine r_istore_n C (lv' := [(3, .int 0), (2, .int 1), (0, .ref (gA X 46)), (1, .int x1)]) d_Mo_plansOf_3 rfl (by decide) rfl rfl ?_
  refine r_sub [2, 3, 1, 0] (lv' := [(0, .ref (gA X 46)), (1, .int x1), (2, .int 1), (3, .int 0)]) rfl ?_
  exact u_Mo_plansOf_4 C hR  (x1, 1, 0) h
set_option maxHeartbeats 4000000 in
set_option maxRecDepth 100000 in
theorem c_Mo_plansOf (l : Launch) (σ : gS) (x1 : Int32) {r : Int32} (h : f_Mo_plansOf σ x1 = some r) : gMet l y_Mo_plansOf b_Mo_plansOf_c 4 (some .int) 0 0 (fun a => [.ref (a 46), .int x1]) σ (some (.int r)) σ := by
  refine gMet_i (by decide +kernel) (fun a => Nat.le_of_ble_eq_true rfl) (fun X _ C hR => ?_)
  refine r_sub [0, 1] (lv' := [(0, .ref (gA X 46)), (1, .int x1)]) rfl ?_
  exact t_Mo_plansOf_0 C hR x1 h
theorem d_Mo_tooMany_0 : decode b_Mo_tooMany_c 0 = .ok (.aload_n 0, 1) := by decide +kernel
theorem d_Mo_tooMany_1 : decode b_Mo_tooMany_c 1 = .ok (.invokevirtual 110, 3) := by decide +kernel
theorem d_Mo_tooMany_4 : decode b_Mo_tooMany_c 4 = .ok (.aload_n 0, 1) := by decide +kernel
theorem d_Mo_tooMany_5 : decode b_Mo_tooMany_c 5 = .ok (.iconst 0, 1) := by decide +kernel
theorem d_Mo_tooMany_6 : decode b_Mo_tooMany_c 6 = .ok (.invokevirtual 113, 3) := by decide +kernel
theorem d_Mo_tooMany_9 : decode b_Mo_tooMany_c 9 = .ok (.bipush 64, 2) := by decide +kernel
theorem d_Mo_tooMany_11 : decode b_Mo_tooMany_c 11 = .ok (.if_icmp .gt 13, 3) := by decide +kernel
theorem d_Mo_tooMany_14 : decode b_Mo_tooMany_c 14 = .ok (.aload_n 0, 1) := by decide +kernel
theorem d_Mo_tooMany_15 : decode b_Mo_tooMany_c 15 = .ok (.iconst 1, 1) := by decide +kernel
theorem d_Mo_tooMany_16 : decode b_Mo_tooMany_c 16 = .ok (.invokevirtual 113, 3) := by decide +kernel
theorem d_Mo_tooMany_19 : decode b_Mo_tooMany_c 19 = .ok (.bipush 64, 2) := by decide +kernel
theorem d_Mo_tooMany_21 : decode b_Mo_tooMany_c 21 = .ok (.if_icmp .le 7, 3) := by decide +kernel
theorem d_Mo_tooMany_24 : decode b_Mo_tooMany_c 24 = .ok (.iconst 1, 1) := by decide +kernel
theorem d_Mo_tooMany_25 : decode b_Mo_tooMany_c 25 = .ok (.goto 4, 3) := by decide +kernel
theorem d_Mo_tooMany_28 : decode b_Mo_tooMany_c 28 = .ok (.iconst 0, 1) := by decide +kernel
theorem d_Mo_tooMany_29 : decode b_Mo_tooMany_c 29 = .ok (.ireturn, 1) := by decide +kernel
/-! GameRowsModel.tooMany()Z -/
set_option maxHeartbeats 4000000 in
set_option maxRecDepth 100000 in
theorem t_Mo_tooMany_0 {X : gX} {r : (Int32 × gS)} (C : gC X b_Mo_tooMany_c R_Mo 1 1 23) (hR : ∀ pc lv, isB r.1 = true → decode b_Mo_tooMany_c pc = .ok (.ireturn, 1) → G X pc lv [.int r.1] r.2) (σ : gS) (h : b_Mo_tooMany_0 σ = some r) : G X 0 [(0, .ref (gA X 46))] [] σ := by
  unfold b_Mo_tooMany_0 at h
  refine r_aload_n C 0 d_Mo_tooMany_0 rfl rfl ?_
  obtain ⟨r_1, er_1, h⟩ := bind_some h
  refine r_callV C (As := []) (rest := []) (st1 := []) (c_Mo_findTree X.1.2.1 σ  er_1) k_Mo_findTree m_442 (by decide) cel_Mo rfl rfl rfl rfl (Nat.le_of_ble_eq_true rfl) ⟨Nat.le_of_ble_eq_true rfl, Nat.le_of_ble_eq_true rfl⟩ d_Mo_tooMany_1 rfl ?_
  refine r_aload_n C 0 d_Mo_tooMany_4 rfl rfl ?_
  refine r_iconst C (v := 0) d_Mo_tooMany_5 (by decide) ?_
  obtain ⟨r_2, er_2, h⟩ := bind_some h
  refine r_callV C (As := [.int 0]) (rest := []) (st1 := [.int r_2]) (c_Mo_plansOf X.1.2.1 r_1 0 er_2) k_Mo_plansOf m_446 (by decide) cel_Mo rfl rfl rfl rfl (Nat.le_of_ble_eq_true rfl) ⟨Nat.le_of_ble_eq_true rfl, Nat.le_of_ble_eq_true rfl⟩ d_Mo_tooMany_6 rfl ?_
  refine r_bipush C (v := 64) d_Mo_tooMany_9 (by decide) ?_
  refine r_icmp_gt C (tgt := 24) d_Mo_tooMany_11 (by decide) (fun hc_3 => ?_) (fun hc_3 => ?_)
  · rw [if_pos hc_3] at h
    refine r_iconst C (v := 1) d_Mo_tooMany_24 (by decide) ?_
    refine r_goto C (tgt := 29) d_Mo_tooMany_25 (by decide) ?_
    obtain ⟨hB, h⟩ := ck_some h
    cases h
    exact hR _ _ hB d_Mo_tooMany_29
  · rw [if_neg hc_3] at h
    refine r_aload_n C 0 d_Mo_tooMany_14 rfl rfl ?_
    refine r_iconst C (v := 1) d_Mo_tooMany_15 (by decide) ?_
    obtain ⟨r_4, er_4, h⟩ := bind_some h
    refine r_callV C (As := [.int 1]) (rest := []) (st1 := [.int r_4]) (c_Mo_plansOf X.1.2.1 r_1 1 er_4) k_Mo_plansOf m_446 (by decide) cel_Mo rfl rfl rfl rfl (Nat.le_of_ble_eq_true rfl) ⟨Nat.le_of_ble_eq_true rfl, Nat.le_of_ble_eq_true rfl⟩ d_Mo_tooMany_16 rfl ?_
    refine r_bipush C (v := 64) d_Mo_tooMany_19 (by decide) ?_
    refine r_icmp_le C (tgt := 28) d_Mo_tooMany_21 (by decide) (fun hc_5 => ?_) (fun hc_5 => ?_)
    · rw [if_pos hc_5] at h
      refine r_iconst C (v := 0) d_Mo_tooMany_28 (by decide) ?_
      obtain ⟨hB, h⟩ := ck_some h
      cases h
      exact hR _ _ hB d_Mo_tooMany_29
    · rw [if_neg hc_5] at h
      refine r_iconst C (v := 1) d_Mo_tooMany_24 (by decide) ?_
      refine r_goto C (tgt := 29) d_Mo_tooMany_25 (by decide) ?_
      obtain ⟨hB, h⟩ := ck_some h
      cases h
      exact hR _ _ hB d_Mo_tooMany_29
set_option maxHeartbeats 4000000 in
set_option maxRecDepth 100000 in
theorem c_Mo_tooMany (l : Launch) (σ : gS)  {r : (Int32 × gS)} (h : f_Mo_tooMany σ = some r) : gMet l y_Mo_tooMany b_Mo_tooMany_c 1 (some .boolean) 1 23 (fun a => [.ref (a 46)]) σ (some (.int r.1)) r.2 := by
  refine gMet_z (by decide +kernel) (fun a => Nat.le_of_ble_eq_true rfl) (fun X _ C hR => ?_)
  refine r_sub [0] (lv' := [(0, .ref (gA X 46))]) rfl ?_
  exact t_Mo_tooMany_0 C hR σ h
theorem d_Mo_undo_0 : decode b_Mo_undo_c 0 = .ok (.iconst 0, 1) := by decide +kernel
theorem d_Mo_undo_1 : decode b_Mo_undo_c 1 = .ok (.istore 5, 2) := by decide +kernel
theorem d_Mo_undo_3 : decode b_Mo_undo_c 3 = .ok (.iload 5, 2) := by decide +kernel
theorem d_Mo_undo_5 : decode b_Mo_undo_c 5 = .ok (.iload_n 1, 1) := by decide +kernel
theorem d_Mo_undo_6 : decode b_Mo_undo_c 6 = .ok (.if_icmp .ge 24, 3) := by decide +kernel
theorem d_Mo_undo_9 : decode b_Mo_undo_c 9 = .ok (.aload_n 0, 1) := by decide +kernel
theorem d_Mo_undo_10 : decode b_Mo_undo_c 10 = .ok (.getfield 22, 3) := by decide +kernel
theorem d_Mo_undo_13 : decode b_Mo_undo_c 13 = .ok (.iload_n 2, 1) := by decide +kernel
theorem d_Mo_undo_14 : decode b_Mo_undo_c 14 = .ok (.iload_n 3, 1) := by decide +kernel
theorem d_Mo_undo_15 : decode b_Mo_undo_c 15 = .ok (.iload 4, 2) := by decide +kernel
theorem d_Mo_undo_17 : decode b_Mo_undo_c 17 = .ok (.iload 5, 2) := by decide +kernel
theorem d_Mo_undo_19 : decode b_Mo_undo_c 19 = .ok (.invokestatic 86, 3) := by decide +kernel
theorem d_Mo_undo_22 : decode b_Mo_undo_c 22 = .ok (.iconst (-1), 1) := by decide +kernel
theorem d_Mo_undo_23 : decode b_Mo_undo_c 23 = .ok (.iastore, 1) := by decide +kernel
theorem d_Mo_undo_24 : decode b_Mo_undo_c 24 = .ok (.iinc 5 1, 3) := by decide +kernel
theorem d_Mo_undo_27 : decode b_Mo_undo_c 27 = .ok (.goto (-24), 3) := by decide +kernel
theorem d_Mo_undo_30 : decode b_Mo_undo_c 30 = .ok (.aload_n 0, 1) := by decide +kernel
theorem d_Mo_undo_31 : decode b_Mo_undo_c 31 = .ok (.dup, 1) := by decide +kernel
theorem d_Mo_undo_32 : decode b_Mo_undo_c 32 = .ok (.getfield 71, 3) := by decide +kernel
theorem d_Mo_undo_35 : decode b_Mo_undo_c 35 = .ok (.iconst 1, 1) := by decide +kernel
theorem d_Mo_undo_36 : decode b_Mo_undo_c 36 = .ok (.isub, 1) := by decide +kernel
theorem d_Mo_undo_37 : decode b_Mo_undo_c 37 = .ok (.putfield 71, 3) := by decide +kernel
theorem d_Mo_undo_40 : decode b_Mo_undo_c 40 = .ok (.return_, 1) := by decide +kernel
/-! GameRowsModel.undo(IIII)V -/
set_option maxHeartbeats 4000000 in
set_option maxRecDepth 100000 in
theorem t_Mo_undo_3 {X : gX} {r : gS} (C : gC X b_Mo_undo_c R_Mo 6 1 23) (hR : ∀ pc lv, decode b_Mo_undo_c pc = .ok (.return_, 1) → G X pc lv [] r) {k3 : Int32 × Int32 × Int32 × Int32 × Int32 × gS → Option gS}  (hk3 : ∀ x, k3 x = some r → G X 3 [(0, .ref (gA X 46)), (1, .int x.1), (2, .int x.2.1), (3, .int x.2.2.1), (4, .int x.2.2.2.1), (5, .int x.2.2.2.2.1)] [] x.2.2.2.2.2) (x1 : Int32) (x2 : Int32) (x3 : Int32) (x4 : Int32) (x5 : Int32) (σ : gS) (h : b_Mo_undo_3 k3 x1 x2 x3 x4 x5 σ = some r) : G X 3 [(0, .ref (gA X 46)), (1, .int x1), (2, .int x2), (3, .int x3), (4, .int x4), (5, .int x5)] [] σ := by
  unfold b_Mo_undo_3 at h
  refine r_iload C 5 d_Mo_undo_3 rfl ?_
  refine r_iload_n C 1 d_Mo_undo_5 rfl rfl ?_
  refine r_icmp_ge C (tgt := 30) d_Mo_undo_6 (by decide) (fun hc_1 => ?_) (fun hc_1 => ?_)
  · rw [if_pos hc_1] at h
    refine r_aload_n C 0 d_Mo_undo_30 rfl rfl ?_
    refine r_dup C d_Mo_undo_31 rfl ?_
    refine q_Mo_71 C d_Mo_undo_32 ?_
    refine r_iconst C (v := 1) d_Mo_undo_35 (by decide) ?_
    refine r_isub C d_Mo_undo_36 ?_
    obtain ⟨σ_2, eσ_2, h⟩ := bnd_some h
    refine p_Mo_71 C eσ_2 d_Mo_undo_37 ?_
    cases h
    exact hR _ _ d_Mo_undo_40
  · rw [if_neg hc_1] at h
    refine r_aload_n C 0 d_Mo_undo_9 rfl rfl ?_
    refine q_Mo_22 C d_Mo_undo_10 ?_
    refine r_iload_n C 2 d_Mo_undo_13 rfl rfl ?_
    refine r_iload_n C 3 d_Mo_undo_14 rfl rfl ?_
    refine r_iload C 4 d_Mo_undo_15 rfl ?_
    refine r_iload C 5 d_Mo_undo_17 rfl ?_
    obtain ⟨r_3, er_3, h⟩ := bind_some h
    refine r_callS C (As := [.int x2, .int x3, .int x4, .int x5]) (rest := [.ref (gA X 51)]) (st1 := [.int r_3, .ref (gA X 51)]) (c_Mo_third X.1.2.1 σ x2 x3 x4 x5 er_3) k_Mo_third m_437 rfl rfl rfl (Nat.le_of_ble_eq_true rfl) ⟨Nat.le_of_ble_eq_true rfl, Nat.le_of_ble_eq_true rfl⟩ d_Mo_undo_19 rfl ?_
    refine r_iconst C (v := (-1)) d_Mo_undo_22 (by decide) ?_
    obtain ⟨hi_4, h⟩ := ck_some h
    obtain ⟨σ_5, eσ_5, h⟩ := bnd_some h
    refine r_iast C hi_4 eσ_5 d_Mo_undo_23 ?_
    obtain ⟨x5_6, ex5_6, h⟩ := bnd_some h
    refine r_iinc C 5 (lv' := [(5, .int x5_6), (0, .ref (gA X 46)), (1, .int x1), (2, .int x2), (3, .int x3), (4, .int x4)]) d_Mo_undo_24 rfl (by rw [ex5_6]; rfl) (by decide) rfl ?_
    refine r_goto C (tgt := 3) d_Mo_undo_27 (by decide) ?_
    refine r_sub [1, 2, 3, 4, 5, 0] (lv' := [(0, .ref (gA X 46)), (1, .int x1), (2, .int x2), (3, .int x3), (4, .int x4), (5, .int x5_6)]) rfl ?_
    exact hk3 _ h
set_option maxHeartbeats 4000000 in
set_option maxRecDepth 100000 in
theorem u_Mo_undo_3 {X : gX} {r : gS} (C : gC X b_Mo_undo_c R_Mo 6 1 23) (hR : ∀ pc lv, decode b_Mo_undo_c pc = .ok (.return_, 1) → G X pc lv [] r)  (x : Int32 × Int32 × Int32 × Int32 × Int32 × gS) (h : l_Mo_undo_3 x = some r) : G X 3 [(0, .ref (gA X 46)), (1, .int x.1), (2, .int x.2.1), (3, .int x.2.2.1), (4, .int x.2.2.2.1), (5, .int x.2.2.2.2.1)] [] x.2.2.2.2.2 :=
  lpF_ind (P := fun x => G X 3 [(0, .ref (gA X 46)), (1, .int x.1), (2, .int x.2.1), (3, .int x.2.2.1), (4, .int x.2.2.2.1), (5, .int x.2.2.2.2.1)] [] x.2.2.2.2.2) (fun k hk x h => t_Mo_undo_3 C hR hk x.1 x.2.1 x.2.2.1 x.2.2.2.1 x.2.2.2.2.1 x.2.2.2.2.2 h) gF x h
set_option maxHeartbeats 4000000 in
set_option maxRecDepth 100000 in
theorem t_Mo_undo_0 {X : gX} {r : gS} (C : gC X b_Mo_undo_c R_Mo 6 1 23) (hR : ∀ pc lv, decode b_Mo_undo_c pc = .ok (.return_, 1) → G X pc lv [] r) (x1 : Int32) (x2 : Int32) (x3 : Int32) (x4 : Int32) (σ : gS) (h : b_Mo_undo_0 x1 x2 x3 x4 σ = some r) : G X 0 [(0, .ref (gA X 46)), (1, .int x1), (2, .int x2), (3, .int x3), (4, .int x4)] [] σ := by
  unfold b_Mo_undo_0 at h
  refine r_iconst C (v := 0) d_Mo_undo_0 (by decide) ?_
  refine r_istore C (lv' := [(5, .int 0), (0, .ref (gA X 46)), (1, .int x1), (2, .int x2), (3, .int x3), (4, .int x4)]) d_Mo_undo_1 (by decide) rfl rfl ?_
  refine r_sub [1, 2, 3, 4, 5, 0] (lv' := [(0, .ref (gA X 46)), (1, .int x1), (2, .int x2), (3, .int x3), (4, .int x4), (5, .int 0)]) rfl ?_
  exact u_Mo_undo_3 C hR  (x1, x2, x3, x4, 0, σ) h
set_option maxHeartbeats 4000000 in
set_option maxRecDepth 100000 in
theorem c_Mo_undo (l : Launch) (σ : gS) (x1 : Int32) (x2 : Int32) (x3 : Int32) (x4 : Int32) {r : gS} (h : f_Mo_undo σ x1 x2 x3 x4 = some r) : gMet l y_Mo_undo b_Mo_undo_c 6 (none) 1 23 (fun a => [.ref (a 46), .int x1, .int x2, .int x3, .int x4]) σ (none) r := by
  refine gMet_v (by decide +kernel) (fun a => Nat.le_of_ble_eq_true rfl) (fun X _ C hR => ?_)
  refine r_sub [0, 1, 2, 3, 4] (lv' := [(0, .ref (gA X 46)), (1, .int x1), (2, .int x2), (3, .int x3), (4, .int x4)]) rfl ?_
  exact t_Mo_undo_0 C hR x1 x2 x3 x4 σ h
