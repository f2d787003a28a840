theorem d_Ga_point_0 : decode b_Ga_point_c 0 = .ok (.aload_n 0, 1) := by decide +kernel
theorem d_Ga_point_1 : decode b_Ga_point_c 1 = .ok (.invokevirtual 81, 3) := by decide +kernel
theorem d_Ga_point_4 : decode b_Ga_point_c 4 = .ok (.ifCond .eq 6, 3) := by decide +kernel
theorem d_Ga_point_7 : decode b_Ga_point_c 7 = .ok (.ldc 85, 2) := by decide +kernel
theorem d_Ga_point_9 : decode b_Ga_point_c 9 = .ok (.ireturn, 1) := by decide +kernel
theorem d_Ga_point_10 : decode b_Ga_point_c 10 = .ok (.aload_n 0, 1) := by decide +kernel
theorem d_Ga_point_11 : decode b_Ga_point_c 11 = .ok (.getfield 30, 3) := by decide +kernel
theorem d_Ga_point_14 : decode b_Ga_point_c 14 = .ok (.iload_n 1, 1) := by decide +kernel
theorem d_Ga_point_15 : decode b_Ga_point_c 15 = .ok (.invokevirtual 107, 3) := by decide +kernel
theorem d_Ga_point_18 : decode b_Ga_point_c 18 = .ok (.aload_n 0, 1) := by decide +kernel
theorem d_Ga_point_19 : decode b_Ga_point_c 19 = .ok (.getfield 30, 3) := by decide +kernel
theorem d_Ga_point_22 : decode b_Ga_point_c 22 = .ok (.iload_n 1, 1) := by decide +kernel
theorem d_Ga_point_23 : decode b_Ga_point_c 23 = .ok (.iload_n 2, 1) := by decide +kernel
theorem d_Ga_point_24 : decode b_Ga_point_c 24 = .ok (.invokevirtual 165, 3) := by decide +kernel
theorem d_Ga_point_27 : decode b_Ga_point_c 27 = .ok (.ireturn, 1) := by decide +kernel
/-! GameRows.point(ZI)I -/
set_option maxHeartbeats 4000000 in
set_option maxRecDepth 100000 in
theorem t_Ga_point_0 {X : gX} {r : (Int32 × gS)} (C : gC X b_Ga_point_c R_Ga 3 6 147) (hR : ∀ pc lv, decode b_Ga_point_c pc = .ok (.ireturn, 1) → G X pc lv [.int r.1] r.2) (x1 : Int32) (x2 : Int32) (σ : gS) (h : b_Ga_point_0 x1 x2 σ = some r) : G X 0 [(0, .ref (gA X 0)), (1, .int x1), (2, .int x2)] [] σ := by
  unfold b_Ga_point_0 at h
  refine r_aload_n C 0 d_Ga_point_0 rfl rfl ?_
  obtain ⟨r_1, er_1, h⟩ := bind_some h
  refine r_callV C (As := []) (rest := []) (st1 := [.int r_1]) (c_Ga_isEmpty X.1.2.1 σ  er_1) k_Ga_isEmpty m_283 (by decide) cel_Ga rfl rfl rfl rfl (Nat.le_of_ble_eq_true rfl) ⟨Nat.le_of_ble_eq_true rfl, Nat.le_of_ble_eq_true rfl⟩ d_Ga_point_1 rfl ?_
  refine r_if_eq C (tgt := 10) d_Ga_point_4 (by decide) (fun hc_2 => ?_) (fun hc_2 => ?_)
  · rw [if_pos hc_2] at h
    refine r_aload_n C 0 d_Ga_point_10 rfl rfl ?_
    refine q_Ga_30 C d_Ga_point_11 ?_
    refine r_iload_n C 1 d_Ga_point_14 rfl rfl ?_
    obtain ⟨r_3, er_3, h⟩ := bind_some h
    refine r_callV C (As := [.int x1]) (rest := []) (st1 := []) (c_Po_find X.1.2.1 σ x1 er_3) k_Po_find m_260 (by decide) cel_Po rfl rfl rfl rfl (Nat.le_of_ble_eq_true rfl) ⟨Nat.le_of_ble_eq_true rfl, Nat.le_of_ble_eq_true rfl⟩ d_Ga_point_15 rfl ?_
    refine r_aload_n C 0 d_Ga_point_18 rfl rfl ?_
    refine q_Ga_30 C d_Ga_point_19 ?_
    refine r_iload_n C 1 d_Ga_point_22 rfl rfl ?_
    refine r_iload_n C 2 d_Ga_point_23 rfl rfl ?_
    obtain ⟨r_4, er_4, h⟩ := bind_some h
    refine r_callV C (As := [.int x1, .int x2]) (rest := []) (st1 := [.int r_4]) (c_Po_pointAt X.1.2.1 r_3 x1 x2 er_4) k_Po_pointAt m_311 (by decide) cel_Po rfl rfl rfl rfl (Nat.le_of_ble_eq_true rfl) ⟨Nat.le_of_ble_eq_true rfl, Nat.le_of_ble_eq_true rfl⟩ d_Ga_point_24 rfl ?_
    cases h
    exact hR _ _ d_Ga_point_27
  · rw [if_neg hc_2] at h
    refine r_ldc C (v := (-1000000)) m_287 d_Ga_point_7 ?_
    cases h
    exact hR _ _ d_Ga_point_9
set_option maxHeartbeats 4000000 in
set_option maxRecDepth 100000 in
theorem c_Ga_point (l : Launch) (σ : gS) (x1 : Int32) (x2 : Int32) {r : (Int32 × gS)} (h : f_Ga_point σ x1 x2 = some r) : gMet l y_Ga_point b_Ga_point_c 3 (some .int) 6 147 (fun a => [.ref (a 0), .int x1, .int x2]) σ (some (.int r.1)) r.2 := by
  refine gMet_i (by decide +kernel) (fun a => Nat.le_of_ble_eq_true rfl) (fun X _ C hR => ?_)
  refine r_sub [0, 1, 2] (lv' := [(0, .ref (gA X 0)), (1, .int x1), (2, .int x2)]) rfl ?_
  exact t_Ga_point_0 C hR x1 x2 σ h
theorem d_Ga_within_0 : decode b_Ga_within_c 0 = .ok (.aload_n 0, 1) := by decide +kernel
theorem d_Ga_within_1 : decode b_Ga_within_c 1 = .ok (.invokevirtual 81, 3) := by decide +kernel
theorem d_Ga_within_4 : decode b_Ga_within_c 4 = .ok (.ifCond .eq 6, 3) := by decide +kernel
theorem d_Ga_within_7 : decode b_Ga_within_c 7 = .ok (.ldc 85, 2) := by decide +kernel
theorem d_Ga_within_9 : decode b_Ga_within_c 9 = .ok (.ireturn, 1) := by decide +kernel
theorem d_Ga_within_10 : decode b_Ga_within_c 10 = .ok (.aload_n 0, 1) := by decide +kernel
theorem d_Ga_within_11 : decode b_Ga_within_c 11 = .ok (.getfield 10, 3) := by decide +kernel
theorem d_Ga_within_14 : decode b_Ga_within_c 14 = .ok (.invokevirtual 115, 3) := by decide +kernel
theorem d_Ga_within_17 : decode b_Ga_within_c 17 = .ok (.iload_n 1, 1) := by decide +kernel
theorem d_Ga_within_18 : decode b_Ga_within_c 18 = .ok (.invokestatic 169, 3) := by decide +kernel
theorem d_Ga_within_21 : decode b_Ga_within_c 21 = .ok (.ireturn, 1) := by decide +kernel
/-! GameRows.within(I)I -/
set_option maxHeartbeats 4000000 in
set_option maxRecDepth 100000 in
theorem t_Ga_within_0 {X : gX} {r : Int32} {σ : gS} (C : gC X b_Ga_within_c R_Ga 2 4 87) (hR : ∀ pc lv, decode b_Ga_within_c pc = .ok (.ireturn, 1) → G X pc lv [.int r] σ) (x1 : Int32) (h : b_Ga_within_0 σ x1 = some r) : G X 0 [(0, .ref (gA X 0)), (1, .int x1)] [] σ := by
  unfold b_Ga_within_0 at h
  refine r_aload_n C 0 d_Ga_within_0 rfl rfl ?_
  obtain ⟨r_1, er_1, h⟩ := bind_some h
  refine r_callV C (As := []) (rest := []) (st1 := [.int r_1]) (c_Ga_isEmpty X.1.2.1 σ  er_1) k_Ga_isEmpty m_283 (by decide) cel_Ga rfl rfl rfl rfl (Nat.le_of_ble_eq_true rfl) ⟨Nat.le_of_ble_eq_true rfl, Nat.le_of_ble_eq_true rfl⟩ d_Ga_within_1 rfl ?_
  refine r_if_eq C (tgt := 10) d_Ga_within_4 (by decide) (fun hc_2 => ?_) (fun hc_2 => ?_)
  · rw [if_pos hc_2] at h
    refine r_aload_n C 0 d_Ga_within_10 rfl rfl ?_
    refine q_Ga_10 C d_Ga_within_11 ?_
    obtain ⟨r_3, er_3, h⟩ := bind_some h
    refine r_callV C (As := []) (rest := []) (st1 := [.long r_3]) (c_Fo_gamesWithin X.1.2.1 σ  er_3) k_Fo_gamesWithin m_268 (by decide) cel_Fo rfl rfl rfl rfl (Nat.le_of_ble_eq_true rfl) ⟨Nat.le_of_ble_eq_true rfl, Nat.le_of_ble_eq_true rfl⟩ d_Ga_within_14 rfl ?_
    refine r_iload_n C 1 d_Ga_within_17 rfl rfl ?_
    obtain ⟨r_4, er_4, h⟩ := bind_some h
    refine r_callS C (As := [.long r_3, .int x1]) (rest := []) (st1 := [.int r_4]) (c_Ga_bitAt X.1.2.1 σ r_3 x1 er_4) k_Ga_bitAt m_315 rfl rfl rfl (Nat.le_of_ble_eq_true rfl) ⟨Nat.le_of_ble_eq_true rfl, Nat.le_of_ble_eq_true rfl⟩ d_Ga_within_18 rfl ?_
    cases h
    exact hR _ _ d_Ga_within_21
  · rw [if_neg hc_2] at h
    refine r_ldc C (v := (-1000000)) m_287 d_Ga_within_7 ?_
    cases h
    exact hR _ _ d_Ga_within_9
set_option maxHeartbeats 4000000 in
set_option maxRecDepth 100000 in
theorem c_Ga_within (l : Launch) (σ : gS) (x1 : Int32) {r : Int32} (h : f_Ga_within σ x1 = some r) : gMet l y_Ga_within b_Ga_within_c 2 (some .int) 4 87 (fun a => [.ref (a 0), .int x1]) σ (some (.int r)) σ := by
  refine gMet_i (by decide +kernel) (fun a => Nat.le_of_ble_eq_true rfl) (fun X _ C hR => ?_)
  refine r_sub [0, 1] (lv' := [(0, .ref (gA X 0)), (1, .int x1)]) rfl ?_
  exact t_Ga_within_0 C hR x1 h
theorem d_Ta_areOne_0 : decode b_Ta_areOne_c 0 = .ok (.iconst 0, 1) := by decide +kernel
theorem d_Ta_areOne_1 : decode b_Ta_areOne_c 1 = .ok (.istore 4, 2) := by decide +kernel
theorem d_Ta_areOne_3 : decode b_Ta_areOne_c 3 = .ok (.iload 4, 2) := by decide +kernel
theorem d_Ta_areOne_5 : decode b_Ta_areOne_c 5 = .ok (.aload_n 0, 1) := by decide +kernel
theorem d_Ta_areOne_6 : decode b_Ta_areOne_c 6 = .ok (.getfield 9, 3) := by decide +kernel
theorem d_Ta_areOne_9 : decode b_Ta_areOne_c 9 = .ok (.iload_n 1, 1) := by decide +kernel
theorem d_Ta_areOne_10 : decode b_Ta_areOne_c 10 = .ok (.invokestatic 98, 3) := by decide +kernel
theorem d_Ta_areOne_13 : decode b_Ta_areOne_c 13 = .ok (.iaload, 1) := by decide +kernel
theorem d_Ta_areOne_14 : decode b_Ta_areOne_c 14 = .ok (.if_icmp .ge 99, 3) := by decide +kernel
theorem d_Ta_areOne_17 : decode b_Ta_areOne_c 17 = .ok (.iload_n 1, 1) := by decide +kernel
theorem d_Ta_areOne_18 : decode b_Ta_areOne_c 18 = .ok (.ifCond .ne 13, 3) := by decide +kernel
theorem d_Ta_areOne_21 : decode b_Ta_areOne_c 21 = .ok (.bipush 64, 2) := by decide +kernel
theorem d_Ta_areOne_23 : decode b_Ta_areOne_c 23 = .ok (.iload_n 2, 1) := by decide +kernel
theorem d_Ta_areOne_24 : decode b_Ta_areOne_c 24 = .ok (.imul, 1) := by decide +kernel
theorem d_Ta_areOne_25 : decode b_Ta_areOne_c 25 = .ok (.iload 4, 2) := by decide +kernel
theorem d_Ta_areOne_27 : decode b_Ta_areOne_c 27 = .ok (.iadd, 1) := by decide +kernel
theorem d_Ta_areOne_28 : decode b_Ta_areOne_c 28 = .ok (.goto 10, 3) := by decide +kernel
theorem d_Ta_areOne_31 : decode b_Ta_areOne_c 31 = .ok (.bipush 64, 2) := by decide +kernel
theorem d_Ta_areOne_33 : decode b_Ta_areOne_c 33 = .ok (.iload 4, 2) := by decide +kernel
theorem d_Ta_areOne_35 : decode b_Ta_areOne_c 35 = .ok (.imul, 1) := by decide +kernel
theorem d_Ta_areOne_36 : decode b_Ta_areOne_c 36 = .ok (.iload_n 2, 1) := by decide +kernel
theorem d_Ta_areOne_37 : decode b_Ta_areOne_c 37 = .ok (.iadd, 1) := by decide +kernel
theorem d_Ta_areOne_38 : decode b_Ta_areOne_c 38 = .ok (.istore 5, 2) := by decide +kernel
theorem d_Ta_areOne_40 : decode b_Ta_areOne_c 40 = .ok (.iload_n 1, 1) := by decide +kernel
theorem d_Ta_areOne_41 : decode b_Ta_areOne_c 41 = .ok (.ifCond .ne 13, 3) := by decide +kernel
theorem d_Ta_areOne_44 : decode b_Ta_areOne_c 44 = .ok (.bipush 64, 2) := by decide +kernel
theorem d_Ta_areOne_46 : decode b_Ta_areOne_c 46 = .ok (.iload_n 3, 1) := by decide +kernel
theorem d_Ta_areOne_47 : decode b_Ta_areOne_c 47 = .ok (.imul, 1) := by decide +kernel
theorem d_Ta_areOne_48 : decode b_Ta_areOne_c 48 = .ok (.iload 4, 2) := by decide +kernel
theorem d_Ta_areOne_50 : decode b_Ta_areOne_c 50 = .ok (.iadd, 1) := by decide +kernel
theorem d_Ta_areOne_51 : decode b_Ta_areOne_c 51 = .ok (.goto 10, 3) := by decide +kernel
theorem d_Ta_areOne_54 : decode b_Ta_areOne_c 54 = .ok (.bipush 64, 2) := by decide +kernel
theorem d_Ta_areOne_56 : decode b_Ta_areOne_c 56 = .ok (.iload 4, 2) := by decide +kernel
theorem d_Ta_areOne_58 : decode b_Ta_areOne_c 58 = .ok (.imul, 1) := by decide +kernel
theorem d_Ta_areOne_59 : decode b_Ta_areOne_c 59 = .ok (.iload_n 3, 1) := by decide +kernel
theorem d_Ta_areOne_60 : decode b_Ta_areOne_c 60 = .ok (.iadd, 1) := by decide +kernel
theorem d_Ta_areOne_61 : decode b_Ta_areOne_c 61 = .ok (.istore 6, 2) := by decide +kernel
theorem d_Ta_areOne_63 : decode b_Ta_areOne_c 63 = .ok (.aload_n 0, 1) := by decide +kernel
theorem d_Ta_areOne_64 : decode b_Ta_areOne_c 64 = .ok (.getfield 17, 3) := by decide +kernel
theorem d_Ta_areOne_67 : decode b_Ta_areOne_c 67 = .ok (.iconst 0, 1) := by decide +kernel
theorem d_Ta_areOne_68 : decode b_Ta_areOne_c 68 = .ok (.aaload, 1) := by decide +kernel
theorem d_Ta_areOne_69 : decode b_Ta_areOne_c 69 = .ok (.iload 5, 2) := by decide +kernel
theorem d_Ta_areOne_71 : decode b_Ta_areOne_c 71 = .ok (.iaload, 1) := by decide +kernel
theorem d_Ta_areOne_72 : decode b_Ta_areOne_c 72 = .ok (.aload_n 0, 1) := by decide +kernel
theorem d_Ta_areOne_73 : decode b_Ta_areOne_c 73 = .ok (.getfield 17, 3) := by decide +kernel
theorem d_Ta_areOne_76 : decode b_Ta_areOne_c 76 = .ok (.iconst 0, 1) := by decide +kernel
theorem d_Ta_areOne_77 : decode b_Ta_areOne_c 77 = .ok (.aaload, 1) := by decide +kernel
theorem d_Ta_areOne_78 : decode b_Ta_areOne_c 78 = .ok (.iload 6, 2) := by decide +kernel
theorem d_Ta_areOne_80 : decode b_Ta_areOne_c 80 = .ok (.iaload, 1) := by decide +kernel
theorem d_Ta_areOne_81 : decode b_Ta_areOne_c 81 = .ok (.if_icmp .ne 24, 3) := by decide +kernel
theorem d_Ta_areOne_84 : decode b_Ta_areOne_c 84 = .ok (.aload_n 0, 1) := by decide +kernel
theorem d_Ta_areOne_85 : decode b_Ta_areOne_c 85 = .ok (.getfield 17, 3) := by decide +kernel
theorem d_Ta_areOne_88 : decode b_Ta_areOne_c 88 = .ok (.iconst 1, 1) := by decide +kernel
theorem d_Ta_areOne_89 : decode b_Ta_areOne_c 89 = .ok (.aaload, 1) := by decide +kernel
theorem d_Ta_areOne_90 : decode b_Ta_areOne_c 90 = .ok (.iload 5, 2) := by decide +kernel
theorem d_Ta_areOne_92 : decode b_Ta_areOne_c 92 = .ok (.iaload, 1) := by decide +kernel
theorem d_Ta_areOne_93 : decode b_Ta_areOne_c 93 = .ok (.aload_n 0, 1) := by decide +kernel
theorem d_Ta_areOne_94 : decode b_Ta_areOne_c 94 = .ok (.getfield 17, 3) := by decide +kernel
theorem d_Ta_areOne_97 : decode b_Ta_areOne_c 97 = .ok (.iconst 1, 1) := by decide +kernel
theorem d_Ta_areOne_98 : decode b_Ta_areOne_c 98 = .ok (.aaload, 1) := by decide +kernel
theorem d_Ta_areOne_99 : decode b_Ta_areOne_c 99 = .ok (.iload 6, 2) := by decide +kernel
theorem d_Ta_areOne_101 : decode b_Ta_areOne_c 101 = .ok (.iaload, 1) := by decide +kernel
theorem d_Ta_areOne_102 : decode b_Ta_areOne_c 102 = .ok (.if_icmp .eq 5, 3) := by decide +kernel
theorem d_Ta_areOne_105 : decode b_Ta_areOne_c 105 = .ok (.iconst 0, 1) := by decide +kernel
theorem d_Ta_areOne_106 : decode b_Ta_areOne_c 106 = .ok (.ireturn, 1) := by decide +kernel
theorem d_Ta_areOne_107 : decode b_Ta_areOne_c 107 = .ok (.iinc 4 1, 3) := by decide +kernel
theorem d_Ta_areOne_110 : decode b_Ta_areOne_c 110 = .ok (.goto (-107), 3) := by decide +kernel
theorem d_Ta_areOne_113 : decode b_Ta_areOne_c 113 = .ok (.iconst 1, 1) := by decide +kernel
theorem d_Ta_areOne_114 : decode b_Ta_areOne_c 114 = .ok (.ireturn, 1) := by decide +kernel
/-! GameRows$Table.areOne(III)Z -/
set_option maxHeartbeats 4000000 in
set_option maxRecDepth 100000 in
theorem t_Ta_areOne_61 {X : gX} {r : Int32} {σ : gS} (C : gC X b_Ta_areOne_c R_Ta 7 1 20) (hR : ∀ pc lv, isB r = true → decode b_Ta_areOne_c pc = .ok (.ireturn, 1) → G X pc lv [.int r] σ) {k3 : Int32 × Int32 × Int32 × Int32 → Option Int32}  (hk3 : ∀ x, k3 x = some r → G X 3 [(0, .ref (gA X 16)), (1, .int x.1), (2, .int x.2.1), (3, .int x.2.2.1), (4, .int x.2.2.2)] [] σ) (x1 : Int32) (x2 : Int32) (x3 : Int32) (x4 : Int32) (x5 : Int32) (y0 : Int32) (h : b_Ta_areOne_61 σ k3 x1 x2 x3 x4 x5 y0 = some r) : G X 61 [(0, .ref (gA X 16)), (1, .int x1), (2, .int x2), (3, .int x3), (4, .int x4), (5, .int x5)] [.int y0] σ := by
  unfold b_Ta_areOne_61 at h
  refine r_istore C (lv' := [(6, .int y0), (0, .ref (gA X 16)), (1, .int x1), (2, .int x2), (3, .int x3), (4, .int x4), (5, .int x5)]) d_Ta_areOne_61 (by decide) rfl rfl ?_
  refine r_aload_n C 1 d_Ta_areOne_63 rfl rfl ?_
  refine q_Ta_17 C d_Ta_areOne_64 ?_
  refine r_iconst C (v := 0) d_Ta_areOne_67 (by decide) ?_
  obtain ⟨hi_1, h⟩ := ck_some h
  refine o_18 C (k' := 19) hi_1 rfl d_Ta_areOne_68 ?_
  refine r_iload C 6 d_Ta_areOne_69 rfl ?_
  obtain ⟨hi_2, h⟩ := ck_some h
  refine r_iald C hi_2 d_Ta_areOne_71 ?_
  refine r_aload_n C 1 d_Ta_areOne_72 rfl rfl ?_
  refine q_Ta_17 C d_Ta_areOne_73 ?_
  refine r_iconst C (v := 0) d_Ta_areOne_76 (by decide) ?_
  obtain ⟨hi_3, h⟩ := ck_some h
  refine o_18 C (k' := 19) hi_3 rfl d_Ta_areOne_77 ?_
  refine r_iload C 0 d_Ta_areOne_78 rfl ?_
  obtain ⟨hi_4, h⟩ := ck_some h
  refine r_iald C hi_4 d_Ta_areOne_80 ?_
  refine r_icmp_ne C (tgt := 105) d_Ta_areOne_81 (by decide) (fun hc_5 => ?_) (fun hc_5 => ?_)
  · rw [if_neg hc_5] at h
    refine r_iconst C (v := 0) d_Ta_areOne_105 (by decide) ?_
    obtain ⟨hB, h⟩ := ck_some h
    cases h
    exact hR _ _ hB d_Ta_areOne_106
  · rw [if_pos hc_5] at h
    refine r_aload_n C 1 d_Ta_areOne_84 rfl rfl ?_
    refine q_Ta_17 C d_Ta_areOne_85 ?_
    refine r_iconst C (v := 1) d_Ta_areOne_88 (by decide) ?_
    obtain ⟨hi_6, h⟩ := ck_some h
    refine o_18 C (k' := 20) hi_6 rfl d_Ta_areOne_89 ?_
    refine r_iload C 6 d_Ta_areOne_90 rfl ?_
    obtain ⟨hi_7, h⟩ := ck_some h
    refine r_iald C hi_7 d_Ta_areOne_92 ?_
    refine r_aload_n C 1 d_Ta_areOne_93 rfl rfl ?_
    refine q_Ta_17 C d_Ta_areOne_94 ?_
    refine r_iconst C (v := 1) d_Ta_areOne_97 (by decide) ?_
    obtain ⟨hi_8, h⟩ := ck_some h
    refine o_18 C (k' := 20) hi_8 rfl d_Ta_areOne_98 ?_
    refine r_iload C 0 d_Ta_areOne_99 rfl ?_
    obtain ⟨hi_9, h⟩ := ck_some h
    refine r_iald C hi_9 d_Ta_areOne_101 ?_
    refine r_icmp_eq C (tgt := 107) d_Ta_areOne_102 (by decide) (fun hc_10 => ?_) (fun hc_10 => ?_)
    · rw [if_pos hc_10] at h
      obtain ⟨x4_11, ex4_11, h⟩ := bnd_some h
      refine r_iinc C 5 (lv' := [(4, .int x4_11), (6, .int y0), (0, .ref (gA X 16)), (1, .int x1), (2, .int x2), (3, .int x3), (5, .int x5)]) d_Ta_areOne_107 rfl (by rw [ex4_11]; rfl) (by decide) rfl ?_
      refine r_goto C (tgt := 3) d_Ta_areOne_110 (by decide) ?_
      refine r_sub [2, 3, 4, 5, 0] (lv' := [(0, .ref (gA X 16)), (1, .int x1), (2, .int x2), (3, .int x3), (4, .int x4_11)]) rfl ?_
      exact hk3 _ h
    · rw [if_neg hc_10] at h
      refine r_iconst C (v := 0) d_Ta_areOne_105 (by decide) ?_
      obtain ⟨hB, h⟩ := ck_some h
      cases h
      exact hR _ _ hB d_Ta_areOne_106
set_option maxHeartbeats 4000000 in
set_option maxRecDepth 100000 in
theorem t_Ta_areOne_38 {X : gX} {r : Int32} {σ : gS} (C : gC X b_Ta_areOne_c R_Ta 7 1 20) (hR : ∀ pc lv, isB r = true → decode b_Ta_areOne_c pc = .ok (.ireturn, 1) → G X pc lv [.int r] σ) {k3 : Int32 × Int32 × Int32 × Int32 → Option Int32}  (hk3 : ∀ x, k3 x = some r → G X 3 [(0, .ref (gA X 16)), (1, .int x.1), (2, .int x.2.1), (3, .int x.2.2.1), (4, .int x.2.2.2)] [] σ) (x1 : Int32) (x2 : Int32) (x3 : Int32) (x4 : Int32) (y0 : Int32) (h : b_Ta_areOne_38 σ k3 x1 x2 x3 x4 y0 = some r) : G X 38 [(0, .ref (gA X 16)), (1, .int x1), (2, .int x2), (3, .int x3), (4, .int x4)] [.int y0] σ := by
  unfold b_Ta_areOne_38 at h
  refine r_istore C (lv' := [(5, .int y0), (0, .ref (gA X 16)), (1, .int x1), (2, .int x2), (3, .int x3), (4, .int x4)]) d_Ta_areOne_38 (by decide) rfl rfl ?_
  refine r_iload_n C 2 d_Ta_areOne_40 rfl rfl ?_
  refine r_if_ne C (tgt := 54) d_Ta_areOne_41 (by decide) (fun hc_1 => ?_) (fun hc_1 => ?_)
  · rw [if_neg hc_1] at h
    refine r_bipush C (v := 64) d_Ta_areOne_54 (by decide) ?_
    refine r_iload C 5 d_Ta_areOne_56 rfl ?_
    refine r_imul C d_Ta_areOne_58 ?_
    refine r_iload_n C 4 d_Ta_areOne_59 rfl rfl ?_
    refine r_iadd C d_Ta_areOne_60 ?_
    refine r_sub [1, 2, 3, 4, 5, 0] (lv' := [(0, .ref (gA X 16)), (1, .int x1), (2, .int x2), (3, .int x3), (4, .int x4), (5, .int y0)]) rfl ?_
    exact t_Ta_areOne_61 C hR hk3 x1 x2 x3 x4 y0 ((64 * x4) + x3) h
  · rw [if_pos hc_1] at h
    refine r_bipush C (v := 64) d_Ta_areOne_44 (by decide) ?_
    refine r_iload_n C 4 d_Ta_areOne_46 rfl rfl ?_
    refine r_imul C d_Ta_areOne_47 ?_
    refine r_iload C 5 d_Ta_areOne_48 rfl ?_
    refine r_iadd C d_Ta_areOne_50 ?_
    refine r_goto C (tgt := 61) d_Ta_areOne_51 (by decide) ?_
    refine r_sub [1, 2, 3, 4, 5, 0] (lv' := [(0, .ref (gA X 16)), (1, .int x1), (2, .int x2), (3, .int x3), (4, .int x4), (5, .int y0)]) rfl ?_
    exact t_Ta_areOne_61 C hR hk3 x1 x2 x3 x4 y0 ((64 * x3) + x4) h
set_option maxHeartbeats 4000000 in
set_option maxRecDepth 100000 in
theorem t_Ta_areOne_3 {X : gX} {r : Int32} {σ : gS} (C : gC X b_Ta_areOne_c R_Ta 7 1 20) (hR : ∀ pc lv, isB r = true → decode b_Ta_areOne_c pc = .ok (.ireturn, 1) → G X pc lv [.int r] σ) {k3 : Int32 × Int32 × Int32 × Int32 → Option Int32}  (hk3 : ∀ x, k3 x = some r → G X 3 [(0, .ref (gA X 16)), (1, .int x.1), (2, .int x.2.1), (3, .int x.2.2.1), (4, .int x.2.2.2)] [] σ) (x1 : Int32) (x2 : Int32) (x3 : Int32) (x4 : Int32) (h : b_Ta_areOne_3 σ k3 x1 x2 x3 x4 = some r) : G X 3 [(0, .ref (gA X 16)), (1, .int x1), (2, .int x2), (3, .int x3), (4, .int x4)] [] σ := by
  unfold b_Ta_areOne_3 at h
  refine r_iload C 4 d_Ta_areOne_3 rfl ?_
  refine r_aload_n C 0 d_Ta_areOne_5 rfl rfl ?_
  refine q_Ta_9 C d_Ta_areOne_6 ?_
  refine r_iload_n C 1 d_Ta_areOne_9 rfl rfl ?_
  obtain ⟨r_1, er_1, h⟩ := bind_some h
  refine r_callSN C (As := [.int x1]) (rest := [.ref (gA X 17), .int x4]) (st1 := [.int r_1, .ref (gA X 17), .int x4]) (c_Ga_otherThan X.1.2.1 σ x1 er_1) k_Ga_otherThan n_Ta_98 rfl rfl rfl (Nat.le_of_ble_eq_true rfl) ⟨Nat.le_of_ble_eq_true rfl, Nat.le_of_ble_eq_true rfl⟩ d_Ta_areOne_10 rfl ?_
  obtain ⟨hi_2, h⟩ := ck_some h
  refine r_iald C hi_2 d_Ta_areOne_13 ?_
  refine r_icmp_ge C (tgt := 113) d_Ta_areOne_14 (by decide) (fun hc_3 => ?_) (fun hc_3 => ?_)
  · rw [if_pos hc_3] at h
    refine r_iconst C (v := 1) d_Ta_areOne_113 (by decide) ?_
    obtain ⟨hB, h⟩ := ck_some h
    cases h
    exact hR _ _ hB d_Ta_areOne_114
  · rw [if_neg hc_3] at h
    refine r_iload_n C 1 d_Ta_areOne_17 rfl rfl ?_
    refine r_if_ne C (tgt := 31) d_Ta_areOne_18 (by decide) (fun hc_4 => ?_) (fun hc_4 => ?_)
    · rw [if_neg hc_4] at h
      refine r_bipush C (v := 64) d_Ta_areOne_31 (by decide) ?_
      refine r_iload C 4 d_Ta_areOne_33 rfl ?_
      refine r_imul C d_Ta_areOne_35 ?_
      refine r_iload_n C 2 d_Ta_areOne_36 rfl rfl ?_
      refine r_iadd C d_Ta_areOne_37 ?_
      exact t_Ta_areOne_38 C hR hk3 x1 x2 x3 x4 ((64 * x4) + x2) h
    · rw [if_pos hc_4] at h
      refine r_bipush C (v := 64) d_Ta_areOne_21 (by decide) ?_
      refine r_iload_n C 2 d_Ta_areOne_23 rfl rfl ?_
      refine r_imul C d_Ta_areOne_24 ?_
      refine r_iload C 4 d_Ta_areOne_25 rfl ?_
      refine r_iadd C d_Ta_areOne_27 ?_
      refine r_goto C (tgt := 38) d_Ta_areOne_28 (by decide) ?_
      exact t_Ta_areOne_38 C hR hk3 x1 x2 x3 x4 ((64 * x2) + x4) h
set_option maxHeartbeats 4000000 in
set_option maxRecDepth 100000 in
theorem u_Ta_areOne_3 {X : gX} {r : Int32} {σ : gS} (C : gC X b_Ta_areOne_c R_Ta 7 1 20) (hR : ∀ pc lv, isB r = true → decode b_Ta_areOne_c pc = .ok (.ireturn, 1) → G X pc lv [.int r] σ)  (x : Int32 × Int32 × Int32 × Int32) (h : l_Ta_areOne_3 σ x = some r) : G X 3 [(0, .ref (gA X 16)), (1, .int x.1), (2, .int x.2.1), (3, .int x.2.2.1), (4, .int x.2.2.2)] [] σ :=
  lpF_ind (P := fun x => G X 3 [(0, .ref (gA X 16)), (1, .int x.1), (2, .int x.2.1), (3, .int x.2.2.1), (4, .int x.2.2.2)] [] σ) (fun k hk x h => t_Ta_areOne_3 C hR hk x.1 x.2.1 x.2.2.1 x.2.2.2 h) gF x h
set_option maxHeartbeats 4000000 in
set_option maxRecDepth 100000 in
theorem t_Ta_areOne_0 {X : gX} {r : Int32} {σ : gS} (C : gC X b_Ta_areOne_c R_Ta 7 1 20) (hR : ∀ pc lv, isB r = true → decode b_Ta_areOne_c pc = .ok (.ireturn, 1) → G X pc lv [.int r] σ) (x1 : Int32) (x2 : Int32) (x3 : Int32) (h : b_Ta_areOne_0 σ x1 x2 x3 = some r) : G X 0 [(0, .ref (gA X 16)), (1, .int x1), (2, .int x2), (3, .int x3)] [] σ := by
  unfold b_Ta_areOne_0 at h
  refine r_iconst C (v := 0) d_Ta_areOne_0 (by decide) ?_
  refine r_istore C (lv' := [(4, .int 0), (0, .ref (gA X 16)), (1, .int x1), (2, .int x2), (3, .int x3)]) d_Ta_areOne_1 (by decide) rfl rfl ?_
  refine r_sub [1, 2, 3, 4, 0] (lv' := [(0, .ref (gA X 16)), (1, .int x1), (2, .int x2), (3, .int x3), (4, .int 0)]) rfl ?_
  exact u_Ta_areOne_3 C hR  (x1, x2, x3, 0) h
set_option maxHeartbeats 4000000 in
set_option maxRecDepth 100000 in
theorem c_Ta_areOne (l : Launch) (σ : gS) (x1 : Int32) (x2 : Int32) (x3 : Int32) {r : Int32} (h : f_Ta_areOne σ x1 x2 x3 = some r) : gMet l y_Ta_areOne b_Ta_areOne_c 7 (some .boolean) 1 20 (fun a => [.ref (a 16), .int x1, .int x2, .int x3]) σ (some (.int r)) σ := by
  refine gMet_z (by decide +kernel) (fun a => Nat.le_of_ble_eq_true rfl) (fun X _ C hR => ?_)
  refine r_sub [0, 1, 2, 3] (lv' := [(0, .ref (gA X 16)), (1, .int x1), (2, .int x2), (3, .int x3)]) rfl ?_
  exact t_Ta_areOne_0 C hR x1 x2 x3 h
theorem d_Ta_leastOneWith_0 : decode b_Ta_leastOneWith_c 0 = .ok (.iconst 0, 1) := by decide +kernel
theorem d_Ta_leastOneWith_1 : decode b_Ta_leastOneWith_c 1 = .ok (.istore_n 3, 1) := by decide +kernel
theorem d_Ta_leastOneWith_2 : decode b_Ta_leastOneWith_c 2 = .ok (.iload_n 3, 1) := by decide +kernel
theorem d_Ta_leastOneWith_3 : decode b_Ta_leastOneWith_c 3 = .ok (.iload_n 2, 1) := by decide +kernel
theorem d_Ta_leastOneWith_4 : decode b_Ta_leastOneWith_c 4 = .ok (.if_icmp .ge 21, 3) := by decide +kernel
theorem d_Ta_leastOneWith_7 : decode b_Ta_leastOneWith_c 7 = .ok (.aload_n 0, 1) := by decide +kernel
theorem d_Ta_leastOneWith_8 : decode b_Ta_leastOneWith_c 8 = .ok (.iload_n 1, 1) := by decide +kernel
theorem d_Ta_leastOneWith_9 : decode b_Ta_leastOneWith_c 9 = .ok (.iload_n 2, 1) := by decide +kernel
theorem d_Ta_leastOneWith_10 : decode b_Ta_leastOneWith_c 10 = .ok (.iload_n 3, 1) := by decide +kernel
theorem d_Ta_leastOneWith_11 : decode b_Ta_leastOneWith_c 11 = .ok (.invokevirtual 125, 3) := by decide +kernel
theorem d_Ta_leastOneWith_14 : decode b_Ta_leastOneWith_c 14 = .ok (.ifCond .eq 5, 3) := by decide +kernel
theorem d_Ta_leastOneWith_17 : decode b_Ta_leastOneWith_c 17 = .ok (.iload_n 3, 1) := by decide +kernel
theorem d_Ta_leastOneWith_18 : decode b_Ta_leastOneWith_c 18 = .ok (.ireturn, 1) := by decide +kernel
theorem d_Ta_leastOneWith_19 : decode b_Ta_leastOneWith_c 19 = .ok (.iinc 3 1, 3) := by decide +kernel
theorem d_Ta_leastOneWith_22 : decode b_Ta_leastOneWith_c 22 = .ok (.goto (-20), 3) := by decide +kernel
theorem d_Ta_leastOneWith_25 : decode b_Ta_leastOneWith_c 25 = .ok (.iload_n 2, 1) := by decide +kernel
theorem d_Ta_leastOneWith_26 : decode b_Ta_leastOneWith_c 26 = .ok (.ireturn, 1) := by decide +kernel
/-! GameRows$Table.leastOneWith(II)I -/
set_option maxHeartbeats 4000000 in
set_option maxRecDepth 100000 in
theorem t_Ta_leastOneWith_2 {X : gX} {r : Int32} {σ : gS} (C : gC X b_Ta_leastOneWith_c R_Ta 4 2 46) (hR : ∀ pc lv, decode b_Ta_leastOneWith_c pc = .ok (.ireturn, 1) → G X pc lv [.int r] σ) {k2 : Int32 × Int32 × Int32 → Option Int32}  (hk2 : ∀ x, k2 x = some r → G X 2 [(0, .ref (gA X 16)), (1, .int x.1), (2, .int x.2.1), (3, .int x.2.2)] [] σ) (x1 : Int32) (x2 : Int32) (x3 : Int32) (h : b_Ta_leastOneWith_2 σ k2 x1 x2 x3 = some r) : G X 2 [(0, .ref (gA X 16)), (1, .int x1), (2, .int x2), (3, .int x3)] [] σ := by
  unfold b_Ta_leastOneWith_2 at h
  refine r_iload_n C 3 d_Ta_leastOneWith_2 rfl rfl ?_
  refine r_iload_n C 2 d_Ta_leastOneWith_3 rfl rfl ?_
  refine r_icmp_ge C (tgt := 25) d_Ta_leastOneWith_4 (by decide) (fun hc_1 => ?_) (fun hc_1 => ?_)
  · rw [if_pos hc_1] at h
    refine r_iload_n C 2 d_Ta_leastOneWith_25 rfl rfl ?_
    cases h
    exact hR _ _ d_Ta_leastOneWith_26
  · rw [if_neg hc_1] at h
    refine r_aload_n C 0 d_Ta_leastOneWith_7 rfl rfl ?_
    refine r_iload_n C 1 d_Ta_leastOneWith_8 rfl rfl ?_
    refine r_iload_n C 2 d_Ta_leastOneWith_9 rfl rfl ?_
    refine r_iload_n C 3 d_Ta_leastOneWith_10 rfl rfl ?_
    obtain ⟨r_2, er_2, h⟩ := bind_some h
    refine r_callV C (As := [.int x1, .int x2, .int x3]) (rest := []) (st1 := [.int r_2]) (c_Ta_areOne X.1.2.1 σ x1 x2 x3 er_2) k_Ta_areOne m_316 (by decide) cel_Ta rfl rfl rfl rfl (Nat.le_of_ble_eq_true rfl) ⟨Nat.le_of_ble_eq_true rfl, Nat.le_of_ble_eq_true rfl⟩ d_Ta_leastOneWith_11 rfl ?_
    refine r_if_eq C (tgt := 19) d_Ta_leastOneWith_14 (by decide) (fun hc_3 => ?_) (fun hc_3 => ?_)
    · rw [if_pos hc_3] at h
      obtain ⟨x3_4, ex3_4, h⟩ := bnd_some h
      refine r_iinc C 3 (lv' := [(3, .int x3_4), (0, .ref (gA X 16)), (1, .int x1), (2, .int x2)]) d_Ta_leastOneWith_19 rfl (by rw [ex3_4]; rfl) (by decide) rfl ?_
      refine r_goto C (tgt := 2) d_Ta_leastOneWith_22 (by decide) ?_
      refine r_sub [1, 2, 3, 0] (lv' := [(0, .ref (gA X 16)), (1, .int x1), (2, .int x2), (3, .int x3_4)]) rfl ?_
      exact hk2 _ h
    · rw [if_neg hc_3] at h
      refine r_iload_n C 3 d_Ta_leastOneWith_17 rfl rfl ?_
      cases h
      exact hR _ _ d_Ta_leastOneWith_18
set_option maxHeartbeats 4000000 in
set_option maxRecDepth 100000 in
theorem u_Ta_leastOneWith_2 {X : gX} {r : Int32} {σ : gS} (C : gC X b_Ta_leastOneWith_c R_Ta 4 2 46) (hR : ∀ pc lv, decode b_Ta_leastOneWith_c pc = .ok (.ireturn, 1) → G X pc lv [.int r] σ)  (x : Int32 × Int32 × Int32) (h : l_Ta_leastOneWith_2 σ x = some r) : G X 2 [(0, .ref (gA X 16)), (1, .int x.1), (2, .int x.2.1), (3, .int x.2.2)] [] σ :=
  lpF_ind (P := fun x => G X 2 [(0, .ref (gA X 16)), (1, .int x.1), (2, .int x.2.1), (3, .int x.2.2)] [] σ) (fun k hk x h => t_Ta_leastOneWith_2 C hR hk x.1 x.2.1 x.2.2 h) gF x h
set_option maxHeartbeats 4000000 in
set_option maxRecDepth 100000 in
theorem t_Ta_leastOneWith_0 {X : gX} {r : Int32} {σ : gS} (C : gC X b_Ta_leastOneWith_c R_Ta 4 2 46) (hR : ∀ pc lv, decode b_Ta_leastOneWith_c pc = .ok (.ireturn, 1) → G X pc lv [.int r] σ) (x1 : Int32) (x2 : Int32) (h : b_Ta_leastOneWith_0 σ x1 x2 = some r) : G X 0 [(0, .ref (gA X 16)), (1, .int x1), (2, .int x2)] [] σ := by
  unfold b_Ta_leastOneWith_0 at h
  refine r_iconst C (v := 0) d_Ta_leastOneWith_0 (by decide) ?_
  refine r_istore_n C (lv' := [(3, .int 0), (0, .ref (gA X 16)), (1, .int x1), (2, .int x2)]) d_Ta_leastOneWith_1 rfl (by decide) rfl rfl ?_
  refine r_sub [1, 2, 3, 0] (lv' := [(0, .ref (gA X 16)), (1, .int x1), (2, .int x2), (3, .int 0)]) rfl ?_
  exact u_Ta_leastOneWith_2 C hR  (x1, x2, 0) h
set_option maxHeartbeats 4000000 in
set_option maxRecDepth 100000 in
theorem c_Ta_leastOneWith (l : Launch) (σ : gS) (x1 : Int32) (x2 : Int32) {r : Int32} (h : f_Ta_leastOneWith σ x1 x2 = some r) : gMet l y_Ta_leastOneWith b_Ta_leastOneWith_c 4 (some .int) 2 46 (fun a => [.ref (a 16), .int x1, .int x2]) σ (some (.int r)) σ := by
  refine gMet_i (by decide +kernel) (fun a => Nat.le_of_ble_eq_true rfl) (fun X _ C hR => ?_)
  refine r_sub [0, 1, 2] (lv' := [(0, .ref (gA X 16)), (1, .int x1), (2, .int x2)]) rfl ?_
  exact t_Ta_leastOneWith_0 C hR x1 x2 h
theorem d_Ta_leastBetter_0 : decode b_Ta_leastBetter_c 0 = .ok (.aload_n 0, 1) := by decide +kernel
theorem d_Ta_leastBetter_1 : decode b_Ta_leastBetter_c 1 = .ok (.iload_n 1, 1) := by decide +kernel
theorem d_Ta_leastBetter_2 : decode b_Ta_leastBetter_c 2 = .ok (.iload_n 2, 1) := by decide +kernel
theorem d_Ta_leastBetter_3 : decode b_Ta_leastBetter_c 3 = .ok (.aload_n 0, 1) := by decide +kernel
theorem d_Ta_leastBetter_4 : decode b_Ta_leastBetter_c 4 = .ok (.getfield 9, 3) := by decide +kernel
theorem d_Ta_leastBetter_7 : decode b_Ta_leastBetter_c 7 = .ok (.iload_n 1, 1) := by decide +kernel
theorem d_Ta_leastBetter_8 : decode b_Ta_leastBetter_c 8 = .ok (.iaload, 1) := by decide +kernel
theorem d_Ta_leastBetter_9 : decode b_Ta_leastBetter_c 9 = .ok (.invokestatic 105, 3) := by decide +kernel
theorem d_Ta_leastBetter_12 : decode b_Ta_leastBetter_c 12 = .ok (.aload_n 0, 1) := by decide +kernel
theorem d_Ta_leastBetter_13 : decode b_Ta_leastBetter_c 13 = .ok (.getfield 9, 3) := by decide +kernel
theorem d_Ta_leastBetter_16 : decode b_Ta_leastBetter_c 16 = .ok (.iload_n 1, 1) := by decide +kernel
theorem d_Ta_leastBetter_17 : decode b_Ta_leastBetter_c 17 = .ok (.invokestatic 98, 3) := by decide +kernel
theorem d_Ta_leastBetter_20 : decode b_Ta_leastBetter_c 20 = .ok (.iaload, 1) := by decide +kernel
theorem d_Ta_leastBetter_21 : decode b_Ta_leastBetter_c 21 = .ok (.invokestatic 105, 3) := by decide +kernel
theorem d_Ta_leastBetter_24 : decode b_Ta_leastBetter_c 24 = .ok (.invokevirtual 109, 3) := by decide +kernel
theorem d_Ta_leastBetter_27 : decode b_Ta_leastBetter_c 27 = .ok (.ireturn, 1) := by decide +kernel
/-! GameRows$Table.leastBetter(II)I -/
set_option maxHeartbeats 4000000 in
set_option maxRecDepth 100000 in
theorem t_Ta_leastBetter_0 {X : gX} {r : Int32} {σ : gS} (C : gC X b_Ta_leastBetter_c R_Ta 3 3 76) (hR : ∀ pc lv, decode b_Ta_leastBetter_c pc = .ok (.ireturn, 1) → G X pc lv [.int r] σ) (x1 : Int32) (x2 : Int32) (h : b_Ta_leastBetter_0 σ x1 x2 = some r) : G X 0 [(0, .ref (gA X 16)), (1, .int x1), (2, .int x2)] [] σ := by
  unfold b_Ta_leastBetter_0 at h
  refine r_aload_n C 0 d_Ta_leastBetter_0 rfl rfl ?_
  refine r_iload_n C 1 d_Ta_leastBetter_1 rfl rfl ?_
  refine r_iload_n C 2 d_Ta_leastBetter_2 rfl rfl ?_
  refine r_aload_n C 0 d_Ta_leastBetter_3 rfl rfl ?_
  refine q_Ta_9 C d_Ta_leastBetter_4 ?_
  refine r_iload_n C 1 d_Ta_leastBetter_7 rfl rfl ?_
  obtain ⟨hi_1, h⟩ := ck_some h
  refine r_iald C hi_1 d_Ta_leastBetter_8 ?_
  obtain ⟨r_2, er_2, h⟩ := bind_some h
  refine r_callSN C (As := [.int (gI σ 17 x1.toNatClampNeg)]) (rest := [.int x2, .int x1, .ref (gA X 16)]) (st1 := [.long r_2, .int x2, .int x1, .ref (gA X 16)]) (c_Ga_firstBits X.1.2.1 σ (gI σ 17 x1.toNatClampNeg) er_2) k_Ga_firstBits n_Ta_105 rfl rfl rfl (Nat.le_of_ble_eq_true rfl) ⟨Nat.le_of_ble_eq_true rfl, Nat.le_of_ble_eq_true rfl⟩ d_Ta_leastBetter_9 rfl ?_
  refine r_aload_n C 0 d_Ta_leastBetter_12 rfl rfl ?_
  refine q_Ta_9 C d_Ta_leastBetter_13 ?_
  refine r_iload_n C 1 d_Ta_leastBetter_16 rfl rfl ?_
  obtain ⟨r_3, er_3, h⟩ := bind_some h
  refine r_callSN C (As := [.int x1]) (rest := [.ref (gA X 17), .long r_2, .int x2, .int x1, .ref (gA X 16)]) (st1 := [.int r_3, .ref (gA X 17), .long r_2, .int x2, .int x1, .ref (gA X 16)]) (c_Ga_otherThan X.1.2.1 σ x1 er_3) k_Ga_otherThan n_Ta_98 rfl rfl rfl (Nat.le_of_ble_eq_true rfl) ⟨Nat.le_of_ble_eq_true rfl, Nat.le_of_ble_eq_true rfl⟩ d_Ta_leastBetter_17 rfl ?_
  obtain ⟨hi_4, h⟩ := ck_some h
  refine r_iald C hi_4 d_Ta_leastBetter_20 ?_
  obtain ⟨r_5, er_5, h⟩ := bind_some h
  refine r_callSN C (As := [.int (gI σ 17 r_3.toNatClampNeg)]) (rest := [.long r_2, .int x2, .int x1, .ref (gA X 16)]) (st1 := [.long r_5, .long r_2, .int x2, .int x1, .ref (gA X 16)]) (c_Ga_firstBits X.1.2.1 σ (gI σ 17 r_3.toNatClampNeg) er_5) k_Ga_firstBits n_Ta_105 rfl rfl rfl (Nat.le_of_ble_eq_true rfl) ⟨Nat.le_of_ble_eq_true rfl, Nat.le_of_ble_eq_true rfl⟩ d_Ta_leastBetter_21 rfl ?_
  obtain ⟨r_6, er_6, h⟩ := bind_some h
  refine r_callV C (As := [.int x1, .int x2, .long r_2, .long r_5]) (rest := []) (st1 := [.int r_6]) (c_Ta_leastBetterAmong X.1.2.1 σ x1 x2 r_2 r_5 er_6) k_Ta_leastBetterAmong m_320 (by decide) cel_Ta rfl rfl rfl rfl (Nat.le_of_ble_eq_true rfl) ⟨Nat.le_of_ble_eq_true rfl, Nat.le_of_ble_eq_true rfl⟩ d_Ta_leastBetter_24 rfl ?_
  cases h
  exact hR _ _ d_Ta_leastBetter_27
set_option maxHeartbeats 4000000 in
set_option maxRecDepth 100000 in
theorem c_Ta_leastBetter (l : Launch) (σ : gS) (x1 : Int32) (x2 : Int32) {r : Int32} (h : f_Ta_leastBetter σ x1 x2 = some r) : gMet l y_Ta_leastBetter b_Ta_leastBetter_c 3 (some .int) 3 76 (fun a => [.ref (a 16), .int x1, .int x2]) σ (some (.int r)) σ := by
  refine gMet_i (by decide +kernel) (fun a => Nat.le_of_ble_eq_true rfl) (fun X _ C hR => ?_)
  refine r_sub [0, 1, 2] (lv' := [(0, .ref (gA X 16)), (1, .int x1), (2, .int x2)]) rfl ?_
  exact t_Ta_leastBetter_0 C hR x1 x2 h
theorem d_Ta_isWeaklyWorse_0 : decode b_Ta_isWeaklyWorse_c 0 = .ok (.iconst 0, 1) := by decide +kernel
theorem d_Ta_isWeaklyWorse_1 : decode b_Ta_isWeaklyWorse_c 1 = .ok (.istore 4, 2) := by decide +kernel
theorem d_Ta_isWeaklyWorse_3 : decode b_Ta_isWeaklyWorse_c 3 = .ok (.iconst 0, 1) := by decide +kernel
theorem d_Ta_isWeaklyWorse_4 : decode b_Ta_isWeaklyWorse_c 4 = .ok (.istore 5, 2) := by decide +kernel
theorem d_Ta_isWeaklyWorse_6 : decode b_Ta_isWeaklyWorse_c 6 = .ok (.iload 5, 2) := by decide +kernel
theorem d_Ta_isWeaklyWorse_8 : decode b_Ta_isWeaklyWorse_c 8 = .ok (.aload_n 0, 1) := by decide +kernel
theorem d_Ta_isWeaklyWorse_9 : decode b_Ta_isWeaklyWorse_c 9 = .ok (.getfield 9, 3) := by decide +kernel
theorem d_Ta_isWeaklyWorse_12 : decode b_Ta_isWeaklyWorse_c 12 = .ok (.iload_n 1, 1) := by decide +kernel
theorem d_Ta_isWeaklyWorse_13 : decode b_Ta_isWeaklyWorse_c 13 = .ok (.invokestatic 98, 3) := by decide +kernel
theorem d_Ta_isWeaklyWorse_16 : decode b_Ta_isWeaklyWorse_c 16 = .ok (.iaload, 1) := by decide +kernel
theorem d_Ta_isWeaklyWorse_17 : decode b_Ta_isWeaklyWorse_c 17 = .ok (.if_icmp .ge 55, 3) := by decide +kernel
theorem d_Ta_isWeaklyWorse_20 : decode b_Ta_isWeaklyWorse_c 20 = .ok (.aload_n 0, 1) := by decide +kernel
theorem d_Ta_isWeaklyWorse_21 : decode b_Ta_isWeaklyWorse_c 21 = .ok (.iload_n 1, 1) := by decide +kernel
theorem d_Ta_isWeaklyWorse_22 : decode b_Ta_isWeaklyWorse_c 22 = .ok (.iload_n 2, 1) := by decide +kernel
theorem d_Ta_isWeaklyWorse_23 : decode b_Ta_isWeaklyWorse_c 23 = .ok (.iload 5, 2) := by decide +kernel
theorem d_Ta_isWeaklyWorse_25 : decode b_Ta_isWeaklyWorse_c 25 = .ok (.invokevirtual 86, 3) := by decide +kernel
theorem d_Ta_isWeaklyWorse_28 : decode b_Ta_isWeaklyWorse_c 28 = .ok (.istore 6, 2) := by decide +kernel
theorem d_Ta_isWeaklyWorse_30 : decode b_Ta_isWeaklyWorse_c 30 = .ok (.aload_n 0, 1) := by decide +kernel
theorem d_Ta_isWeaklyWorse_31 : decode b_Ta_isWeaklyWorse_c 31 = .ok (.iload_n 1, 1) := by decide +kernel
theorem d_Ta_isWeaklyWorse_32 : decode b_Ta_isWeaklyWorse_c 32 = .ok (.iload_n 3, 1) := by decide +kernel
theorem d_Ta_isWeaklyWorse_33 : decode b_Ta_isWeaklyWorse_c 33 = .ok (.iload 5, 2) := by decide +kernel
theorem d_Ta_isWeaklyWorse_35 : decode b_Ta_isWeaklyWorse_c 35 = .ok (.invokevirtual 86, 3) := by decide +kernel
theorem d_Ta_isWeaklyWorse_38 : decode b_Ta_isWeaklyWorse_c 38 = .ok (.istore 7, 2) := by decide +kernel
theorem d_Ta_isWeaklyWorse_40 : decode b_Ta_isWeaklyWorse_c 40 = .ok (.iload 6, 2) := by decide +kernel
theorem d_Ta_isWeaklyWorse_42 : decode b_Ta_isWeaklyWorse_c 42 = .ok (.iload 7, 2) := by decide +kernel
theorem d_Ta_isWeaklyWorse_44 : decode b_Ta_isWeaklyWorse_c 44 = .ok (.if_icmp .le 5, 3) := by decide +kernel
theorem d_Ta_isWeaklyWorse_47 : decode b_Ta_isWeaklyWorse_c 47 = .ok (.iconst 0, 1) := by decide +kernel
theorem d_Ta_isWeaklyWorse_48 : decode b_Ta_isWeaklyWorse_c 48 = .ok (.ireturn, 1) := by decide +kernel
theorem d_Ta_isWeaklyWorse_49 : decode b_Ta_isWeaklyWorse_c 49 = .ok (.iload 4, 2) := by decide +kernel
theorem d_Ta_isWeaklyWorse_51 : decode b_Ta_isWeaklyWorse_c 51 = .ok (.iload 6, 2) := by decide +kernel
theorem d_Ta_isWeaklyWorse_53 : decode b_Ta_isWeaklyWorse_c 53 = .ok (.iload 7, 2) := by decide +kernel
theorem d_Ta_isWeaklyWorse_55 : decode b_Ta_isWeaklyWorse_c 55 = .ok (.if_icmp .ge 7, 3) := by decide +kernel
theorem d_Ta_isWeaklyWorse_58 : decode b_Ta_isWeaklyWorse_c 58 = .ok (.iconst 1, 1) := by decide +kernel
theorem d_Ta_isWeaklyWorse_59 : decode b_Ta_isWeaklyWorse_c 59 = .ok (.goto 4, 3) := by decide +kernel
theorem d_Ta_isWeaklyWorse_62 : decode b_Ta_isWeaklyWorse_c 62 = .ok (.iconst 0, 1) := by decide +kernel
theorem d_Ta_isWeaklyWorse_63 : decode b_Ta_isWeaklyWorse_c 63 = .ok (.ior, 1) := by decide +kernel
theorem d_Ta_isWeaklyWorse_64 : decode b_Ta_isWeaklyWorse_c 64 = .ok (.istore 4, 2) := by decide +kernel
theorem d_Ta_isWeaklyWorse_66 : decode b_Ta_isWeaklyWorse_c 66 = .ok (.iinc 5 1, 3) := by decide +kernel
theorem d_Ta_isWeaklyWorse_69 : decode b_Ta_isWeaklyWorse_c 69 = .ok (.goto (-63), 3) := by decide +kernel
theorem d_Ta_isWeaklyWorse_72 : decode b_Ta_isWeaklyWorse_c 72 = .ok (.iload 4, 2) := by decide +kernel
theorem d_Ta_isWeaklyWorse_74 : decode b_Ta_isWeaklyWorse_c 74 = .ok (.ireturn, 1) := by decide +kernel
/-! GameRows$Table.isWeaklyWorse(III)Z -/
set_option maxHeartbeats 4000000 in
set_option maxRecDepth 100000 in
theorem t_Ta_isWeaklyWorse_63 {X : gX} {r : Int32} {σ : gS} (C : gC X b_Ta_isWeaklyWorse_c R_Ta 8 1 23) (hR : ∀ pc lv, isB r = true → decode b_Ta_isWeaklyWorse_c pc = .ok (.ireturn, 1) → G X pc lv [.int r] σ) {k6 : Int32 × Int32 × Int32 × Int32 × Int32 → Option Int32}  (hk6 : ∀ x, k6 x = some r → G X 6 [(0, .ref (gA X 16)), (1, .int x.1), (2, .int x.2.1), (3, .int x.2.2.1), (4, .int x.2.2.2.1), (5, .int x.2.2.2.2)] [] σ) (x1 : Int32) (x2 : Int32) (x3 : Int32) (x5 : Int32) (y0 : Int32) (y1 : Int32) (h : b_Ta_isWeaklyWorse_63 σ k6 x1 x2 x3 x5 y0 y1 = some r) : G X 63 [(0, .ref (gA X 16)), (1, .int x1), (2, .int x2), (3, .int x3), (5, .int x5)] [.int y1, .int y0] σ := by
  unfold b_Ta_isWeaklyWorse_63 at h
  refine r_ior C d_Ta_isWeaklyWorse_63 ?_
  obtain ⟨x4_1, ex4_1, h⟩ := bnd_some h
  refine r_istore C (lv' := [(4, .int x4_1), (0, .ref (gA X 16)), (1, .int x1), (2, .int x2), (3, .int x3), (5, .int x5)]) d_Ta_isWeaklyWorse_64 (by decide) ex4_1 rfl ?_
  obtain ⟨x5_2, ex5_2, h⟩ := bnd_some h
  refine r_iinc C 5 (lv' := [(5, .int x5_2), (4, .int x4_1), (0, .ref (gA X 16)), (1, .int x1), (2, .int x2), (3, .int x3)]) d_Ta_isWeaklyWorse_66 rfl (by rw [ex5_2]; rfl) (by decide) rfl ?_
  refine r_goto C (tgt := 6) d_Ta_isWeaklyWorse_69 (by decide) ?_
  refine r_sub [2, 3, 4, 5, 1, 0] (lv' := [(0, .ref (gA X 16)), (1, .int x1), (2, .int x2), (3, .int x3), (4, .int x4_1), (5, .int x5_2)]) rfl ?_
  exact hk6 _ h
set_option maxHeartbeats 4000000 in
set_option maxRecDepth 100000 in
theorem t_Ta_isWeaklyWorse_6 {X : gX} {r : Int32} {σ : gS} (C : gC X b_Ta_isWeaklyWorse_c R_Ta 8 1 23) (hR : ∀ pc lv, isB r = true → decode b_Ta_isWeaklyWorse_c pc = .ok (.ireturn, 1) → G X pc lv [.int r] σ) {k6 : Int32 × Int32 × Int32 × Int32 × Int32 → Option Int32}  (hk6 : ∀ x, k6 x = some r → G X 6 [(0, .ref (gA X 16)), (1, .int x.1), (2, .int x.2.1), (3, .int x.2.2.1), (4, .int x.2.2.2.1), (5, .int x.2.2.2.2)] [] σ) (x1 : Int32) (x2 : Int32) (x3 : Int32) (x4 : Int32) (x5 : Int32) (h : b_Ta_isWeaklyWorse_6 σ k6 x1 x2 x3 x4 x5 = some r) : G X 6 [(0, .ref (gA X 16)), (1, .int x1), (2, .int x2), (3, .int x3), (4, .int x4), (5, .int x5)] [] σ := by
  unfold b_Ta_isWeaklyWorse_6 at h
  refine r_iload C 5 d_Ta_isWeaklyWorse_6 rfl ?_
  refine r_aload_n C 0 d_Ta_isWeaklyWorse_8 rfl rfl ?_
  refine q_Ta_9 C d_Ta_isWeaklyWorse_9 ?_
  refine r_iload_n C 1 d_Ta_isWeaklyWorse_12 rfl rfl ?_
  obtain ⟨r_1, er_1, h⟩ := bind_some h
  refine r_callSN C (As := [.int x1]) (rest := [.ref (gA X 17), .int x5]) (st1 := [.int r_1, .ref (gA X 17), .int x5]) (c_Ga_otherThan X.1.2.1 σ x1 er_1) k_Ga_otherThan n_Ta_98 rfl rfl rfl (Nat.le_of_ble_eq_true rfl) ⟨Nat.le_of_ble_eq_true rfl, Nat.le_of_ble_eq_true rfl⟩ d_Ta_isWeaklyWorse_13 rfl ?_
  obtain ⟨hi_2, h⟩ := ck_some h
  refine r_iald C hi_2 d_Ta_isWeaklyWorse_16 ?_
  refine r_icmp_ge C (tgt := 72) d_Ta_isWeaklyWorse_17 (by decide) (fun hc_3 => ?_) (fun hc_3 => ?_)
  · rw [if_pos hc_3] at h
    refine r_iload C 4 d_Ta_isWeaklyWorse_72 rfl ?_
    obtain ⟨hB, h⟩ := ck_some h
    cases h
    exact hR _ _ hB d_Ta_isWeaklyWorse_74
  · rw [if_neg hc_3] at h
    refine r_aload_n C 0 d_Ta_isWeaklyWorse_20 rfl rfl ?_
    refine r_iload_n C 1 d_Ta_isWeaklyWorse_21 rfl rfl ?_
    refine r_iload_n C 2 d_Ta_isWeaklyWorse_22 rfl rfl ?_
    refine r_iload C 5 d_Ta_isWeaklyWorse_23 rfl ?_
    obtain ⟨r_4, er_4, h⟩ := bind_some h
    refine r_callV C (As := [.int x1, .int x2, .int x5]) (rest := []) (st1 := [.int r_4]) (c_Ta_value X.1.2.1 σ x1 x2 x5 er_4) k_Ta_value m_165 (by decide) cel_Ta rfl rfl rfl rfl (Nat.le_of_ble_eq_true rfl) ⟨Nat.le_of_ble_eq_true rfl, Nat.le_of_ble_eq_true rfl⟩ d_Ta_isWeaklyWorse_25 rfl ?_
    refine r_istore C (lv' := [(6, .int r_4), (0, .ref (gA X 16)), (1, .int x1), (2, .int x2), (3, .int x3), (4, .int x4), (5, .int x5)]) d_Ta_isWeaklyWorse_28 (by decide) rfl rfl ?_
    refine r_aload_n C 1 d_Ta_isWeaklyWorse_30 rfl rfl ?_
    refine r_iload_n C 2 d_Ta_isWeaklyWorse_31 rfl rfl ?_
    refine r_iload_n C 4 d_Ta_isWeaklyWorse_32 rfl rfl ?_
    refine r_iload C 6 d_Ta_isWeaklyWorse_33 rfl ?_
    obtain ⟨r_5, er_5, h⟩ := bind_some h
    refine r_callV C (As := [.int x1, .int x3, .int x5]) (rest := []) (st1 := [.int r_5]) (c_Ta_value X.1.2.1 σ x1 x3 x5 er_5) k_Ta_value m_165 (by decide) cel_Ta rfl rfl rfl rfl (Nat.le_of_ble_eq_true rfl) ⟨Nat.le_of_ble_eq_true rfl, Nat.le_of_ble_eq_true rfl⟩ d_Ta_isWeaklyWorse_35 rfl ?_
    refine r_istore C (lv' := [(7, .int r_5), (6, .int r_4), (0, .ref (gA X 16)), (1, .int x1), (2, .int x2), (3, .int x3), (4, .int x4), (5, .int x5)]) d_Ta_isWeaklyWorse_38 (by decide) rfl rfl ?_
    refine r_iload C 1 d_Ta_isWeaklyWorse_40 rfl ?_
    refine r_iload C 0 d_Ta_isWeaklyWorse_42 rfl ?_
    refine r_icmp_le C (tgt := 49) d_Ta_isWeaklyWorse_44 (by decide) (fun hc_6 => ?_) (fun hc_6 => ?_)
    · rw [if_pos hc_6] at h
      refine r_iload C 6 d_Ta_isWeaklyWorse_49 rfl ?_
      refine r_iload C 1 d_Ta_isWeaklyWorse_51 rfl ?_
      refine r_iload C 0 d_Ta_isWeaklyWorse_53 rfl ?_
      refine r_icmp_ge C (tgt := 62) d_Ta_isWeaklyWorse_55 (by decide) (fun hc_7 => ?_) (fun hc_7 => ?_)
      · rw [if_pos hc_7] at h
        refine r_iconst C (v := 0) d_Ta_isWeaklyWorse_62 (by decide) ?_
        refine r_sub [2, 3, 4, 5, 7] (lv' := [(0, .ref (gA X 16)), (1, .int x1), (2, .int x2), (3, .int x3), (5, .int x5)]) rfl ?_
        exact t_Ta_isWeaklyWorse_63 C hR hk6 x1 x2 x3 x5 x4 0 h
      · rw [if_neg hc_7] at h
        refine r_iconst C (v := 1) d_Ta_isWeaklyWorse_58 (by decide) ?_
        refine r_goto C (tgt := 63) d_Ta_isWeaklyWorse_59 (by decide) ?_
        refine r_sub [2, 3, 4, 5, 7] (lv' := [(0, .ref (gA X 16)), (1, .int x1), (2, .int x2), (3, .int x3), (5, .int x5)]) rfl ?_
        exact t_Ta_isWeaklyWorse_63 C hR hk6 x1 x2 x3 x5 x4 1 h
    · rw [if_neg hc_6] at h
      refine r_iconst C (v := 0) d_Ta_isWeaklyWorse_47 (by decide) ?_
      obtain ⟨hB, h⟩ := ck_some h
      cases h
      exact hR _ _ hB d_Ta_isWeaklyWorse_48
set_option maxHeartbeats 4000000 in
set_option maxRecDepth 100000 in
theorem u_Ta_isWeaklyWorse_6 {X : gX} {r : Int32} {σ : gS} (C : gC X b_Ta_isWeaklyWorse_c R_Ta 8 1 23) (hR : ∀ pc lv, isB r = true → decode b_Ta_isWeaklyWorse_c pc = .ok (.ireturn, 1) → G X pc lv [.int r] σ)  (x : Int32 × Int32 × Int32 × Int32 × Int32) (h : l_Ta_isWeaklyWorse_6 σ x = some r) : G X 6 [(0, .ref (gA X 16)), (1, .int x.1), (2, .int x.2.1), (3, .int x.2.2.1), (4, .int x.2.2.2.1), (5, .int x.2.2.2.2)] [] σ :=
  lpF_ind (P := fun x => G X 6 [(0, .ref (gA X 16)), (1, .int x.1), (2, .int x.2.1), (3, .int x.2.2.1), (4, .int x.2.2.2.1), (5, .int x.2.2.2.2)] [] σ) (fun k hk x h => t_Ta_isWeaklyWorse_6 C hR hk x.1 x.2.1 x.2.2.1 x.2.2.2.1 x.2.2.2.2 h) gF x h
set_option maxHeartbeats 4000000 in
set_option maxRecDepth 100000 in
theorem t_Ta_isWeaklyWorse_0 {X : gX} {r : Int32} {σ : gS} (C : gC X b_Ta_isWeaklyWorse_c R_Ta 8 1 23) (hR : ∀ pc lv, isB r = true → decode b_Ta_isWeaklyWorse_c pc = .ok (.ireturn, 1) → G X pc lv [.int r] σ) (x1 : Int32) (x2 : Int32) (x3 : Int32) (h : b_Ta_isWeaklyWorse_0 σ x1 x2 x3 = some r) : G X 0 [(0, .ref (gA X 16)), (1, .int x1), (2, .int x2), (3, .int x3)] [] σ := by
  unfold b_Ta_isWeaklyWorse_0 at h
  refine r_iconst C (v := 0) d_Ta_isWeaklyWorse_0 (by decide) ?_
  refine r_istore C (lv' := [(4, .int 0), (0, .ref (gA X 16)), (1, .int x1), (2, .int x2), (3, .int x3)]) d_Ta_isWeaklyWorse_1 (by decide) rfl rfl ?_
  refine r_iconst C (v := 0) d_Ta_isWeaklyWorse_3 (by decide) ?_
  refine r_istore C (lv' := [(5, .int 0), (4, .int 0), (0, .ref (gA X 16)), (1, .int x1), (2, .int x2), (3, .int x3)]) d_Ta_isWeaklyWorse_4 (by decide) rfl rfl ?_
  refine r_sub [2, 3, 4, 5, 1, 0] (lv' := [(0, .ref (gA X 16)), (1, .int x1), (2, .int x2), (3, .int x3), (4, .int 0), (5, .int 0)]) rfl ?_
  exact u_Ta_isWeaklyWorse_6 C hR  (x1, x2, x3, 0, 0) h
set_option maxHeartbeats 4000000 in
set_option maxRecDepth 100000 in
theorem c_Ta_isWeaklyWorse (l : Launch) (σ : gS) (x1 : Int32) (x2 : Int32) (x3 : Int32) {r : Int32} (h : f_Ta_isWeaklyWorse σ x1 x2 x3 = some r) : gMet l y_Ta_isWeaklyWorse b_Ta_isWeaklyWorse_c 8 (some .boolean) 1 23 (fun a => [.ref (a 16), .int x1, .int x2, .int x3]) σ (some (.int r)) σ := by
  refine gMet_z (by decide +kernel) (fun a => Nat.le_of_ble_eq_true rfl) (fun X _ C hR => ?_)
  refine r_sub [0, 1, 2, 3] (lv' := [(0, .ref (gA X 16)), (1, .int x1), (2, .int x2), (3, .int x3)]) rfl ?_
  exact t_Ta_isWeaklyWorse_0 C hR x1 x2 x3 h
theorem d_Ta_leastWeaklyBetter_0 : decode b_Ta_leastWeaklyBetter_c 0 = .ok (.iconst 0, 1) := by decide +kernel
theorem d_Ta_leastWeaklyBetter_1 : decode b_Ta_leastWeaklyBetter_c 1 = .ok (.istore_n 3, 1) := by decide +kernel
theorem d_Ta_leastWeaklyBetter_2 : decode b_Ta_leastWeaklyBetter_c 2 = .ok (.iload_n 3, 1) := by decide +kernel
theorem d_Ta_leastWeaklyBetter_3 : decode b_Ta_leastWeaklyBetter_c 3 = .ok (.aload_n 0, 1) := by decide +kernel
theorem d_Ta_leastWeaklyBetter_4 : decode b_Ta_leastWeaklyBetter_c 4 = .ok (.getfield 9, 3) := by decide +kernel
theorem d_Ta_leastWeaklyBetter_7 : decode b_Ta_leastWeaklyBetter_c 7 = .ok (.iload_n 1, 1) := by decide +kernel
theorem d_Ta_leastWeaklyBetter_8 : decode b_Ta_leastWeaklyBetter_c 8 = .ok (.iaload, 1) := by decide +kernel
theorem d_Ta_leastWeaklyBetter_9 : decode b_Ta_leastWeaklyBetter_c 9 = .ok (.if_icmp .ge 21, 3) := by decide +kernel
theorem d_Ta_leastWeaklyBetter_12 : decode b_Ta_leastWeaklyBetter_c 12 = .ok (.aload_n 0, 1) := by decide +kernel
theorem d_Ta_leastWeaklyBetter_13 : decode b_Ta_leastWeaklyBetter_c 13 = .ok (.iload_n 1, 1) := by decide +kernel
theorem d_Ta_leastWeaklyBetter_14 : decode b_Ta_leastWeaklyBetter_c 14 = .ok (.iload_n 2, 1) := by decide +kernel
theorem d_Ta_leastWeaklyBetter_15 : decode b_Ta_leastWeaklyBetter_c 15 = .ok (.iload_n 3, 1) := by decide +kernel
theorem d_Ta_leastWeaklyBetter_16 : decode b_Ta_leastWeaklyBetter_c 16 = .ok (.invokevirtual 121, 3) := by decide +kernel
theorem d_Ta_leastWeaklyBetter_19 : decode b_Ta_leastWeaklyBetter_c 19 = .ok (.ifCond .eq 5, 3) := by decide +kernel
theorem d_Ta_leastWeaklyBetter_22 : decode b_Ta_leastWeaklyBetter_c 22 = .ok (.iload_n 3, 1) := by decide +kernel
theorem d_Ta_leastWeaklyBetter_23 : decode b_Ta_leastWeaklyBetter_c 23 = .ok (.ireturn, 1) := by decide +kernel
theorem d_Ta_leastWeaklyBetter_24 : decode b_Ta_leastWeaklyBetter_c 24 = .ok (.iinc 3 1, 3) := by decide +kernel
theorem d_Ta_leastWeaklyBetter_27 : decode b_Ta_leastWeaklyBetter_c 27 = .ok (.goto (-25), 3) := by decide +kernel
theorem d_Ta_leastWeaklyBetter_30 : decode b_Ta_leastWeaklyBetter_c 30 = .ok (.iconst (-1), 1) := by decide +kernel
theorem d_Ta_leastWeaklyBetter_31 : decode b_Ta_leastWeaklyBetter_c 31 = .ok (.ireturn, 1) := by decide +kernel
/-! GameRows$Table.leastWeaklyBetter(II)I -/
set_option maxHeartbeats 4000000 in
set_option maxRecDepth 100000 in
theorem t_Ta_leastWeaklyBetter_2 {X : gX} {r : Int32} {σ : gS} (C : gC X b_Ta_leastWeaklyBetter_c R_Ta 4 2 50) (hR : ∀ pc lv, decode b_Ta_leastWeaklyBetter_c pc = .ok (.ireturn, 1) → G X pc lv [.int r] σ) {k2 : Int32 × Int32 × Int32 → Option Int32}  (hk2 : ∀ x, k2 x = some r → G X 2 [(0, .ref (gA X 16)), (1, .int x.1), (2, .int x.2.1), (3, .int x.2.2)] [] σ) (x1 : Int32) (x2 : Int32) (x3 : Int32) (h : b_Ta_leastWeaklyBetter_2 σ k2 x1 x2 x3 = some r) : G X 2 [(0, .ref (gA X 16)), (1, .int x1), (2, .int x2), (3, .int x3)] [] σ := by
  unfold b_Ta_leastWeaklyBetter_2 at h
  refine r_iload_n C 3 d_Ta_leastWeaklyBetter_2 rfl rfl ?_
  refine r_aload_n C 0 d_Ta_leastWeaklyBetter_3 rfl rfl ?_
  refine q_Ta_9 C d_Ta_leastWeaklyBetter_4 ?_
  refine r_iload_n C 1 d_Ta_leastWeaklyBetter_7 rfl rfl ?_
  obtain ⟨hi_1, h⟩ := ck_some h
  refine r_iald C hi_1 d_Ta_leastWeaklyBetter_8 ?_
  refine r_icmp_ge C (tgt := 30) d_Ta_leastWeaklyBetter_9 (by decide) (fun hc_2 => ?_) (fun hc_2 => ?_)
  · rw [if_pos hc_2] at h
    refine r_iconst C (v := (-1)) d_Ta_leastWeaklyBetter_30 (by decide) ?_
    cases h
    exact hR _ _ d_Ta_leastWeaklyBetter_31
  · rw [if_neg hc_2] at h
    refine r_aload_n C 0 d_Ta_leastWeaklyBetter_12 rfl rfl ?_
    refine r_iload_n C 1 d_Ta_leastWeaklyBetter_13 rfl rfl ?_
    refine r_iload_n C 2 d_Ta_leastWeaklyBetter_14 rfl rfl ?_
    refine r_iload_n C 3 d_Ta_leastWeaklyBetter_15 rfl rfl ?_
    obtain ⟨r_3, er_3, h⟩ := bind_some h
    refine r_callV C (As := [.int x1, .int x2, .int x3]) (rest := []) (st1 := [.int r_3]) (c_Ta_isWeaklyWorse X.1.2.1 σ x1 x2 x3 er_3) k_Ta_isWeaklyWorse m_321 (by decide) cel_Ta rfl rfl rfl rfl (Nat.le_of_ble_eq_true rfl) ⟨Nat.le_of_ble_eq_true rfl, Nat.le_of_ble_eq_true rfl⟩ d_Ta_leastWeaklyBetter_16 rfl ?_
    refine r_if_eq C (tgt := 24) d_Ta_leastWeaklyBetter_19 (by decide) (fun hc_4 => ?_) (fun hc_4 => ?_)
    · rw [if_pos hc_4] at h
      obtain ⟨x3_5, ex3_5, h⟩ := bnd_some h
      refine r_iinc C 3 (lv' := [(3, .int x3_5), (0, .ref (gA X 16)), (1, .int x1), (2, .int x2)]) d_Ta_leastWeaklyBetter_24 rfl (by rw [ex3_5]; rfl) (by decide) rfl ?_
      refine r_goto C (tgt := 2) d_Ta_leastWeaklyBetter_27 (by decide) ?_
      refine r_sub [1, 2, 3, 0] (lv' := [(0, .ref (gA X 16)), (1, .int x1), (2, .int x2), (3, .int x3_5)]) rfl ?_
      exact hk2 _ h
    · rw [if_neg hc_4] at h
      refine r_iload_n C 3 d_Ta_leastWeaklyBetter_22 rfl rfl ?_
      cases h
      exact hR _ _ d_Ta_leastWeaklyBetter_23
set_option maxHeartbeats 4000000 in
set_option maxRecDepth 100000 in
theorem u_Ta_leastWeaklyBetter_2 {X : gX} {r : Int32} {σ : gS} (C : gC X b_Ta_leastWeaklyBetter_c R_Ta 4 2 50) (hR : ∀ pc lv, decode b_Ta_leastWeaklyBetter_c pc = .ok (.ireturn, 1) → G X pc lv [.int r] σ)  (x : Int32 × Int32 × Int32) (h : l_Ta_leastWeaklyBetter_2 σ x = some r) : G X 2 [(0, .ref (gA X 16)), (1, .int x.1), (2, .int x.2.1), (3, .int x.2.2)] [] σ :=
  lpF_ind (P := fun x => G X 2 [(0, .ref (gA X 16)), (1, .int x.1), (2, .int x.2.1), (3, .int x.2.2)] [] σ) (fun k hk x h => t_Ta_leastWeaklyBetter_2 C hR hk x.1 x.2.1 x.2.2 h) gF x h
set_option maxHeartbeats 4000000 in
set_option maxRecDepth 100000 in
theorem t_Ta_leastWeaklyBetter_0 {X : gX} {r : Int32} {σ : gS} (C : gC X b_Ta_leastWeaklyBetter_c R_Ta 4 2 50) (hR : ∀ pc lv, decode b_Ta_leastWeaklyBetter_c pc = .ok (.ireturn, 1) → G X pc lv [.int r] σ) (x1 : Int32) (x2 : Int32) (h : b_Ta_leastWeaklyBetter_0 σ x1 x2 = some r) : G X 0 [(0, .ref (gA X 16)), (1, .int x1), (2, .int x2)] [] σ := by
  unfold b_Ta_leastWeaklyBetter_0 at h
  refine r_iconst C (v := 0) d_Ta_leastWeaklyBetter_0 (by decide) ?_
  refine r_istore_n C (lv' := [(3, .int 0), (0, .ref (gA X 16)), (1, .int x1), (2, .int x2)]) d_Ta_leastWeaklyBetter_1 rfl (by decide) rfl rfl ?_
  refine r_sub [1, 2, 3, 0] (lv' := [(0, .ref (gA X 16)), (1, .int x1), (2, .int x2), (3, .int 0)]) rfl ?_
  exact u_Ta_leastWeaklyBetter_2 C hR  (x1, x2, 0) h
set_option maxHeartbeats 4000000 in
set_option maxRecDepth 100000 in
theorem c_Ta_leastWeaklyBetter (l : Launch) (σ : gS) (x1 : Int32) (x2 : Int32) {r : Int32} (h : f_Ta_leastWeaklyBetter σ x1 x2 = some r) : gMet l y_Ta_leastWeaklyBetter b_Ta_leastWeaklyBetter_c 4 (some .int) 2 50 (fun a => [.ref (a 16), .int x1, .int x2]) σ (some (.int r)) σ := by
  refine gMet_i (by decide +kernel) (fun a => Nat.le_of_ble_eq_true rfl) (fun X _ C hR => ?_)
  refine r_sub [0, 1, 2] (lv' := [(0, .ref (gA X 16)), (1, .int x1), (2, .int x2)]) rfl ?_
  exact t_Ta_leastWeaklyBetter_0 C hR x1 x2 h
theorem d_Ga_than_0 : decode b_Ga_than_c 0 = .ok (.aload_n 0, 1) := by decide +kernel
theorem d_Ga_than_1 : decode b_Ga_than_c 1 = .ok (.invokevirtual 81, 3) := by decide +kernel
theorem d_Ga_than_4 : decode b_Ga_than_c 4 = .ok (.ifCond .eq 6, 3) := by decide +kernel
theorem d_Ga_than_7 : decode b_Ga_than_c 7 = .ok (.ldc 85, 2) := by decide +kernel
theorem d_Ga_than_9 : decode b_Ga_than_c 9 = .ok (.ireturn, 1) := by decide +kernel
theorem d_Ga_than_10 : decode b_Ga_than_c 10 = .ok (.aload_n 0, 1) := by decide +kernel
theorem d_Ga_than_11 : decode b_Ga_than_c 11 = .ok (.iload_n 1, 1) := by decide +kernel
theorem d_Ga_than_12 : decode b_Ga_than_c 12 = .ok (.iload_n 2, 1) := by decide +kernel
theorem d_Ga_than_13 : decode b_Ga_than_c 13 = .ok (.invokevirtual 148, 3) := by decide +kernel
theorem d_Ga_than_16 : decode b_Ga_than_c 16 = .ok (.ifCond .eq 12, 3) := by decide +kernel
theorem d_Ga_than_19 : decode b_Ga_than_c 19 = .ok (.iload_n 3, 1) := by decide +kernel
theorem d_Ga_than_20 : decode b_Ga_than_c 20 = .ok (.iconst 0, 1) := by decide +kernel
theorem d_Ga_than_21 : decode b_Ga_than_c 21 = .ok (.iconst 2, 1) := by decide +kernel
theorem d_Ga_than_22 : decode b_Ga_than_c 22 = .ok (.invokestatic 56, 3) := by decide +kernel
theorem d_Ga_than_25 : decode b_Ga_than_c 25 = .ok (.ifCond .ne 6, 3) := by decide +kernel
theorem d_Ga_than_28 : decode b_Ga_than_c 28 = .ok (.bipush (-2), 2) := by decide +kernel
theorem d_Ga_than_30 : decode b_Ga_than_c 30 = .ok (.ireturn, 1) := by decide +kernel
theorem d_Ga_than_31 : decode b_Ga_than_c 31 = .ok (.aload_n 0, 1) := by decide +kernel
theorem d_Ga_than_32 : decode b_Ga_than_c 32 = .ok (.getfield 21, 3) := by decide +kernel
theorem d_Ga_than_35 : decode b_Ga_than_c 35 = .ok (.invokevirtual 118, 3) := by decide +kernel
theorem d_Ga_than_38 : decode b_Ga_than_c 38 = .ok (.iload_n 3, 1) := by decide +kernel
theorem d_Ga_than_39 : decode b_Ga_than_c 39 = .ok (.iconst 2, 1) := by decide +kernel
theorem d_Ga_than_40 : decode b_Ga_than_c 40 = .ok (.if_icmp .ne 13, 3) := by decide +kernel
theorem d_Ga_than_43 : decode b_Ga_than_c 43 = .ok (.aload_n 0, 1) := by decide +kernel
theorem d_Ga_than_44 : decode b_Ga_than_c 44 = .ok (.getfield 21, 3) := by decide +kernel
theorem d_Ga_than_47 : decode b_Ga_than_c 47 = .ok (.iload_n 1, 1) := by decide +kernel
theorem d_Ga_than_48 : decode b_Ga_than_c 48 = .ok (.iload_n 2, 1) := by decide +kernel
theorem d_Ga_than_49 : decode b_Ga_than_c 49 = .ok (.invokevirtual 173, 3) := by decide +kernel
theorem d_Ga_than_52 : decode b_Ga_than_c 52 = .ok (.ireturn, 1) := by decide +kernel
theorem d_Ga_than_53 : decode b_Ga_than_c 53 = .ok (.iload_n 3, 1) := by decide +kernel
theorem d_Ga_than_54 : decode b_Ga_than_c 54 = .ok (.ifCond .ne 15, 3) := by decide +kernel
theorem d_Ga_than_57 : decode b_Ga_than_c 57 = .ok (.aload_n 0, 1) := by decide +kernel
theorem d_Ga_than_58 : decode b_Ga_than_c 58 = .ok (.getfield 21, 3) := by decide +kernel
theorem d_Ga_than_61 : decode b_Ga_than_c 61 = .ok (.iload_n 1, 1) := by decide +kernel
theorem d_Ga_than_62 : decode b_Ga_than_c 62 = .ok (.iload_n 2, 1) := by decide +kernel
theorem d_Ga_than_63 : decode b_Ga_than_c 63 = .ok (.invokevirtual 176, 3) := by decide +kernel
theorem d_Ga_than_66 : decode b_Ga_than_c 66 = .ok (.goto 12, 3) := by decide +kernel
theorem d_Ga_than_69 : decode b_Ga_than_c 69 = .ok (.aload_n 0, 1) := by decide +kernel
theorem d_Ga_than_70 : decode b_Ga_than_c 70 = .ok (.getfield 21, 3) := by decide +kernel
theorem d_Ga_than_73 : decode b_Ga_than_c 73 = .ok (.iload_n 1, 1) := by decide +kernel
theorem d_Ga_than_74 : decode b_Ga_than_c 74 = .ok (.iload_n 2, 1) := by decide +kernel
theorem d_Ga_than_75 : decode b_Ga_than_c 75 = .ok (.invokevirtual 179, 3) := by decide +kernel
theorem d_Ga_than_78 : decode b_Ga_than_c 78 = .ok (.ireturn, 1) := by decide +kernel
/-! GameRows.than(III)I -/
set_option maxHeartbeats 4000000 in
set_option maxRecDepth 100000 in
theorem t_Ga_than_0 {X : gX} {r : (Int32 × gS)} (C : gC X b_Ga_than_c R_Ga 4 5 115) (hR : ∀ pc lv, decode b_Ga_than_c pc = .ok (.ireturn, 1) → G X pc lv [.int r.1] r.2) (x1 : Int32) (x2 : Int32) (x3 : Int32) (σ : gS) (h : b_Ga_than_0 x1 x2 x3 σ = some r) : G X 0 [(0, .ref (gA X 0)), (1, .int x1), (2, .int x2), (3, .int x3)] [] σ := by
  unfold b_Ga_than_0 at h
  refine r_aload_n C 0 d_Ga_than_0 rfl rfl ?_
  obtain ⟨r_1, er_1, h⟩ := bind_some h
  refine r_callV C (As := []) (rest := []) (st1 := [.int r_1]) (c_Ga_isEmpty X.1.2.1 σ  er_1) k_Ga_isEmpty m_283 (by decide) cel_Ga rfl rfl rfl rfl (Nat.le_of_ble_eq_true rfl) ⟨Nat.le_of_ble_eq_true rfl, Nat.le_of_ble_eq_true rfl⟩ d_Ga_than_1 rfl ?_
  refine r_if_eq C (tgt := 10) d_Ga_than_4 (by decide) (fun hc_2 => ?_) (fun hc_2 => ?_)
  · rw [if_pos hc_2] at h
    refine r_aload_n C 0 d_Ga_than_10 rfl rfl ?_
    refine r_iload_n C 1 d_Ga_than_11 rfl rfl ?_
    refine r_iload_n C 2 d_Ga_than_12 rfl rfl ?_
    obtain ⟨r_3, er_3, h⟩ := bind_some h
    refine r_callV C (As := [.int x1, .int x2]) (rest := []) (st1 := [.int r_3]) (c_Ga_isPlan X.1.2.1 σ x1 x2 er_3) k_Ga_isPlan m_294 (by decide) cel_Ga rfl rfl rfl rfl (Nat.le_of_ble_eq_true rfl) ⟨Nat.le_of_ble_eq_true rfl, Nat.le_of_ble_eq_true rfl⟩ d_Ga_than_13 rfl ?_
    refine r_if_eq C (tgt := 28) d_Ga_than_16 (by decide) (fun hc_4 => ?_) (fun hc_4 => ?_)
    · rw [if_pos hc_4] at h
      refine r_bipush C (v := (-2)) d_Ga_than_28 (by decide) ?_
      cases h
      exact hR _ _ d_Ga_than_30
    · rw [if_neg hc_4] at h
      refine r_iload_n C 3 d_Ga_than_19 rfl rfl ?_
      refine r_iconst C (v := 0) d_Ga_than_20 (by decide) ?_
      refine r_iconst C (v := 2) d_Ga_than_21 (by decide) ?_
      obtain ⟨r_5, er_5, h⟩ := bind_some h
      refine r_callS C (As := [.int x3, .int 0, .int 2]) (rest := []) (st1 := [.int r_5]) (c_Ga_isAmong X.1.2.1 σ x3 0 2 er_5) k_Ga_isAmong m_16 rfl rfl rfl (Nat.le_of_ble_eq_true rfl) ⟨Nat.le_of_ble_eq_true rfl, Nat.le_of_ble_eq_true rfl⟩ d_Ga_than_22 rfl ?_
      refine r_if_ne C (tgt := 31) d_Ga_than_25 (by decide) (fun hc_6 => ?_) (fun hc_6 => ?_)
      · rw [if_neg hc_6] at h
        refine r_aload_n C 0 d_Ga_than_31 rfl rfl ?_
        refine q_Ga_21 C d_Ga_than_32 ?_
        obtain ⟨r_7, er_7, h⟩ := bind_some h
        refine r_callV C (As := []) (rest := []) (st1 := []) (c_Ta_fillWhole X.1.2.1 σ  er_7) k_Ta_fillWhole m_270 (by decide) cel_Ta rfl rfl rfl rfl (Nat.le_of_ble_eq_true rfl) ⟨Nat.le_of_ble_eq_true rfl, Nat.le_of_ble_eq_true rfl⟩ d_Ga_than_35 rfl ?_
        refine r_iload_n C 3 d_Ga_than_38 rfl rfl ?_
        refine r_iconst C (v := 2) d_Ga_than_39 (by decide) ?_
        refine r_icmp_ne C (tgt := 53) d_Ga_than_40 (by decide) (fun hc_8 => ?_) (fun hc_8 => ?_)
        · rw [if_neg hc_8] at h
          refine r_iload_n C 3 d_Ga_than_53 rfl rfl ?_
          refine r_if_ne C (tgt := 69) d_Ga_than_54 (by decide) (fun hc_9 => ?_) (fun hc_9 => ?_)
          · rw [if_neg hc_9] at h
            refine r_aload_n C 0 d_Ga_than_69 rfl rfl ?_
            refine q_Ga_21 C d_Ga_than_70 ?_
            refine r_iload_n C 1 d_Ga_than_73 rfl rfl ?_
            refine r_iload_n C 2 d_Ga_than_74 rfl rfl ?_
            obtain ⟨r_10, er_10, h⟩ := bind_some h
            refine r_callV C (As := [.int x1, .int x2]) (rest := []) (st1 := [.int r_10]) (c_Ta_leastWeaklyBetter X.1.2.1 r_7 x1 x2 er_10) k_Ta_leastWeaklyBetter m_325 (by decide) cel_Ta rfl rfl rfl rfl (Nat.le_of_ble_eq_true rfl) ⟨Nat.le_of_ble_eq_true rfl, Nat.le_of_ble_eq_true rfl⟩ d_Ga_than_75 rfl ?_
            cases h
            exact hR _ _ d_Ga_than_78
          · rw [if_pos hc_9] at h
            refine r_aload_n C 0 d_Ga_than_57 rfl rfl ?_
            refine q_Ga_21 C d_Ga_than_58 ?_
            refine r_iload_n C 1 d_Ga_than_61 rfl rfl ?_
            refine r_iload_n C 2 d_Ga_than_62 rfl rfl ?_
            obtain ⟨r_11, er_11, h⟩ := bind_some h
            refine r_callV C (As := [.int x1, .int x2]) (rest := []) (st1 := [.int r_11]) (c_Ta_leastBetter X.1.2.1 r_7 x1 x2 er_11) k_Ta_leastBetter m_329 (by decide) cel_Ta rfl rfl rfl rfl (Nat.le_of_ble_eq_true rfl) ⟨Nat.le_of_ble_eq_true rfl, Nat.le_of_ble_eq_true rfl⟩ d_Ga_than_63 rfl ?_
            refine r_goto C (tgt := 78) d_Ga_than_66 (by decide) ?_
            cases h
            exact hR _ _ d_Ga_than_78
        · rw [if_pos hc_8] at h
          refine r_aload_n C 0 d_Ga_than_43 rfl rfl ?_
          refine q_Ga_21 C d_Ga_than_44 ?_
          refine r_iload_n C 1 d_Ga_than_47 rfl rfl ?_
          refine r_iload_n C 2 d_Ga_than_48 rfl rfl ?_
          obtain ⟨r_12, er_12, h⟩ := bind_some h
          refine r_callV C (As := [.int x1, .int x2]) (rest := []) (st1 := [.int r_12]) (c_Ta_leastOneWith X.1.2.1 r_7 x1 x2 er_12) k_Ta_leastOneWith m_333 (by decide) cel_Ta rfl rfl rfl rfl (Nat.le_of_ble_eq_true rfl) ⟨Nat.le_of_ble_eq_true rfl, Nat.le_of_ble_eq_true rfl⟩ d_Ga_than_49 rfl ?_
          cases h
          exact hR _ _ d_Ga_than_52
      · rw [if_pos hc_6] at h
        refine r_bipush C (v := (-2)) d_Ga_than_28 (by decide) ?_
        cases h
        exact hR _ _ d_Ga_than_30
  · rw [if_neg hc_2] at h
    refine r_ldc C (v := (-1000000)) m_287 d_Ga_than_7 ?_
    cases h
    exact hR _ _ d_Ga_than_9
set_option maxHeartbeats 4000000 in
set_option maxRecDepth 100000 in
theorem c_Ga_than (l : Launch) (σ : gS) (x1 : Int32) (x2 : Int32) (x3 : Int32) {r : (Int32 × gS)} (h : f_Ga_than σ x1 x2 x3 = some r) : gMet l y_Ga_than b_Ga_than_c 4 (some .int) 5 115 (fun a => [.ref (a 0), .int x1, .int x2, .int x3]) σ (some (.int r.1)) r.2 := by
  refine gMet_i (by decide +kernel) (fun a => Nat.le_of_ble_eq_true rfl) (fun X _ C hR => ?_)
  refine r_sub [0, 1, 2, 3] (lv' := [(0, .ref (gA X 0)), (1, .int x1), (2, .int x2), (3, .int x3)]) rfl ?_
  exact t_Ga_than_0 C hR x1 x2 x3 σ h
theorem d_Le_roundOf_0 : decode b_Le_roundOf_c 0 = .ok (.aload_n 0, 1) := by decide +kernel
theorem d_Le_roundOf_1 : decode b_Le_roundOf_c 1 = .ok (.getfield 11, 3) := by decide +kernel
theorem d_Le_roundOf_4 : decode b_Le_roundOf_c 4 = .ok (.iload_n 1, 1) := by decide +kernel
theorem d_Le_roundOf_5 : decode b_Le_roundOf_c 5 = .ok (.aaload, 1) := by decide +kernel
theorem d_Le_roundOf_6 : decode b_Le_roundOf_c 6 = .ok (.iload_n 2, 1) := by decide +kernel
theorem d_Le_roundOf_7 : decode b_Le_roundOf_c 7 = .ok (.iaload, 1) := by decide +kernel
theorem d_Le_roundOf_8 : decode b_Le_roundOf_c 8 = .ok (.ireturn, 1) := by decide +kernel
/-! GameRows$Leaving.roundOf(II)I -/
set_option maxHeartbeats 4000000 in
set_option maxRecDepth 100000 in
theorem t_Le_roundOf_0 {X : gX} {r : Int32} {σ : gS} (C : gC X b_Le_roundOf_c R_Le 3 0 0) (hR : ∀ pc lv, decode b_Le_roundOf_c pc = .ok (.ireturn, 1) → G X pc lv [.int r] σ) (x1 : Int32) (x2 : Int32) (h : b_Le_roundOf_0 σ x1 x2 = some r) : G X 0 [(0, .ref (gA X 34)), (1, .int x1), (2, .int x2)] [] σ := by
  unfold b_Le_roundOf_0 at h
  refine r_aload_n C 0 d_Le_roundOf_0 rfl rfl ?_
  refine q_Le_11 C d_Le_roundOf_1 ?_
  refine r_iload_n C 1 d_Le_roundOf_4 rfl rfl ?_
  obtain ⟨hi_1, h⟩ := ck_some h
  refine o_35 C (k' := 35 + 1 + x1.toNatClampNeg) hi_1 rfl d_Le_roundOf_5 ?_
  refine r_iload_n C 2 d_Le_roundOf_6 rfl rfl ?_
  obtain ⟨hi_2, h⟩ := ck_some h
  refine r_iald C hi_2 d_Le_roundOf_7 ?_
  cases h
  exact hR _ _ d_Le_roundOf_8
set_option maxHeartbeats 4000000 in
set_option maxRecDepth 100000 in
theorem c_Le_roundOf (l : Launch) (σ : gS) (x1 : Int32) (x2 : Int32) {r : Int32} (h : f_Le_roundOf σ x1 x2 = some r) : gMet l y_Le_roundOf b_Le_roundOf_c 3 (some .int) 0 0 (fun a => [.ref (a 34), .int x1, .int x2]) σ (some (.int r)) σ := by
  refine gMet_i (by decide +kernel) (fun a => Nat.le_of_ble_eq_true rfl) (fun X _ C hR => ?_)
  refine r_sub [0, 1, 2] (lv' := [(0, .ref (gA X 34)), (1, .int x1), (2, .int x2)]) rfl ?_
  exact t_Le_roundOf_0 C hR x1 x2 h
theorem d_Ga_goes_0 : decode b_Ga_goes_c 0 = .ok (.aload_n 0, 1) := by decide +kernel
theorem d_Ga_goes_1 : decode b_Ga_goes_c 1 = .ok (.invokevirtual 81, 3) := by decide +kernel
theorem d_Ga_goes_4 : decode b_Ga_goes_c 4 = .ok (.ifCond .eq 6, 3) := by decide +kernel
theorem d_Ga_goes_7 : decode b_Ga_goes_c 7 = .ok (.ldc 85, 2) := by decide +kernel
theorem d_Ga_goes_9 : decode b_Ga_goes_c 9 = .ok (.ireturn, 1) := by decide +kernel
theorem d_Ga_goes_10 : decode b_Ga_goes_c 10 = .ok (.aload_n 0, 1) := by decide +kernel
theorem d_Ga_goes_11 : decode b_Ga_goes_c 11 = .ok (.iload_n 1, 1) := by decide +kernel
theorem d_Ga_goes_12 : decode b_Ga_goes_c 12 = .ok (.iload_n 2, 1) := by decide +kernel
theorem d_Ga_goes_13 : decode b_Ga_goes_c 13 = .ok (.invokevirtual 148, 3) := by decide +kernel
theorem d_Ga_goes_16 : decode b_Ga_goes_c 16 = .ok (.ifCond .ne 6, 3) := by decide +kernel
theorem d_Ga_goes_19 : decode b_Ga_goes_c 19 = .ok (.bipush (-2), 2) := by decide +kernel
theorem d_Ga_goes_21 : decode b_Ga_goes_c 21 = .ok (.ireturn, 1) := by decide +kernel
theorem d_Ga_goes_22 : decode b_Ga_goes_c 22 = .ok (.aload_n 0, 1) := by decide +kernel
theorem d_Ga_goes_23 : decode b_Ga_goes_c 23 = .ok (.getfield 21, 3) := by decide +kernel
theorem d_Ga_goes_26 : decode b_Ga_goes_c 26 = .ok (.invokevirtual 118, 3) := by decide +kernel
theorem d_Ga_goes_29 : decode b_Ga_goes_c 29 = .ok (.aload_n 0, 1) := by decide +kernel
theorem d_Ga_goes_30 : decode b_Ga_goes_c 30 = .ok (.getfield 37, 3) := by decide +kernel
theorem d_Ga_goes_33 : decode b_Ga_goes_c 33 = .ok (.invokevirtual 121, 3) := by decide +kernel
theorem d_Ga_goes_36 : decode b_Ga_goes_c 36 = .ok (.aload_n 0, 1) := by decide +kernel
theorem d_Ga_goes_37 : decode b_Ga_goes_c 37 = .ok (.getfield 37, 3) := by decide +kernel
theorem d_Ga_goes_40 : decode b_Ga_goes_c 40 = .ok (.iload_n 1, 1) := by decide +kernel
theorem d_Ga_goes_41 : decode b_Ga_goes_c 41 = .ok (.iload_n 2, 1) := by decide +kernel
theorem d_Ga_goes_42 : decode b_Ga_goes_c 42 = .ok (.invokevirtual 182, 3) := by decide +kernel
theorem d_Ga_goes_45 : decode b_Ga_goes_c 45 = .ok (.ireturn, 1) := by decide +kernel
/-! GameRows.goes(II)I -/
set_option maxHeartbeats 4000000 in
set_option maxRecDepth 100000 in
theorem t_Ga_goes_0 {X : gX} {r : (Int32 × gS)} (C : gC X b_Ga_goes_c R_Ga 3 5 125) (hR : ∀ pc lv, decode b_Ga_goes_c pc = .ok (.ireturn, 1) → G X pc lv [.int r.1] r.2) (x1 : Int32) (x2 : Int32) (σ : gS) (h : b_Ga_goes_0 x1 x2 σ = some r) : G X 0 [(0, .ref (gA X 0)), (1, .int x1), (2, .int x2)] [] σ := by
  unfold b_Ga_goes_0 at h
  refine r_aload_n C 0 d_Ga_goes_0 rfl rfl ?_
  obtain ⟨r_1, er_1, h⟩ := bind_some h
  refine r_callV C (As := []) (rest := []) (st1 := [.int r_1]) (c_Ga_isEmpty X.1.2.1 σ  er_1) k_Ga_isEmpty m_283 (by decide) cel_Ga rfl rfl rfl rfl (Nat.le_of_ble_eq_true rfl) ⟨Nat.le_of_ble_eq_true rfl, Nat.le_of_ble_eq_true rfl⟩ d_Ga_goes_1 rfl ?_
  refine r_if_eq C (tgt := 10) d_Ga_goes_4 (by decide) (fun hc_2 => ?_) (fun hc_2 => ?_)
  · rw [if_pos hc_2] at h
    refine r_aload_n C 0 d_Ga_goes_10 rfl rfl ?_
    refine r_iload_n C 1 d_Ga_goes_11 rfl rfl ?_
    refine r_iload_n C 2 d_Ga_goes_12 rfl rfl ?_
    obtain ⟨r_3, er_3, h⟩ := bind_some h
    refine r_callV C (As := [.int x1, .int x2]) (rest := []) (st1 := [.int r_3]) (c_Ga_isPlan X.1.2.1 σ x1 x2 er_3) k_Ga_isPlan m_294 (by decide) cel_Ga rfl rfl rfl rfl (Nat.le_of_ble_eq_true rfl) ⟨Nat.le_of_ble_eq_true rfl, Nat.le_of_ble_eq_true rfl⟩ d_Ga_goes_13 rfl ?_
    refine r_if_ne C (tgt := 22) d_Ga_goes_16 (by decide) (fun hc_4 => ?_) (fun hc_4 => ?_)
    · rw [if_neg hc_4] at h
      refine r_aload_n C 0 d_Ga_goes_22 rfl rfl ?_
      refine q_Ga_21 C d_Ga_goes_23 ?_
      obtain ⟨r_5, er_5, h⟩ := bind_some h
      refine r_callV C (As := []) (rest := []) (st1 := []) (c_Ta_fillWhole X.1.2.1 σ  er_5) k_Ta_fillWhole m_270 (by decide) cel_Ta rfl rfl rfl rfl (Nat.le_of_ble_eq_true rfl) ⟨Nat.le_of_ble_eq_true rfl, Nat.le_of_ble_eq_true rfl⟩ d_Ga_goes_26 rfl ?_
      refine r_aload_n C 0 d_Ga_goes_29 rfl rfl ?_
      refine q_Ga_37 C d_Ga_goes_30 ?_
      obtain ⟨r_6, er_6, h⟩ := bind_some h
      refine r_callV C (As := []) (rest := []) (st1 := []) (c_Le_playAll X.1.2.1 r_5  er_6) k_Le_playAll m_275 (by decide) cel_Le rfl rfl rfl rfl (Nat.le_of_ble_eq_true rfl) ⟨Nat.le_of_ble_eq_true rfl, Nat.le_of_ble_eq_true rfl⟩ d_Ga_goes_33 rfl ?_
      refine r_aload_n C 0 d_Ga_goes_36 rfl rfl ?_
      refine q_Ga_37 C d_Ga_goes_37 ?_
      refine r_iload_n C 1 d_Ga_goes_40 rfl rfl ?_
      refine r_iload_n C 2 d_Ga_goes_41 rfl rfl ?_
      obtain ⟨r_7, er_7, h⟩ := bind_some h
      refine r_callV C (As := [.int x1, .int x2]) (rest := []) (st1 := [.int r_7]) (c_Le_roundOf X.1.2.1 r_6 x1 x2 er_7) k_Le_roundOf m_337 (by decide) cel_Le rfl rfl rfl rfl (Nat.le_of_ble_eq_true rfl) ⟨Nat.le_of_ble_eq_true rfl, Nat.le_of_ble_eq_true rfl⟩ d_Ga_goes_42 rfl ?_
      cases h
      exact hR _ _ d_Ga_goes_45
    · rw [if_pos hc_4] at h
      refine r_bipush C (v := (-2)) d_Ga_goes_19 (by decide) ?_
      cases h
      exact hR _ _ d_Ga_goes_21
  · rw [if_neg hc_2] at h
    refine r_ldc C (v := (-1000000)) m_287 d_Ga_goes_7 ?_
    cases h
    exact hR _ _ d_Ga_goes_9
set_option maxHeartbeats 4000000 in
set_option maxRecDepth 100000 in
theorem c_Ga_goes (l : Launch) (σ : gS) (x1 : Int32) (x2 : Int32) {r : (Int32 × gS)} (h : f_Ga_goes σ x1 x2 = some r) : gMet l y_Ga_goes b_Ga_goes_c 3 (some .int) 5 125 (fun a => [.ref (a 0), .int x1, .int x2]) σ (some (.int r.1)) r.2 := by
  refine gMet_i (by decide +kernel) (fun a => Nat.le_of_ble_eq_true rfl) (fun X _ C hR => ?_)
  refine r_sub [0, 1, 2] (lv' := [(0, .ref (gA X 0)), (1, .int x1), (2, .int x2)]) rfl ?_
  exact t_Ga_goes_0 C hR x1 x2 σ h
theorem d_Ma_min_0 : decode b_Ma_min_c 0 = .ok (.iload_n 0, 1) := by decide +kernel
theorem d_Ma_min_1 : decode b_Ma_min_c 1 = .ok (.iload_n 1, 1) := by decide +kernel
theorem d_Ma_min_2 : decode b_Ma_min_c 2 = .ok (.if_icmp .gt 7, 3) := by decide +kernel
theorem d_Ma_min_5 : decode b_Ma_min_c 5 = .ok (.iload_n 0, 1) := by decide +kernel
theorem d_Ma_min_6 : decode b_Ma_min_c 6 = .ok (.goto 4, 3) := by decide +kernel
theorem d_Ma_min_9 : decode b_Ma_min_c 9 = .ok (.iload_n 1, 1) := by decide +kernel
theorem d_Ma_min_10 : decode b_Ma_min_c 10 = .ok (.ireturn, 1) := by decide +kernel
/-! java/lang/Math.min(II)I -/
set_option maxHeartbeats 4000000 in
set_option maxRecDepth 100000 in
theorem t_Ma_min_0 {X : gX} {r : Int32} {σ : gS} (C : gC X b_Ma_min_c R_Ma 2 0 0) (hR : ∀ pc lv, decode b_Ma_min_c pc = .ok (.ireturn, 1) → G X pc lv [.int r] σ) (x0 : Int32) (x1 : Int32) (h : b_Ma_min_0 x0 x1 = some r) : G X 0 [(0, .int x0), (1, .int x1)] [] σ := by
  unfold b_Ma_min_0 at h
  refine r_iload_n C 0 d_Ma_min_0 rfl rfl ?_
  refine r_iload_n C 1 d_Ma_min_1 rfl rfl ?_
  refine r_icmp_gt C (tgt := 9) d_Ma_min_2 (by decide) (fun hc_1 => ?_) (fun hc_1 => ?_)
  · rw [if_pos hc_1] at h
    refine r_iload_n C 1 d_Ma_min_9 rfl rfl ?_
    cases h
    exact hR _ _ d_Ma_min_10
  · rw [if_neg hc_1] at h
    refine r_iload_n C 0 d_Ma_min_5 rfl rfl ?_
    refine r_goto C (tgt := 10) d_Ma_min_6 (by decide) ?_
    cases h
    exact hR _ _ d_Ma_min_10
set_option maxHeartbeats 4000000 in
set_option maxRecDepth 100000 in
theorem c_Ma_min (l : Launch) (σ : gS) (x0 : Int32) (x1 : Int32) {r : Int32} (h : f_Ma_min x0 x1 = some r) : gMet l y_Ma_min b_Ma_min_c 2 (some .int) 0 0 (fun a => [.int x0, .int x1]) σ (some (.int r)) σ := by
  refine gMet_i (by decide +kernel) (fun a => Nat.le_of_ble_eq_true rfl) (fun X _ C hR => ?_)
  refine r_sub [0, 1] (lv' := [(0, .int x0), (1, .int x1)]) rfl ?_
  exact t_Ma_min_0 C hR x0 x1 h
theorem d_Ta_leastOf_0 : decode b_Ta_leastOf_c 0 = .ok (.aload_n 0, 1) := by decide +kernel
theorem d_Ta_leastOf_1 : decode b_Ta_leastOf_c 1 = .ok (.iload_n 1, 1) := by decide +kernel
theorem d_Ta_leastOf_2 : decode b_Ta_leastOf_c 2 = .ok (.iload_n 2, 1) := by decide +kernel
theorem d_Ta_leastOf_3 : decode b_Ta_leastOf_c 3 = .ok (.iconst 0, 1) := by decide +kernel
theorem d_Ta_leastOf_4 : decode b_Ta_leastOf_c 4 = .ok (.invokevirtual 86, 3) := by decide +kernel
theorem d_Ta_leastOf_7 : decode b_Ta_leastOf_c 7 = .ok (.istore_n 3, 1) := by decide +kernel
theorem d_Ta_leastOf_8 : decode b_Ta_leastOf_c 8 = .ok (.iconst 1, 1) := by decide +kernel
theorem d_Ta_leastOf_9 : decode b_Ta_leastOf_c 9 = .ok (.istore 4, 2) := by decide +kernel
theorem d_Ta_leastOf_11 : decode b_Ta_leastOf_c 11 = .ok (.iload 4, 2) := by decide +kernel
theorem d_Ta_leastOf_13 : decode b_Ta_leastOf_c 13 = .ok (.aload_n 0, 1) := by decide +kernel
theorem d_Ta_leastOf_14 : decode b_Ta_leastOf_c 14 = .ok (.getfield 9, 3) := by decide +kernel
theorem d_Ta_leastOf_17 : decode b_Ta_leastOf_c 17 = .ok (.iload_n 1, 1) := by decide +kernel
theorem d_Ta_leastOf_18 : decode b_Ta_leastOf_c 18 = .ok (.invokestatic 98, 3) := by decide +kernel
theorem d_Ta_leastOf_21 : decode b_Ta_leastOf_c 21 = .ok (.iaload, 1) := by decide +kernel
theorem d_Ta_leastOf_22 : decode b_Ta_leastOf_c 22 = .ok (.if_icmp .ge 22, 3) := by decide +kernel
theorem d_Ta_leastOf_25 : decode b_Ta_leastOf_c 25 = .ok (.iload_n 3, 1) := by decide +kernel
theorem d_Ta_leastOf_26 : decode b_Ta_leastOf_c 26 = .ok (.aload_n 0, 1) := by decide +kernel
theorem d_Ta_leastOf_27 : decode b_Ta_leastOf_c 27 = .ok (.iload_n 1, 1) := by decide +kernel
theorem d_Ta_leastOf_28 : decode b_Ta_leastOf_c 28 = .ok (.iload_n 2, 1) := by decide +kernel
theorem d_Ta_leastOf_29 : decode b_Ta_leastOf_c 29 = .ok (.iload 4, 2) := by decide +kernel
theorem d_Ta_leastOf_31 : decode b_Ta_leastOf_c 31 = .ok (.invokevirtual 86, 3) := by decide +kernel
theorem d_Ta_leastOf_34 : decode b_Ta_leastOf_c 34 = .ok (.invokestatic 102, 3) := by decide +kernel
theorem d_Ta_leastOf_37 : decode b_Ta_leastOf_c 37 = .ok (.istore_n 3, 1) := by decide +kernel
theorem d_Ta_leastOf_38 : decode b_Ta_leastOf_c 38 = .ok (.iinc 4 1, 3) := by decide +kernel
theorem d_Ta_leastOf_41 : decode b_Ta_leastOf_c 41 = .ok (.goto (-30), 3) := by decide +kernel
theorem d_Ta_leastOf_44 : decode b_Ta_leastOf_c 44 = .ok (.iload_n 3, 1) := by decide +kernel
theorem d_Ta_leastOf_45 : decode b_Ta_leastOf_c 45 = .ok (.ireturn, 1) := by decide +kernel
/-! GameRows$Table.leastOf(II)I -/
set_option maxHeartbeats 4000000 in
set_option maxRecDepth 100000 in
theorem t_Ta_leastOf_11 {X : gX} {r : Int32} {σ : gS} (C : gC X b_Ta_leastOf_c R_Ta 5 1 23) (hR : ∀ pc lv, decode b_Ta_leastOf_c pc = .ok (.ireturn, 1) → G X pc lv [.int r] σ) {k11 : Int32 × Int32 × Int32 × Int32 → Option Int32}  (hk11 : ∀ x, k11 x = some r → G X 11 [(0, .ref (gA X 16)), (1, .int x.1), (2, .int x.2.1), (3, .int x.2.2.1), (4, .int x.2.2.2)] [] σ) (x1 : Int32) (x2 : Int32) (x3 : Int32) (x4 : Int32) (h : b_Ta_leastOf_11 σ k11 x1 x2 x3 x4 = some r) : G X 11 [(0, .ref (gA X 16)), (1, .int x1), (2, .int x2), (3, .int x3), (4, .int x4)] [] σ := by
  unfold b_Ta_leastOf_11 at h
  refine r_iload C 4 d_Ta_leastOf_11 rfl ?_
  refine r_aload_n C 0 d_Ta_leastOf_13 rfl rfl ?_
  refine q_Ta_9 C d_Ta_leastOf_14 ?_
  refine r_iload_n C 1 d_Ta_leastOf_17 rfl rfl ?_
  obtain ⟨r_1, er_1, h⟩ := bind_some h
  refine r_callSN C (As := [.int x1]) (rest := [.ref (gA X 17), .int x4]) (st1 := [.int r_1, .ref (gA X 17), .int x4]) (c_Ga_otherThan X.1.2.1 σ x1 er_1) k_Ga_otherThan n_Ta_98 rfl rfl rfl (Nat.le_of_ble_eq_true rfl) ⟨Nat.le_of_ble_eq_true rfl, Nat.le_of_ble_eq_true rfl⟩ d_Ta_leastOf_18 rfl ?_
  obtain ⟨hi_2, h⟩ := ck_some h
  refine r_iald C hi_2 d_Ta_leastOf_21 ?_
  refine r_icmp_ge C (tgt := 44) d_Ta_leastOf_22 (by decide) (fun hc_3 => ?_) (fun hc_3 => ?_)
  · rw [if_pos hc_3] at h
    refine r_iload_n C 3 d_Ta_leastOf_44 rfl rfl ?_
    cases h
    exact hR _ _ d_Ta_leastOf_45
  · rw [if_neg hc_3] at h
    refine r_iload_n C 3 d_Ta_leastOf_25 rfl rfl ?_
    refine r_aload_n C 0 d_Ta_leastOf_26 rfl rfl ?_
    refine r_iload_n C 1 d_Ta_leastOf_27 rfl rfl ?_
    refine r_iload_n C 2 d_Ta_leastOf_28 rfl rfl ?_
    refine r_iload C 4 d_Ta_leastOf_29 rfl ?_
    obtain ⟨r_4, er_4, h⟩ := bind_some h
    refine r_callV C (As := [.int x1, .int x2, .int x4]) (rest := [.int x3]) (st1 := [.int r_4, .int x3]) (c_Ta_value X.1.2.1 σ x1 x2 x4 er_4) k_Ta_value m_165 (by decide) cel_Ta rfl rfl rfl rfl (Nat.le_of_ble_eq_true rfl) ⟨Nat.le_of_ble_eq_true rfl, Nat.le_of_ble_eq_true rfl⟩ d_Ta_leastOf_31 rfl ?_
    obtain ⟨r_5, er_5, h⟩ := bind_some h
    refine r_callS C (As := [.int x3, .int r_4]) (rest := []) (st1 := [.int r_5]) (c_Ma_min X.1.2.1 σ x3 r_4 er_5) k_Ma_min m_341 rfl rfl rfl (Nat.le_of_ble_eq_true rfl) ⟨Nat.le_of_ble_eq_true rfl, Nat.le_of_ble_eq_true rfl⟩ d_Ta_leastOf_34 rfl ?_
    refine r_istore_n C (lv' := [(3, .int r_5), (0, .ref (gA X 16)), (1, .int x1), (2, .int x2), (4, .int x4)]) d_Ta_leastOf_37 rfl (by decide) rfl rfl ?_
    obtain ⟨x4_6, ex4_6, h⟩ := bnd_some h
    refine r_iinc C 4 (lv' := [(4, .int x4_6), (3, .int r_5), (0, .ref (gA X 16)), (1, .int x1), (2, .int x2)]) d_Ta_leastOf_38 rfl (by rw [ex4_6]; rfl) (by decide) rfl ?_
    refine r_goto C (tgt := 11) d_Ta_leastOf_41 (by decide) ?_
    refine r_sub [2, 3, 4, 1, 0] (lv' := [(0, .ref (gA X 16)), (1, .int x1), (2, .int x2), (3, .int r_5), (4, .int x4_6)]) rfl ?_
    exact hk11 _ h
set_option maxHeartbeats 4000000 in
set_option maxRecDepth 100000 in
theorem u_Ta_leastOf_11 {X : gX} {r : Int32} {σ : gS} (C : gC X b_Ta_leastOf_c R_Ta 5 1 23) (hR : ∀ pc lv, decode b_Ta_leastOf_c pc = .ok (.ireturn, 1) → G X pc lv [.int r] σ)  (x : Int32 × Int32 × Int32 × Int32) (h : l_Ta_leastOf_11 σ x = some r) : G X 11 [(0, .ref (gA X 16)), (1, .int x.1), (2, .int x.2.1), (3, .int x.2.2.1), (4, .int x.2.2.2)] [] σ :=
  lpF_ind (P := fun x => G X 11 [(0, .ref (gA X 16)), (1, .int x.1), (2, .int x.2.1), (3, .int x.2.2.1), (4, .int x.2.2.2)] [] σ) (fun k hk x h => t_Ta_leastOf_11 C hR hk x.1 x.2.1 x.2.2.1 x.2.2.2 h) gF x h
set_option maxHeartbeats 4000000 in
set_option maxRecDepth 100000 in
theorem t_Ta_leastOf_0 {X : gX} {r : Int32} {σ : gS} (C : gC X b_Ta_leastOf_c R_Ta 5 1 23) (hR : ∀ pc lv, decode b_Ta_leastOf_c pc = .ok (.ireturn, 1) → G X pc lv [.int r] σ) (x1 : Int32) (x2 : Int32) (h : b_Ta_leastOf_0 σ x1 x2 = some r) : G X 0 [(0, .ref (gA X 16)), (1, .int x1), (2, .int x2)] [] σ := by
  unfold b_Ta_leastOf_0 at h
  refine r_aload_n C 0 d_Ta_leastOf_0 rfl rfl ?_
  refine r_iload_n C 1 d_Ta_leastOf_1 rfl rfl ?_
  refine r_iload_n C 2 d_Ta_leastOf_2 rfl rfl ?_
  refine r_iconst C (v := 0) d_Ta_leastOf_3 (by decide) ?_
  obtain ⟨r_1, er_1, h⟩ := bind_some h
  refine r_callV C (As := [.int x1, .int x2, .int 0]) (rest := []) (st1 := [.int r_1]) (c_Ta_value X.1.2.1 σ x1 x2 0 er_1) k_Ta_value m_165 (by decide) cel_Ta rfl rfl rfl rfl (Nat.le_of_ble_eq_true rfl) ⟨Nat.le_of_ble_eq_true rfl, Nat.le_of_ble_eq_true rfl⟩ d_Ta_leastOf_4 rfl ?_
  refine r_istore_n C (lv' := [(3, .int r_1), (0, .ref (gA X 16)), (1, .int x1), (2, .int x2)]) d_Ta_leastOf_7 rfl (by decide) rfl rfl ?_
  refine r_iconst C (v := 1) d_Ta_leastOf_8 (by decide) ?_
  refine r_istore C (lv' := [(4, .int 1), (3, .int r_1), (0, .ref (gA X 16)), (1, .int x1), (2, .int x2)]) d_Ta_leastOf_9 (by decide) rfl rfl ?_
  refine r_sub [2, 3, 4, 1, 0] (lv' := [(0, .ref (gA X 16)), (1, .int x1), (2, .int x2), (3, .int r_1), (4, .int 1)]) rfl ?_
  exact u_Ta_leastOf_11 C hR  (x1, x2, r_1, 1) h
set_option maxHeartbeats 4000000 in
set_option maxRecDepth 100000 in
theorem c_Ta_leastOf (l : Launch) (σ : gS) (x1 : Int32) (x2 : Int32) {r : Int32} (h : f_Ta_leastOf σ x1 x2 = some r) : gMet l y_Ta_leastOf b_Ta_leastOf_c 5 (some .int) 1 23 (fun a => [.ref (a 16), .int x1, .int x2]) σ (some (.int r)) σ := by
  refine gMet_i (by decide +kernel) (fun a => Nat.le_of_ble_eq_true rfl) (fun X _ C hR => ?_)
  refine r_sub [0, 1, 2] (lv' := [(0, .ref (gA X 16)), (1, .int x1), (2, .int x2)]) rfl ?_
  exact t_Ta_leastOf_0 C hR x1 x2 h
theorem d_Ta_sureOf_0 : decode b_Ta_sureOf_c 0 = .ok (.aload_n 0, 1) := by decide +kernel
theorem d_Ta_sureOf_1 : decode b_Ta_sureOf_c 1 = .ok (.iload_n 1, 1) := by decide +kernel
theorem d_Ta_sureOf_2 : decode b_Ta_sureOf_c 2 = .ok (.iconst 0, 1) := by decide +kernel
theorem d_Ta_sureOf_3 : decode b_Ta_sureOf_c 3 = .ok (.invokevirtual 90, 3) := by decide +kernel
theorem d_Ta_sureOf_6 : decode b_Ta_sureOf_c 6 = .ok (.istore_n 2, 1) := by decide +kernel
theorem d_Ta_sureOf_7 : decode b_Ta_sureOf_c 7 = .ok (.iconst 1, 1) := by decide +kernel
theorem d_Ta_sureOf_8 : decode b_Ta_sureOf_c 8 = .ok (.istore_n 3, 1) := by decide +kernel
theorem d_Ta_sureOf_9 : decode b_Ta_sureOf_c 9 = .ok (.iload_n 3, 1) := by decide +kernel
theorem d_Ta_sureOf_10 : decode b_Ta_sureOf_c 10 = .ok (.aload_n 0, 1) := by decide +kernel
theorem d_Ta_sureOf_11 : decode b_Ta_sureOf_c 11 = .ok (.getfield 9, 3) := by decide +kernel
theorem d_Ta_sureOf_14 : decode b_Ta_sureOf_c 14 = .ok (.iload_n 1, 1) := by decide +kernel
theorem d_Ta_sureOf_15 : decode b_Ta_sureOf_c 15 = .ok (.iaload, 1) := by decide +kernel
theorem d_Ta_sureOf_16 : decode b_Ta_sureOf_c 16 = .ok (.if_icmp .ge 20, 3) := by decide +kernel
theorem d_Ta_sureOf_19 : decode b_Ta_sureOf_c 19 = .ok (.iload_n 2, 1) := by decide +kernel
theorem d_Ta_sureOf_20 : decode b_Ta_sureOf_c 20 = .ok (.aload_n 0, 1) := by decide +kernel
theorem d_Ta_sureOf_21 : decode b_Ta_sureOf_c 21 = .ok (.iload_n 1, 1) := by decide +kernel
theorem d_Ta_sureOf_22 : decode b_Ta_sureOf_c 22 = .ok (.iload_n 3, 1) := by decide +kernel
theorem d_Ta_sureOf_23 : decode b_Ta_sureOf_c 23 = .ok (.invokevirtual 90, 3) := by decide +kernel
theorem d_Ta_sureOf_26 : decode b_Ta_sureOf_c 26 = .ok (.invokestatic 93, 3) := by decide +kernel
theorem d_Ta_sureOf_29 : decode b_Ta_sureOf_c 29 = .ok (.istore_n 2, 1) := by decide +kernel
theorem d_Ta_sureOf_30 : decode b_Ta_sureOf_c 30 = .ok (.iinc 3 1, 3) := by decide +kernel
theorem d_Ta_sureOf_33 : decode b_Ta_sureOf_c 33 = .ok (.goto (-24), 3) := by decide +kernel
theorem d_Ta_sureOf_36 : decode b_Ta_sureOf_c 36 = .ok (.iload_n 2, 1) := by decide +kernel
theorem d_Ta_sureOf_37 : decode b_Ta_sureOf_c 37 = .ok (.ireturn, 1) := by decide +kernel
/-! GameRows$Table.sureOf(I)I -/
set_option maxHeartbeats 4000000 in
set_option maxRecDepth 100000 in
theorem t_Ta_sureOf_9 {X : gX} {r : Int32} {σ : gS} (C : gC X b_Ta_sureOf_c R_Ta 4 2 47) (hR : ∀ pc lv, decode b_Ta_sureOf_c pc = .ok (.ireturn, 1) → G X pc lv [.int r] σ) {k9 : Int32 × Int32 × Int32 → Option Int32}  (hk9 : ∀ x, k9 x = some r → G X 9 [(0, .ref (gA X 16)), (1, .int x.1), (2, .int x.2.1), (3, .int x.2.2)] [] σ) (x1 : Int32) (x2 : Int32) (x3 : Int32) (h : b_Ta_sureOf_9 σ k9 x1 x2 x3 = some r) : G X 9 [(0, .ref (gA X 16)), (1, .int x1), (2, .int x2), (3, .int x3)] [] σ := by
  unfold b_Ta_sureOf_9 at h
  refine r_iload_n C 3 d_Ta_sureOf_9 rfl rfl ?_
  refine r_aload_n C 0 d_Ta_sureOf_10 rfl rfl ?_
  refine q_Ta_9 C d_Ta_sureOf_11 ?_
  refine r_iload_n C 1 d_Ta_sureOf_14 rfl rfl ?_
  obtain ⟨hi_1, h⟩ := ck_some h
  refine r_iald C hi_1 d_Ta_sureOf_15 ?_
  refine r_icmp_ge C (tgt := 36) d_Ta_sureOf_16 (by decide) (fun hc_2 => ?_) (fun hc_2 => ?_)
  · rw [if_pos hc_2] at h
    refine r_iload_n C 2 d_Ta_sureOf_36 rfl rfl ?_
    cases h
    exact hR _ _ d_Ta_sureOf_37
  · rw [if_neg hc_2] at h
    refine r_iload_n C 2 d_Ta_sureOf_19 rfl rfl ?_
    refine r_aload_n C 0 d_Ta_sureOf_20 rfl rfl ?_
    refine r_iload_n C 1 d_Ta_sureOf_21 rfl rfl ?_
    refine r_iload_n C 3 d_Ta_sureOf_22 rfl rfl ?_
    obtain ⟨r_3, er_3, h⟩ := bind_some h
    refine r_callV C (As := [.int x1, .int x3]) (rest := [.int x2]) (st1 := [.int r_3, .int x2]) (c_Ta_leastOf X.1.2.1 σ x1 x3 er_3) k_Ta_leastOf m_344 (by decide) cel_Ta rfl rfl rfl rfl (Nat.le_of_ble_eq_true rfl) ⟨Nat.le_of_ble_eq_true rfl, Nat.le_of_ble_eq_true rfl⟩ d_Ta_sureOf_23 rfl ?_
    obtain ⟨r_4, er_4, h⟩ := bind_some h
    refine r_callS C (As := [.int x2, .int r_3]) (rest := []) (st1 := [.int r_4]) (c_Ma_max X.1.2.1 σ x2 r_3 er_4) k_Ma_max m_348 rfl rfl rfl (Nat.le_of_ble_eq_true rfl) ⟨Nat.le_of_ble_eq_true rfl, Nat.le_of_ble_eq_true rfl⟩ d_Ta_sureOf_26 rfl ?_
    refine r_istore_n C (lv' := [(2, .int r_4), (0, .ref (gA X 16)), (1, .int x1), (3, .int x3)]) d_Ta_sureOf_29 rfl (by decide) rfl rfl ?_
    obtain ⟨x3_5, ex3_5, h⟩ := bnd_some h
    refine r_iinc C 3 (lv' := [(3, .int x3_5), (2, .int r_4), (0, .ref (gA X 16)), (1, .int x1)]) d_Ta_sureOf_30 rfl (by rw [ex3_5]; rfl) (by decide) rfl ?_
    refine r_goto C (tgt := 9) d_Ta_sureOf_33 (by decide) ?_
    refine r_sub [2, 3, 1, 0] (lv' := [(0, .ref (gA X 16)), (1, .int x1), (2, .int r_4), (3, .int x3_5)]) rfl ?_
    exact hk9 _ h
set_option maxHeartbeats 4000000 in
set_option maxRecDepth 100000 in
theorem u_Ta_sureOf_9 {X : gX} {r : Int32} {σ : gS} (C : gC X b_Ta_sureOf_c R_Ta 4 2 47) (hR : ∀ pc lv, decode b_Ta_sureOf_c pc = .ok (.ireturn, 1) → G X pc lv [.int r] σ)  (x : Int32 × Int32 × Int32) (h : l_Ta_sureOf_9 σ x = some r) : G X 9 [(0, .ref (gA X 16)), (1, .int x.1), (2, .int x.2.1), (3, .int x.2.2)] [] σ :=
  lpF_ind (P := fun x => G X 9 [(0, .ref (gA X 16)), (1, .int x.1), (2, .int x.2.1), (3, .int x.2.2)] [] σ) (fun k hk x h => t_Ta_sureOf_9 C hR hk x.1 x.2.1 x.2.2 h) gF x h
set_option maxHeartbeats 4000000 in
set_option maxRecDepth 100000 in
theorem t_Ta_sureOf_0 {X : gX} {r : Int32} {σ : gS} (C : gC X b_Ta_sureOf_c R_Ta 4 2 47) (hR : ∀ pc lv, decode b_Ta_sureOf_c pc = .ok (.ireturn, 1) → G X pc lv [.int r] σ) (x1 : Int32) (h : b_Ta_sureOf_0 σ x1 = some r) : G X 0 [(0, .ref (gA X 16)), (1, .int x1)] [] σ := by
  unfold b_Ta_sureOf_0 at h
  refine r_aload_n C 0 d_Ta_sureOf_0 rfl rfl ?_
  refine r_iload_n C 1 d_Ta_sureOf_1 rfl rfl ?_
  refine r_iconst C (v := 0) d_Ta_sureOf_2 (by decide) ?_
  obtain ⟨r_1, er_1, h⟩ := bind_some h
  refine r_callV C (As := [.int x1, .int 0]) (rest := []) (st1 := [.int r_1]) (c_Ta_leastOf X.1.2.1 σ x1 0 er_1) k_Ta_leastOf m_344 (by decide) cel_Ta rfl rfl rfl rfl (Nat.le_of_ble_eq_true rfl) ⟨Nat.le_of_ble_eq_true rfl, Nat.le_of_ble_eq_true rfl⟩ d_Ta_sureOf_3 rfl ?_
  refine r_istore_n C (lv' := [(2, .int r_1), (0, .ref (gA X 16)), (1, .int x1)]) d_Ta_sureOf_6 rfl (by decide) rfl rfl ?_
  refine r_iconst C (v := 1) d_Ta_sureOf_7 (by decide) ?_
  refine r_istore_n C (lv' := [(3, .int 1), (2, .int r_1), (0, .ref (gA X 16)), (1, .int x1)]) d_Ta_sureOf_8 rfl (by decide) rfl rfl ?_
  refine r_sub [2, 3, 1, 0] (lv' := [(0, .ref (gA X 16)), (1, .int x1), (2, .int r_1), (3, .int 1)]) rfl ?_
  exact u_Ta_sureOf_9 C hR  (x1, r_1, 1) h
set_option maxHeartbeats 4000000 in
set_option maxRecDepth 100000 in
theorem c_Ta_sureOf (l : Launch) (σ : gS) (x1 : Int32) {r : Int32} (h : f_Ta_sureOf σ x1 = some r) : gMet l y_Ta_sureOf b_Ta_sureOf_c 4 (some .int) 2 47 (fun a => [.ref (a 16), .int x1]) σ (some (.int r)) σ := by
  refine gMet_i (by decide +kernel) (fun a => Nat.le_of_ble_eq_true rfl) (fun X _ C hR => ?_)
  refine r_sub [0, 1] (lv' := [(0, .ref (gA X 16)), (1, .int x1)]) rfl ?_
  exact t_Ta_sureOf_0 C hR x1 h
theorem d_Ga_sure_0 : decode b_Ga_sure_c 0 = .ok (.aload_n 0, 1) := by decide +kernel
theorem d_Ga_sure_1 : decode b_Ga_sure_c 1 = .ok (.invokevirtual 81, 3) := by decide +kernel
theorem d_Ga_sure_4 : decode b_Ga_sure_c 4 = .ok (.ifCond .ne 10, 3) := by decide +kernel
theorem d_Ga_sure_7 : decode b_Ga_sure_c 7 = .ok (.iload_n 1, 1) := by decide +kernel
theorem d_Ga_sure_8 : decode b_Ga_sure_c 8 = .ok (.invokestatic 52, 3) := by decide +kernel
theorem d_Ga_sure_11 : decode b_Ga_sure_c 11 = .ok (.ifCond .ne 6, 3) := by decide +kernel
theorem d_Ga_sure_14 : decode b_Ga_sure_c 14 = .ok (.ldc 85, 2) := by decide +kernel
theorem d_Ga_sure_16 : decode b_Ga_sure_c 16 = .ok (.ireturn, 1) := by decide +kernel
theorem d_Ga_sure_17 : decode b_Ga_sure_c 17 = .ok (.aload_n 0, 1) := by decide +kernel
theorem d_Ga_sure_18 : decode b_Ga_sure_c 18 = .ok (.getfield 21, 3) := by decide +kernel
theorem d_Ga_sure_21 : decode b_Ga_sure_c 21 = .ok (.invokevirtual 118, 3) := by decide +kernel
theorem d_Ga_sure_24 : decode b_Ga_sure_c 24 = .ok (.aload_n 0, 1) := by decide +kernel
theorem d_Ga_sure_25 : decode b_Ga_sure_c 25 = .ok (.getfield 21, 3) := by decide +kernel
theorem d_Ga_sure_28 : decode b_Ga_sure_c 28 = .ok (.iload_n 1, 1) := by decide +kernel
theorem d_Ga_sure_29 : decode b_Ga_sure_c 29 = .ok (.invokevirtual 185, 3) := by decide +kernel
theorem d_Ga_sure_32 : decode b_Ga_sure_c 32 = .ok (.ireturn, 1) := by decide +kernel
/-! GameRows.sure(I)I -/
set_option maxHeartbeats 4000000 in
set_option maxRecDepth 100000 in
theorem t_Ga_sure_0 {X : gX} {r : (Int32 × gS)} (C : gC X b_Ga_sure_c R_Ga 2 5 115) (hR : ∀ pc lv, decode b_Ga_sure_c pc = .ok (.ireturn, 1) → G X pc lv [.int r.1] r.2) (x1 : Int32) (σ : gS) (h : b_Ga_sure_0 x1 σ = some r) : G X 0 [(0, .ref (gA X 0)), (1, .int x1)] [] σ := by
  unfold b_Ga_sure_0 at h
  refine r_aload_n C 0 d_Ga_sure_0 rfl rfl ?_
  obtain ⟨r_1, er_1, h⟩ := bind_some h
  refine r_callV C (As := []) (rest := []) (st1 := [.int r_1]) (c_Ga_isEmpty X.1.2.1 σ  er_1) k_Ga_isEmpty m_283 (by decide) cel_Ga rfl rfl rfl rfl (Nat.le_of_ble_eq_true rfl) ⟨Nat.le_of_ble_eq_true rfl, Nat.le_of_ble_eq_true rfl⟩ d_Ga_sure_1 rfl ?_
  refine r_if_ne C (tgt := 14) d_Ga_sure_4 (by decide) (fun hc_2 => ?_) (fun hc_2 => ?_)
  · rw [if_neg hc_2] at h
    refine r_ldc C (v := (-1000000)) m_287 d_Ga_sure_14 ?_
    cases h
    exact hR _ _ d_Ga_sure_16
  · rw [if_pos hc_2] at h
    refine r_iload_n C 1 d_Ga_sure_7 rfl rfl ?_
    obtain ⟨r_3, er_3, h⟩ := bind_some h
    refine r_callS C (As := [.int x1]) (rest := []) (st1 := [.int r_3]) (c_Ga_isPlayer X.1.2.1 σ x1 er_3) k_Ga_isPlayer m_12 rfl rfl rfl (Nat.le_of_ble_eq_true rfl) ⟨Nat.le_of_ble_eq_true rfl, Nat.le_of_ble_eq_true rfl⟩ d_Ga_sure_8 rfl ?_
    refine r_if_ne C (tgt := 17) d_Ga_sure_11 (by decide) (fun hc_4 => ?_) (fun hc_4 => ?_)
    · rw [if_neg hc_4] at h
      refine r_aload_n C 0 d_Ga_sure_17 rfl rfl ?_
      refine q_Ga_21 C d_Ga_sure_18 ?_
      obtain ⟨r_5, er_5, h⟩ := bind_some h
      refine r_callV C (As := []) (rest := []) (st1 := []) (c_Ta_fillWhole X.1.2.1 σ  er_5) k_Ta_fillWhole m_270 (by decide) cel_Ta rfl rfl rfl rfl (Nat.le_of_ble_eq_true rfl) ⟨Nat.le_of_ble_eq_true rfl, Nat.le_of_ble_eq_true rfl⟩ d_Ga_sure_21 rfl ?_
      refine r_aload_n C 0 d_Ga_sure_24 rfl rfl ?_
      refine q_Ga_21 C d_Ga_sure_25 ?_
      refine r_iload_n C 1 d_Ga_sure_28 rfl rfl ?_
      obtain ⟨r_6, er_6, h⟩ := bind_some h
      refine r_callV C (As := [.int x1]) (rest := []) (st1 := [.int r_6]) (c_Ta_sureOf X.1.2.1 r_5 x1 er_6) k_Ta_sureOf m_349 (by decide) cel_Ta rfl rfl rfl rfl (Nat.le_of_ble_eq_true rfl) ⟨Nat.le_of_ble_eq_true rfl, Nat.le_of_ble_eq_true rfl⟩ d_Ga_sure_29 rfl ?_
      cases h
      exact hR _ _ d_Ga_sure_32
    · rw [if_pos hc_4] at h
      refine r_ldc C (v := (-1000000)) m_287 d_Ga_sure_14 ?_
      cases h
      exact hR _ _ d_Ga_sure_16
set_option maxHeartbeats 4000000 in
set_option maxRecDepth 100000 in
theorem c_Ga_sure (l : Launch) (σ : gS) (x1 : Int32) {r : (Int32 × gS)} (h : f_Ga_sure σ x1 = some r) : gMet l y_Ga_sure b_Ga_sure_c 2 (some .int) 5 115 (fun a => [.ref (a 0), .int x1]) σ (some (.int r.1)) r.2 := by
  refine gMet_i (by decide +kernel) (fun a => Nat.le_of_ble_eq_true rfl) (fun X _ C hR => ?_)
  refine r_sub [0, 1] (lv' := [(0, .ref (gA X 0)), (1, .int x1)]) rfl ?_
  exact t_Ga_sure_0 C hR x1 σ h
theorem d_Fo_actTo_0 : decode b_Fo_actTo_c 0 = .ok (.iconst 0, 1) := by decide +kernel
theorem d_Fo_actTo_1 : decode b_Fo_actTo_c 1 = .ok (.istore_n 3, 1) := by decide +kernel
theorem d_Fo_actTo_2 : decode b_Fo_actTo_c 2 = .ok (.iconst 0, 1) := by decide +kernel
theorem d_Fo_actTo_3 : decode b_Fo_actTo_c 3 = .ok (.istore 4, 2) := by decide +kernel
theorem d_Fo_actTo_5 : decode b_Fo_actTo_c 5 = .ok (.iload 4, 2) := by decide +kernel
theorem d_Fo_actTo_7 : decode b_Fo_actTo_c 7 = .ok (.aload_n 0, 1) := by decide +kernel
theorem d_Fo_actTo_8 : decode b_Fo_actTo_c 8 = .ok (.getfield 40, 3) := by decide +kernel
theorem d_Fo_actTo_11 : decode b_Fo_actTo_c 11 = .ok (.iload_n 1, 1) := by decide +kernel
theorem d_Fo_actTo_12 : decode b_Fo_actTo_c 12 = .ok (.iaload, 1) := by decide +kernel
theorem d_Fo_actTo_13 : decode b_Fo_actTo_c 13 = .ok (.if_icmp .ge 23, 3) := by decide +kernel
theorem d_Fo_actTo_16 : decode b_Fo_actTo_c 16 = .ok (.aload_n 0, 1) := by decide +kernel
theorem d_Fo_actTo_17 : decode b_Fo_actTo_c 17 = .ok (.iload_n 1, 1) := by decide +kernel
theorem d_Fo_actTo_18 : decode b_Fo_actTo_c 18 = .ok (.iload 4, 2) := by decide +kernel
theorem d_Fo_actTo_20 : decode b_Fo_actTo_c 20 = .ok (.invokevirtual 136, 3) := by decide +kernel
theorem d_Fo_actTo_23 : decode b_Fo_actTo_c 23 = .ok (.iload_n 2, 1) := by decide +kernel
theorem d_Fo_actTo_24 : decode b_Fo_actTo_c 24 = .ok (.if_icmp .ne 6, 3) := by decide +kernel
theorem d_Fo_actTo_27 : decode b_Fo_actTo_c 27 = .ok (.iload 4, 2) := by decide +kernel
theorem d_Fo_actTo_29 : decode b_Fo_actTo_c 29 = .ok (.istore_n 3, 1) := by decide +kernel
theorem d_Fo_actTo_30 : decode b_Fo_actTo_c 30 = .ok (.iinc 4 1, 3) := by decide +kernel
theorem d_Fo_actTo_33 : decode b_Fo_actTo_c 33 = .ok (.goto (-28), 3) := by decide +kernel
theorem d_Fo_actTo_36 : decode b_Fo_actTo_c 36 = .ok (.iload_n 3, 1) := by decide +kernel
theorem d_Fo_actTo_37 : decode b_Fo_actTo_c 37 = .ok (.ireturn, 1) := by decide +kernel
/-! GameRows$Forest.actTo(II)I -/
set_option maxHeartbeats 4000000 in
set_option maxRecDepth 100000 in
theorem t_Fo_actTo_30 {X : gX} {r : Int32} {σ : gS} (C : gC X b_Fo_actTo_c R_Fo 5 1 22) (hR : ∀ pc lv, decode b_Fo_actTo_c pc = .ok (.ireturn, 1) → G X pc lv [.int r] σ) {k5 : Int32 × Int32 × Int32 × Int32 → Option Int32}  (hk5 : ∀ x, k5 x = some r → G X 5 [(0, .ref (gA X 1)), (1, .int x.1), (2, .int x.2.1), (3, .int x.2.2.1), (4, .int x.2.2.2)] [] σ) (x1 : Int32) (x2 : Int32) (x3 : Int32) (x4 : Int32) (h : b_Fo_actTo_30 σ k5 x1 x2 x3 x4 = some r) : G X 30 [(0, .ref (gA X 1)), (1, .int x1), (2, .int x2), (3, .int x3), (4, .int x4)] [] σ := by
  unfold b_Fo_actTo_30 at h
  obtain ⟨x4_1, ex4_1, h⟩ := bnd_some h
  refine r_iinc C 4 (lv' := [(4, .int x4_1), (0, .ref (gA X 1)), (1, .int x1), (2, .int x2), (3, .int x3)]) d_Fo_actTo_30 rfl (by rw [ex4_1]; rfl) (by decide) rfl ?_
  refine r_goto C (tgt := 5) d_Fo_actTo_33 (by decide) ?_
  refine r_sub [1, 2, 3, 4, 0] (lv' := [(0, .ref (gA X 1)), (1, .int x1), (2, .int x2), (3, .int x3), (4, .int x4_1)]) rfl ?_
  exact hk5 _ h
set_option maxHeartbeats 4000000 in
set_option maxRecDepth 100000 in
theorem t_Fo_actTo_5 {X : gX} {r : Int32} {σ : gS} (C : gC X b_Fo_actTo_c R_Fo 5 1 22) (hR : ∀ pc lv, decode b_Fo_actTo_c pc = .ok (.ireturn, 1) → G X pc lv [.int r] σ) {k5 : Int32 × Int32 × Int32 × Int32 → Option Int32}  (hk5 : ∀ x, k5 x = some r → G X 5 [(0, .ref (gA X 1)), (1, .int x.1), (2, .int x.2.1), (3, .int x.2.2.1), (4, .int x.2.2.2)] [] σ) (x1 : Int32) (x2 : Int32) (x3 : Int32) (x4 : Int32) (h : b_Fo_actTo_5 σ k5 x1 x2 x3 x4 = some r) : G X 5 [(0, .ref (gA X 1)), (1, .int x1), (2, .int x2), (3, .int x3), (4, .int x4)] [] σ := by
  unfold b_Fo_actTo_5 at h
  refine r_iload C 4 d_Fo_actTo_5 rfl ?_
  refine r_aload_n C 0 d_Fo_actTo_7 rfl rfl ?_
  refine q_Fo_40 C d_Fo_actTo_8 ?_
  refine r_iload_n C 1 d_Fo_actTo_11 rfl rfl ?_
  obtain ⟨hi_1, h⟩ := ck_some h
  refine r_iald C hi_1 d_Fo_actTo_12 ?_
  refine r_icmp_ge C (tgt := 36) d_Fo_actTo_13 (by decide) (fun hc_2 => ?_) (fun hc_2 => ?_)
  · rw [if_pos hc_2] at h
    refine r_iload_n C 3 d_Fo_actTo_36 rfl rfl ?_
    cases h
    exact hR _ _ d_Fo_actTo_37
  · rw [if_neg hc_2] at h
    refine r_aload_n C 0 d_Fo_actTo_16 rfl rfl ?_
    refine r_iload_n C 1 d_Fo_actTo_17 rfl rfl ?_
    refine r_iload C 4 d_Fo_actTo_18 rfl ?_
    obtain ⟨r_3, er_3, h⟩ := bind_some h
    refine r_callV C (As := [.int x1, .int x4]) (rest := []) (st1 := [.int r_3]) (c_Fo_childAt X.1.2.1 σ x1 x4 er_3) k_Fo_childAt m_353 (by decide) cel_Fo rfl rfl rfl rfl (Nat.le_of_ble_eq_true rfl) ⟨Nat.le_of_ble_eq_true rfl, Nat.le_of_ble_eq_true rfl⟩ d_Fo_actTo_20 rfl ?_
    refine r_iload_n C 2 d_Fo_actTo_23 rfl rfl ?_
    refine r_icmp_ne C (tgt := 30) d_Fo_actTo_24 (by decide) (fun hc_4 => ?_) (fun hc_4 => ?_)
    · rw [if_neg hc_4] at h
      exact t_Fo_actTo_30 C hR hk5 x1 x2 x3 x4 h
    · rw [if_pos hc_4] at h
      refine r_iload C 4 d_Fo_actTo_27 rfl ?_
      refine r_istore_n C (lv' := [(3, .int x4), (0, .ref (gA X 1)), (1, .int x1), (2, .int x2), (4, .int x4)]) d_Fo_actTo_29 rfl (by decide) rfl rfl ?_
      refine r_sub [1, 2, 3, 0, 4] (lv' := [(0, .ref (gA X 1)), (1, .int x1), (2, .int x2), (3, .int x4), (4, .int x4)]) rfl ?_
      exact t_Fo_actTo_30 C hR hk5 x1 x2 x4 x4 h
set_option maxHeartbeats 4000000 in
set_option maxRecDepth 100000 in
theorem u_Fo_actTo_5 {X : gX} {r : Int32} {σ : gS} (C : gC X b_Fo_actTo_c R_Fo 5 1 22) (hR : ∀ pc lv, decode b_Fo_actTo_c pc = .ok (.ireturn, 1) → G X pc lv [.int r] σ)  (x : Int32 × Int32 × Int32 × Int32) (h : l_Fo_actTo_5 σ x = some r) : G X 5 [(0, .ref (gA X 1)), (1, .int x.1), (2, .int x.2.1), (3, .int x.2.2.1), (4, .int x.2.2.2)] [] σ :=
  lpF_ind (P := fun x => G X 5 [(0, .ref (gA X 1)), (1, .int x.1), (2, .int x.2.1), (3, .int x.2.2.1), (4, .int x.2.2.2)] [] σ) (fun k hk x h => t_Fo_actTo_5 C hR hk x.1 x.2.1 x.2.2.1 x.2.2.2 h) gF x h
set_option maxHeartbeats 4000000 in
set_option maxRecDepth 100000 in
theorem t_Fo_actTo_0 {X : gX} {r : Int32} {σ : gS} (C : gC X b_Fo_actTo_c R_Fo 5 1 22) (hR : ∀ pc lv, decode b_Fo_actTo_c pc = .ok (.ireturn, 1) → G X pc lv [.int r] σ) (x1 : Int32) (x2 : Int32) (h : b_Fo_actTo_0 σ x1 x2 = some r) : G X 0 [(0, .ref (gA X 1)), (1, .int x1), (2, .int x2)] [] σ := by
  unfold b_Fo_actTo_0 at h
  refine r_iconst C (v := 0) d_Fo_actTo_0 (by decide) ?_
  refine r_istore_n C (lv' := [(3, .int 0), (0, .ref (gA X 1)), (1, .int x1), (2, .int x2)]) d_Fo_actTo_1 rfl (by decide) rfl rfl ?_
  refine r_iconst C (v := 0) d_Fo_actTo_2 (by decide) ?_
  refine r_istore C (lv' := [(4, .int 0), (3, .int 0), (0, .ref (gA X 1)), (1, .int x1), (2, .int x2)]) d_Fo_actTo_3 (by decide) rfl rfl ?_
  refine r_sub [2, 3, 4, 1, 0] (lv' := [(0, .ref (gA X 1)), (1, .int x1), (2, .int x2), (3, .int 0), (4, .int 0)]) rfl ?_
  exact u_Fo_actTo_5 C hR  (x1, x2, 0, 0) h
set_option maxHeartbeats 4000000 in
set_option maxRecDepth 100000 in
theorem c_Fo_actTo (l : Launch) (σ : gS) (x1 : Int32) (x2 : Int32) {r : Int32} (h : f_Fo_actTo σ x1 x2 = some r) : gMet l y_Fo_actTo b_Fo_actTo_c 5 (some .int) 1 22 (fun a => [.ref (a 1), .int x1, .int x2]) σ (some (.int r)) σ := by
  refine gMet_i (by decide +kernel) (fun a => Nat.le_of_ble_eq_true rfl) (fun X _ C hR => ?_)
  refine r_sub [0, 1, 2] (lv' := [(0, .ref (gA X 1)), (1, .int x1), (2, .int x2)]) rfl ?_
  exact t_Fo_actTo_0 C hR x1 x2 h
theorem d_Fo_wayTo_0 : decode b_Fo_wayTo_c 0 = .ok (.lconst 0, 1) := by decide +kernel
theorem d_Fo_wayTo_1 : decode b_Fo_wayTo_c 1 = .ok (.lstore_n 3, 1) := by decide +kernel
theorem d_Fo_wayTo_2 : decode b_Fo_wayTo_c 2 = .ok (.iload_n 2, 1) := by decide +kernel
theorem d_Fo_wayTo_3 : decode b_Fo_wayTo_c 3 = .ok (.istore 5, 2) := by decide +kernel
theorem d_Fo_wayTo_5 : decode b_Fo_wayTo_c 5 = .ok (.aload_n 0, 1) := by decide +kernel
theorem d_Fo_wayTo_6 : decode b_Fo_wayTo_c 6 = .ok (.getfield 28, 3) := by decide +kernel
theorem d_Fo_wayTo_9 : decode b_Fo_wayTo_c 9 = .ok (.iload_n 2, 1) := by decide +kernel
theorem d_Fo_wayTo_10 : decode b_Fo_wayTo_c 10 = .ok (.iaload, 1) := by decide +kernel
theorem d_Fo_wayTo_11 : decode b_Fo_wayTo_c 11 = .ok (.istore 6, 2) := by decide +kernel
theorem d_Fo_wayTo_13 : decode b_Fo_wayTo_c 13 = .ok (.iconst 0, 1) := by decide +kernel
theorem d_Fo_wayTo_14 : decode b_Fo_wayTo_c 14 = .ok (.istore 7, 2) := by decide +kernel
theorem d_Fo_wayTo_16 : decode b_Fo_wayTo_c 16 = .ok (.iload 7, 2) := by decide +kernel
theorem d_Fo_wayTo_18 : decode b_Fo_wayTo_c 18 = .ok (.bipush 8, 2) := by decide +kernel
theorem d_Fo_wayTo_20 : decode b_Fo_wayTo_c 20 = .ok (.if_icmp .ge 78, 3) := by decide +kernel
theorem d_Fo_wayTo_23 : decode b_Fo_wayTo_c 23 = .ok (.iload 6, 2) := by decide +kernel
theorem d_Fo_wayTo_25 : decode b_Fo_wayTo_c 25 = .ok (.iconst (-1), 1) := by decide +kernel
theorem d_Fo_wayTo_26 : decode b_Fo_wayTo_c 26 = .ok (.if_icmp .eq 72, 3) := by decide +kernel
theorem d_Fo_wayTo_29 : decode b_Fo_wayTo_c 29 = .ok (.aload_n 0, 1) := by decide +kernel
theorem d_Fo_wayTo_30 : decode b_Fo_wayTo_c 30 = .ok (.getfield 25, 3) := by decide +kernel
theorem d_Fo_wayTo_33 : decode b_Fo_wayTo_c 33 = .ok (.iload 6, 2) := by decide +kernel
theorem d_Fo_wayTo_35 : decode b_Fo_wayTo_c 35 = .ok (.iaload, 1) := by decide +kernel
theorem d_Fo_wayTo_36 : decode b_Fo_wayTo_c 36 = .ok (.istore 8, 2) := by decide +kernel
theorem d_Fo_wayTo_38 : decode b_Fo_wayTo_c 38 = .ok (.iload 8, 2) := by decide +kernel
theorem d_Fo_wayTo_40 : decode b_Fo_wayTo_c 40 = .ok (.iconst (-1), 1) := by decide +kernel
theorem d_Fo_wayTo_41 : decode b_Fo_wayTo_c 41 = .ok (.if_icmp .eq 38, 3) := by decide +kernel
theorem d_Fo_wayTo_44 : decode b_Fo_wayTo_c 44 = .ok (.aload_n 0, 1) := by decide +kernel
theorem d_Fo_wayTo_45 : decode b_Fo_wayTo_c 45 = .ok (.getfield 56, 3) := by decide +kernel
theorem d_Fo_wayTo_48 : decode b_Fo_wayTo_c 48 = .ok (.iload 8, 2) := by decide +kernel
theorem d_Fo_wayTo_50 : decode b_Fo_wayTo_c 50 = .ok (.iaload, 1) := by decide +kernel
theorem d_Fo_wayTo_51 : decode b_Fo_wayTo_c 51 = .ok (.iload_n 1, 1) := by decide +kernel
theorem d_Fo_wayTo_52 : decode b_Fo_wayTo_c 52 = .ok (.if_icmp .ne 27, 3) := by decide +kernel
theorem d_Fo_wayTo_55 : decode b_Fo_wayTo_c 55 = .ok (.lload_n 3, 1) := by decide +kernel
theorem d_Fo_wayTo_56 : decode b_Fo_wayTo_c 56 = .ok (.ldc2_w 131, 3) := by decide +kernel
theorem d_Fo_wayTo_59 : decode b_Fo_wayTo_c 59 = .ok (.lmul, 1) := by decide +kernel
theorem d_Fo_wayTo_60 : decode b_Fo_wayTo_c 60 = .ok (.lconst 1, 1) := by decide +kernel
theorem d_Fo_wayTo_61 : decode b_Fo_wayTo_c 61 = .ok (.ladd, 1) := by decide +kernel
theorem d_Fo_wayTo_62 : decode b_Fo_wayTo_c 62 = .ok (.iconst 3, 1) := by decide +kernel
theorem d_Fo_wayTo_63 : decode b_Fo_wayTo_c 63 = .ok (.iload 8, 2) := by decide +kernel
theorem d_Fo_wayTo_65 : decode b_Fo_wayTo_c 65 = .ok (.imul, 1) := by decide +kernel
theorem d_Fo_wayTo_66 : decode b_Fo_wayTo_c 66 = .ok (.i2l, 1) := by decide +kernel
theorem d_Fo_wayTo_67 : decode b_Fo_wayTo_c 67 = .ok (.ladd, 1) := by decide +kernel
theorem d_Fo_wayTo_68 : decode b_Fo_wayTo_c 68 = .ok (.aload_n 0, 1) := by decide +kernel
theorem d_Fo_wayTo_69 : decode b_Fo_wayTo_c 69 = .ok (.iload 6, 2) := by decide +kernel
theorem d_Fo_wayTo_71 : decode b_Fo_wayTo_c 71 = .ok (.iload 5, 2) := by decide +kernel
theorem d_Fo_wayTo_73 : decode b_Fo_wayTo_c 73 = .ok (.invokevirtual 133, 3) := by decide +kernel
theorem d_Fo_wayTo_76 : decode b_Fo_wayTo_c 76 = .ok (.i2l, 1) := by decide +kernel
theorem d_Fo_wayTo_77 : decode b_Fo_wayTo_c 77 = .ok (.ladd, 1) := by decide +kernel
theorem d_Fo_wayTo_78 : decode b_Fo_wayTo_c 78 = .ok (.lstore_n 3, 1) := by decide +kernel
theorem d_Fo_wayTo_79 : decode b_Fo_wayTo_c 79 = .ok (.iload 6, 2) := by decide +kernel
theorem d_Fo_wayTo_81 : decode b_Fo_wayTo_c 81 = .ok (.istore 5, 2) := by decide +kernel
theorem d_Fo_wayTo_83 : decode b_Fo_wayTo_c 83 = .ok (.aload_n 0, 1) := by decide +kernel
theorem d_Fo_wayTo_84 : decode b_Fo_wayTo_c 84 = .ok (.getfield 28, 3) := by decide +kernel
theorem d_Fo_wayTo_87 : decode b_Fo_wayTo_c 87 = .ok (.iload 6, 2) := by decide +kernel
theorem d_Fo_wayTo_89 : decode b_Fo_wayTo_c 89 = .ok (.iaload, 1) := by decide +kernel
theorem d_Fo_wayTo_90 : decode b_Fo_wayTo_c 90 = .ok (.istore 6, 2) := by decide +kernel
theorem d_Fo_wayTo_92 : decode b_Fo_wayTo_c 92 = .ok (.iinc 7 1, 3) := by decide +kernel
theorem d_Fo_wayTo_95 : decode b_Fo_wayTo_c 95 = .ok (.goto (-79), 3) := by decide +kernel
theorem d_Fo_wayTo_98 : decode b_Fo_wayTo_c 98 = .ok (.lload_n 3, 1) := by decide +kernel
theorem d_Fo_wayTo_99 : decode b_Fo_wayTo_c 99 = .ok (.lreturn, 1) := by decide +kernel
/-! GameRows$Forest.wayTo(II)J -/
set_option maxHeartbeats 4000000 in
set_option maxRecDepth 100000 in
theorem t_Fo_wayTo_79 {X : gX} {r : Int64} {σ : gS} (C : gC X b_Fo_wayTo_c R_Fo 9 2 46) (hR : ∀ pc lv, decode b_Fo_wayTo_c pc = .ok (.lreturn, 1) → G X pc lv [.long r] σ) {k16 : Int32 × Int64 × Int32 × Int32 × Int32 → Option Int64}  (hk16 : ∀ x, k16 x = some r → G X 16 [(0, .ref (gA X 1)), (1, .int x.1), (3, .long x.2.1), (5, .int x.2.2.1), (6, .int x.2.2.2.1), (7, .int x.2.2.2.2)] [] σ) (x1 : Int32) (x3 : Int64) (x6 : Int32) (x7 : Int32) (h : b_Fo_wayTo_79 σ k16 x1 x3 x6 x7 = some r) : G X 79 [(0, .ref (gA X 1)), (1, .int x1), (3, .long x3), (6, .int x6), (7, .int x7)] [] σ := by
  unfold b_Fo_wayTo_79 at h
  refine r_iload C 3 d_Fo_wayTo_79 rfl ?_
  refine r_istore C (lv' := [(5, .int x6), (0, .ref (gA X 1)), (1, .int x1), (3, .long x3), (6, .int x6), (7, .int x7)]) d_Fo_wayTo_81 (by decide) rfl rfl ?_
  refine r_aload_n C 1 d_Fo_wayTo_83 rfl rfl ?_
  refine q_Fo_28 C d_Fo_wayTo_84 ?_
  refine r_iload C 4 d_Fo_wayTo_87 rfl ?_
  obtain ⟨hi_1, h⟩ := ck_some h
  refine r_iald C hi_1 d_Fo_wayTo_89 ?_
  obtain ⟨x6_2, ex6_2, h⟩ := bnd_some h
  refine r_istore C (lv' := [(6, .int x6_2), (5, .int x6), (0, .ref (gA X 1)), (1, .int x1), (3, .long x3), (7, .int x7)]) d_Fo_wayTo_90 (by decide) ex6_2 rfl ?_
  obtain ⟨x7_3, ex7_3, h⟩ := bnd_some h
  refine r_iinc C 5 (lv' := [(7, .int x7_3), (6, .int x6_2), (5, .int x6), (0, .ref (gA X 1)), (1, .int x1), (3, .long x3)]) d_Fo_wayTo_92 rfl (by rw [ex7_3]; rfl) (by decide) rfl ?_
  refine r_goto C (tgt := 16) d_Fo_wayTo_95 (by decide) ?_
  refine r_sub [3, 4, 5, 2, 1, 0] (lv' := [(0, .ref (gA X 1)), (1, .int x1), (3, .long x3), (5, .int x6), (6, .int x6_2), (7, .int x7_3)]) rfl ?_
  exact hk16 _ h
set_option maxHeartbeats 4000000 in
set_option maxRecDepth 100000 in
theorem t_Fo_wayTo_16 {X : gX} {r : Int64} {σ : gS} (C : gC X b_Fo_wayTo_c R_Fo 9 2 46) (hR : ∀ pc lv, decode b_Fo_wayTo_c pc = .ok (.lreturn, 1) → G X pc lv [.long r] σ) {k16 : Int32 × Int64 × Int32 × Int32 × Int32 → Option Int64}  (hk16 : ∀ x, k16 x = some r → G X 16 [(0, .ref (gA X 1)), (1, .int x.1), (3, .long x.2.1), (5, .int x.2.2.1), (6, .int x.2.2.2.1), (7, .int x.2.2.2.2)] [] σ) (x1 : Int32) (x3 : Int64) (x5 : Int32) (x6 : Int32) (x7 : Int32) (h : b_Fo_wayTo_16 σ k16 x1 x3 x5 x6 x7 = some r) : G X 16 [(0, .ref (gA X 1)), (1, .int x1), (3, .long x3), (5, .int x5), (6, .int x6), (7, .int x7)] [] σ := by
  unfold b_Fo_wayTo_16 at h
  refine r_iload C 5 d_Fo_wayTo_16 rfl ?_
  refine r_bipush C (v := 8) d_Fo_wayTo_18 (by decide) ?_
  refine r_icmp_ge C (tgt := 98) d_Fo_wayTo_20 (by decide) (fun hc_1 => ?_) (fun hc_1 => ?_)
  · rw [if_pos hc_1] at h
    refine r_lload_n C 2 d_Fo_wayTo_98 rfl rfl ?_
    cases h
    exact hR _ _ d_Fo_wayTo_99
  · rw [if_neg hc_1] at h
    refine r_iload C 4 d_Fo_wayTo_23 rfl ?_
    refine r_iconst C (v := (-1)) d_Fo_wayTo_25 (by decide) ?_
    refine r_icmp_eq C (tgt := 98) d_Fo_wayTo_26 (by decide) (fun hc_2 => ?_) (fun hc_2 => ?_)
    · rw [if_pos hc_2] at h
      refine r_lload_n C 2 d_Fo_wayTo_98 rfl rfl ?_
      cases h
      exact hR _ _ d_Fo_wayTo_99
    · rw [if_neg hc_2] at h
      refine r_aload_n C 0 d_Fo_wayTo_29 rfl rfl ?_
      refine q_Fo_25 C d_Fo_wayTo_30 ?_
      refine r_iload C 4 d_Fo_wayTo_33 rfl ?_
      obtain ⟨hi_3, h⟩ := ck_some h
      refine r_iald C hi_3 d_Fo_wayTo_35 ?_
      obtain ⟨x8_4, ex8_4, h⟩ := bnd_some h
      refine r_istore C (lv' := [(8, .int x8_4), (0, .ref (gA X 1)), (1, .int x1), (3, .long x3), (5, .int x5), (6, .int x6), (7, .int x7)]) d_Fo_wayTo_36 (by decide) ex8_4 rfl ?_
      refine r_iload C 0 d_Fo_wayTo_38 rfl ?_
      refine r_iconst C (v := (-1)) d_Fo_wayTo_40 (by decide) ?_
      refine r_icmp_eq C (tgt := 79) d_Fo_wayTo_41 (by decide) (fun hc_5 => ?_) (fun hc_5 => ?_)
      · rw [if_pos hc_5] at h
        refine r_sub [1, 2, 3, 5, 6] (lv' := [(0, .ref (gA X 1)), (1, .int x1), (3, .long x3), (6, .int x6), (7, .int x7)]) rfl ?_
        exact t_Fo_wayTo_79 C hR hk16 x1 x3 x6 x7 h
      · rw [if_neg hc_5] at h
        refine r_aload_n C 1 d_Fo_wayTo_44 rfl rfl ?_
        refine q_Fo_56 C d_Fo_wayTo_45 ?_
        refine r_iload C 0 d_Fo_wayTo_48 rfl ?_
        obtain ⟨hi_6, h⟩ := ck_some h
        refine r_iald C hi_6 d_Fo_wayTo_50 ?_
        refine r_iload_n C 2 d_Fo_wayTo_51 rfl rfl ?_
        refine r_icmp_ne C (tgt := 79) d_Fo_wayTo_52 (by decide) (fun hc_7 => ?_) (fun hc_7 => ?_)
        · rw [if_neg hc_7] at h
          refine r_sub [1, 2, 3, 5, 6] (lv' := [(0, .ref (gA X 1)), (1, .int x1), (3, .long x3), (6, .int x6), (7, .int x7)]) rfl ?_
          exact t_Fo_wayTo_79 C hR hk16 x1 x3 x6 x7 h
        · rw [if_pos hc_7] at h
          refine r_lload_n C 3 d_Fo_wayTo_55 rfl rfl ?_
          refine r_ldc2 C (v := 31) m_354 d_Fo_wayTo_56 ?_
          refine r_lmul C d_Fo_wayTo_59 ?_
          refine r_lconst C (v := 1) d_Fo_wayTo_60 (by decide) ?_
          refine r_ladd C d_Fo_wayTo_61 ?_
          refine r_iconst C (v := 3) d_Fo_wayTo_62 (by decide) ?_
          refine r_iload C 0 d_Fo_wayTo_63 rfl ?_
          refine r_imul C d_Fo_wayTo_65 ?_
          refine r_i2l C d_Fo_wayTo_66 ?_
          refine r_ladd C d_Fo_wayTo_67 ?_
          refine r_aload_n C 1 d_Fo_wayTo_68 rfl rfl ?_
          refine r_iload C 5 d_Fo_wayTo_69 rfl ?_
          refine r_iload C 4 d_Fo_wayTo_71 rfl ?_
          obtain ⟨r_8, er_8, h⟩ := bind_some h
          refine r_callV C (As := [.int x6, .int x5]) (rest := [.long (((x3 * 31) + 1) + ((3 * x8_4).toInt64))]) (st1 := [.int r_8, .long (((x3 * 31) + 1) + ((3 * x8_4).toInt64))]) (c_Fo_actTo X.1.2.1 σ x6 x5 er_8) k_Fo_actTo m_355 (by decide) cel_Fo rfl rfl rfl rfl (Nat.le_of_ble_eq_true rfl) ⟨Nat.le_of_ble_eq_true rfl, Nat.le_of_ble_eq_true rfl⟩ d_Fo_wayTo_73 rfl ?_
          refine r_i2l C d_Fo_wayTo_76 ?_
          refine r_ladd C d_Fo_wayTo_77 ?_
          obtain ⟨x3_9, ex3_9, h⟩ := bnd_some h
          refine r_lstore_n C (lv' := [(3, .long x3_9), (8, .int x8_4), (0, .ref (gA X 1)), (1, .int x1), (5, .int x5), (6, .int x6), (7, .int x7)]) d_Fo_wayTo_78 rfl (by decide) ex3_9 rfl ?_
          refine r_sub [2, 3, 0, 5, 6] (lv' := [(0, .ref (gA X 1)), (1, .int x1), (3, .long x3_9), (6, .int x6), (7, .int x7)]) rfl ?_
          exact t_Fo_wayTo_79 C hR hk16 x1 x3_9 x6 x7 h
set_option maxHeartbeats 4000000 in
set_option maxRecDepth 100000 in
theorem u_Fo_wayTo_16 {X : gX} {r : Int64} {σ : gS} (C : gC X b_Fo_wayTo_c R_Fo 9 2 46) (hR : ∀ pc lv, decode b_Fo_wayTo_c pc = .ok (.lreturn, 1) → G X pc lv [.long r] σ)  (x : Int32 × Int64 × Int32 × Int32 × Int32) (h : l_Fo_wayTo_16 σ x = some r) : G X 16 [(0, .ref (gA X 1)), (1, .int x.1), (3, .long x.2.1), (5, .int x.2.2.1), (6, .int x.2.2.2.1), (7, .int x.2.2.2.2)] [] σ :=
  lpF_ind (P := fun x => G X 16 [(0, .ref (gA X 1)), (1, .int x.1), (3, .long x.2.1), (5, .int x.2.2.1), (6, .int x.2.2.2.1), (7, .int x.2.2.2.2)] [] σ) (fun k hk x h => t_Fo_wayTo_16 C hR hk x.1 x.2.1 x.2.2.1 x.2.2.2.1 x.2.2.2.2 h) gF x h
set_option maxHeartbeats 4000000 in
set_option maxRecDepth 100000 in
theorem t_Fo_wayTo_0 {X : gX} {r : Int64} {σ : gS} (C : gC X b_Fo_wayTo_c R_Fo 9 2 46) (hR : ∀ pc lv, decode b_Fo_wayTo_c pc = .ok (.lreturn, 1) → G X pc lv [.long r] σ) (x1 : Int32) (x2 : Int32) (h : b_Fo_wayTo_0 σ x1 x2 = some r) : G X 0 [(0, .ref (gA X 1)), (1, .int x1), (2, .int x2)] [] σ := by
  unfold b_Fo_wayTo_0 at h
  refine r_lconst C (v := 0) d_Fo_wayTo_0 (by decide) ?_
  refine r_lstore_n C (lv' := [(3, .long 0), (0, .ref (gA X 1)), (1, .int x1), (2, .int x2)]) d_Fo_wayTo_1 rfl (by decide) rfl rfl ?_
  refine r_iload_n C 3 d_Fo_wayTo_2 rfl rfl ?_
  refine r_istore C (lv' := [(5, .int x2), (3, .long 0), (0, .ref (gA X 1)), (1, .int x1), (2, .int x2)]) d_Fo_wayTo_3 (by decide) rfl rfl ?_
  refine r_aload_n C 2 d_Fo_wayTo_5 rfl rfl ?_
  refine q_Fo_28 C d_Fo_wayTo_6 ?_
  refine r_iload_n C 4 d_Fo_wayTo_9 rfl rfl ?_
  obtain ⟨hi_1, h⟩ := ck_some h
  refine r_iald C hi_1 d_Fo_wayTo_10 ?_
  obtain ⟨x6_2, ex6_2, h⟩ := bnd_some h
  refine r_istore C (lv' := [(6, .int x6_2), (5, .int x2), (3, .long 0), (0, .ref (gA X 1)), (1, .int x1), (2, .int x2)]) d_Fo_wayTo_11 (by decide) ex6_2 rfl ?_
  refine r_iconst C (v := 0) d_Fo_wayTo_13 (by decide) ?_
  refine r_istore C (lv' := [(7, .int 0), (6, .int x6_2), (5, .int x2), (3, .long 0), (0, .ref (gA X 1)), (1, .int x1), (2, .int x2)]) d_Fo_wayTo_14 (by decide) rfl rfl ?_
  refine r_sub [4, 5, 3, 2, 1, 0] (lv' := [(0, .ref (gA X 1)), (1, .int x1), (3, .long 0), (5, .int x2), (6, .int x6_2), (7, .int 0)]) rfl ?_
  exact u_Fo_wayTo_16 C hR  (x1, 0, x2, x6_2, 0) h
set_option maxHeartbeats 4000000 in
set_option maxRecDepth 100000 in
theorem c_Fo_wayTo (l : Launch) (σ : gS) (x1 : Int32) (x2 : Int32) {r : Int64} (h : f_Fo_wayTo σ x1 x2 = some r) : gMet l y_Fo_wayTo b_Fo_wayTo_c 9 (some .long) 2 46 (fun a => [.ref (a 1), .int x1, .int x2]) σ (some (.long r)) σ := by
  refine gMet_l (by decide +kernel) (fun a => Nat.le_of_ble_eq_true rfl) (fun X _ C hR => ?_)
  refine r_sub [0, 1, 2] (lv' := [(0, .ref (gA X 1)), (1, .int x1), (2, .int x2)]) rfl ?_
  exact t_Fo_wayTo_0 C hR x1 x2 h
theorem d_Fo_areWaysAlike_0 : decode b_Fo_areWaysAlike_c 0 = .ok (.aload_n 0, 1) := by decide +kernel
theorem d_Fo_areWaysAlike_1 : decode b_Fo_areWaysAlike_c 1 = .ok (.getfield 59, 3) := by decide +kernel
theorem d_Fo_areWaysAlike_4 : decode b_Fo_areWaysAlike_c 4 = .ok (.iload_n 2, 1) := by decide +kernel
theorem d_Fo_areWaysAlike_5 : decode b_Fo_areWaysAlike_c 5 = .ok (.laload, 1) := by decide +kernel
theorem d_Fo_areWaysAlike_6 : decode b_Fo_areWaysAlike_c 6 = .ok (.aload_n 0, 1) := by decide +kernel
theorem d_Fo_areWaysAlike_7 : decode b_Fo_areWaysAlike_c 7 = .ok (.invokevirtual 114, 3) := by decide +kernel
theorem d_Fo_areWaysAlike_10 : decode b_Fo_areWaysAlike_c 10 = .ok (.land, 1) := by decide +kernel
theorem d_Fo_areWaysAlike_11 : decode b_Fo_areWaysAlike_c 11 = .ok (.lstore_n 3, 1) := by decide +kernel
theorem d_Fo_areWaysAlike_12 : decode b_Fo_areWaysAlike_c 12 = .ok (.ldc2_w 121, 3) := by decide +kernel
theorem d_Fo_areWaysAlike_15 : decode b_Fo_areWaysAlike_c 15 = .ok (.lstore 5, 2) := by decide +kernel
theorem d_Fo_areWaysAlike_17 : decode b_Fo_areWaysAlike_c 17 = .ok (.iconst 0, 1) := by decide +kernel
theorem d_Fo_areWaysAlike_18 : decode b_Fo_areWaysAlike_c 18 = .ok (.istore 7, 2) := by decide +kernel
theorem d_Fo_areWaysAlike_20 : decode b_Fo_areWaysAlike_c 20 = .ok (.iload 7, 2) := by decide +kernel
theorem d_Fo_areWaysAlike_22 : decode b_Fo_areWaysAlike_c 22 = .ok (.aload_n 0, 1) := by decide +kernel
theorem d_Fo_areWaysAlike_23 : decode b_Fo_areWaysAlike_c 23 = .ok (.getfield 9, 3) := by decide +kernel
theorem d_Fo_areWaysAlike_26 : decode b_Fo_areWaysAlike_c 26 = .ok (.if_icmp .ge 50, 3) := by decide +kernel
theorem d_Fo_areWaysAlike_29 : decode b_Fo_areWaysAlike_c 29 = .ok (.lload_n 3, 1) := by decide +kernel
theorem d_Fo_areWaysAlike_30 : decode b_Fo_areWaysAlike_c 30 = .ok (.iload 7, 2) := by decide +kernel
theorem d_Fo_areWaysAlike_32 : decode b_Fo_areWaysAlike_c 32 = .ok (.invokestatic 106, 3) := by decide +kernel
theorem d_Fo_areWaysAlike_35 : decode b_Fo_areWaysAlike_c 35 = .ok (.ifCond .eq 35, 3) := by decide +kernel
theorem d_Fo_areWaysAlike_38 : decode b_Fo_areWaysAlike_c 38 = .ok (.aload_n 0, 1) := by decide +kernel
theorem d_Fo_areWaysAlike_39 : decode b_Fo_areWaysAlike_c 39 = .ok (.iload_n 1, 1) := by decide +kernel
theorem d_Fo_areWaysAlike_40 : decode b_Fo_areWaysAlike_c 40 = .ok (.iload 7, 2) := by decide +kernel
theorem d_Fo_areWaysAlike_42 : decode b_Fo_areWaysAlike_c 42 = .ok (.invokevirtual 127, 3) := by decide +kernel
theorem d_Fo_areWaysAlike_45 : decode b_Fo_areWaysAlike_c 45 = .ok (.lstore 8, 2) := by decide +kernel
theorem d_Fo_areWaysAlike_47 : decode b_Fo_areWaysAlike_c 47 = .ok (.lload 5, 2) := by decide +kernel
theorem d_Fo_areWaysAlike_49 : decode b_Fo_areWaysAlike_c 49 = .ok (.ldc2_w 121, 3) := by decide +kernel
theorem d_Fo_areWaysAlike_52 : decode b_Fo_areWaysAlike_c 52 = .ok (.lcmp, 1) := by decide +kernel
theorem d_Fo_areWaysAlike_53 : decode b_Fo_areWaysAlike_c 53 = .ok (.ifCond .eq 13, 3) := by decide +kernel
theorem d_Fo_areWaysAlike_56 : decode b_Fo_areWaysAlike_c 56 = .ok (.lload 8, 2) := by decide +kernel
theorem d_Fo_areWaysAlike_58 : decode b_Fo_areWaysAlike_c 58 = .ok (.lload 5, 2) := by decide +kernel
theorem d_Fo_areWaysAlike_60 : decode b_Fo_areWaysAlike_c 60 = .ok (.lcmp, 1) := by decide +kernel
theorem d_Fo_areWaysAlike_61 : decode b_Fo_areWaysAlike_c 61 = .ok (.ifCond .eq 5, 3) := by decide +kernel
theorem d_Fo_areWaysAlike_64 : decode b_Fo_areWaysAlike_c 64 = .ok (.iconst 0, 1) := by decide +kernel
theorem d_Fo_areWaysAlike_65 : decode b_Fo_areWaysAlike_c 65 = .ok (.ireturn, 1) := by decide +kernel
theorem d_Fo_areWaysAlike_66 : decode b_Fo_areWaysAlike_c 66 = .ok (.lload 8, 2) := by decide +kernel
theorem d_Fo_areWaysAlike_68 : decode b_Fo_areWaysAlike_c 68 = .ok (.lstore 5, 2) := by decide +kernel
theorem d_Fo_areWaysAlike_70 : decode b_Fo_areWaysAlike_c 70 = .ok (.iinc 7 1, 3) := by decide +kernel
theorem d_Fo_areWaysAlike_73 : decode b_Fo_areWaysAlike_c 73 = .ok (.goto (-53), 3) := by decide +kernel
theorem d_Fo_areWaysAlike_76 : decode b_Fo_areWaysAlike_c 76 = .ok (.iconst 1, 1) := by decide +kernel
theorem d_Fo_areWaysAlike_77 : decode b_Fo_areWaysAlike_c 77 = .ok (.ireturn, 1) := by decide +kernel
/-! GameRows$Forest.areWaysAlike(II)Z -/
set_option maxHeartbeats 4000000 in
set_option maxRecDepth 100000 in
theorem t_Fo_areWaysAlike_70 {X : gX} {r : Int32} {σ : gS} (C : gC X b_Fo_areWaysAlike_c R_Fo 10 3 74) (hR : ∀ pc lv, isB r = true → decode b_Fo_areWaysAlike_c pc = .ok (.ireturn, 1) → G X pc lv [.int r] σ) {k20 : Int32 × Int64 × Int64 × Int32 → Option Int32}  (hk20 : ∀ x, k20 x = some r → G X 20 [(0, .ref (gA X 1)), (1, .int x.1), (3, .long x.2.1), (5, .long x.2.2.1), (7, .int x.2.2.2)] [] σ) (x1 : Int32) (x3 : Int64) (x5 : Int64) (x7 : Int32) (h : b_Fo_areWaysAlike_70 σ k20 x1 x3 x5 x7 = some r) : G X 70 [(0, .ref (gA X 1)), (1, .int x1), (3, .long x3), (5, .long x5), (7, .int x7)] [] σ := by
  unfold b_Fo_areWaysAlike_70 at h
  obtain ⟨x7_1, ex7_1, h⟩ := bnd_some h
  refine r_iinc C 4 (lv' := [(7, .int x7_1), (0, .ref (gA X 1)), (1, .int x1), (3, .long x3), (5, .long x5)]) d_Fo_areWaysAlike_70 rfl (by rw [ex7_1]; rfl) (by decide) rfl ?_
  refine r_goto C (tgt := 20) d_Fo_areWaysAlike_73 (by decide) ?_
  refine r_sub [1, 2, 3, 4, 0] (lv' := [(0, .ref (gA X 1)), (1, .int x1), (3, .long x3), (5, .long x5), (7, .int x7_1)]) rfl ?_
  exact hk20 _ h
set_option maxHeartbeats 4000000 in
set_option maxRecDepth 100000 in
theorem t_Fo_areWaysAlike_66 {X : gX} {r : Int32} {σ : gS} (C : gC X b_Fo_areWaysAlike_c R_Fo 10 3 74) (hR : ∀ pc lv, isB r = true → decode b_Fo_areWaysAlike_c pc = .ok (.ireturn, 1) → G X pc lv [.int r] σ) {k20 : Int32 × Int64 × Int64 × Int32 → Option Int32}  (hk20 : ∀ x, k20 x = some r → G X 20 [(0, .ref (gA X 1)), (1, .int x.1), (3, .long x.2.1), (5, .long x.2.2.1), (7, .int x.2.2.2)] [] σ) (x1 : Int32) (x3 : Int64) (x7 : Int32) (x8 : Int64) (h : b_Fo_areWaysAlike_66 σ k20 x1 x3 x7 x8 = some r) : G X 66 [(0, .ref (gA X 1)), (1, .int x1), (3, .long x3), (7, .int x7), (8, .long x8)] [] σ := by
  unfold b_Fo_areWaysAlike_66 at h
  refine r_lload C 4 d_Fo_areWaysAlike_66 rfl ?_
  refine r_lstore C (lv' := [(5, .long x8), (0, .ref (gA X 1)), (1, .int x1), (3, .long x3), (7, .int x7), (8, .long x8)]) d_Fo_areWaysAlike_68 (by decide) rfl rfl ?_
  refine r_sub [1, 2, 3, 0, 4] (lv' := [(0, .ref (gA X 1)), (1, .int x1), (3, .long x3), (5, .long x8), (7, .int x7)]) rfl ?_
  exact t_Fo_areWaysAlike_70 C hR hk20 x1 x3 x8 x7 h
set_option maxHeartbeats 4000000 in
set_option maxRecDepth 100000 in
theorem t_Fo_areWaysAlike_20 {X : gX} {r : Int32} {σ : gS} (C : gC X b_Fo_areWaysAlike_c R_Fo 10 3 74) (hR : ∀ pc lv, isB r = true → decode b_Fo_areWaysAlike_c pc = .ok (.ireturn, 1) → G X pc lv [.int r] σ) {k20 : Int32 × Int64 × Int64 × Int32 → Option Int32}  (hk20 : ∀ x, k20 x = some r → G X 20 [(0, .ref (gA X 1)), (1, .int x.1), (3, .long x.2.1), (5, .long x.2.2.1), (7, .int x.2.2.2)] [] σ) (x1 : Int32) (x3 : Int64) (x5 : Int64) (x7 : Int32) (h : b_Fo_areWaysAlike_20 σ k20 x1 x3 x5 x7 = some r) : G X 20 [(0, .ref (gA X 1)), (1, .int x1), (3, .long x3), (5, .long x5), (7, .int x7)] [] σ := by
  unfold b_Fo_areWaysAlike_20 at h
  refine r_iload C 4 d_Fo_areWaysAlike_20 rfl ?_
  refine r_aload_n C 0 d_Fo_areWaysAlike_22 rfl rfl ?_
  refine q_Fo_9 C d_Fo_areWaysAlike_23 ?_
  refine r_icmp_ge C (tgt := 76) d_Fo_areWaysAlike_26 (by decide) (fun hc_1 => ?_) (fun hc_1 => ?_)
  · rw [if_pos hc_1] at h
    refine r_iconst C (v := 1) d_Fo_areWaysAlike_76 (by decide) ?_
    obtain ⟨hB, h⟩ := ck_some h
    cases h
    exact hR _ _ hB d_Fo_areWaysAlike_77
  · rw [if_neg hc_1] at h
    refine r_lload_n C 2 d_Fo_areWaysAlike_29 rfl rfl ?_
    refine r_iload C 4 d_Fo_areWaysAlike_30 rfl ?_
    obtain ⟨r_2, er_2, h⟩ := bind_some h
    refine r_callSN C (As := [.long x3, .int x7]) (rest := []) (st1 := [.int r_2]) (c_Ga_hasBit X.1.2.1 σ x3 x7 er_2) k_Ga_hasBit n_Fo_106 rfl rfl rfl (Nat.le_of_ble_eq_true rfl) ⟨Nat.le_of_ble_eq_true rfl, Nat.le_of_ble_eq_true rfl⟩ d_Fo_areWaysAlike_32 rfl ?_
    refine r_if_eq C (tgt := 70) d_Fo_areWaysAlike_35 (by decide) (fun hc_3 => ?_) (fun hc_3 => ?_)
    · rw [if_pos hc_3] at h
      exact t_Fo_areWaysAlike_70 C hR hk20 x1 x3 x5 x7 h
    · rw [if_neg hc_3] at h
      refine r_aload_n C 0 d_Fo_areWaysAlike_38 rfl rfl ?_
      refine r_iload_n C 1 d_Fo_areWaysAlike_39 rfl rfl ?_
      refine r_iload C 4 d_Fo_areWaysAlike_40 rfl ?_
      obtain ⟨r_4, er_4, h⟩ := bind_some h
      refine r_callV C (As := [.int x1, .int x7]) (rest := []) (st1 := [.long r_4]) (c_Fo_wayTo X.1.2.1 σ x1 x7 er_4) k_Fo_wayTo m_359 (by decide) cel_Fo rfl rfl rfl rfl (Nat.le_of_ble_eq_true rfl) ⟨Nat.le_of_ble_eq_true rfl, Nat.le_of_ble_eq_true rfl⟩ d_Fo_areWaysAlike_42 rfl ?_
      refine r_lstore C (lv' := [(8, .long r_4), (0, .ref (gA X 1)), (1, .int x1), (3, .long x3), (5, .long x5), (7, .int x7)]) d_Fo_areWaysAlike_45 (by decide) rfl rfl ?_
      refine r_lload C 4 d_Fo_areWaysAlike_47 rfl ?_
      refine r_ldc2 C (v := (-1)) m_106 d_Fo_areWaysAlike_49 ?_
      refine r_lcmp C d_Fo_areWaysAlike_52 ?_
      refine r_if_eq C (tgt := 66) d_Fo_areWaysAlike_53 (by decide) (fun hc_5 => ?_) (fun hc_5 => ?_)
      · rw [if_pos hc_5] at h
        refine r_sub [1, 2, 3, 5, 0] (lv' := [(0, .ref (gA X 1)), (1, .int x1), (3, .long x3), (7, .int x7), (8, .long r_4)]) rfl ?_
        exact t_Fo_areWaysAlike_66 C hR hk20 x1 x3 x7 r_4 h
      · rw [if_neg hc_5] at h
        refine r_lload C 0 d_Fo_areWaysAlike_56 rfl ?_
        refine r_lload C 4 d_Fo_areWaysAlike_58 rfl ?_
        refine r_lcmp C d_Fo_areWaysAlike_60 ?_
        refine r_if_eq C (tgt := 66) d_Fo_areWaysAlike_61 (by decide) (fun hc_6 => ?_) (fun hc_6 => ?_)
        · rw [if_pos hc_6] at h
          refine r_sub [1, 2, 3, 5, 0] (lv' := [(0, .ref (gA X 1)), (1, .int x1), (3, .long x3), (7, .int x7), (8, .long r_4)]) rfl ?_
          exact t_Fo_areWaysAlike_66 C hR hk20 x1 x3 x7 r_4 h
        · rw [if_neg hc_6] at h
          refine r_iconst C (v := 0) d_Fo_areWaysAlike_64 (by decide) ?_
          obtain ⟨hB, h⟩ := ck_some h
          cases h
          exact hR _ _ hB d_Fo_areWaysAlike_65
set_option maxHeartbeats 4000000 in
set_option maxRecDepth 100000 in
theorem u_Fo_areWaysAlike_20 {X : gX} {r : Int32} {σ : gS} (C : gC X b_Fo_areWaysAlike_c R_Fo 10 3 74) (hR : ∀ pc lv, isB r = true → decode b_Fo_areWaysAlike_c pc = .ok (.ireturn, 1) → G X pc lv [.int r] σ)  (x : Int32 × Int64 × Int64 × Int32) (h : l_Fo_areWaysAlike_20 σ x = some r) : G X 20 [(0, .ref (gA X 1)), (1, .int x.1), (3, .long x.2.1), (5, .long x.2.2.1), (7, .int x.2.2.2)] [] σ :=
  lpF_ind (P := fun x => G X 20 [(0, .ref (gA X 1)), (1, .int x.1), (3, .long x.2.1), (5, .long x.2.2.1), (7, .int x.2.2.2)] [] σ) (fun k hk x h => t_Fo_areWaysAlike_20 C hR hk x.1 x.2.1 x.2.2.1 x.2.2.2 h) gF x h
set_option maxHeartbeats 4000000 in
set_option maxRecDepth 100000 in
theorem t_Fo_areWaysAlike_0 {X : gX} {r : Int32} {σ : gS} (C : gC X b_Fo_areWaysAlike_c R_Fo 10 3 74) (hR : ∀ pc lv, isB r = true → decode b_Fo_areWaysAlike_c pc = .ok (.ireturn, 1) → G X pc lv [.int r] σ) (x1 : Int32) (x2 : Int32) (h : b_Fo_areWaysAlike_0 σ x1 x2 = some r) : G X 0 [(0, .ref (gA X 1)), (1, .int x1), (2, .int x2)] [] σ := by
  unfold b_Fo_areWaysAlike_0 at h
  refine r_aload_n C 0 d_Fo_areWaysAlike_0 rfl rfl ?_
  refine q_Fo_59 C d_Fo_areWaysAlike_1 ?_
  refine r_iload_n C 2 d_Fo_areWaysAlike_4 rfl rfl ?_
  obtain ⟨hi_1, h⟩ := ck_some h
  refine r_lald C hi_1 d_Fo_areWaysAlike_5 ?_
  refine r_aload_n C 0 d_Fo_areWaysAlike_6 rfl rfl ?_
  obtain ⟨r_2, er_2, h⟩ := bind_some h
  refine r_callV C (As := []) (rest := [.long (gL σ 14 x2.toNatClampNeg)]) (st1 := [.long r_2, .long (gL σ 14 x2.toNatClampNeg)]) (c_Fo_nodesInTree X.1.2.1 σ  er_2) k_Fo_nodesInTree m_102 (by decide) cel_Fo rfl rfl rfl rfl (Nat.le_of_ble_eq_true rfl) ⟨Nat.le_of_ble_eq_true rfl, Nat.le_of_ble_eq_true rfl⟩ d_Fo_areWaysAlike_7 rfl ?_
  refine r_land C d_Fo_areWaysAlike_10 ?_
  obtain ⟨x3_3, ex3_3, h⟩ := bnd_some h
  refine r_lstore_n C (lv' := [(3, .long x3_3), (0, .ref (gA X 1)), (1, .int x1), (2, .int x2)]) d_Fo_areWaysAlike_11 rfl (by decide) ex3_3 rfl ?_
  refine r_ldc2 C (v := (-1)) m_106 d_Fo_areWaysAlike_12 ?_
  refine r_lstore C (lv' := [(5, .long (-1)), (3, .long x3_3), (0, .ref (gA X 1)), (1, .int x1), (2, .int x2)]) d_Fo_areWaysAlike_15 (by decide) rfl rfl ?_
  refine r_iconst C (v := 0) d_Fo_areWaysAlike_17 (by decide) ?_
  refine r_istore C (lv' := [(7, .int 0), (5, .long (-1)), (3, .long x3_3), (0, .ref (gA X 1)), (1, .int x1), (2, .int x2)]) d_Fo_areWaysAlike_18 (by decide) rfl rfl ?_
  refine r_sub [3, 4, 2, 1, 0] (lv' := [(0, .ref (gA X 1)), (1, .int x1), (3, .long x3_3), (5, .long (-1)), (7, .int 0)]) rfl ?_
  exact u_Fo_areWaysAlike_20 C hR  (x1, x3_3, (-1), 0) h
set_option maxHeartbeats 4000000 in
set_option maxRecDepth 100000 in
theorem c_Fo_areWaysAlike (l : Launch) (σ : gS) (x1 : Int32) (x2 : Int32) {r : Int32} (h : f_Fo_areWaysAlike σ x1 x2 = some r) : gMet l y_Fo_areWaysAlike b_Fo_areWaysAlike_c 10 (some .boolean) 3 74 (fun a => [.ref (a 1), .int x1, .int x2]) σ (some (.int r)) σ := by
  refine gMet_z (by decide +kernel) (fun a => Nat.le_of_ble_eq_true rfl) (fun X _ C hR => ?_)
  refine r_sub [0, 1, 2] (lv' := [(0, .ref (gA X 1)), (1, .int x1), (2, .int x2)]) rfl ?_
  exact t_Fo_areWaysAlike_0 C hR x1 x2 h
theorem d_Fo_remembersAll_0 : decode b_Fo_remembersAll_c 0 = .ok (.iconst 0, 1) := by decide +kernel
theorem d_Fo_remembersAll_1 : decode b_Fo_remembersAll_c 1 = .ok (.istore_n 2, 1) := by decide +kernel
theorem d_Fo_remembersAll_2 : decode b_Fo_remembersAll_c 2 = .ok (.iload_n 2, 1) := by decide +kernel
theorem d_Fo_remembersAll_3 : decode b_Fo_remembersAll_c 3 = .ok (.aload_n 0, 1) := by decide +kernel
theorem d_Fo_remembersAll_4 : decode b_Fo_remembersAll_c 4 = .ok (.getfield 15, 3) := by decide +kernel
theorem d_Fo_remembersAll_7 : decode b_Fo_remembersAll_c 7 = .ok (.if_icmp .ge 30, 3) := by decide +kernel
theorem d_Fo_remembersAll_10 : decode b_Fo_remembersAll_c 10 = .ok (.aload_n 0, 1) := by decide +kernel
theorem d_Fo_remembersAll_11 : decode b_Fo_remembersAll_c 11 = .ok (.getfield 56, 3) := by decide +kernel
theorem d_Fo_remembersAll_14 : decode b_Fo_remembersAll_c 14 = .ok (.iload_n 2, 1) := by decide +kernel
theorem d_Fo_remembersAll_15 : decode b_Fo_remembersAll_c 15 = .ok (.iaload, 1) := by decide +kernel
theorem d_Fo_remembersAll_16 : decode b_Fo_remembersAll_c 16 = .ok (.iload_n 1, 1) := by decide +kernel
theorem d_Fo_remembersAll_17 : decode b_Fo_remembersAll_c 17 = .ok (.if_icmp .ne 14, 3) := by decide +kernel
theorem d_Fo_remembersAll_20 : decode b_Fo_remembersAll_c 20 = .ok (.aload_n 0, 1) := by decide +kernel
theorem d_Fo_remembersAll_21 : decode b_Fo_remembersAll_c 21 = .ok (.iload_n 1, 1) := by decide +kernel
theorem d_Fo_remembersAll_22 : decode b_Fo_remembersAll_c 22 = .ok (.iload_n 2, 1) := by decide +kernel
theorem d_Fo_remembersAll_23 : decode b_Fo_remembersAll_c 23 = .ok (.invokevirtual 123, 3) := by decide +kernel
theorem d_Fo_remembersAll_26 : decode b_Fo_remembersAll_c 26 = .ok (.ifCond .ne 5, 3) := by decide +kernel
theorem d_Fo_remembersAll_29 : decode b_Fo_remembersAll_c 29 = .ok (.iconst 0, 1) := by decide +kernel
theorem d_Fo_remembersAll_30 : decode b_Fo_remembersAll_c 30 = .ok (.ireturn, 1) := by decide +kernel
theorem d_Fo_remembersAll_31 : decode b_Fo_remembersAll_c 31 = .ok (.iinc 2 1, 3) := by decide +kernel
theorem d_Fo_remembersAll_34 : decode b_Fo_remembersAll_c 34 = .ok (.goto (-32), 3) := by decide +kernel
theorem d_Fo_remembersAll_37 : decode b_Fo_remembersAll_c 37 = .ok (.iconst 1, 1) := by decide +kernel
theorem d_Fo_remembersAll_38 : decode b_Fo_remembersAll_c 38 = .ok (.ireturn, 1) := by decide +kernel
/-! GameRows$Forest.remembersAll(I)Z -/
set_option maxHeartbeats 4000000 in
set_option maxRecDepth 100000 in
theorem t_Fo_remembersAll_31 {X : gX} {r : Int32} {σ : gS} (C : gC X b_Fo_remembersAll_c R_Fo 3 4 103) (hR : ∀ pc lv, isB r = true → decode b_Fo_remembersAll_c pc = .ok (.ireturn, 1) → G X pc lv [.int r] σ) {k2 : Int32 × Int32 → Option Int32}  (hk2 : ∀ x, k2 x = some r → G X 2 [(0, .ref (gA X 1)), (1, .int x.1), (2, .int x.2)] [] σ) (x1 : Int32) (x2 : Int32) (h : b_Fo_remembersAll_31 σ k2 x1 x2 = some r) : G X 31 [(0, .ref (gA X 1)), (1, .int x1), (2, .int x2)] [] σ := by
  unfold b_Fo_remembersAll_31 at h
  obtain ⟨x2_1, ex2_1, h⟩ := bnd_some h
  refine r_iinc C 2 (lv' := [(2, .int x2_1), (0, .ref (gA X 1)), (1, .int x1)]) d_Fo_remembersAll_31 rfl (by rw [ex2_1]; rfl) (by decide) rfl ?_
  refine r_goto C (tgt := 2) d_Fo_remembersAll_34 (by decide) ?_
  refine r_sub [1, 2, 0] (lv' := [(0, .ref (gA X 1)), (1, .int x1), (2, .int x2_1)]) rfl ?_
  exact hk2 _ h
set_option maxHeartbeats 4000000 in
set_option maxRecDepth 100000 in
theorem t_Fo_remembersAll_2 {X : gX} {r : Int32} {σ : gS} (C : gC X b_Fo_remembersAll_c R_Fo 3 4 103) (hR : ∀ pc lv, isB r = true → decode b_Fo_remembersAll_c pc = .ok (.ireturn, 1) → G X pc lv [.int r] σ) {k2 : Int32 × Int32 → Option Int32}  (hk2 : ∀ x, k2 x = some r → G X 2 [(0, .ref (gA X 1)), (1, .int x.1), (2, .int x.2)] [] σ) (x1 : Int32) (x2 : Int32) (h : b_Fo_remembersAll_2 σ k2 x1 x2 = some r) : G X 2 [(0, .ref (gA X 1)), (1, .int x1), (2, .int x2)] [] σ := by
  unfold b_Fo_remembersAll_2 at h
  refine r_iload_n C 2 d_Fo_remembersAll_2 rfl rfl ?_
  refine r_aload_n C 0 d_Fo_remembersAll_3 rfl rfl ?_
  refine q_Fo_15 C d_Fo_remembersAll_4 ?_
  refine r_icmp_ge C (tgt := 37) d_Fo_remembersAll_7 (by decide) (fun hc_1 => ?_) (fun hc_1 => ?_)
  · rw [if_pos hc_1] at h
    refine r_iconst C (v := 1) d_Fo_remembersAll_37 (by decide) ?_
    obtain ⟨hB, h⟩ := ck_some h
    cases h
    exact hR _ _ hB d_Fo_remembersAll_38
  · rw [if_neg hc_1] at h
    refine r_aload_n C 0 d_Fo_remembersAll_10 rfl rfl ?_
    refine q_Fo_56 C d_Fo_remembersAll_11 ?_
    refine r_iload_n C 2 d_Fo_remembersAll_14 rfl rfl ?_
    obtain ⟨hi_2, h⟩ := ck_some h
    refine r_iald C hi_2 d_Fo_remembersAll_15 ?_
    refine r_iload_n C 1 d_Fo_remembersAll_16 rfl rfl ?_
    refine r_icmp_ne C (tgt := 31) d_Fo_remembersAll_17 (by decide) (fun hc_3 => ?_) (fun hc_3 => ?_)
    · rw [if_neg hc_3] at h
      exact t_Fo_remembersAll_31 C hR hk2 x1 x2 h
    · rw [if_pos hc_3] at h
      refine r_aload_n C 0 d_Fo_remembersAll_20 rfl rfl ?_
      refine r_iload_n C 1 d_Fo_remembersAll_21 rfl rfl ?_
      refine r_iload_n C 2 d_Fo_remembersAll_22 rfl rfl ?_
      obtain ⟨r_4, er_4, h⟩ := bind_some h
      refine r_callV C (As := [.int x1, .int x2]) (rest := []) (st1 := [.int r_4]) (c_Fo_areWaysAlike X.1.2.1 σ x1 x2 er_4) k_Fo_areWaysAlike m_363 (by decide) cel_Fo rfl rfl rfl rfl (Nat.le_of_ble_eq_true rfl) ⟨Nat.le_of_ble_eq_true rfl, Nat.le_of_ble_eq_true rfl⟩ d_Fo_remembersAll_23 rfl ?_
      refine r_if_ne C (tgt := 31) d_Fo_remembersAll_26 (by decide) (fun hc_5 => ?_) (fun hc_5 => ?_)
      · rw [if_neg hc_5] at h
        exact t_Fo_remembersAll_31 C hR hk2 x1 x2 h
      · rw [if_pos hc_5] at h
        refine r_iconst C (v := 0) d_Fo_remembersAll_29 (by decide) ?_
        obtain ⟨hB, h⟩ := ck_some h
        cases h
        exact hR _ _ hB d_Fo_remembersAll_30
set_option maxHeartbeats 4000000 in
set_option maxRecDepth 100000 in
theorem u_Fo_remembersAll_2 {X : gX} {r : Int32} {σ : gS} (C : gC X b_Fo_remembersAll_c R_Fo 3 4 103) (hR : ∀ pc lv, isB r = true → decode b_Fo_remembersAll_c pc = .ok (.ireturn, 1) → G X pc lv [.int r] σ)  (x : Int32 × Int32) (h : l_Fo_remembersAll_2 σ x = some r) : G X 2 [(0, .ref (gA X 1)), (1, .int x.1), (2, .int x.2)] [] σ :=
  lpF_ind (P := fun x => G X 2 [(0, .ref (gA X 1)), (1, .int x.1), (2, .int x.2)] [] σ) (fun k hk x h => t_Fo_remembersAll_2 C hR hk x.1 x.2 h) gF x h
set_option maxHeartbeats 4000000 in
set_option maxRecDepth 100000 in
theorem t_Fo_remembersAll_0 {X : gX} {r : Int32} {σ : gS} (C : gC X b_Fo_remembersAll_c R_Fo 3 4 103) (hR : ∀ pc lv, isB r = true → decode b_Fo_remembersAll_c pc = .ok (.ireturn, 1) → G X pc lv [.int r] σ) (x1 : Int32) (h : b_Fo_remembersAll_0 σ x1 = some r) : G X 0 [(0, .ref (gA X 1)), (1, .int x1)] [] σ := by
  unfold b_Fo_remembersAll_0 at h
  refine r_iconst C (v := 0) d_Fo_remembersAll_0 (by decide) ?_
  refine r_istore_n C (lv' := [(2, .int 0), (0, .ref (gA X 1)), (1, .int x1)]) d_Fo_remembersAll_1 rfl (by decide) rfl rfl ?_
  refine r_sub [1, 2, 0] (lv' := [(0, .ref (gA X 1)), (1, .int x1), (2, .int 0)]) rfl ?_
  exact u_Fo_remembersAll_2 C hR  (x1, 0) h
set_option maxHeartbeats 4000000 in
set_option maxRecDepth 100000 in
theorem c_Fo_remembersAll (l : Launch) (σ : gS) (x1 : Int32) {r : Int32} (h : f_Fo_remembersAll σ x1 = some r) : gMet l y_Fo_remembersAll b_Fo_remembersAll_c 3 (some .boolean) 4 103 (fun a => [.ref (a 1), .int x1]) σ (some (.int r)) σ := by
  refine gMet_z (by decide +kernel) (fun a => Nat.le_of_ble_eq_true rfl) (fun X _ C hR => ?_)
  refine r_sub [0, 1] (lv' := [(0, .ref (gA X 1)), (1, .int x1)]) rfl ?_
  exact t_Fo_remembersAll_0 C hR x1 h
theorem d_Ga_remembered_0 : decode b_Ga_remembered_c 0 = .ok (.aload_n 0, 1) := by decide +kernel
theorem d_Ga_remembered_1 : decode b_Ga_remembered_c 1 = .ok (.invokevirtual 81, 3) := by decide +kernel
theorem d_Ga_remembered_4 : decode b_Ga_remembered_c 4 = .ok (.ifCond .eq 6, 3) := by decide +kernel
theorem d_Ga_remembered_7 : decode b_Ga_remembered_c 7 = .ok (.ldc 85, 2) := by decide +kernel
theorem d_Ga_remembered_9 : decode b_Ga_remembered_c 9 = .ok (.ireturn, 1) := by decide +kernel
theorem d_Ga_remembered_10 : decode b_Ga_remembered_c 10 = .ok (.iload_n 1, 1) := by decide +kernel
theorem d_Ga_remembered_11 : decode b_Ga_remembered_c 11 = .ok (.invokestatic 52, 3) := by decide +kernel
theorem d_Ga_remembered_14 : decode b_Ga_remembered_c 14 = .ok (.ifCond .ne 6, 3) := by decide +kernel
theorem d_Ga_remembered_17 : decode b_Ga_remembered_c 17 = .ok (.bipush (-2), 2) := by decide +kernel
theorem d_Ga_remembered_19 : decode b_Ga_remembered_c 19 = .ok (.ireturn, 1) := by decide +kernel
theorem d_Ga_remembered_20 : decode b_Ga_remembered_c 20 = .ok (.aload_n 0, 1) := by decide +kernel
theorem d_Ga_remembered_21 : decode b_Ga_remembered_c 21 = .ok (.getfield 10, 3) := by decide +kernel
theorem d_Ga_remembered_24 : decode b_Ga_remembered_c 24 = .ok (.iload_n 1, 1) := by decide +kernel
theorem d_Ga_remembered_25 : decode b_Ga_remembered_c 25 = .ok (.invokevirtual 188, 3) := by decide +kernel
theorem d_Ga_remembered_28 : decode b_Ga_remembered_c 28 = .ok (.ifCond .eq 7, 3) := by decide +kernel
theorem d_Ga_remembered_31 : decode b_Ga_remembered_c 31 = .ok (.iconst 1, 1) := by decide +kernel
theorem d_Ga_remembered_32 : decode b_Ga_remembered_c 32 = .ok (.goto 4, 3) := by decide +kernel
theorem d_Ga_remembered_35 : decode b_Ga_remembered_c 35 = .ok (.iconst 0, 1) := by decide +kernel
theorem d_Ga_remembered_36 : decode b_Ga_remembered_c 36 = .ok (.ireturn, 1) := by decide +kernel
/-! GameRows.remembered(I)I -/
set_option maxHeartbeats 4000000 in
set_option maxRecDepth 100000 in
theorem t_Ga_remembered_0 {X : gX} {r : Int32} {σ : gS} (C : gC X b_Ga_remembered_c R_Ga 2 5 125) (hR : ∀ pc lv, decode b_Ga_remembered_c pc = .ok (.ireturn, 1) → G X pc lv [.int r] σ) (x1 : Int32) (h : b_Ga_remembered_0 σ x1 = some r) : G X 0 [(0, .ref (gA X 0)), (1, .int x1)] [] σ := by
  unfold b_Ga_remembered_0 at h
  refine r_aload_n C 0 d_Ga_remembered_0 rfl rfl ?_
  obtain ⟨r_1, er_1, h⟩ := bind_some h
  refine r_callV C (As := []) (rest := []) (st1 := [.int r_1]) (c_Ga_isEmpty X.1.2.1 σ  er_1) k_Ga_isEmpty m_283 (by decide) cel_Ga rfl rfl rfl rfl (Nat.le_of_ble_eq_true rfl) ⟨Nat.le_of_ble_eq_true rfl, Nat.le_of_ble_eq_true rfl⟩ d_Ga_remembered_1 rfl ?_
  refine r_if_eq C (tgt := 10) d_Ga_remembered_4 (by decide) (fun hc_2 => ?_) (fun hc_2 => ?_)
  · rw [if_pos hc_2] at h
    refine r_iload_n C 1 d_Ga_remembered_10 rfl rfl ?_
    obtain ⟨r_3, er_3, h⟩ := bind_some h
    refine r_callS C (As := [.int x1]) (rest := []) (st1 := [.int r_3]) (c_Ga_isPlayer X.1.2.1 σ x1 er_3) k_Ga_isPlayer m_12 rfl rfl rfl (Nat.le_of_ble_eq_true rfl) ⟨Nat.le_of_ble_eq_true rfl, Nat.le_of_ble_eq_true rfl⟩ d_Ga_remembered_11 rfl ?_
    refine r_if_ne C (tgt := 20) d_Ga_remembered_14 (by decide) (fun hc_4 => ?_) (fun hc_4 => ?_)
    · rw [if_neg hc_4] at h
      refine r_aload_n C 0 d_Ga_remembered_20 rfl rfl ?_
      refine q_Ga_10 C d_Ga_remembered_21 ?_
      refine r_iload_n C 1 d_Ga_remembered_24 rfl rfl ?_
      obtain ⟨r_5, er_5, h⟩ := bind_some h
      refine r_callV C (As := [.int x1]) (rest := []) (st1 := [.int r_5]) (c_Fo_remembersAll X.1.2.1 σ x1 er_5) k_Fo_remembersAll m_367 (by decide) cel_Fo rfl rfl rfl rfl (Nat.le_of_ble_eq_true rfl) ⟨Nat.le_of_ble_eq_true rfl, Nat.le_of_ble_eq_true rfl⟩ d_Ga_remembered_25 rfl ?_
      refine r_if_eq C (tgt := 35) d_Ga_remembered_28 (by decide) (fun hc_6 => ?_) (fun hc_6 => ?_)
      · rw [if_pos hc_6] at h
        refine r_iconst C (v := 0) d_Ga_remembered_35 (by decide) ?_
        cases h
        exact hR _ _ d_Ga_remembered_36
      · rw [if_neg hc_6] at h
        refine r_iconst C (v := 1) d_Ga_remembered_31 (by decide) ?_
        refine r_goto C (tgt := 36) d_Ga_remembered_32 (by decide) ?_
        cases h
        exact hR _ _ d_Ga_remembered_36
    · rw [if_pos hc_4] at h
      refine r_bipush C (v := (-2)) d_Ga_remembered_17 (by decide) ?_
      cases h
      exact hR _ _ d_Ga_remembered_19
  · rw [if_neg hc_2] at h
    refine r_ldc C (v := (-1000000)) m_287 d_Ga_remembered_7 ?_
    cases h
    exact hR _ _ d_Ga_remembered_9
set_option maxHeartbeats 4000000 in
set_option maxRecDepth 100000 in
theorem c_Ga_remembered (l : Launch) (σ : gS) (x1 : Int32) {r : Int32} (h : f_Ga_remembered σ x1 = some r) : gMet l y_Ga_remembered b_Ga_remembered_c 2 (some .int) 5 125 (fun a => [.ref (a 0), .int x1]) σ (some (.int r)) σ := by
  refine gMet_i (by decide +kernel) (fun a => Nat.le_of_ble_eq_true rfl) (fun X _ C hR => ?_)
  refine r_sub [0, 1] (lv' := [(0, .ref (gA X 0)), (1, .int x1)]) rfl ?_
  exact t_Ga_remembered_0 C hR x1 h
theorem d_An_leastOfGreatest_0 : decode b_An_leastOfGreatest_c 0 = .ok (.iconst 0, 1) := by decide +kernel
theorem d_An_leastOfGreatest_1 : decode b_An_leastOfGreatest_c 1 = .ok (.istore_n 2, 1) := by decide +kernel
theorem d_An_leastOfGreatest_2 : decode b_An_leastOfGreatest_c 2 = .ok (.iconst 1, 1) := by decide +kernel
theorem d_An_leastOfGreatest_3 : decode b_An_leastOfGreatest_c 3 = .ok (.istore_n 3, 1) := by decide +kernel
theorem d_An_leastOfGreatest_4 : decode b_An_leastOfGreatest_c 4 = .ok (.iload_n 3, 1) := by decide +kernel
theorem d_An_leastOfGreatest_5 : decode b_An_leastOfGreatest_c 5 = .ok (.aload_n 0, 1) := by decide +kernel
theorem d_An_leastOfGreatest_6 : decode b_An_leastOfGreatest_c 6 = .ok (.getfield 30, 3) := by decide +kernel
theorem d_An_leastOfGreatest_9 : decode b_An_leastOfGreatest_c 9 = .ok (.getfield 38, 3) := by decide +kernel
theorem d_An_leastOfGreatest_12 : decode b_An_leastOfGreatest_c 12 = .ok (.iload_n 1, 1) := by decide +kernel
theorem d_An_leastOfGreatest_13 : decode b_An_leastOfGreatest_c 13 = .ok (.iaload, 1) := by decide +kernel
theorem d_An_leastOfGreatest_14 : decode b_An_leastOfGreatest_c 14 = .ok (.if_icmp .ge 30, 3) := by decide +kernel
theorem d_An_leastOfGreatest_17 : decode b_An_leastOfGreatest_c 17 = .ok (.aload_n 0, 1) := by decide +kernel
theorem d_An_leastOfGreatest_18 : decode b_An_leastOfGreatest_c 18 = .ok (.getfield 16, 3) := by decide +kernel
theorem d_An_leastOfGreatest_21 : decode b_An_leastOfGreatest_c 21 = .ok (.iload_n 1, 1) := by decide +kernel
theorem d_An_leastOfGreatest_22 : decode b_An_leastOfGreatest_c 22 = .ok (.aaload, 1) := by decide +kernel
theorem d_An_leastOfGreatest_23 : decode b_An_leastOfGreatest_c 23 = .ok (.iload_n 3, 1) := by decide +kernel
theorem d_An_leastOfGreatest_24 : decode b_An_leastOfGreatest_c 24 = .ok (.iaload, 1) := by decide +kernel
theorem d_An_leastOfGreatest_25 : decode b_An_leastOfGreatest_c 25 = .ok (.aload_n 0, 1) := by decide +kernel
theorem d_An_leastOfGreatest_26 : decode b_An_leastOfGreatest_c 26 = .ok (.getfield 16, 3) := by decide +kernel
theorem d_An_leastOfGreatest_29 : decode b_An_leastOfGreatest_c 29 = .ok (.iload_n 1, 1) := by decide +kernel
theorem d_An_leastOfGreatest_30 : decode b_An_leastOfGreatest_c 30 = .ok (.aaload, 1) := by decide +kernel
theorem d_An_leastOfGreatest_31 : decode b_An_leastOfGreatest_c 31 = .ok (.iload_n 2, 1) := by decide +kernel
theorem d_An_leastOfGreatest_32 : decode b_An_leastOfGreatest_c 32 = .ok (.iaload, 1) := by decide +kernel
theorem d_An_leastOfGreatest_33 : decode b_An_leastOfGreatest_c 33 = .ok (.if_icmp .le 5, 3) := by decide +kernel
theorem d_An_leastOfGreatest_36 : decode b_An_leastOfGreatest_c 36 = .ok (.iload_n 3, 1) := by decide +kernel
theorem d_An_leastOfGreatest_37 : decode b_An_leastOfGreatest_c 37 = .ok (.istore_n 2, 1) := by decide +kernel
theorem d_An_leastOfGreatest_38 : decode b_An_leastOfGreatest_c 38 = .ok (.iinc 3 1, 3) := by decide +kernel
theorem d_An_leastOfGreatest_41 : decode b_An_leastOfGreatest_c 41 = .ok (.goto (-37), 3) := by decide +kernel
theorem d_An_leastOfGreatest_44 : decode b_An_leastOfGreatest_c 44 = .ok (.iload_n 2, 1) := by decide +kernel
theorem d_An_leastOfGreatest_45 : decode b_An_leastOfGreatest_c 45 = .ok (.ireturn, 1) := by decide +kernel
/-! GameRows$Answering.leastOfGreatest(I)I -/
set_option maxHeartbeats 4000000 in
set_option maxRecDepth 100000 in
theorem t_An_leastOfGreatest_38 {X : gX} {r : Int32} {σ : gS} (C : gC X b_An_leastOfGreatest_c R_An 4 0 0) (hR : ∀ pc lv, decode b_An_leastOfGreatest_c pc = .ok (.ireturn, 1) → G X pc lv [.int r] σ) {k4 : Int32 × Int32 × Int32 → Option Int32}  (hk4 : ∀ x, k4 x = some r → G X 4 [(0, .ref (gA X 39)), (1, .int x.1), (2, .int x.2.1), (3, .int x.2.2)] [] σ) (x1 : Int32) (x2 : Int32) (x3 : Int32) (h : b_An_leastOfGreatest_38 σ k4 x1 x2 x3 = some r) : G X 38 [(0, .ref (gA X 39)), (1, .int x1), (2, .int x2), (3, .int x3)] [] σ := by
  unfold b_An_leastOfGreatest_38 at h
  obtain ⟨x3_1, ex3_1, h⟩ := bnd_some h
  refine r_iinc C 3 (lv' := [(3, .int x3_1), (0, .ref (gA X 39)), (1, .int x1), (2, .int x2)]) d_An_leastOfGreatest_38 rfl (by rw [ex3_1]; rfl) (by decide) rfl ?_
  refine r_goto C (tgt := 4) d_An_leastOfGreatest_41 (by decide) ?_
  refine r_sub [1, 2, 3, 0] (lv' := [(0, .ref (gA X 39)), (1, .int x1), (2, .int x2), (3, .int x3_1)]) rfl ?_
  exact hk4 _ h
set_option maxHeartbeats 4000000 in
set_option maxRecDepth 100000 in
theorem t_An_leastOfGreatest_4 {X : gX} {r : Int32} {σ : gS} (C : gC X b_An_leastOfGreatest_c R_An 4 0 0) (hR : ∀ pc lv, decode b_An_leastOfGreatest_c pc = .ok (.ireturn, 1) → G X pc lv [.int r] σ) {k4 : Int32 × Int32 × Int32 → Option Int32}  (hk4 : ∀ x, k4 x = some r → G X 4 [(0, .ref (gA X 39)), (1, .int x.1), (2, .int x.2.1), (3, .int x.2.2)] [] σ) (x1 : Int32) (x2 : Int32) (x3 : Int32) (h : b_An_leastOfGreatest_4 σ k4 x1 x2 x3 = some r) : G X 4 [(0, .ref (gA X 39)), (1, .int x1), (2, .int x2), (3, .int x3)] [] σ := by
  unfold b_An_leastOfGreatest_4 at h
  refine r_iload_n C 3 d_An_leastOfGreatest_4 rfl rfl ?_
  refine r_aload_n C 0 d_An_leastOfGreatest_5 rfl rfl ?_
  refine q_An_30 C d_An_leastOfGreatest_6 ?_
  refine q_An_38 C d_An_leastOfGreatest_9 ?_
  refine r_iload_n C 1 d_An_leastOfGreatest_12 rfl rfl ?_
  obtain ⟨hi_1, h⟩ := ck_some h
  refine r_iald C hi_1 d_An_leastOfGreatest_13 ?_
  refine r_icmp_ge C (tgt := 44) d_An_leastOfGreatest_14 (by decide) (fun hc_2 => ?_) (fun hc_2 => ?_)
  · rw [if_pos hc_2] at h
    refine r_iload_n C 2 d_An_leastOfGreatest_44 rfl rfl ?_
    cases h
    exact hR _ _ d_An_leastOfGreatest_45
  · rw [if_neg hc_2] at h
    refine r_aload_n C 0 d_An_leastOfGreatest_17 rfl rfl ?_
    refine q_An_16 C d_An_leastOfGreatest_18 ?_
    refine r_iload_n C 1 d_An_leastOfGreatest_21 rfl rfl ?_
    obtain ⟨hi_3, h⟩ := ck_some h
    refine o_43 C (k' := 43 + 1 + x1.toNatClampNeg) hi_3 rfl d_An_leastOfGreatest_22 ?_
    refine r_iload_n C 3 d_An_leastOfGreatest_23 rfl rfl ?_
    obtain ⟨hi_4, h⟩ := ck_some h
    refine r_iald C hi_4 d_An_leastOfGreatest_24 ?_
    refine r_aload_n C 0 d_An_leastOfGreatest_25 rfl rfl ?_
    refine q_An_16 C d_An_leastOfGreatest_26 ?_
    refine r_iload_n C 1 d_An_leastOfGreatest_29 rfl rfl ?_
    obtain ⟨hi_5, h⟩ := ck_some h
    refine o_43 C (k' := 43 + 1 + x1.toNatClampNeg) hi_5 rfl d_An_leastOfGreatest_30 ?_
    refine r_iload_n C 2 d_An_leastOfGreatest_31 rfl rfl ?_
    obtain ⟨hi_6, h⟩ := ck_some h
    refine r_iald C hi_6 d_An_leastOfGreatest_32 ?_
    refine r_icmp_le C (tgt := 38) d_An_leastOfGreatest_33 (by decide) (fun hc_7 => ?_) (fun hc_7 => ?_)
    · rw [if_pos hc_7] at h
      exact t_An_leastOfGreatest_38 C hR hk4 x1 x2 x3 h
    · rw [if_neg hc_7] at h
      refine r_iload_n C 3 d_An_leastOfGreatest_36 rfl rfl ?_
      refine r_istore_n C (lv' := [(2, .int x3), (0, .ref (gA X 39)), (1, .int x1), (3, .int x3)]) d_An_leastOfGreatest_37 rfl (by decide) rfl rfl ?_
      refine r_sub [1, 2, 0, 3] (lv' := [(0, .ref (gA X 39)), (1, .int x1), (2, .int x3), (3, .int x3)]) rfl ?_
      exact t_An_leastOfGreatest_38 C hR hk4 x1 x3 x3 h
set_option maxHeartbeats 4000000 in
set_option maxRecDepth 100000 in
theorem u_An_leastOfGreatest_4 {X : gX} {r : Int32} {σ : gS} (C : gC X b_An_leastOfGreatest_c R_An 4 0 0) (hR : ∀ pc lv, decode b_An_leastOfGreatest_c pc = .ok (.ireturn, 1) → G X pc lv [.int r] σ)  (x : Int32 × Int32 × Int32) (h : l_An_leastOfGreatest_4 σ x = some r) : G X 4 [(0, .ref (gA X 39)), (1, .int x.1), (2, .int x.2.1), (3, .int x.2.2)] [] σ :=
  lpF_ind (P := fun x => G X 4 [(0, .ref (gA X 39)), (1, .int x.1), (2, .int x.2.1), (3, .int x.2.2)] [] σ) (fun k hk x h => t_An_leastOfGreatest_4 C hR hk x.1 x.2.1 x.2.2 h) gF x h
set_option maxHeartbeats 4000000 in
set_option maxRecDepth 100000 in
theorem t_An_leastOfGreatest_0 {X : gX} {r : Int32} {σ : gS} (C : gC X b_An_leastOfGreatest_c R_An 4 0 0) (hR : ∀ pc lv, decode b_An_leastOfGreatest_c pc = .ok (.ireturn, 1) → G X pc lv [.int r] σ) (x1 : Int32) (h : b_An_leastOfGreatest_0 σ x1 = some r) : G X 0 [(0, .ref (gA X 39)), (1, .int x1)] [] σ := by
  unfold b_An_leastOfGreatest_0 at h
  refine r_iconst C (v := 0) d_An_leastOfGreatest_0 (by decide) ?_
  refine r_istore_n C (lv' := [(2, .int 0), (0, .ref (gA X 39)), (1, .int x1)]) d_An_leastOfGreatest_1 rfl (by decide) rfl rfl ?_
  refine r_iconst C (v := 1) d_An_leastOfGreatest_2 (by decide) ?_
  refine r_istore_n C (lv' := [(3, .int 1), (2, .int 0), (0, .ref (gA X 39)), (1, .int x1)]) d_An_leastOfGreatest_3 rfl (by decide) rfl rfl ?_
  refine r_sub [2, 3, 1, 0] (lv' := [(0, .ref (gA X 39)), (1, .int x1), (2, .int 0), (3, .int 1)]) rfl ?_
  exact u_An_leastOfGreatest_4 C hR  (x1, 0, 1) h
set_option maxHeartbeats 4000000 in
set_option maxRecDepth 100000 in
theorem c_An_leastOfGreatest (l : Launch) (σ : gS) (x1 : Int32) {r : Int32} (h : f_An_leastOfGreatest σ x1 = some r) : gMet l y_An_leastOfGreatest b_An_leastOfGreatest_c 4 (some .int) 0 0 (fun a => [.ref (a 39), .int x1]) σ (some (.int r)) σ := by
  refine gMet_i (by decide +kernel) (fun a => Nat.le_of_ble_eq_true rfl) (fun X _ C hR => ?_)
  refine r_sub [0, 1] (lv' := [(0, .ref (gA X 39)), (1, .int x1)]) rfl ?_
  exact t_An_leastOfGreatest_0 C hR x1 h
theorem d_An_addUp_0 : decode b_An_addUp_c 0 = .ok (.iconst 0, 1) := by decide +kernel
theorem d_An_addUp_1 : decode b_An_addUp_c 1 = .ok (.istore_n 3, 1) := by decide +kernel
theorem d_An_addUp_2 : decode b_An_addUp_c 2 = .ok (.iload_n 3, 1) := by decide +kernel
theorem d_An_addUp_3 : decode b_An_addUp_c 3 = .ok (.aload_n 0, 1) := by decide +kernel
theorem d_An_addUp_4 : decode b_An_addUp_c 4 = .ok (.getfield 30, 3) := by decide +kernel
theorem d_An_addUp_7 : decode b_An_addUp_c 7 = .ok (.getfield 38, 3) := by decide +kernel
theorem d_An_addUp_10 : decode b_An_addUp_c 10 = .ok (.iload_n 1, 1) := by decide +kernel
theorem d_An_addUp_11 : decode b_An_addUp_c 11 = .ok (.iaload, 1) := by decide +kernel
theorem d_An_addUp_12 : decode b_An_addUp_c 12 = .ok (.if_icmp .ge 30, 3) := by decide +kernel
theorem d_An_addUp_15 : decode b_An_addUp_c 15 = .ok (.aload_n 0, 1) := by decide +kernel
theorem d_An_addUp_16 : decode b_An_addUp_c 16 = .ok (.getfield 16, 3) := by decide +kernel
theorem d_An_addUp_19 : decode b_An_addUp_c 19 = .ok (.iload_n 1, 1) := by decide +kernel
theorem d_An_addUp_20 : decode b_An_addUp_c 20 = .ok (.aaload, 1) := by decide +kernel
theorem d_An_addUp_21 : decode b_An_addUp_c 21 = .ok (.iload_n 3, 1) := by decide +kernel
theorem d_An_addUp_22 : decode b_An_addUp_c 22 = .ok (.dup2, 1) := by decide +kernel
theorem d_An_addUp_23 : decode b_An_addUp_c 23 = .ok (.iaload, 1) := by decide +kernel
theorem d_An_addUp_24 : decode b_An_addUp_c 24 = .ok (.aload_n 0, 1) := by decide +kernel
theorem d_An_addUp_25 : decode b_An_addUp_c 25 = .ok (.getfield 30, 3) := by decide +kernel
theorem d_An_addUp_28 : decode b_An_addUp_c 28 = .ok (.iload_n 1, 1) := by decide +kernel
theorem d_An_addUp_29 : decode b_An_addUp_c 29 = .ok (.iload_n 3, 1) := by decide +kernel
theorem d_An_addUp_30 : decode b_An_addUp_c 30 = .ok (.iload_n 2, 1) := by decide +kernel
theorem d_An_addUp_31 : decode b_An_addUp_c 31 = .ok (.invokevirtual 78, 3) := by decide +kernel
theorem d_An_addUp_34 : decode b_An_addUp_c 34 = .ok (.iadd, 1) := by decide +kernel
theorem d_An_addUp_35 : decode b_An_addUp_c 35 = .ok (.iastore, 1) := by decide +kernel
theorem d_An_addUp_36 : decode b_An_addUp_c 36 = .ok (.iinc 3 1, 3) := by decide +kernel
theorem d_An_addUp_39 : decode b_An_addUp_c 39 = .ok (.goto (-37), 3) := by decide +kernel
theorem d_An_addUp_42 : decode b_An_addUp_c 42 = .ok (.return_, 1) := by decide +kernel
/-! GameRows$Answering.addUp(II)V -/
set_option maxHeartbeats 4000000 in
set_option maxRecDepth 100000 in
theorem t_An_addUp_2 {X : gX} {r : gS} (C : gC X b_An_addUp_c R_An 4 1 23) (hR : ∀ pc lv, decode b_An_addUp_c pc = .ok (.return_, 1) → G X pc lv [] r) {k2 : Int32 × Int32 × Int32 × gS → Option gS}  (hk2 : ∀ x, k2 x = some r → G X 2 [(0, .ref (gA X 39)), (1, .int x.1), (2, .int x.2.1), (3, .int x.2.2.1)] [] x.2.2.2) (x1 : Int32) (x2 : Int32) (x3 : Int32) (σ : gS) (h : b_An_addUp_2 k2 x1 x2 x3 σ = some r) : G X 2 [(0, .ref (gA X 39)), (1, .int x1), (2, .int x2), (3, .int x3)] [] σ := by
  unfold b_An_addUp_2 at h
  refine r_iload_n C 3 d_An_addUp_2 rfl rfl ?_
  refine r_aload_n C 0 d_An_addUp_3 rfl rfl ?_
  refine q_An_30 C d_An_addUp_4 ?_
  refine q_An_38 C d_An_addUp_7 ?_
  refine r_iload_n C 1 d_An_addUp_10 rfl rfl ?_
  obtain ⟨hi_1, h⟩ := ck_some h
  refine r_iald C hi_1 d_An_addUp_11 ?_
  refine r_icmp_ge C (tgt := 42) d_An_addUp_12 (by decide) (fun hc_2 => ?_) (fun hc_2 => ?_)
  · rw [if_pos hc_2] at h
    cases h
    exact hR _ _ d_An_addUp_42
  · rw [if_neg hc_2] at h
    refine r_aload_n C 0 d_An_addUp_15 rfl rfl ?_
    refine q_An_16 C d_An_addUp_16 ?_
    refine r_iload_n C 1 d_An_addUp_19 rfl rfl ?_
    obtain ⟨hi_3, h⟩ := ck_some h
    refine o_43 C (k' := 43 + 1 + x1.toNatClampNeg) hi_3 rfl d_An_addUp_20 ?_
    refine r_iload_n C 3 d_An_addUp_21 rfl rfl ?_
    refine r_dup2_11 C d_An_addUp_22 rfl rfl ?_
    obtain ⟨hi_4, h⟩ := ck_some h
    refine r_iald C hi_4 d_An_addUp_23 ?_
    refine r_aload_n C 0 d_An_addUp_24 rfl rfl ?_
    refine q_An_30 C d_An_addUp_25 ?_
    refine r_iload_n C 1 d_An_addUp_28 rfl rfl ?_
    refine r_iload_n C 3 d_An_addUp_29 rfl rfl ?_
    refine r_iload_n C 2 d_An_addUp_30 rfl rfl ?_
    obtain ⟨r_5, er_5, h⟩ := bind_some h
    refine r_callV C (As := [.int x1, .int x3, .int x2]) (rest := [.int (gI σ (43 + 1 + x1.toNatClampNeg) x3.toNatClampNeg), .int x3, .ref (gA X (43 + 1 + x1.toNatClampNeg))]) (st1 := [.int r_5, .int (gI σ (43 + 1 + x1.toNatClampNeg) x3.toNatClampNeg), .int x3, .ref (gA X (43 + 1 + x1.toNatClampNeg))]) (c_Ta_value X.1.2.1 σ x1 x3 x2 er_5) k_Ta_value m_374 (by decide) cel_Ta rfl rfl rfl rfl (Nat.le_of_ble_eq_true rfl) ⟨Nat.le_of_ble_eq_true rfl, Nat.le_of_ble_eq_true rfl⟩ d_An_addUp_31 rfl ?_
    refine r_iadd C d_An_addUp_34 ?_
    obtain ⟨hi_6, h⟩ := ck_some h
    obtain ⟨σ_7, eσ_7, h⟩ := bnd_some h
    refine r_iast C hi_6 eσ_7 d_An_addUp_35 ?_
    obtain ⟨x3_8, ex3_8, h⟩ := bnd_some h
    refine r_iinc C 3 (lv' := [(3, .int x3_8), (0, .ref (gA X 39)), (1, .int x1), (2, .int x2)]) d_An_addUp_36 rfl (by rw [ex3_8]; rfl) (by decide) rfl ?_
    refine r_goto C (tgt := 2) d_An_addUp_39 (by decide) ?_
    refine r_sub [1, 2, 3, 0] (lv' := [(0, .ref (gA X 39)), (1, .int x1), (2, .int x2), (3, .int x3_8)]) rfl ?_
    exact hk2 _ h
set_option maxHeartbeats 4000000 in
set_option maxRecDepth 100000 in
theorem u_An_addUp_2 {X : gX} {r : gS} (C : gC X b_An_addUp_c R_An 4 1 23) (hR : ∀ pc lv, decode b_An_addUp_c pc = .ok (.return_, 1) → G X pc lv [] r)  (x : Int32 × Int32 × Int32 × gS) (h : l_An_addUp_2 x = some r) : G X 2 [(0, .ref (gA X 39)), (1, .int x.1), (2, .int x.2.1), (3, .int x.2.2.1)] [] x.2.2.2 :=
  lpF_ind (P := fun x => G X 2 [(0, .ref (gA X 39)), (1, .int x.1), (2, .int x.2.1), (3, .int x.2.2.1)] [] x.2.2.2) (fun k hk x h => t_An_addUp_2 C hR hk x.1 x.2.1 x.2.2.1 x.2.2.2 h) gF x h
set_option maxHeartbeats 4000000 in
set_option maxRecDepth 100000 in
theorem t_An_addUp_0 {X : gX} {r : gS} (C : gC X b_An_addUp_c R_An 4 1 23) (hR : ∀ pc lv, decode b_An_addUp_c pc = .ok (.return_, 1) → G X pc lv [] r) (x1 : Int32) (x2 : Int32) (σ : gS) (h : b_An_addUp_0 x1 x2 σ = some r) : G X 0 [(0, .ref (gA X 39)), (1, .int x1), (2, .int x2)] [] σ := by
  unfold b_An_addUp_0 at h
  refine r_iconst C (v := 0) d_An_addUp_0 (by decide) ?_
  refine r_istore_n C (lv' := [(3, .int 0), (0, .ref (gA X 39)), (1, .int x1), (2, .int x2)]) d_An_addUp_1 rfl (by decide) rfl rfl ?_
  refine r_sub [1, 2, 3, 0] (lv' := [(0, .ref (gA X 39)), (1, .int x1), (2, .int x2), (3, .int 0)]) rfl ?_
  exact u_An_addUp_2 C hR  (x1, x2, 0, σ) h
set_option maxHeartbeats 4000000 in
set_option maxRecDepth 100000 in
theorem c_An_addUp (l : Launch) (σ : gS) (x1 : Int32) (x2 : Int32) {r : gS} (h : f_An_addUp σ x1 x2 = some r) : gMet l y_An_addUp b_An_addUp_c 4 (none) 1 23 (fun a => [.ref (a 39), .int x1, .int x2]) σ (none) r := by
  refine gMet_v (by decide +kernel) (fun a => Nat.le_of_ble_eq_true rfl) (fun X _ C hR => ?_)
  refine r_sub [0, 1, 2] (lv' := [(0, .ref (gA X 39)), (1, .int x1), (2, .int x2)]) rfl ?_
  exact t_An_addUp_0 C hR x1 x2 σ h
theorem d_An_playTo_0 : decode b_An_playTo_c 0 = .ok (.aload_n 0, 1) := by decide +kernel
theorem d_An_playTo_1 : decode b_An_playTo_c 1 = .ok (.getfield 23, 3) := by decide +kernel
theorem d_An_playTo_4 : decode b_An_playTo_c 4 = .ok (.aload_n 0, 1) := by decide +kernel
theorem d_An_playTo_5 : decode b_An_playTo_c 5 = .ok (.getfield 26, 3) := by decide +kernel
theorem d_An_playTo_8 : decode b_An_playTo_c 8 = .ok (.getfield 59, 3) := by decide +kernel
theorem d_An_playTo_11 : decode b_An_playTo_c 11 = .ok (.if_icmp .eq 39, 3) := by decide +kernel
theorem d_An_playTo_14 : decode b_An_playTo_c 14 = .ok (.aload_n 0, 1) := by decide +kernel
theorem d_An_playTo_15 : decode b_An_playTo_c 15 = .ok (.aload_n 0, 1) := by decide +kernel
theorem d_An_playTo_16 : decode b_An_playTo_c 16 = .ok (.getfield 26, 3) := by decide +kernel
theorem d_An_playTo_19 : decode b_An_playTo_c 19 = .ok (.getfield 59, 3) := by decide +kernel
theorem d_An_playTo_22 : decode b_An_playTo_c 22 = .ok (.putfield 23, 3) := by decide +kernel
theorem d_An_playTo_25 : decode b_An_playTo_c 25 = .ok (.aload_n 0, 1) := by decide +kernel
theorem d_An_playTo_26 : decode b_An_playTo_c 26 = .ok (.iconst 0, 1) := by decide +kernel
theorem d_An_playTo_27 : decode b_An_playTo_c 27 = .ok (.putfield 19, 3) := by decide +kernel
theorem d_An_playTo_30 : decode b_An_playTo_c 30 = .ok (.aload_n 0, 1) := by decide +kernel
theorem d_An_playTo_31 : decode b_An_playTo_c 31 = .ok (.getfield 16, 3) := by decide +kernel
theorem d_An_playTo_34 : decode b_An_playTo_c 34 = .ok (.iconst 0, 1) := by decide +kernel
theorem d_An_playTo_35 : decode b_An_playTo_c 35 = .ok (.aaload, 1) := by decide +kernel
theorem d_An_playTo_36 : decode b_An_playTo_c 36 = .ok (.iconst 0, 1) := by decide +kernel
theorem d_An_playTo_37 : decode b_An_playTo_c 37 = .ok (.invokestatic 64, 3) := by decide +kernel
theorem d_An_playTo_40 : decode b_An_playTo_c 40 = .ok (.aload_n 0, 1) := by decide +kernel
theorem d_An_playTo_41 : decode b_An_playTo_c 41 = .ok (.getfield 16, 3) := by decide +kernel
theorem d_An_playTo_44 : decode b_An_playTo_c 44 = .ok (.iconst 1, 1) := by decide +kernel
theorem d_An_playTo_45 : decode b_An_playTo_c 45 = .ok (.aaload, 1) := by decide +kernel
theorem d_An_playTo_46 : decode b_An_playTo_c 46 = .ok (.iconst 0, 1) := by decide +kernel
theorem d_An_playTo_47 : decode b_An_playTo_c 47 = .ok (.invokestatic 64, 3) := by decide +kernel
theorem d_An_playTo_50 : decode b_An_playTo_c 50 = .ok (.aload_n 0, 1) := by decide +kernel
theorem d_An_playTo_51 : decode b_An_playTo_c 51 = .ok (.getfield 19, 3) := by decide +kernel
theorem d_An_playTo_54 : decode b_An_playTo_c 54 = .ok (.istore_n 2, 1) := by decide +kernel
theorem d_An_playTo_55 : decode b_An_playTo_c 55 = .ok (.iload_n 2, 1) := by decide +kernel
theorem d_An_playTo_56 : decode b_An_playTo_c 56 = .ok (.iload_n 1, 1) := by decide +kernel
theorem d_An_playTo_57 : decode b_An_playTo_c 57 = .ok (.if_icmp .ge 61, 3) := by decide +kernel
theorem d_An_playTo_60 : decode b_An_playTo_c 60 = .ok (.aload_n 0, 1) := by decide +kernel
theorem d_An_playTo_61 : decode b_An_playTo_c 61 = .ok (.getfield 11, 3) := by decide +kernel
theorem d_An_playTo_64 : decode b_An_playTo_c 64 = .ok (.iconst 0, 1) := by decide +kernel
theorem d_An_playTo_65 : decode b_An_playTo_c 65 = .ok (.aaload, 1) := by decide +kernel
theorem d_An_playTo_66 : decode b_An_playTo_c 66 = .ok (.iload_n 2, 1) := by decide +kernel
theorem d_An_playTo_67 : decode b_An_playTo_c 67 = .ok (.aload_n 0, 1) := by decide +kernel
theorem d_An_playTo_68 : decode b_An_playTo_c 68 = .ok (.iconst 0, 1) := by decide +kernel
theorem d_An_playTo_69 : decode b_An_playTo_c 69 = .ok (.invokevirtual 70, 3) := by decide +kernel
theorem d_An_playTo_72 : decode b_An_playTo_c 72 = .ok (.iastore, 1) := by decide +kernel
theorem d_An_playTo_73 : decode b_An_playTo_c 73 = .ok (.aload_n 0, 1) := by decide +kernel
theorem d_An_playTo_74 : decode b_An_playTo_c 74 = .ok (.getfield 11, 3) := by decide +kernel
theorem d_An_playTo_77 : decode b_An_playTo_c 77 = .ok (.iconst 1, 1) := by decide +kernel
theorem d_An_playTo_78 : decode b_An_playTo_c 78 = .ok (.aaload, 1) := by decide +kernel
theorem d_An_playTo_79 : decode b_An_playTo_c 79 = .ok (.iload_n 2, 1) := by decide +kernel
theorem d_An_playTo_80 : decode b_An_playTo_c 80 = .ok (.aload_n 0, 1) := by decide +kernel
theorem d_An_playTo_81 : decode b_An_playTo_c 81 = .ok (.iconst 1, 1) := by decide +kernel
theorem d_An_playTo_82 : decode b_An_playTo_c 82 = .ok (.invokevirtual 70, 3) := by decide +kernel
theorem d_An_playTo_85 : decode b_An_playTo_c 85 = .ok (.iastore, 1) := by decide +kernel
theorem d_An_playTo_86 : decode b_An_playTo_c 86 = .ok (.aload_n 0, 1) := by decide +kernel
theorem d_An_playTo_87 : decode b_An_playTo_c 87 = .ok (.iconst 0, 1) := by decide +kernel
theorem d_An_playTo_88 : decode b_An_playTo_c 88 = .ok (.aload_n 0, 1) := by decide +kernel
theorem d_An_playTo_89 : decode b_An_playTo_c 89 = .ok (.getfield 11, 3) := by decide +kernel
theorem d_An_playTo_92 : decode b_An_playTo_c 92 = .ok (.iconst 1, 1) := by decide +kernel
theorem d_An_playTo_93 : decode b_An_playTo_c 93 = .ok (.aaload, 1) := by decide +kernel
theorem d_An_playTo_94 : decode b_An_playTo_c 94 = .ok (.iload_n 2, 1) := by decide +kernel
theorem d_An_playTo_95 : decode b_An_playTo_c 95 = .ok (.iaload, 1) := by decide +kernel
theorem d_An_playTo_96 : decode b_An_playTo_c 96 = .ok (.invokevirtual 74, 3) := by decide +kernel
theorem d_An_playTo_99 : decode b_An_playTo_c 99 = .ok (.aload_n 0, 1) := by decide +kernel
theorem d_An_playTo_100 : decode b_An_playTo_c 100 = .ok (.iconst 1, 1) := by decide +kernel
theorem d_An_playTo_101 : decode b_An_playTo_c 101 = .ok (.aload_n 0, 1) := by decide +kernel
theorem d_An_playTo_102 : decode b_An_playTo_c 102 = .ok (.getfield 11, 3) := by decide +kernel
theorem d_An_playTo_105 : decode b_An_playTo_c 105 = .ok (.iconst 0, 1) := by decide +kernel
theorem d_An_playTo_106 : decode b_An_playTo_c 106 = .ok (.aaload, 1) := by decide +kernel
theorem d_An_playTo_107 : decode b_An_playTo_c 107 = .ok (.iload_n 2, 1) := by decide +kernel
theorem d_An_playTo_108 : decode b_An_playTo_c 108 = .ok (.iaload, 1) := by decide +kernel
theorem d_An_playTo_109 : decode b_An_playTo_c 109 = .ok (.invokevirtual 74, 3) := by decide +kernel
theorem d_An_playTo_112 : decode b_An_playTo_c 112 = .ok (.iinc 2 1, 3) := by decide +kernel
theorem d_An_playTo_115 : decode b_An_playTo_c 115 = .ok (.goto (-60), 3) := by decide +kernel
theorem d_An_playTo_118 : decode b_An_playTo_c 118 = .ok (.aload_n 0, 1) := by decide +kernel
theorem d_An_playTo_119 : decode b_An_playTo_c 119 = .ok (.aload_n 0, 1) := by decide +kernel
theorem d_An_playTo_120 : decode b_An_playTo_c 120 = .ok (.getfield 19, 3) := by decide +kernel
theorem d_An_playTo_123 : decode b_An_playTo_c 123 = .ok (.iload_n 1, 1) := by decide +kernel
theorem d_An_playTo_124 : decode b_An_playTo_c 124 = .ok (.invokestatic 52, 3) := by decide +kernel
theorem d_An_playTo_127 : decode b_An_playTo_c 127 = .ok (.putfield 19, 3) := by decide +kernel
theorem d_An_playTo_130 : decode b_An_playTo_c 130 = .ok (.return_, 1) := by decide +kernel
/-! GameRows$Answering.playTo(I)V -/
set_option maxHeartbeats 4000000 in
set_option maxRecDepth 100000 in
theorem t_An_playTo_55 {X : gX} {r : gS} (C : gC X b_An_playTo_c R_An 3 2 46) (hR : ∀ pc lv, decode b_An_playTo_c pc = .ok (.return_, 1) → G X pc lv [] r) {k55 : Int32 × Int32 × gS → Option gS}  (hk55 : ∀ x, k55 x = some r → G X 55 [(0, .ref (gA X 39)), (1, .int x.1), (2, .int x.2.1)] [] x.2.2) (x1 : Int32) (x2 : Int32) (σ : gS) (h : b_An_playTo_55 k55 x1 x2 σ = some r) : G X 55 [(0, .ref (gA X 39)), (1, .int x1), (2, .int x2)] [] σ := by
  unfold b_An_playTo_55 at h
  refine r_iload_n C 2 d_An_playTo_55 rfl rfl ?_
  refine r_iload_n C 1 d_An_playTo_56 rfl rfl ?_
  refine r_icmp_ge C (tgt := 118) d_An_playTo_57 (by decide) (fun hc_1 => ?_) (fun hc_1 => ?_)
  · rw [if_pos hc_1] at h
    refine r_aload_n C 0 d_An_playTo_118 rfl rfl ?_
    refine r_aload_n C 0 d_An_playTo_119 rfl rfl ?_
    refine q_An_19 C d_An_playTo_120 ?_
    refine r_iload_n C 1 d_An_playTo_123 rfl rfl ?_
    obtain ⟨r_2, er_2, h⟩ := bind_some h
    refine r_callS C (As := [.int (gI σ 39 4), .int x1]) (rest := [.ref (gA X 39)]) (st1 := [.int r_2, .ref (gA X 39)]) (c_Ma_max X.1.2.1 σ (gI σ 39 4) x1 er_2) k_Ma_max m_376 rfl rfl rfl (Nat.le_of_ble_eq_true rfl) ⟨Nat.le_of_ble_eq_true rfl, Nat.le_of_ble_eq_true rfl⟩ d_An_playTo_124 rfl ?_
    obtain ⟨σ_3, eσ_3, h⟩ := bnd_some h
    refine p_An_19 C eσ_3 d_An_playTo_127 ?_
    cases h
    exact hR _ _ d_An_playTo_130
  · rw [if_neg hc_1] at h
    refine r_aload_n C 0 d_An_playTo_60 rfl rfl ?_
    refine q_An_11 C d_An_playTo_61 ?_
    refine r_iconst C (v := 0) d_An_playTo_64 (by decide) ?_
    obtain ⟨hi_4, h⟩ := ck_some h
    refine o_40 C (k' := 41) hi_4 rfl d_An_playTo_65 ?_
    refine r_iload_n C 2 d_An_playTo_66 rfl rfl ?_
    refine r_aload_n C 0 d_An_playTo_67 rfl rfl ?_
    refine r_iconst C (v := 0) d_An_playTo_68 (by decide) ?_
    obtain ⟨r_5, er_5, h⟩ := bind_some h
    refine r_callV C (As := [.int 0]) (rest := [.int x2, .ref (gA X 41)]) (st1 := [.int r_5, .int x2, .ref (gA X 41)]) (c_An_leastOfGreatest X.1.2.1 σ 0 er_5) k_An_leastOfGreatest m_378 (by decide) cel_An rfl rfl rfl rfl (Nat.le_of_ble_eq_true rfl) ⟨Nat.le_of_ble_eq_true rfl, Nat.le_of_ble_eq_true rfl⟩ d_An_playTo_69 rfl ?_
    obtain ⟨hi_6, h⟩ := ck_some h
    obtain ⟨σ_7, eσ_7, h⟩ := bnd_some h
    refine r_iast C hi_6 eσ_7 d_An_playTo_72 ?_
    refine r_aload_n C 0 d_An_playTo_73 rfl rfl ?_
    refine q_An_11 C d_An_playTo_74 ?_
    refine r_iconst C (v := 1) d_An_playTo_77 (by decide) ?_
    obtain ⟨hi_8, h⟩ := ck_some h
    refine o_40 C (k' := 42) hi_8 rfl d_An_playTo_78 ?_
    refine r_iload_n C 2 d_An_playTo_79 rfl rfl ?_
    refine r_aload_n C 0 d_An_playTo_80 rfl rfl ?_
    refine r_iconst C (v := 1) d_An_playTo_81 (by decide) ?_
    obtain ⟨r_9, er_9, h⟩ := bind_some h
    refine r_callV C (As := [.int 1]) (rest := [.int x2, .ref (gA X 42)]) (st1 := [.int r_9, .int x2, .ref (gA X 42)]) (c_An_leastOfGreatest X.1.2.1 σ_7 1 er_9) k_An_leastOfGreatest m_378 (by decide) cel_An rfl rfl rfl rfl (Nat.le_of_ble_eq_true rfl) ⟨Nat.le_of_ble_eq_true rfl, Nat.le_of_ble_eq_true rfl⟩ d_An_playTo_82 rfl ?_
    obtain ⟨hi_10, h⟩ := ck_some h
    obtain ⟨σ_11, eσ_11, h⟩ := bnd_some h
    refine r_iast C hi_10 eσ_11 d_An_playTo_85 ?_
    refine r_aload_n C 0 d_An_playTo_86 rfl rfl ?_
    refine r_iconst C (v := 0) d_An_playTo_87 (by decide) ?_
    refine r_aload_n C 0 d_An_playTo_88 rfl rfl ?_
    refine q_An_11 C d_An_playTo_89 ?_
    refine r_iconst C (v := 1) d_An_playTo_92 (by decide) ?_
    obtain ⟨hi_12, h⟩ := ck_some h
    refine o_40 C (k' := 42) hi_12 rfl d_An_playTo_93 ?_
    refine r_iload_n C 2 d_An_playTo_94 rfl rfl ?_
    obtain ⟨hi_13, h⟩ := ck_some h
    refine r_iald C hi_13 d_An_playTo_95 ?_
    obtain ⟨r_14, er_14, h⟩ := bind_some h
    refine r_callV C (As := [.int 0, .int (gI σ_11 42 x2.toNatClampNeg)]) (rest := []) (st1 := []) (c_An_addUp X.1.2.1 σ_11 0 (gI σ_11 42 x2.toNatClampNeg) er_14) k_An_addUp m_383 (by decide) cel_An rfl rfl rfl rfl (Nat.le_of_ble_eq_true rfl) ⟨Nat.le_of_ble_eq_true rfl, Nat.le_of_ble_eq_true rfl⟩ d_An_playTo_96 rfl ?_
    refine r_aload_n C 0 d_An_playTo_99 rfl rfl ?_
    refine r_iconst C (v := 1) d_An_playTo_100 (by decide) ?_
    refine r_aload_n C 0 d_An_playTo_101 rfl rfl ?_
    refine q_An_11 C d_An_playTo_102 ?_
    refine r_iconst C (v := 0) d_An_playTo_105 (by decide) ?_
    obtain ⟨hi_15, h⟩ := ck_some h
    refine o_40 C (k' := 41) hi_15 rfl d_An_playTo_106 ?_
    refine r_iload_n C 2 d_An_playTo_107 rfl rfl ?_
    obtain ⟨hi_16, h⟩ := ck_some h
    refine r_iald C hi_16 d_An_playTo_108 ?_
    obtain ⟨r_17, er_17, h⟩ := bind_some h
    refine r_callV C (As := [.int 1, .int (gI r_14 41 x2.toNatClampNeg)]) (rest := []) (st1 := []) (c_An_addUp X.1.2.1 r_14 1 (gI r_14 41 x2.toNatClampNeg) er_17) k_An_addUp m_383 (by decide) cel_An rfl rfl rfl rfl (Nat.le_of_ble_eq_true rfl) ⟨Nat.le_of_ble_eq_true rfl, Nat.le_of_ble_eq_true rfl⟩ d_An_playTo_109 rfl ?_
    obtain ⟨x2_18, ex2_18, h⟩ := bnd_some h
    refine r_iinc C 2 (lv' := [(2, .int x2_18), (0, .ref (gA X 39)), (1, .int x1)]) d_An_playTo_112 rfl (by rw [ex2_18]; rfl) (by decide) rfl ?_
    refine r_goto C (tgt := 55) d_An_playTo_115 (by decide) ?_
    refine r_sub [1, 2, 0] (lv' := [(0, .ref (gA X 39)), (1, .int x1), (2, .int x2_18)]) rfl ?_
    exact hk55 _ h
set_option maxHeartbeats 4000000 in
set_option maxRecDepth 100000 in
theorem u_An_playTo_55 {X : gX} {r : gS} (C : gC X b_An_playTo_c R_An 3 2 46) (hR : ∀ pc lv, decode b_An_playTo_c pc = .ok (.return_, 1) → G X pc lv [] r)  (x : Int32 × Int32 × gS) (h : l_An_playTo_55 x = some r) : G X 55 [(0, .ref (gA X 39)), (1, .int x.1), (2, .int x.2.1)] [] x.2.2 :=
  lpF_ind (P := fun x => G X 55 [(0, .ref (gA X 39)), (1, .int x.1), (2, .int x.2.1)] [] x.2.2) (fun k hk x h => t_An_playTo_55 C hR hk x.1 x.2.1 x.2.2 h) gF x h
set_option maxHeartbeats 4000000 in
set_option maxRecDepth 100000 in
theorem t_An_playTo_50 {X : gX} {r : gS} (C : gC X b_An_playTo_c R_An 3 2 46) (hR : ∀ pc lv, decode b_An_playTo_c pc = .ok (.return_, 1) → G X pc lv [] r) (x1 : Int32) (σ : gS) (h : b_An_playTo_50 x1 σ = some r) : G X 50 [(0, .ref (gA X 39)), (1, .int x1)] [] σ := by
  unfold b_An_playTo_50 at h
  refine r_aload_n C 0 d_An_playTo_50 rfl rfl ?_
  refine q_An_19 C d_An_playTo_51 ?_
  obtain ⟨x2_1, ex2_1, h⟩ := bnd_some h
  refine r_istore_n C (lv' := [(2, .int x2_1), (0, .ref (gA X 39)), (1, .int x1)]) d_An_playTo_54 rfl (by decide) ex2_1 rfl ?_
  refine r_sub [1, 2, 0] (lv' := [(0, .ref (gA X 39)), (1, .int x1), (2, .int x2_1)]) rfl ?_
  exact u_An_playTo_55 C hR  (x1, x2_1, σ) h
set_option maxHeartbeats 4000000 in
set_option maxRecDepth 100000 in
theorem t_An_playTo_0 {X : gX} {r : gS} (C : gC X b_An_playTo_c R_An 3 2 46) (hR : ∀ pc lv, decode b_An_playTo_c pc = .ok (.return_, 1) → G X pc lv [] r) (x1 : Int32) (σ : gS) (h : b_An_playTo_0 x1 σ = some r) : G X 0 [(0, .ref (gA X 39)), (1, .int x1)] [] σ := by
  unfold b_An_playTo_0 at h
  refine r_aload_n C 0 d_An_playTo_0 rfl rfl ?_
  refine q_An_23 C d_An_playTo_1 ?_
  refine r_aload_n C 0 d_An_playTo_4 rfl rfl ?_
  refine q_An_26 C d_An_playTo_5 ?_
  refine q_An_59 C d_An_playTo_8 ?_
  refine r_icmp_eq C (tgt := 50) d_An_playTo_11 (by decide) (fun hc_1 => ?_) (fun hc_1 => ?_)
  · rw [if_pos hc_1] at h
    exact t_An_playTo_50 C hR x1 σ h
  · rw [if_neg hc_1] at h
    refine r_aload_n C 0 d_An_playTo_14 rfl rfl ?_
    refine r_aload_n C 0 d_An_playTo_15 rfl rfl ?_
    refine q_An_26 C d_An_playTo_16 ?_
    refine q_An_59 C d_An_playTo_19 ?_
    obtain ⟨σ_2, eσ_2, h⟩ := bnd_some h
    refine p_An_23 C eσ_2 d_An_playTo_22 ?_
    refine r_aload_n C 0 d_An_playTo_25 rfl rfl ?_
    refine r_iconst C (v := 0) d_An_playTo_26 (by decide) ?_
    obtain ⟨σ_3, eσ_3, h⟩ := bnd_some h
    refine p_An_19 C eσ_3 d_An_playTo_27 ?_
    refine r_aload_n C 0 d_An_playTo_30 rfl rfl ?_
    refine q_An_16 C d_An_playTo_31 ?_
    refine r_iconst C (v := 0) d_An_playTo_34 (by decide) ?_
    obtain ⟨hi_4, h⟩ := ck_some h
    refine o_43 C (k' := 44) hi_4 rfl d_An_playTo_35 ?_
    refine r_iconst C (v := 0) d_An_playTo_36 (by decide) ?_
    obtain ⟨r_5, er_5, h⟩ := bind_some h
    refine r_callS C (As := [.ref (gA X 44), .int 0]) (rest := []) (st1 := []) (c_Ar_fillI X.1.2.1 σ_3 44 0 er_5) k_Ar_fillI m_390 rfl rfl rfl (Nat.le_of_ble_eq_true rfl) ⟨Nat.le_of_ble_eq_true rfl, Nat.le_of_ble_eq_true rfl⟩ d_An_playTo_37 rfl ?_
    refine r_aload_n C 0 d_An_playTo_40 rfl rfl ?_
    refine q_An_16 C d_An_playTo_41 ?_
    refine r_iconst C (v := 1) d_An_playTo_44 (by decide) ?_
    obtain ⟨hi_6, h⟩ := ck_some h
    refine o_43 C (k' := 45) hi_6 rfl d_An_playTo_45 ?_
    refine r_iconst C (v := 0) d_An_playTo_46 (by decide) ?_
    obtain ⟨r_7, er_7, h⟩ := bind_some h
    refine r_callS C (As := [.ref (gA X 45), .int 0]) (rest := []) (st1 := []) (c_Ar_fillI X.1.2.1 r_5 45 0 er_7) k_Ar_fillI m_390 rfl rfl rfl (Nat.le_of_ble_eq_true rfl) ⟨Nat.le_of_ble_eq_true rfl, Nat.le_of_ble_eq_true rfl⟩ d_An_playTo_47 rfl ?_
    exact t_An_playTo_50 C hR x1 r_7 h
set_option maxHeartbeats 4000000 in
set_option maxRecDepth 100000 in
theorem c_An_playTo (l : Launch) (σ : gS) (x1 : Int32) {r : gS} (h : f_An_playTo σ x1 = some r) : gMet l y_An_playTo b_An_playTo_c 3 (none) 2 46 (fun a => [.ref (a 39), .int x1]) σ (none) r := by
  refine gMet_v (by decide +kernel) (fun a => Nat.le_of_ble_eq_true rfl) (fun X _ C hR => ?_)
  refine r_sub [0, 1] (lv' := [(0, .ref (gA X 39)), (1, .int x1)]) rfl ?_
  exact t_An_playTo_0 C hR x1 σ h
theorem d_An_timesTaken_0 : decode b_An_timesTaken_c 0 = .ok (.iconst 0, 1) := by decide +kernel
theorem d_An_timesTaken_1 : decode b_An_timesTaken_c 1 = .ok (.istore 4, 2) := by decide +kernel
theorem d_An_timesTaken_3 : decode b_An_timesTaken_c 3 = .ok (.iconst 0, 1) := by decide +kernel
theorem d_An_timesTaken_4 : decode b_An_timesTaken_c 4 = .ok (.istore 5, 2) := by decide +kernel
theorem d_An_timesTaken_6 : decode b_An_timesTaken_c 6 = .ok (.iload 5, 2) := by decide +kernel
theorem d_An_timesTaken_8 : decode b_An_timesTaken_c 8 = .ok (.iload_n 1, 1) := by decide +kernel
theorem d_An_timesTaken_9 : decode b_An_timesTaken_c 9 = .ok (.if_icmp .ge 25, 3) := by decide +kernel
theorem d_An_timesTaken_12 : decode b_An_timesTaken_c 12 = .ok (.aload_n 0, 1) := by decide +kernel
theorem d_An_timesTaken_13 : decode b_An_timesTaken_c 13 = .ok (.getfield 11, 3) := by decide +kernel
theorem d_An_timesTaken_16 : decode b_An_timesTaken_c 16 = .ok (.iload_n 2, 1) := by decide +kernel
theorem d_An_timesTaken_17 : decode b_An_timesTaken_c 17 = .ok (.aaload, 1) := by decide +kernel
theorem d_An_timesTaken_18 : decode b_An_timesTaken_c 18 = .ok (.iload 5, 2) := by decide +kernel
theorem d_An_timesTaken_20 : decode b_An_timesTaken_c 20 = .ok (.iaload, 1) := by decide +kernel
theorem d_An_timesTaken_21 : decode b_An_timesTaken_c 21 = .ok (.iload_n 3, 1) := by decide +kernel
theorem d_An_timesTaken_22 : decode b_An_timesTaken_c 22 = .ok (.if_icmp .ne 6, 3) := by decide +kernel
theorem d_An_timesTaken_25 : decode b_An_timesTaken_c 25 = .ok (.iinc 4 1, 3) := by decide +kernel
theorem d_An_timesTaken_28 : decode b_An_timesTaken_c 28 = .ok (.iinc 5 1, 3) := by decide +kernel
theorem d_An_timesTaken_31 : decode b_An_timesTaken_c 31 = .ok (.goto (-25), 3) := by decide +kernel
theorem d_An_timesTaken_34 : decode b_An_timesTaken_c 34 = .ok (.iload 4, 2) := by decide +kernel
theorem d_An_timesTaken_36 : decode b_An_timesTaken_c 36 = .ok (.ireturn, 1) := by decide +kernel
/-! GameRows$Answering.timesTaken(III)I -/
set_option maxHeartbeats 4000000 in
set_option maxRecDepth 100000 in
theorem t_An_timesTaken_28 {X : gX} {r : Int32} {σ : gS} (C : gC X b_An_timesTaken_c R_An 6 0 0) (hR : ∀ pc lv, decode b_An_timesTaken_c pc = .ok (.ireturn, 1) → G X pc lv [.int r] σ) {k6 : Int32 × Int32 × Int32 × Int32 × Int32 → Option Int32}  (hk6 : ∀ x, k6 x = some r → G X 6 [(0, .ref (gA X 39)), (1, .int x.1), (2, .int x.2.1), (3, .int x.2.2.1), (4, .int x.2.2.2.1), (5, .int x.2.2.2.2)] [] σ) (x1 : Int32) (x2 : Int32) (x3 : Int32) (x4 : Int32) (x5 : Int32) (h : b_An_timesTaken_28 σ k6 x1 x2 x3 x4 x5 = some r) : G X 28 [(0, .ref (gA X 39)), (1, .int x1), (2, .int x2), (3, .int x3), (4, .int x4), (5, .int x5)] [] σ := by
  unfold b_An_timesTaken_28 at h
  obtain ⟨x5_1, ex5_1, h⟩ := bnd_some h
  refine r_iinc C 5 (lv' := [(5, .int x5_1), (0, .ref (gA X 39)), (1, .int x1), (2, .int x2), (3, .int x3), (4, .int x4)]) d_An_timesTaken_28 rfl (by rw [ex5_1]; rfl) (by decide) rfl ?_
  refine r_goto C (tgt := 6) d_An_timesTaken_31 (by decide) ?_
  refine r_sub [1, 2, 3, 4, 5, 0] (lv' := [(0, .ref (gA X 39)), (1, .int x1), (2, .int x2), (3, .int x3), (4, .int x4), (5, .int x5_1)]) rfl ?_
  exact hk6 _ h
set_option maxHeartbeats 4000000 in
set_option maxRecDepth 100000 in
theorem t_An_timesTaken_6 {X : gX} {r : Int32} {σ : gS} (C : gC X b_An_timesTaken_c R_An 6 0 0) (hR : ∀ pc lv, decode b_An_timesTaken_c pc = .ok (.ireturn, 1) → G X pc lv [.int r] σ) {k6 : Int32 × Int32 × Int32 × Int32 × Int32 → Option Int32}  (hk6 : ∀ x, k6 x = some r → G X 6 [(0, .ref (gA X 39)), (1, .int x.1), (2, .int x.2.1), (3, .int x.2.2.1), (4, .int x.2.2.2.1), (5, .int x.2.2.2.2)] [] σ) (x1 : Int32) (x2 : Int32) (x3 : Int32) (x4 : Int32) (x5 : Int32) (h : b_An_timesTaken_6 σ k6 x1 x2 x3 x4 x5 = some r) : G X 6 [(0, .ref (gA X 39)), (1, .int x1), (2, .int x2), (3, .int x3), (4, .int x4), (5, .int x5)] [] σ := by
  unfold b_An_timesTaken_6 at h
  refine r_iload C 5 d_An_timesTaken_6 rfl ?_
  refine r_iload_n C 1 d_An_timesTaken_8 rfl rfl ?_
  refine r_icmp_ge C (tgt := 34) d_An_timesTaken_9 (by decide) (fun hc_1 => ?_) (fun hc_1 => ?_)
  · rw [if_pos hc_1] at h
    refine r_iload C 4 d_An_timesTaken_34 rfl ?_
    cases h
    exact hR _ _ d_An_timesTaken_36
  · rw [if_neg hc_1] at h
    refine r_aload_n C 0 d_An_timesTaken_12 rfl rfl ?_
    refine q_An_11 C d_An_timesTaken_13 ?_
    refine r_iload_n C 2 d_An_timesTaken_16 rfl rfl ?_
    obtain ⟨hi_2, h⟩ := ck_some h
    refine o_40 C (k' := 40 + 1 + x2.toNatClampNeg) hi_2 rfl d_An_timesTaken_17 ?_
    refine r_iload C 5 d_An_timesTaken_18 rfl ?_
    obtain ⟨hi_3, h⟩ := ck_some h
    refine r_iald C hi_3 d_An_timesTaken_20 ?_
    refine r_iload_n C 3 d_An_timesTaken_21 rfl rfl ?_
    refine r_icmp_ne C (tgt := 28) d_An_timesTaken_22 (by decide) (fun hc_4 => ?_) (fun hc_4 => ?_)
    · rw [if_neg hc_4] at h
      exact t_An_timesTaken_28 C hR hk6 x1 x2 x3 x4 x5 h
    · rw [if_pos hc_4] at h
      obtain ⟨x4_5, ex4_5, h⟩ := bnd_some h
      refine r_iinc C 4 (lv' := [(4, .int x4_5), (0, .ref (gA X 39)), (1, .int x1), (2, .int x2), (3, .int x3), (5, .int x5)]) d_An_timesTaken_25 rfl (by rw [ex4_5]; rfl) (by decide) rfl ?_
      refine r_sub [1, 2, 3, 4, 0, 5] (lv' := [(0, .ref (gA X 39)), (1, .int x1), (2, .int x2), (3, .int x3), (4, .int x4_5), (5, .int x5)]) rfl ?_
      exact t_An_timesTaken_28 C hR hk6 x1 x2 x3 x4_5 x5 h
set_option maxHeartbeats 4000000 in
set_option maxRecDepth 100000 in
theorem u_An_timesTaken_6 {X : gX} {r : Int32} {σ : gS} (C : gC X b_An_timesTaken_c R_An 6 0 0) (hR : ∀ pc lv, decode b_An_timesTaken_c pc = .ok (.ireturn, 1) → G X pc lv [.int r] σ)  (x : Int32 × Int32 × Int32 × Int32 × Int32) (h : l_An_timesTaken_6 σ x = some r) : G X 6 [(0, .ref (gA X 39)), (1, .int x.1), (2, .int x.2.1), (3, .int x.2.2.1), (4, .int x.2.2.2.1), (5, .int x.2.2.2.2)] [] σ :=
  lpF_ind (P := fun x => G X 6 [(0, .ref (gA X 39)), (1, .int x.1), (2, .int x.2.1), (3, .int x.2.2.1), (4, .int x.2.2.2.1), (5, .int x.2.2.2.2)] [] σ) (fun k hk x h => t_An_timesTaken_6 C hR hk x.1 x.2.1 x.2.2.1 x.2.2.2.1 x.2.2.2.2 h) gF x h
set_option maxHeartbeats 4000000 in
set_option maxRecDepth 100000 in
theorem t_An_timesTaken_0 {X : gX} {r : Int32} {σ : gS} (C : gC X b_An_timesTaken_c R_An 6 0 0) (hR : ∀ pc lv, decode b_An_timesTaken_c pc = .ok (.ireturn, 1) → G X pc lv [.int r] σ) (x1 : Int32) (x2 : Int32) (x3 : Int32) (h : b_An_timesTaken_0 σ x1 x2 x3 = some r) : G X 0 [(0, .ref (gA X 39)), (1, .int x1), (2, .int x2), (3, .int x3)] [] σ := by
  unfold b_An_timesTaken_0 at h
  refine r_iconst C (v := 0) d_An_timesTaken_0 (by decide) ?_
  refine r_istore C (lv' := [(4, .int 0), (0, .ref (gA X 39)), (1, .int x1), (2, .int x2), (3, .int x3)]) d_An_timesTaken_1 (by decide) rfl rfl ?_
  refine r_iconst C (v := 0) d_An_timesTaken_3 (by decide) ?_
  refine r_istore C (lv' := [(5, .int 0), (4, .int 0), (0, .ref (gA X 39)), (1, .int x1), (2, .int x2), (3, .int x3)]) d_An_timesTaken_4 (by decide) rfl rfl ?_
  refine r_sub [2, 3, 4, 5, 1, 0] (lv' := [(0, .ref (gA X 39)), (1, .int x1), (2, .int x2), (3, .int x3), (4, .int 0), (5, .int 0)]) rfl ?_
  exact u_An_timesTaken_6 C hR  (x1, x2, x3, 0, 0) h
set_option maxHeartbeats 4000000 in
set_option maxRecDepth 100000 in
theorem c_An_timesTaken (l : Launch) (σ : gS) (x1 : Int32) (x2 : Int32) (x3 : Int32) {r : Int32} (h : f_An_timesTaken σ x1 x2 x3 = some r) : gMet l y_An_timesTaken b_An_timesTaken_c 6 (some .int) 0 0 (fun a => [.ref (a 39), .int x1, .int x2, .int x3]) σ (some (.int r)) σ := by
  refine gMet_i (by decide +kernel) (fun a => Nat.le_of_ble_eq_true rfl) (fun X _ C hR => ?_)
  refine r_sub [0, 1, 2, 3] (lv' := [(0, .ref (gA X 39)), (1, .int x1), (2, .int x2), (3, .int x3)]) rfl ?_
  exact t_An_timesTaken_0 C hR x1 x2 x3 h
