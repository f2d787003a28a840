theorem d_Mo_goes_0 : decode b_Mo_goes_c 0 = .ok (.aload_n 0, 1) := by decide +kernel
theorem d_Mo_goes_1 : decode b_Mo_goes_c 1 = .ok (.getfield 71, 3) := by decide +kernel
theorem d_Mo_goes_4 : decode b_Mo_goes_c 4 = .ok (.ifCond .ne 6, 3) := by decide +kernel
theorem d_Mo_goes_7 : decode b_Mo_goes_c 7 = .ok (.ldc 134, 2) := by decide +kernel
theorem d_Mo_goes_9 : decode b_Mo_goes_c 9 = .ok (.ireturn, 1) := by decide +kernel
theorem d_Mo_goes_10 : decode b_Mo_goes_c 10 = .ok (.iload_n 1, 1) := by decide +kernel
theorem d_Mo_goes_11 : decode b_Mo_goes_c 11 = .ok (.iconst 0, 1) := by decide +kernel
theorem d_Mo_goes_12 : decode b_Mo_goes_c 12 = .ok (.iconst 1, 1) := by decide +kernel
theorem d_Mo_goes_13 : decode b_Mo_goes_c 13 = .ok (.invokestatic 78, 3) := by decide +kernel
theorem d_Mo_goes_16 : decode b_Mo_goes_c 16 = .ok (.ifCond .ne 6, 3) := by decide +kernel
theorem d_Mo_goes_19 : decode b_Mo_goes_c 19 = .ok (.bipush (-2), 2) := by decide +kernel
theorem d_Mo_goes_21 : decode b_Mo_goes_c 21 = .ok (.ireturn, 1) := by decide +kernel
theorem d_Mo_goes_22 : decode b_Mo_goes_c 22 = .ok (.aload_n 0, 1) := by decide +kernel
theorem d_Mo_goes_23 : decode b_Mo_goes_c 23 = .ok (.invokevirtual 200, 3) := by decide +kernel
theorem d_Mo_goes_26 : decode b_Mo_goes_c 26 = .ok (.pop, 1) := by decide +kernel
theorem d_Mo_goes_27 : decode b_Mo_goes_c 27 = .ok (.iload_n 2, 1) := by decide +kernel
theorem d_Mo_goes_28 : decode b_Mo_goes_c 28 = .ok (.iconst 0, 1) := by decide +kernel
theorem d_Mo_goes_29 : decode b_Mo_goes_c 29 = .ok (.aload_n 0, 1) := by decide +kernel
theorem d_Mo_goes_30 : decode b_Mo_goes_c 30 = .ok (.iload_n 1, 1) := by decide +kernel
theorem d_Mo_goes_31 : decode b_Mo_goes_c 31 = .ok (.invokevirtual 146, 3) := by decide +kernel
theorem d_Mo_goes_34 : decode b_Mo_goes_c 34 = .ok (.iconst 1, 1) := by decide +kernel
theorem d_Mo_goes_35 : decode b_Mo_goes_c 35 = .ok (.isub, 1) := by decide +kernel
theorem d_Mo_goes_36 : decode b_Mo_goes_c 36 = .ok (.invokestatic 78, 3) := by decide +kernel
theorem d_Mo_goes_39 : decode b_Mo_goes_c 39 = .ok (.ifCond .eq 17, 3) := by decide +kernel
theorem d_Mo_goes_42 : decode b_Mo_goes_c 42 = .ok (.aload_n 0, 1) := by decide +kernel
theorem d_Mo_goes_43 : decode b_Mo_goes_c 43 = .ok (.getfield 59, 3) := by decide +kernel
theorem d_Mo_goes_46 : decode b_Mo_goes_c 46 = .ok (.bipush 64, 2) := by decide +kernel
theorem d_Mo_goes_48 : decode b_Mo_goes_c 48 = .ok (.iload_n 1, 1) := by decide +kernel
theorem d_Mo_goes_49 : decode b_Mo_goes_c 49 = .ok (.imul, 1) := by decide +kernel
theorem d_Mo_goes_50 : decode b_Mo_goes_c 50 = .ok (.iload_n 2, 1) := by decide +kernel
theorem d_Mo_goes_51 : decode b_Mo_goes_c 51 = .ok (.iadd, 1) := by decide +kernel
theorem d_Mo_goes_52 : decode b_Mo_goes_c 52 = .ok (.iaload, 1) := by decide +kernel
theorem d_Mo_goes_53 : decode b_Mo_goes_c 53 = .ok (.goto 5, 3) := by decide +kernel
theorem d_Mo_goes_56 : decode b_Mo_goes_c 56 = .ok (.bipush (-2), 2) := by decide +kernel
theorem d_Mo_goes_58 : decode b_Mo_goes_c 58 = .ok (.ireturn, 1) := by decide +kernel
/-! GameRowsModel.goes(II)I -/
set_option maxHeartbeats 4000000 in
set_option maxRecDepth 100000 in
theorem t_Mo_goes_0 {X : gX} {r : (Int32 × gS)} (C : gC X b_Mo_goes_c R_Mo 3 4 96) (hR : ∀ pc lv, decode b_Mo_goes_c pc = .ok (.ireturn, 1) → G X pc lv [.int r.1] r.2) (x1 : Int32) (x2 : Int32) (σ : gS) (h : b_Mo_goes_0 x1 x2 σ = some r) : G X 0 [(0, .ref (gA X 46)), (1, .int x1), (2, .int x2)] [] σ := by
  unfold b_Mo_goes_0 at h
  refine r_aload_n C 0 d_Mo_goes_0 rfl rfl ?_
  refine q_Mo_71 C d_Mo_goes_1 ?_
  refine r_if_ne C (tgt := 10) d_Mo_goes_4 (by decide) (fun hc_1 => ?_) (fun hc_1 => ?_)
  · rw [if_neg hc_1] at h
    refine r_iload_n C 1 d_Mo_goes_10 rfl rfl ?_
    refine r_iconst C (v := 0) d_Mo_goes_11 (by decide) ?_
    refine r_iconst C (v := 1) d_Mo_goes_12 (by decide) ?_
    obtain ⟨r_2, er_2, h⟩ := bind_some h
    refine r_callS C (As := [.int x1, .int 0, .int 1]) (rest := []) (st1 := [.int r_2]) (c_Mo_isFrom X.1.2.1 σ x1 0 1 er_2) k_Mo_isFrom m_420 rfl rfl rfl (Nat.le_of_ble_eq_true rfl) ⟨Nat.le_of_ble_eq_true rfl, Nat.le_of_ble_eq_true rfl⟩ d_Mo_goes_13 rfl ?_
    refine r_if_ne C (tgt := 22) d_Mo_goes_16 (by decide) (fun hc_3 => ?_) (fun hc_3 => ?_)
    · rw [if_neg hc_3] at h
      refine r_aload_n C 0 d_Mo_goes_22 rfl rfl ?_
      obtain ⟨r_4, er_4, h⟩ := bind_some h
      refine r_callV C (As := []) (rest := []) (st1 := [.int r_4.1]) (c_Mo_doRounds X.1.2.1 σ  er_4) k_Mo_doRounds m_566 (by decide) cel_Mo rfl rfl rfl rfl (Nat.le_of_ble_eq_true rfl) ⟨Nat.le_of_ble_eq_true rfl, Nat.le_of_ble_eq_true rfl⟩ d_Mo_goes_23 rfl ?_
      refine r_pop C d_Mo_goes_26 rfl ?_
      refine r_iload_n C 2 d_Mo_goes_27 rfl rfl ?_
      refine r_iconst C (v := 0) d_Mo_goes_28 (by decide) ?_
      refine r_aload_n C 0 d_Mo_goes_29 rfl rfl ?_
      refine r_iload_n C 1 d_Mo_goes_30 rfl rfl ?_
      obtain ⟨r_5, er_5, h⟩ := bind_some h
      refine r_callV C (As := [.int x1]) (rest := [.int 0, .int x2]) (st1 := [.int r_5, .int 0, .int x2]) (c_Mo_many X.1.2.1 r_4.2 x1 er_5) k_Mo_many m_500 (by decide) cel_Mo rfl rfl rfl rfl (Nat.le_of_ble_eq_true rfl) ⟨Nat.le_of_ble_eq_true rfl, Nat.le_of_ble_eq_true rfl⟩ d_Mo_goes_31 rfl ?_
      refine r_iconst C (v := 1) d_Mo_goes_34 (by decide) ?_
      refine r_isub C d_Mo_goes_35 ?_
      obtain ⟨r_6, er_6, h⟩ := bind_some h
      refine r_callS C (As := [.int x2, .int 0, .int (r_5 - 1)]) (rest := []) (st1 := [.int r_6]) (c_Mo_isFrom X.1.2.1 r_4.2 x2 0 (r_5 - 1) er_6) k_Mo_isFrom m_420 rfl rfl rfl (Nat.le_of_ble_eq_true rfl) ⟨Nat.le_of_ble_eq_true rfl, Nat.le_of_ble_eq_true rfl⟩ d_Mo_goes_36 rfl ?_
      refine r_if_eq C (tgt := 56) d_Mo_goes_39 (by decide) (fun hc_7 => ?_) (fun hc_7 => ?_)
      · rw [if_pos hc_7] at h
        refine r_bipush C (v := (-2)) d_Mo_goes_56 (by decide) ?_
        cases h
        exact hR _ _ d_Mo_goes_58
      · rw [if_neg hc_7] at h
        refine r_aload_n C 0 d_Mo_goes_42 rfl rfl ?_
        refine q_Mo_59 C d_Mo_goes_43 ?_
        refine r_bipush C (v := 64) d_Mo_goes_46 (by decide) ?_
        refine r_iload_n C 1 d_Mo_goes_48 rfl rfl ?_
        refine r_imul C d_Mo_goes_49 ?_
        refine r_iload_n C 2 d_Mo_goes_50 rfl rfl ?_
        refine r_iadd C d_Mo_goes_51 ?_
        obtain ⟨hi_8, h⟩ := ck_some h
        refine r_iald C hi_8 d_Mo_goes_52 ?_
        refine r_goto C (tgt := 58) d_Mo_goes_53 (by decide) ?_
        cases h
        exact hR _ _ d_Mo_goes_58
    · rw [if_pos hc_3] at h
      refine r_bipush C (v := (-2)) d_Mo_goes_19 (by decide) ?_
      cases h
      exact hR _ _ d_Mo_goes_21
  · rw [if_pos hc_1] at h
    refine r_ldc C (v := (-1000000)) m_491 d_Mo_goes_7 ?_
    cases h
    exact hR _ _ d_Mo_goes_9
set_option maxHeartbeats 4000000 in
set_option maxRecDepth 100000 in
theorem c_Mo_goes (l : Launch) (σ : gS) (x1 : Int32) (x2 : Int32) {r : (Int32 × gS)} (h : f_Mo_goes σ x1 x2 = some r) : gMet l y_Mo_goes b_Mo_goes_c 3 (some .int) 4 96 (fun a => [.ref (a 46), .int x1, .int x2]) σ (some (.int r.1)) r.2 := by
  refine gMet_i (by decide +kernel) (fun a => Nat.le_of_ble_eq_true rfl) (fun X _ C hR => ?_)
  refine r_sub [0, 1, 2] (lv' := [(0, .ref (gA X 46)), (1, .int x1), (2, .int x2)]) rfl ?_
  exact t_Mo_goes_0 C hR x1 x2 σ h
theorem d_Mo_sure_0 : decode b_Mo_sure_c 0 = .ok (.iload_n 1, 1) := by decide +kernel
theorem d_Mo_sure_1 : decode b_Mo_sure_c 1 = .ok (.iconst 0, 1) := by decide +kernel
theorem d_Mo_sure_2 : decode b_Mo_sure_c 2 = .ok (.iconst 1, 1) := by decide +kernel
theorem d_Mo_sure_3 : decode b_Mo_sure_c 3 = .ok (.invokestatic 78, 3) := by decide +kernel
theorem d_Mo_sure_6 : decode b_Mo_sure_c 6 = .ok (.ifCond .eq 10, 3) := by decide +kernel
theorem d_Mo_sure_9 : decode b_Mo_sure_c 9 = .ok (.aload_n 0, 1) := by decide +kernel
theorem d_Mo_sure_10 : decode b_Mo_sure_c 10 = .ok (.getfield 71, 3) := by decide +kernel
theorem d_Mo_sure_13 : decode b_Mo_sure_c 13 = .ok (.ifCond .ne 6, 3) := by decide +kernel
theorem d_Mo_sure_16 : decode b_Mo_sure_c 16 = .ok (.ldc 134, 2) := by decide +kernel
theorem d_Mo_sure_18 : decode b_Mo_sure_c 18 = .ok (.ireturn, 1) := by decide +kernel
theorem d_Mo_sure_19 : decode b_Mo_sure_c 19 = .ok (.aload_n 0, 1) := by decide +kernel
theorem d_Mo_sure_20 : decode b_Mo_sure_c 20 = .ok (.aload_n 0, 1) := by decide +kernel
theorem d_Mo_sure_21 : decode b_Mo_sure_c 21 = .ok (.invokevirtual 135, 3) := by decide +kernel
theorem d_Mo_sure_24 : decode b_Mo_sure_c 24 = .ok (.invokevirtual 139, 3) := by decide +kernel
theorem d_Mo_sure_27 : decode b_Mo_sure_c 27 = .ok (.ldc 134, 2) := by decide +kernel
theorem d_Mo_sure_29 : decode b_Mo_sure_c 29 = .ok (.istore_n 2, 1) := by decide +kernel
theorem d_Mo_sure_30 : decode b_Mo_sure_c 30 = .ok (.iconst 0, 1) := by decide +kernel
theorem d_Mo_sure_31 : decode b_Mo_sure_c 31 = .ok (.istore_n 3, 1) := by decide +kernel
theorem d_Mo_sure_32 : decode b_Mo_sure_c 32 = .ok (.iload_n 3, 1) := by decide +kernel
theorem d_Mo_sure_33 : decode b_Mo_sure_c 33 = .ok (.aload_n 0, 1) := by decide +kernel
theorem d_Mo_sure_34 : decode b_Mo_sure_c 34 = .ok (.iload_n 1, 1) := by decide +kernel
theorem d_Mo_sure_35 : decode b_Mo_sure_c 35 = .ok (.invokevirtual 146, 3) := by decide +kernel
theorem d_Mo_sure_38 : decode b_Mo_sure_c 38 = .ok (.if_icmp .ge 80, 3) := by decide +kernel
theorem d_Mo_sure_41 : decode b_Mo_sure_c 41 = .ok (.aload_n 0, 1) := by decide +kernel
theorem d_Mo_sure_42 : decode b_Mo_sure_c 42 = .ok (.iload_n 1, 1) := by decide +kernel
theorem d_Mo_sure_43 : decode b_Mo_sure_c 43 = .ok (.iload_n 3, 1) := by decide +kernel
theorem d_Mo_sure_44 : decode b_Mo_sure_c 44 = .ok (.iconst 0, 1) := by decide +kernel
theorem d_Mo_sure_45 : decode b_Mo_sure_c 45 = .ok (.invokevirtual 143, 3) := by decide +kernel
theorem d_Mo_sure_48 : decode b_Mo_sure_c 48 = .ok (.istore 4, 2) := by decide +kernel
theorem d_Mo_sure_50 : decode b_Mo_sure_c 50 = .ok (.iconst 1, 1) := by decide +kernel
theorem d_Mo_sure_51 : decode b_Mo_sure_c 51 = .ok (.istore 5, 2) := by decide +kernel
theorem d_Mo_sure_53 : decode b_Mo_sure_c 53 = .ok (.iload 5, 2) := by decide +kernel
theorem d_Mo_sure_55 : decode b_Mo_sure_c 55 = .ok (.aload_n 0, 1) := by decide +kernel
theorem d_Mo_sure_56 : decode b_Mo_sure_c 56 = .ok (.iconst 1, 1) := by decide +kernel
theorem d_Mo_sure_57 : decode b_Mo_sure_c 57 = .ok (.iload_n 1, 1) := by decide +kernel
theorem d_Mo_sure_58 : decode b_Mo_sure_c 58 = .ok (.isub, 1) := by decide +kernel
theorem d_Mo_sure_59 : decode b_Mo_sure_c 59 = .ok (.invokevirtual 146, 3) := by decide +kernel
theorem d_Mo_sure_62 : decode b_Mo_sure_c 62 = .ok (.if_icmp .ge 37, 3) := by decide +kernel
theorem d_Mo_sure_65 : decode b_Mo_sure_c 65 = .ok (.aload_n 0, 1) := by decide +kernel
theorem d_Mo_sure_66 : decode b_Mo_sure_c 66 = .ok (.iload_n 1, 1) := by decide +kernel
theorem d_Mo_sure_67 : decode b_Mo_sure_c 67 = .ok (.iload_n 3, 1) := by decide +kernel
theorem d_Mo_sure_68 : decode b_Mo_sure_c 68 = .ok (.iload 5, 2) := by decide +kernel
theorem d_Mo_sure_70 : decode b_Mo_sure_c 70 = .ok (.invokevirtual 143, 3) := by decide +kernel
theorem d_Mo_sure_73 : decode b_Mo_sure_c 73 = .ok (.iload 4, 2) := by decide +kernel
theorem d_Mo_sure_75 : decode b_Mo_sure_c 75 = .ok (.if_icmp .ge 14, 3) := by decide +kernel
theorem d_Mo_sure_78 : decode b_Mo_sure_c 78 = .ok (.aload_n 0, 1) := by decide +kernel
theorem d_Mo_sure_79 : decode b_Mo_sure_c 79 = .ok (.iload_n 1, 1) := by decide +kernel
theorem d_Mo_sure_80 : decode b_Mo_sure_c 80 = .ok (.iload_n 3, 1) := by decide +kernel
theorem d_Mo_sure_81 : decode b_Mo_sure_c 81 = .ok (.iload 5, 2) := by decide +kernel
theorem d_Mo_sure_83 : decode b_Mo_sure_c 83 = .ok (.invokevirtual 143, 3) := by decide +kernel
theorem d_Mo_sure_86 : decode b_Mo_sure_c 86 = .ok (.goto 5, 3) := by decide +kernel
theorem d_Mo_sure_89 : decode b_Mo_sure_c 89 = .ok (.iload 4, 2) := by decide +kernel
theorem d_Mo_sure_91 : decode b_Mo_sure_c 91 = .ok (.istore 4, 2) := by decide +kernel
theorem d_Mo_sure_93 : decode b_Mo_sure_c 93 = .ok (.iinc 5 1, 3) := by decide +kernel
theorem d_Mo_sure_96 : decode b_Mo_sure_c 96 = .ok (.goto (-43), 3) := by decide +kernel
theorem d_Mo_sure_99 : decode b_Mo_sure_c 99 = .ok (.iload 4, 2) := by decide +kernel
theorem d_Mo_sure_101 : decode b_Mo_sure_c 101 = .ok (.iload_n 2, 1) := by decide +kernel
theorem d_Mo_sure_102 : decode b_Mo_sure_c 102 = .ok (.if_icmp .le 8, 3) := by decide +kernel
theorem d_Mo_sure_105 : decode b_Mo_sure_c 105 = .ok (.iload 4, 2) := by decide +kernel
theorem d_Mo_sure_107 : decode b_Mo_sure_c 107 = .ok (.goto 4, 3) := by decide +kernel
theorem d_Mo_sure_110 : decode b_Mo_sure_c 110 = .ok (.iload_n 2, 1) := by decide +kernel
theorem d_Mo_sure_111 : decode b_Mo_sure_c 111 = .ok (.istore_n 2, 1) := by decide +kernel
theorem d_Mo_sure_112 : decode b_Mo_sure_c 112 = .ok (.iinc 3 1, 3) := by decide +kernel
theorem d_Mo_sure_115 : decode b_Mo_sure_c 115 = .ok (.goto (-83), 3) := by decide +kernel
theorem d_Mo_sure_118 : decode b_Mo_sure_c 118 = .ok (.iload_n 2, 1) := by decide +kernel
theorem d_Mo_sure_119 : decode b_Mo_sure_c 119 = .ok (.ireturn, 1) := by decide +kernel
/-! GameRowsModel.sure(I)I -/
set_option maxHeartbeats 4000000 in
set_option maxRecDepth 100000 in
theorem t_Mo_sure_111 {X : gX} {r : (Int32 × gS)} (C : gC X b_Mo_sure_c R_Mo 6 3 73) (hR : ∀ pc lv, decode b_Mo_sure_c pc = .ok (.ireturn, 1) → G X pc lv [.int r.1] r.2) {k32 : Int32 × Int32 × Int32 × gS → Option (Int32 × gS)}  (hk32 : ∀ x, k32 x = some r → G X 32 [(0, .ref (gA X 46)), (1, .int x.1), (2, .int x.2.1), (3, .int x.2.2.1)] [] x.2.2.2) (x1 : Int32) (x3 : Int32) (y0 : Int32) (σ : gS) (h : b_Mo_sure_111 k32 x1 x3 y0 σ = some r) : G X 111 [(0, .ref (gA X 46)), (1, .int x1), (3, .int x3)] [.int y0] σ := by
  unfold b_Mo_sure_111 at h
  refine r_istore_n C (lv' := [(2, .int y0), (0, .ref (gA X 46)), (1, .int x1), (3, .int x3)]) d_Mo_sure_111 rfl (by decide) rfl rfl ?_
  obtain ⟨x3_1, ex3_1, h⟩ := bnd_some h
  refine r_iinc C 3 (lv' := [(3, .int x3_1), (2, .int y0), (0, .ref (gA X 46)), (1, .int x1)]) d_Mo_sure_112 rfl (by rw [ex3_1]; rfl) (by decide) rfl ?_
  refine r_goto C (tgt := 32) d_Mo_sure_115 (by decide) ?_
  refine r_sub [2, 3, 1, 0] (lv' := [(0, .ref (gA X 46)), (1, .int x1), (2, .int y0), (3, .int x3_1)]) rfl ?_
  exact hk32 _ h
set_option maxHeartbeats 4000000 in
set_option maxRecDepth 100000 in
theorem t_Mo_sure_91 {X : gX} {r : (Int32 × gS)} (C : gC X b_Mo_sure_c R_Mo 6 3 73) (hR : ∀ pc lv, decode b_Mo_sure_c pc = .ok (.ireturn, 1) → G X pc lv [.int r.1] r.2) {k32 : Int32 × Int32 × Int32 × gS → Option (Int32 × gS)}  {k53 : Int32 × Int32 × Int32 × Int32 × Int32 × gS → Option (Int32 × gS)}  (hk32 : ∀ x, k32 x = some r → G X 32 [(0, .ref (gA X 46)), (1, .int x.1), (2, .int x.2.1), (3, .int x.2.2.1)] [] x.2.2.2) (hk53 : ∀ x, k53 x = some r → G X 53 [(0, .ref (gA X 46)), (1, .int x.1), (2, .int x.2.1), (3, .int x.2.2.1), (4, .int x.2.2.2.1), (5, .int x.2.2.2.2.1)] [] x.2.2.2.2.2) (x1 : Int32) (x2 : Int32) (x3 : Int32) (x5 : Int32) (y0 : Int32) (σ : gS) (h : b_Mo_sure_91 k32 k53 x1 x2 x3 x5 y0 σ = some r) : G X 91 [(0, .ref (gA X 46)), (1, .int x1), (2, .int x2), (3, .int x3), (5, .int x5)] [.int y0] σ := by
  unfold b_Mo_sure_91 at h
  refine r_istore C (lv' := [(4, .int y0), (0, .ref (gA X 46)), (1, .int x1), (2, .int x2), (3, .int x3), (5, .int x5)]) d_Mo_sure_91 (by decide) rfl rfl ?_
  obtain ⟨x5_1, ex5_1, h⟩ := bnd_some h
  refine r_iinc C 5 (lv' := [(5, .int x5_1), (4, .int y0), (0, .ref (gA X 46)), (1, .int x1), (2, .int x2), (3, .int x3)]) d_Mo_sure_93 rfl (by rw [ex5_1]; rfl) (by decide) rfl ?_
  refine r_goto C (tgt := 53) d_Mo_sure_96 (by decide) ?_
  refine r_sub [2, 3, 4, 5, 1, 0] (lv' := [(0, .ref (gA X 46)), (1, .int x1), (2, .int x2), (3, .int x3), (4, .int y0), (5, .int x5_1)]) rfl ?_
  exact hk53 _ h
set_option maxHeartbeats 4000000 in
set_option maxRecDepth 100000 in
theorem t_Mo_sure_53 {X : gX} {r : (Int32 × gS)} (C : gC X b_Mo_sure_c R_Mo 6 3 73) (hR : ∀ pc lv, decode b_Mo_sure_c pc = .ok (.ireturn, 1) → G X pc lv [.int r.1] r.2) {k32 : Int32 × Int32 × Int32 × gS → Option (Int32 × gS)}  {k53 : Int32 × Int32 × Int32 × Int32 × Int32 × gS → Option (Int32 × gS)}  (hk32 : ∀ x, k32 x = some r → G X 32 [(0, .ref (gA X 46)), (1, .int x.1), (2, .int x.2.1), (3, .int x.2.2.1)] [] x.2.2.2) (hk53 : ∀ x, k53 x = some r → G X 53 [(0, .ref (gA X 46)), (1, .int x.1), (2, .int x.2.1), (3, .int x.2.2.1), (4, .int x.2.2.2.1), (5, .int x.2.2.2.2.1)] [] x.2.2.2.2.2) (x1 : Int32) (x2 : Int32) (x3 : Int32) (x4 : Int32) (x5 : Int32) (σ : gS) (h : b_Mo_sure_53 k32 k53 x1 x2 x3 x4 x5 σ = some r) : G X 53 [(0, .ref (gA X 46)), (1, .int x1), (2, .int x2), (3, .int x3), (4, .int x4), (5, .int x5)] [] σ := by
  unfold b_Mo_sure_53 at h
  refine r_iload C 5 d_Mo_sure_53 rfl ?_
  refine r_aload_n C 0 d_Mo_sure_55 rfl rfl ?_
  refine r_iconst C (v := 1) d_Mo_sure_56 (by decide) ?_
  refine r_iload_n C 1 d_Mo_sure_57 rfl rfl ?_
  refine r_isub C d_Mo_sure_58 ?_
  obtain ⟨r_1, er_1, h⟩ := bind_some h
  refine r_callV C (As := [.int (1 - x1)]) (rest := [.int x5]) (st1 := [.int r_1, .int x5]) (c_Mo_many X.1.2.1 σ (1 - x1) er_1) k_Mo_many m_500 (by decide) cel_Mo rfl rfl rfl rfl (Nat.le_of_ble_eq_true rfl) ⟨Nat.le_of_ble_eq_true rfl, Nat.le_of_ble_eq_true rfl⟩ d_Mo_sure_59 rfl ?_
  refine r_icmp_ge C (tgt := 99) d_Mo_sure_62 (by decide) (fun hc_2 => ?_) (fun hc_2 => ?_)
  · rw [if_pos hc_2] at h
    refine r_iload C 4 d_Mo_sure_99 rfl ?_
    refine r_iload_n C 2 d_Mo_sure_101 rfl rfl ?_
    refine r_icmp_le C (tgt := 110) d_Mo_sure_102 (by decide) (fun hc_3 => ?_) (fun hc_3 => ?_)
    · rw [if_pos hc_3] at h
      refine r_iload_n C 2 d_Mo_sure_110 rfl rfl ?_
      refine r_sub [0, 1, 3] (lv' := [(0, .ref (gA X 46)), (1, .int x1), (3, .int x3)]) rfl ?_
      exact t_Mo_sure_111 C hR hk32 x1 x3 x2 σ h
    · rw [if_neg hc_3] at h
      refine r_iload C 4 d_Mo_sure_105 rfl ?_
      refine r_goto C (tgt := 111) d_Mo_sure_107 (by decide) ?_
      refine r_sub [0, 1, 3] (lv' := [(0, .ref (gA X 46)), (1, .int x1), (3, .int x3)]) rfl ?_
      exact t_Mo_sure_111 C hR hk32 x1 x3 x4 σ h
  · rw [if_neg hc_2] at h
    refine r_aload_n C 0 d_Mo_sure_65 rfl rfl ?_
    refine r_iload_n C 1 d_Mo_sure_66 rfl rfl ?_
    refine r_iload_n C 3 d_Mo_sure_67 rfl rfl ?_
    refine r_iload C 5 d_Mo_sure_68 rfl ?_
    obtain ⟨r_4, er_4, h⟩ := bind_some h
    refine r_callV C (As := [.int x1, .int x3, .int x5]) (rest := []) (st1 := [.int r_4]) (c_Mo_worthTo X.1.2.1 σ x1 x3 x5 er_4) k_Mo_worthTo m_487 (by decide) cel_Mo rfl rfl rfl rfl (Nat.le_of_ble_eq_true rfl) ⟨Nat.le_of_ble_eq_true rfl, Nat.le_of_ble_eq_true rfl⟩ d_Mo_sure_70 rfl ?_
    refine r_iload C 4 d_Mo_sure_73 rfl ?_
    refine r_icmp_ge C (tgt := 89) d_Mo_sure_75 (by decide) (fun hc_5 => ?_) (fun hc_5 => ?_)
    · rw [if_pos hc_5] at h
      refine r_iload C 4 d_Mo_sure_89 rfl ?_
      refine r_sub [0, 1, 2, 3, 5] (lv' := [(0, .ref (gA X 46)), (1, .int x1), (2, .int x2), (3, .int x3), (5, .int x5)]) rfl ?_
      exact t_Mo_sure_91 C hR hk32 hk53 x1 x2 x3 x5 x4 σ h
    · rw [if_neg hc_5] at h
      refine r_aload_n C 0 d_Mo_sure_78 rfl rfl ?_
      refine r_iload_n C 1 d_Mo_sure_79 rfl rfl ?_
      refine r_iload_n C 3 d_Mo_sure_80 rfl rfl ?_
      refine r_iload C 5 d_Mo_sure_81 rfl ?_
      obtain ⟨r_6, er_6, h⟩ := bind_some h
      refine r_callV C (As := [.int x1, .int x3, .int x5]) (rest := []) (st1 := [.int r_6]) (c_Mo_worthTo X.1.2.1 σ x1 x3 x5 er_6) k_Mo_worthTo m_487 (by decide) cel_Mo rfl rfl rfl rfl (Nat.le_of_ble_eq_true rfl) ⟨Nat.le_of_ble_eq_true rfl, Nat.le_of_ble_eq_true rfl⟩ d_Mo_sure_83 rfl ?_
      refine r_goto C (tgt := 91) d_Mo_sure_86 (by decide) ?_
      refine r_sub [0, 1, 2, 3, 5] (lv' := [(0, .ref (gA X 46)), (1, .int x1), (2, .int x2), (3, .int x3), (5, .int x5)]) rfl ?_
      exact t_Mo_sure_91 C hR hk32 hk53 x1 x2 x3 x5 r_6 σ h
set_option maxHeartbeats 4000000 in
set_option maxRecDepth 100000 in
theorem u_Mo_sure_53 {X : gX} {r : (Int32 × gS)} (C : gC X b_Mo_sure_c R_Mo 6 3 73) (hR : ∀ pc lv, decode b_Mo_sure_c pc = .ok (.ireturn, 1) → G X pc lv [.int r.1] r.2) {k32 : Int32 × Int32 × Int32 × gS → Option (Int32 × gS)}  (hk32 : ∀ x, k32 x = some r → G X 32 [(0, .ref (gA X 46)), (1, .int x.1), (2, .int x.2.1), (3, .int x.2.2.1)] [] x.2.2.2) (x : Int32 × Int32 × Int32 × Int32 × Int32 × gS) (h : l_Mo_sure_53 k32 x = some r) : G X 53 [(0, .ref (gA X 46)), (1, .int x.1), (2, .int x.2.1), (3, .int x.2.2.1), (4, .int x.2.2.2.1), (5, .int x.2.2.2.2.1)] [] x.2.2.2.2.2 :=
  lpF_ind (P := fun x => G X 53 [(0, .ref (gA X 46)), (1, .int x.1), (2, .int x.2.1), (3, .int x.2.2.1), (4, .int x.2.2.2.1), (5, .int x.2.2.2.2.1)] [] x.2.2.2.2.2) (fun k hk x h => t_Mo_sure_53 C hR hk32 hk x.1 x.2.1 x.2.2.1 x.2.2.2.1 x.2.2.2.2.1 x.2.2.2.2.2 h) gF x h
set_option maxHeartbeats 4000000 in
set_option maxRecDepth 100000 in
theorem t_Mo_sure_32 {X : gX} {r : (Int32 × gS)} (C : gC X b_Mo_sure_c R_Mo 6 3 73) (hR : ∀ pc lv, decode b_Mo_sure_c pc = .ok (.ireturn, 1) → G X pc lv [.int r.1] r.2) {k32 : Int32 × Int32 × Int32 × gS → Option (Int32 × gS)}  (hk32 : ∀ x, k32 x = some r → G X 32 [(0, .ref (gA X 46)), (1, .int x.1), (2, .int x.2.1), (3, .int x.2.2.1)] [] x.2.2.2) (x1 : Int32) (x2 : Int32) (x3 : Int32) (σ : gS) (h : b_Mo_sure_32 k32 x1 x2 x3 σ = some r) : G X 32 [(0, .ref (gA X 46)), (1, .int x1), (2, .int x2), (3, .int x3)] [] σ := by
  unfold b_Mo_sure_32 at h
  refine r_iload_n C 3 d_Mo_sure_32 rfl rfl ?_
  refine r_aload_n C 0 d_Mo_sure_33 rfl rfl ?_
  refine r_iload_n C 1 d_Mo_sure_34 rfl rfl ?_
  obtain ⟨r_1, er_1, h⟩ := bind_some h
  refine r_callV C (As := [.int x1]) (rest := [.int x3]) (st1 := [.int r_1, .int x3]) (c_Mo_many X.1.2.1 σ x1 er_1) k_Mo_many m_500 (by decide) cel_Mo rfl rfl rfl rfl (Nat.le_of_ble_eq_true rfl) ⟨Nat.le_of_ble_eq_true rfl, Nat.le_of_ble_eq_true rfl⟩ d_Mo_sure_35 rfl ?_
  refine r_icmp_ge C (tgt := 118) d_Mo_sure_38 (by decide) (fun hc_2 => ?_) (fun hc_2 => ?_)
  · rw [if_pos hc_2] at h
    refine r_iload_n C 2 d_Mo_sure_118 rfl rfl ?_
    cases h
    exact hR _ _ d_Mo_sure_119
  · rw [if_neg hc_2] at h
    refine r_aload_n C 0 d_Mo_sure_41 rfl rfl ?_
    refine r_iload_n C 1 d_Mo_sure_42 rfl rfl ?_
    refine r_iload_n C 3 d_Mo_sure_43 rfl rfl ?_
    refine r_iconst C (v := 0) d_Mo_sure_44 (by decide) ?_
    obtain ⟨r_3, er_3, h⟩ := bind_some h
    refine r_callV C (As := [.int x1, .int x3, .int 0]) (rest := []) (st1 := [.int r_3]) (c_Mo_worthTo X.1.2.1 σ x1 x3 0 er_3) k_Mo_worthTo m_487 (by decide) cel_Mo rfl rfl rfl rfl (Nat.le_of_ble_eq_true rfl) ⟨Nat.le_of_ble_eq_true rfl, Nat.le_of_ble_eq_true rfl⟩ d_Mo_sure_45 rfl ?_
    refine r_istore C (lv' := [(4, .int r_3), (0, .ref (gA X 46)), (1, .int x1), (2, .int x2), (3, .int x3)]) d_Mo_sure_48 (by decide) rfl rfl ?_
    refine r_iconst C (v := 1) d_Mo_sure_50 (by decide) ?_
    refine r_istore C (lv' := [(5, .int 1), (4, .int r_3), (0, .ref (gA X 46)), (1, .int x1), (2, .int x2), (3, .int x3)]) d_Mo_sure_51 (by decide) rfl rfl ?_
    refine r_sub [2, 3, 4, 5, 1, 0] (lv' := [(0, .ref (gA X 46)), (1, .int x1), (2, .int x2), (3, .int x3), (4, .int r_3), (5, .int 1)]) rfl ?_
    exact u_Mo_sure_53 C hR hk32 (x1, x2, x3, r_3, 1, σ) h
set_option maxHeartbeats 4000000 in
set_option maxRecDepth 100000 in
theorem u_Mo_sure_32 {X : gX} {r : (Int32 × gS)} (C : gC X b_Mo_sure_c R_Mo 6 3 73) (hR : ∀ pc lv, decode b_Mo_sure_c pc = .ok (.ireturn, 1) → G X pc lv [.int r.1] r.2)  (x : Int32 × Int32 × Int32 × gS) (h : l_Mo_sure_32 x = some r) : G X 32 [(0, .ref (gA X 46)), (1, .int x.1), (2, .int x.2.1), (3, .int x.2.2.1)] [] x.2.2.2 :=
  lpF_ind (P := fun x => G X 32 [(0, .ref (gA X 46)), (1, .int x.1), (2, .int x.2.1), (3, .int x.2.2.1)] [] x.2.2.2) (fun k hk x h => t_Mo_sure_32 C hR hk x.1 x.2.1 x.2.2.1 x.2.2.2 h) gF x h
set_option maxHeartbeats 4000000 in
set_option maxRecDepth 100000 in
theorem t_Mo_sure_0 {X : gX} {r : (Int32 × gS)} (C : gC X b_Mo_sure_c R_Mo 6 3 73) (hR : ∀ pc lv, decode b_Mo_sure_c pc = .ok (.ireturn, 1) → G X pc lv [.int r.1] r.2) (x1 : Int32) (σ : gS) (h : b_Mo_sure_0 x1 σ = some r) : G X 0 [(0, .ref (gA X 46)), (1, .int x1)] [] σ := by
  unfold b_Mo_sure_0 at h
  refine r_iload_n C 1 d_Mo_sure_0 rfl rfl ?_
  refine r_iconst C (v := 0) d_Mo_sure_1 (by decide) ?_
  refine r_iconst C (v := 1) d_Mo_sure_2 (by decide) ?_
  obtain ⟨r_1, er_1, h⟩ := bind_some h
  refine r_callS C (As := [.int x1, .int 0, .int 1]) (rest := []) (st1 := [.int r_1]) (c_Mo_isFrom X.1.2.1 σ x1 0 1 er_1) k_Mo_isFrom m_420 rfl rfl rfl (Nat.le_of_ble_eq_true rfl) ⟨Nat.le_of_ble_eq_true rfl, Nat.le_of_ble_eq_true rfl⟩ d_Mo_sure_3 rfl ?_
  refine r_if_eq C (tgt := 16) d_Mo_sure_6 (by decide) (fun hc_2 => ?_) (fun hc_2 => ?_)
  · rw [if_pos hc_2] at h
    refine r_ldc C (v := (-1000000)) m_491 d_Mo_sure_16 ?_
    cases h
    exact hR _ _ d_Mo_sure_18
  · rw [if_neg hc_2] at h
    refine r_aload_n C 0 d_Mo_sure_9 rfl rfl ?_
    refine q_Mo_71 C d_Mo_sure_10 ?_
    refine r_if_ne C (tgt := 19) d_Mo_sure_13 (by decide) (fun hc_3 => ?_) (fun hc_3 => ?_)
    · rw [if_neg hc_3] at h
      refine r_aload_n C 0 d_Mo_sure_19 rfl rfl ?_
      refine r_aload_n C 0 d_Mo_sure_20 rfl rfl ?_
      obtain ⟨r_4, er_4, h⟩ := bind_some h
      refine r_callV C (As := []) (rest := [.ref (gA X 46)]) (st1 := [.int r_4, .ref (gA X 46)]) (c_Mo_root X.1.2.1 σ  er_4) k_Mo_root m_492 (by decide) cel_Mo rfl rfl rfl rfl (Nat.le_of_ble_eq_true rfl) ⟨Nat.le_of_ble_eq_true rfl, Nat.le_of_ble_eq_true rfl⟩ d_Mo_sure_21 rfl ?_
      obtain ⟨r_5, er_5, h⟩ := bind_some h
      refine r_callV C (As := [.int r_4]) (rest := []) (st1 := []) (c_Mo_workAll X.1.2.1 σ r_4 er_5) k_Mo_workAll m_496 (by decide) cel_Mo rfl rfl rfl rfl (Nat.le_of_ble_eq_true rfl) ⟨Nat.le_of_ble_eq_true rfl, Nat.le_of_ble_eq_true rfl⟩ d_Mo_sure_24 rfl ?_
      refine r_ldc C (v := (-1000000)) m_491 d_Mo_sure_27 ?_
      refine r_istore_n C (lv' := [(2, .int (-1000000)), (0, .ref (gA X 46)), (1, .int x1)]) d_Mo_sure_29 rfl (by decide) rfl rfl ?_
      refine r_iconst C (v := 0) d_Mo_sure_30 (by decide) ?_
      refine r_istore_n C (lv' := [(3, .int 0), (2, .int (-1000000)), (0, .ref (gA X 46)), (1, .int x1)]) d_Mo_sure_31 rfl (by decide) rfl rfl ?_
      refine r_sub [2, 3, 1, 0] (lv' := [(0, .ref (gA X 46)), (1, .int x1), (2, .int (-1000000)), (3, .int 0)]) rfl ?_
      exact u_Mo_sure_32 C hR  (x1, (-1000000), 0, r_5) h
    · rw [if_pos hc_3] at h
      refine r_ldc C (v := (-1000000)) m_491 d_Mo_sure_16 ?_
      cases h
      exact hR _ _ d_Mo_sure_18
set_option maxHeartbeats 4000000 in
set_option maxRecDepth 100000 in
theorem c_Mo_sure (l : Launch) (σ : gS) (x1 : Int32) {r : (Int32 × gS)} (h : f_Mo_sure σ x1 = some r) : gMet l y_Mo_sure b_Mo_sure_c 6 (some .int) 3 73 (fun a => [.ref (a 46), .int x1]) σ (some (.int r.1)) r.2 := by
  refine gMet_i (by decide +kernel) (fun a => Nat.le_of_ble_eq_true rfl) (fun X _ C hR => ?_)
  refine r_sub [0, 1] (lv' := [(0, .ref (gA X 46)), (1, .int x1)]) rfl ?_
  exact t_Mo_sure_0 C hR x1 σ h
theorem d_Mo_memory_0 : decode b_Mo_memory_c 0 = .ok (.lconst 0, 1) := by decide +kernel
theorem d_Mo_memory_1 : decode b_Mo_memory_c 1 = .ok (.lstore_n 3, 1) := by decide +kernel
theorem d_Mo_memory_2 : decode b_Mo_memory_c 2 = .ok (.iload_n 2, 1) := by decide +kernel
theorem d_Mo_memory_3 : decode b_Mo_memory_c 3 = .ok (.istore 5, 2) := by decide +kernel
theorem d_Mo_memory_5 : decode b_Mo_memory_c 5 = .ok (.aload_n 0, 1) := by decide +kernel
theorem d_Mo_memory_6 : decode b_Mo_memory_c 6 = .ok (.getfield 22, 3) := by decide +kernel
theorem d_Mo_memory_9 : decode b_Mo_memory_c 9 = .ok (.iload_n 2, 1) := by decide +kernel
theorem d_Mo_memory_10 : decode b_Mo_memory_c 10 = .ok (.iaload, 1) := by decide +kernel
theorem d_Mo_memory_11 : decode b_Mo_memory_c 11 = .ok (.istore 6, 2) := by decide +kernel
theorem d_Mo_memory_13 : decode b_Mo_memory_c 13 = .ok (.iload 6, 2) := by decide +kernel
theorem d_Mo_memory_15 : decode b_Mo_memory_c 15 = .ok (.iconst (-1), 1) := by decide +kernel
theorem d_Mo_memory_16 : decode b_Mo_memory_c 16 = .ok (.if_icmp .eq 110, 3) := by decide +kernel
theorem d_Mo_memory_19 : decode b_Mo_memory_c 19 = .ok (.aload_n 0, 1) := by decide +kernel
theorem d_Mo_memory_20 : decode b_Mo_memory_c 20 = .ok (.getfield 7, 3) := by decide +kernel
theorem d_Mo_memory_23 : decode b_Mo_memory_c 23 = .ok (.iload 6, 2) := by decide +kernel
theorem d_Mo_memory_25 : decode b_Mo_memory_c 25 = .ok (.iaload, 1) := by decide +kernel
theorem d_Mo_memory_26 : decode b_Mo_memory_c 26 = .ok (.iconst 2, 1) := by decide +kernel
theorem d_Mo_memory_27 : decode b_Mo_memory_c 27 = .ok (.if_icmp .ne 83, 3) := by decide +kernel
theorem d_Mo_memory_30 : decode b_Mo_memory_c 30 = .ok (.aload_n 0, 1) := by decide +kernel
theorem d_Mo_memory_31 : decode b_Mo_memory_c 31 = .ok (.getfield 31, 3) := by decide +kernel
theorem d_Mo_memory_34 : decode b_Mo_memory_c 34 = .ok (.aload_n 0, 1) := by decide +kernel
theorem d_Mo_memory_35 : decode b_Mo_memory_c 35 = .ok (.getfield 13, 3) := by decide +kernel
theorem d_Mo_memory_38 : decode b_Mo_memory_c 38 = .ok (.iload 6, 2) := by decide +kernel
theorem d_Mo_memory_40 : decode b_Mo_memory_c 40 = .ok (.iaload, 1) := by decide +kernel
theorem d_Mo_memory_41 : decode b_Mo_memory_c 41 = .ok (.iaload, 1) := by decide +kernel
theorem d_Mo_memory_42 : decode b_Mo_memory_c 42 = .ok (.iload_n 1, 1) := by decide +kernel
theorem d_Mo_memory_43 : decode b_Mo_memory_c 43 = .ok (.if_icmp .ne 67, 3) := by decide +kernel
theorem d_Mo_memory_46 : decode b_Mo_memory_c 46 = .ok (.aload_n 0, 1) := by decide +kernel
theorem d_Mo_memory_47 : decode b_Mo_memory_c 47 = .ok (.getfield 19, 3) := by decide +kernel
theorem d_Mo_memory_50 : decode b_Mo_memory_c 50 = .ok (.iconst 3, 1) := by decide +kernel
theorem d_Mo_memory_51 : decode b_Mo_memory_c 51 = .ok (.iload 6, 2) := by decide +kernel
theorem d_Mo_memory_53 : decode b_Mo_memory_c 53 = .ok (.imul, 1) := by decide +kernel
theorem d_Mo_memory_54 : decode b_Mo_memory_c 54 = .ok (.iaload, 1) := by decide +kernel
theorem d_Mo_memory_55 : decode b_Mo_memory_c 55 = .ok (.iload 5, 2) := by decide +kernel
theorem d_Mo_memory_57 : decode b_Mo_memory_c 57 = .ok (.if_icmp .ne 7, 3) := by decide +kernel
theorem d_Mo_memory_60 : decode b_Mo_memory_c 60 = .ok (.iconst 1, 1) := by decide +kernel
theorem d_Mo_memory_61 : decode b_Mo_memory_c 61 = .ok (.goto 24, 3) := by decide +kernel
theorem d_Mo_memory_64 : decode b_Mo_memory_c 64 = .ok (.aload_n 0, 1) := by decide +kernel
theorem d_Mo_memory_65 : decode b_Mo_memory_c 65 = .ok (.getfield 19, 3) := by decide +kernel
theorem d_Mo_memory_68 : decode b_Mo_memory_c 68 = .ok (.iconst 3, 1) := by decide +kernel
theorem d_Mo_memory_69 : decode b_Mo_memory_c 69 = .ok (.iload 6, 2) := by decide +kernel
theorem d_Mo_memory_71 : decode b_Mo_memory_c 71 = .ok (.imul, 1) := by decide +kernel
theorem d_Mo_memory_72 : decode b_Mo_memory_c 72 = .ok (.iconst 1, 1) := by decide +kernel
theorem d_Mo_memory_73 : decode b_Mo_memory_c 73 = .ok (.iadd, 1) := by decide +kernel
theorem d_Mo_memory_74 : decode b_Mo_memory_c 74 = .ok (.iaload, 1) := by decide +kernel
theorem d_Mo_memory_75 : decode b_Mo_memory_c 75 = .ok (.iload 5, 2) := by decide +kernel
theorem d_Mo_memory_77 : decode b_Mo_memory_c 77 = .ok (.if_icmp .ne 7, 3) := by decide +kernel
theorem d_Mo_memory_80 : decode b_Mo_memory_c 80 = .ok (.iconst 2, 1) := by decide +kernel
theorem d_Mo_memory_81 : decode b_Mo_memory_c 81 = .ok (.goto 4, 3) := by decide +kernel
theorem d_Mo_memory_84 : decode b_Mo_memory_c 84 = .ok (.iconst 3, 1) := by decide +kernel
theorem d_Mo_memory_85 : decode b_Mo_memory_c 85 = .ok (.istore 7, 2) := by decide +kernel
theorem d_Mo_memory_87 : decode b_Mo_memory_c 87 = .ok (.lload_n 3, 1) := by decide +kernel
theorem d_Mo_memory_88 : decode b_Mo_memory_c 88 = .ok (.ldc2_w 203, 3) := by decide +kernel
theorem d_Mo_memory_91 : decode b_Mo_memory_c 91 = .ok (.lmul, 1) := by decide +kernel
theorem d_Mo_memory_92 : decode b_Mo_memory_c 92 = .ok (.ldc2_w 205, 3) := by decide +kernel
theorem d_Mo_memory_95 : decode b_Mo_memory_c 95 = .ok (.aload_n 0, 1) := by decide +kernel
theorem d_Mo_memory_96 : decode b_Mo_memory_c 96 = .ok (.getfield 13, 3) := by decide +kernel
theorem d_Mo_memory_99 : decode b_Mo_memory_c 99 = .ok (.iload 6, 2) := by decide +kernel
theorem d_Mo_memory_101 : decode b_Mo_memory_c 101 = .ok (.iaload, 1) := by decide +kernel
theorem d_Mo_memory_102 : decode b_Mo_memory_c 102 = .ok (.i2l, 1) := by decide +kernel
theorem d_Mo_memory_103 : decode b_Mo_memory_c 103 = .ok (.lmul, 1) := by decide +kernel
theorem d_Mo_memory_104 : decode b_Mo_memory_c 104 = .ok (.ladd, 1) := by decide +kernel
theorem d_Mo_memory_105 : decode b_Mo_memory_c 105 = .ok (.iload 7, 2) := by decide +kernel
theorem d_Mo_memory_107 : decode b_Mo_memory_c 107 = .ok (.i2l, 1) := by decide +kernel
theorem d_Mo_memory_108 : decode b_Mo_memory_c 108 = .ok (.ladd, 1) := by decide +kernel
theorem d_Mo_memory_109 : decode b_Mo_memory_c 109 = .ok (.lstore_n 3, 1) := by decide +kernel
theorem d_Mo_memory_110 : decode b_Mo_memory_c 110 = .ok (.iload 6, 2) := by decide +kernel
theorem d_Mo_memory_112 : decode b_Mo_memory_c 112 = .ok (.istore 5, 2) := by decide +kernel
theorem d_Mo_memory_114 : decode b_Mo_memory_c 114 = .ok (.aload_n 0, 1) := by decide +kernel
theorem d_Mo_memory_115 : decode b_Mo_memory_c 115 = .ok (.getfield 22, 3) := by decide +kernel
theorem d_Mo_memory_118 : decode b_Mo_memory_c 118 = .ok (.iload 6, 2) := by decide +kernel
theorem d_Mo_memory_120 : decode b_Mo_memory_c 120 = .ok (.iaload, 1) := by decide +kernel
theorem d_Mo_memory_121 : decode b_Mo_memory_c 121 = .ok (.istore 6, 2) := by decide +kernel
theorem d_Mo_memory_123 : decode b_Mo_memory_c 123 = .ok (.goto (-110), 3) := by decide +kernel
theorem d_Mo_memory_126 : decode b_Mo_memory_c 126 = .ok (.lload_n 3, 1) := by decide +kernel
theorem d_Mo_memory_127 : decode b_Mo_memory_c 127 = .ok (.lreturn, 1) := by decide +kernel
/-! GameRowsModel.memory(II)J -/
set_option maxHeartbeats 4000000 in
set_option maxRecDepth 100000 in
theorem t_Mo_memory_110 {X : gX} {r : Int64} {σ : gS} (C : gC X b_Mo_memory_c R_Mo 8 0 0) (hR : ∀ pc lv, decode b_Mo_memory_c pc = .ok (.lreturn, 1) → G X pc lv [.long r] σ) {k13 : Int32 × Int64 × Int32 × Int32 → Option Int64}  (hk13 : ∀ x, k13 x = some r → G X 13 [(0, .ref (gA X 46)), (1, .int x.1), (3, .long x.2.1), (5, .int x.2.2.1), (6, .int x.2.2.2)] [] σ) (x1 : Int32) (x3 : Int64) (x6 : Int32) (h : b_Mo_memory_110 σ k13 x1 x3 x6 = some r) : G X 110 [(0, .ref (gA X 46)), (1, .int x1), (3, .long x3), (6, .int x6)] [] σ := by
  unfold b_Mo_memory_110 at h
  refine r_iload C 3 d_Mo_memory_110 rfl ?_
  refine r_istore C (lv' := [(5, .int x6), (0, .ref (gA X 46)), (1, .int x1), (3, .long x3), (6, .int x6)]) d_Mo_memory_112 (by decide) rfl rfl ?_
  refine r_aload_n C 1 d_Mo_memory_114 rfl rfl ?_
  refine q_Mo_22 C d_Mo_memory_115 ?_
  refine r_iload C 4 d_Mo_memory_118 rfl ?_
  obtain ⟨hi_1, h⟩ := ck_some h
  refine r_iald C hi_1 d_Mo_memory_120 ?_
  obtain ⟨x6_2, ex6_2, h⟩ := bnd_some h
  refine r_istore C (lv' := [(6, .int x6_2), (5, .int x6), (0, .ref (gA X 46)), (1, .int x1), (3, .long x3)]) d_Mo_memory_121 (by decide) ex6_2 rfl ?_
  refine r_goto C (tgt := 13) d_Mo_memory_123 (by decide) ?_
  refine r_sub [2, 3, 4, 1, 0] (lv' := [(0, .ref (gA X 46)), (1, .int x1), (3, .long x3), (5, .int x6), (6, .int x6_2)]) rfl ?_
  exact hk13 _ h
set_option maxHeartbeats 4000000 in
set_option maxRecDepth 100000 in
theorem t_Mo_memory_85 {X : gX} {r : Int64} {σ : gS} (C : gC X b_Mo_memory_c R_Mo 8 0 0) (hR : ∀ pc lv, decode b_Mo_memory_c pc = .ok (.lreturn, 1) → G X pc lv [.long r] σ) {k13 : Int32 × Int64 × Int32 × Int32 → Option Int64}  (hk13 : ∀ x, k13 x = some r → G X 13 [(0, .ref (gA X 46)), (1, .int x.1), (3, .long x.2.1), (5, .int x.2.2.1), (6, .int x.2.2.2)] [] σ) (x1 : Int32) (x3 : Int64) (x6 : Int32) (y0 : Int32) (h : b_Mo_memory_85 σ k13 x1 x3 x6 y0 = some r) : G X 85 [(0, .ref (gA X 46)), (1, .int x1), (3, .long x3), (6, .int x6)] [.int y0] σ := by
  unfold b_Mo_memory_85 at h
  refine r_istore C (lv' := [(7, .int y0), (0, .ref (gA X 46)), (1, .int x1), (3, .long x3), (6, .int x6)]) d_Mo_memory_85 (by decide) rfl rfl ?_
  refine r_lload_n C 3 d_Mo_memory_87 rfl rfl ?_
  refine r_ldc2 C (v := 40) m_570 d_Mo_memory_88 ?_
  refine r_lmul C d_Mo_memory_91 ?_
  refine r_ldc2 C (v := 4) m_571 d_Mo_memory_92 ?_
  refine r_aload_n C 1 d_Mo_memory_95 rfl rfl ?_
  refine q_Mo_13 C d_Mo_memory_96 ?_
  refine r_iload C 4 d_Mo_memory_99 rfl ?_
  obtain ⟨hi_1, h⟩ := ck_some h
  refine r_iald C hi_1 d_Mo_memory_101 ?_
  refine r_i2l C d_Mo_memory_102 ?_
  refine r_lmul C d_Mo_memory_103 ?_
  refine r_ladd C d_Mo_memory_104 ?_
  refine r_iload C 0 d_Mo_memory_105 rfl ?_
  refine r_i2l C d_Mo_memory_107 ?_
  refine r_ladd C d_Mo_memory_108 ?_
  obtain ⟨x3_2, ex3_2, h⟩ := bnd_some h
  refine r_lstore_n C (lv' := [(3, .long x3_2), (7, .int y0), (0, .ref (gA X 46)), (1, .int x1), (6, .int x6)]) d_Mo_memory_109 rfl (by decide) ex3_2 rfl ?_
  refine r_sub [2, 3, 0, 4] (lv' := [(0, .ref (gA X 46)), (1, .int x1), (3, .long x3_2), (6, .int x6)]) rfl ?_
  exact t_Mo_memory_110 C hR hk13 x1 x3_2 x6 h
set_option maxHeartbeats 4000000 in
set_option maxRecDepth 100000 in
theorem t_Mo_memory_13 {X : gX} {r : Int64} {σ : gS} (C : gC X b_Mo_memory_c R_Mo 8 0 0) (hR : ∀ pc lv, decode b_Mo_memory_c pc = .ok (.lreturn, 1) → G X pc lv [.long r] σ) {k13 : Int32 × Int64 × Int32 × Int32 → Option Int64}  (hk13 : ∀ x, k13 x = some r → G X 13 [(0, .ref (gA X 46)), (1, .int x.1), (3, .long x.2.1), (5, .int x.2.2.1), (6, .int x.2.2.2)] [] σ) (x1 : Int32) (x3 : Int64) (x5 : Int32) (x6 : Int32) (h : b_Mo_memory_13 σ k13 x1 x3 x5 x6 = some r) : G X 13 [(0, .ref (gA X 46)), (1, .int x1), (3, .long x3), (5, .int x5), (6, .int x6)] [] σ := by
  unfold b_Mo_memory_13 at h
  refine r_iload C 4 d_Mo_memory_13 rfl ?_
  refine r_iconst C (v := (-1)) d_Mo_memory_15 (by decide) ?_
  refine r_icmp_eq C (tgt := 126) d_Mo_memory_16 (by decide) (fun hc_1 => ?_) (fun hc_1 => ?_)
  · rw [if_pos hc_1] at h
    refine r_lload_n C 2 d_Mo_memory_126 rfl rfl ?_
    cases h
    exact hR _ _ d_Mo_memory_127
  · rw [if_neg hc_1] at h
    refine r_aload_n C 0 d_Mo_memory_19 rfl rfl ?_
    refine q_Mo_7 C d_Mo_memory_20 ?_
    refine r_iload C 4 d_Mo_memory_23 rfl ?_
    obtain ⟨hi_2, h⟩ := ck_some h
    refine r_iald C hi_2 d_Mo_memory_25 ?_
    refine r_iconst C (v := 2) d_Mo_memory_26 (by decide) ?_
    refine r_icmp_ne C (tgt := 110) d_Mo_memory_27 (by decide) (fun hc_3 => ?_) (fun hc_3 => ?_)
    · rw [if_neg hc_3] at h
      refine r_sub [0, 1, 2, 4] (lv' := [(0, .ref (gA X 46)), (1, .int x1), (3, .long x3), (6, .int x6)]) rfl ?_
      exact t_Mo_memory_110 C hR hk13 x1 x3 x6 h
    · rw [if_pos hc_3] at h
      refine r_aload_n C 0 d_Mo_memory_30 rfl rfl ?_
      refine q_Mo_31 C d_Mo_memory_31 ?_
      refine r_aload_n C 0 d_Mo_memory_34 rfl rfl ?_
      refine q_Mo_13 C d_Mo_memory_35 ?_
      refine r_iload C 4 d_Mo_memory_38 rfl ?_
      obtain ⟨hi_4, h⟩ := ck_some h
      refine r_iald C hi_4 d_Mo_memory_40 ?_
      obtain ⟨hi_5, h⟩ := ck_some h
      refine r_iald C hi_5 d_Mo_memory_41 ?_
      refine r_iload_n C 1 d_Mo_memory_42 rfl rfl ?_
      refine r_icmp_ne C (tgt := 110) d_Mo_memory_43 (by decide) (fun hc_6 => ?_) (fun hc_6 => ?_)
      · rw [if_neg hc_6] at h
        refine r_sub [0, 1, 2, 4] (lv' := [(0, .ref (gA X 46)), (1, .int x1), (3, .long x3), (6, .int x6)]) rfl ?_
        exact t_Mo_memory_110 C hR hk13 x1 x3 x6 h
      · rw [if_pos hc_6] at h
        refine r_aload_n C 0 d_Mo_memory_46 rfl rfl ?_
        refine q_Mo_19 C d_Mo_memory_47 ?_
        refine r_iconst C (v := 3) d_Mo_memory_50 (by decide) ?_
        refine r_iload C 4 d_Mo_memory_51 rfl ?_
        refine r_imul C d_Mo_memory_53 ?_
        obtain ⟨hi_7, h⟩ := ck_some h
        refine r_iald C hi_7 d_Mo_memory_54 ?_
        refine r_iload C 3 d_Mo_memory_55 rfl ?_
        refine r_icmp_ne C (tgt := 64) d_Mo_memory_57 (by decide) (fun hc_8 => ?_) (fun hc_8 => ?_)
        · rw [if_neg hc_8] at h
          refine r_aload_n C 0 d_Mo_memory_64 rfl rfl ?_
          refine q_Mo_19 C d_Mo_memory_65 ?_
          refine r_iconst C (v := 3) d_Mo_memory_68 (by decide) ?_
          refine r_iload C 4 d_Mo_memory_69 rfl ?_
          refine r_imul C d_Mo_memory_71 ?_
          refine r_iconst C (v := 1) d_Mo_memory_72 (by decide) ?_
          refine r_iadd C d_Mo_memory_73 ?_
          obtain ⟨hi_9, h⟩ := ck_some h
          refine r_iald C hi_9 d_Mo_memory_74 ?_
          refine r_iload C 3 d_Mo_memory_75 rfl ?_
          refine r_icmp_ne C (tgt := 84) d_Mo_memory_77 (by decide) (fun hc_10 => ?_) (fun hc_10 => ?_)
          · rw [if_neg hc_10] at h
            refine r_iconst C (v := 3) d_Mo_memory_84 (by decide) ?_
            refine r_sub [0, 1, 2, 4] (lv' := [(0, .ref (gA X 46)), (1, .int x1), (3, .long x3), (6, .int x6)]) rfl ?_
            exact t_Mo_memory_85 C hR hk13 x1 x3 x6 3 h
          · rw [if_pos hc_10] at h
            refine r_iconst C (v := 2) d_Mo_memory_80 (by decide) ?_
            refine r_goto C (tgt := 85) d_Mo_memory_81 (by decide) ?_
            refine r_sub [0, 1, 2, 4] (lv' := [(0, .ref (gA X 46)), (1, .int x1), (3, .long x3), (6, .int x6)]) rfl ?_
            exact t_Mo_memory_85 C hR hk13 x1 x3 x6 2 h
        · rw [if_pos hc_8] at h
          refine r_iconst C (v := 1) d_Mo_memory_60 (by decide) ?_
          refine r_goto C (tgt := 85) d_Mo_memory_61 (by decide) ?_
          refine r_sub [0, 1, 2, 4] (lv' := [(0, .ref (gA X 46)), (1, .int x1), (3, .long x3), (6, .int x6)]) rfl ?_
          exact t_Mo_memory_85 C hR hk13 x1 x3 x6 1 h
set_option maxHeartbeats 4000000 in
set_option maxRecDepth 100000 in
theorem u_Mo_memory_13 {X : gX} {r : Int64} {σ : gS} (C : gC X b_Mo_memory_c R_Mo 8 0 0) (hR : ∀ pc lv, decode b_Mo_memory_c pc = .ok (.lreturn, 1) → G X pc lv [.long r] σ)  (x : Int32 × Int64 × Int32 × Int32) (h : l_Mo_memory_13 σ x = some r) : G X 13 [(0, .ref (gA X 46)), (1, .int x.1), (3, .long x.2.1), (5, .int x.2.2.1), (6, .int x.2.2.2)] [] σ :=
  lpF_ind (P := fun x => G X 13 [(0, .ref (gA X 46)), (1, .int x.1), (3, .long x.2.1), (5, .int x.2.2.1), (6, .int x.2.2.2)] [] σ) (fun k hk x h => t_Mo_memory_13 C hR hk x.1 x.2.1 x.2.2.1 x.2.2.2 h) gF x h
set_option maxHeartbeats 4000000 in
set_option maxRecDepth 100000 in
theorem t_Mo_memory_0 {X : gX} {r : Int64} {σ : gS} (C : gC X b_Mo_memory_c R_Mo 8 0 0) (hR : ∀ pc lv, decode b_Mo_memory_c pc = .ok (.lreturn, 1) → G X pc lv [.long r] σ) (x1 : Int32) (x2 : Int32) (h : b_Mo_memory_0 σ x1 x2 = some r) : G X 0 [(0, .ref (gA X 46)), (1, .int x1), (2, .int x2)] [] σ := by
  unfold b_Mo_memory_0 at h
  refine r_lconst C (v := 0) d_Mo_memory_0 (by decide) ?_
  refine r_lstore_n C (lv' := [(3, .long 0), (0, .ref (gA X 46)), (1, .int x1), (2, .int x2)]) d_Mo_memory_1 rfl (by decide) rfl rfl ?_
  refine r_iload_n C 3 d_Mo_memory_2 rfl rfl ?_
  refine r_istore C (lv' := [(5, .int x2), (3, .long 0), (0, .ref (gA X 46)), (1, .int x1), (2, .int x2)]) d_Mo_memory_3 (by decide) rfl rfl ?_
  refine r_aload_n C 2 d_Mo_memory_5 rfl rfl ?_
  refine q_Mo_22 C d_Mo_memory_6 ?_
  refine r_iload_n C 4 d_Mo_memory_9 rfl rfl ?_
  obtain ⟨hi_1, h⟩ := ck_some h
  refine r_iald C hi_1 d_Mo_memory_10 ?_
  obtain ⟨x6_2, ex6_2, h⟩ := bnd_some h
  refine r_istore C (lv' := [(6, .int x6_2), (5, .int x2), (3, .long 0), (0, .ref (gA X 46)), (1, .int x1), (2, .int x2)]) d_Mo_memory_11 (by decide) ex6_2 rfl ?_
  refine r_sub [3, 4, 2, 1, 0] (lv' := [(0, .ref (gA X 46)), (1, .int x1), (3, .long 0), (5, .int x2), (6, .int x6_2)]) rfl ?_
  exact u_Mo_memory_13 C hR  (x1, 0, x2, x6_2) h
set_option maxHeartbeats 4000000 in
set_option maxRecDepth 100000 in
theorem c_Mo_memory (l : Launch) (σ : gS) (x1 : Int32) (x2 : Int32) {r : Int64} (h : f_Mo_memory σ x1 x2 = some r) : gMet l y_Mo_memory b_Mo_memory_c 8 (some .long) 0 0 (fun a => [.ref (a 46), .int x1, .int x2]) σ (some (.long r)) σ := by
  refine gMet_l (by decide +kernel) (fun a => Nat.le_of_ble_eq_true rfl) (fun X _ C hR => ?_)
  refine r_sub [0, 1, 2] (lv' := [(0, .ref (gA X 46)), (1, .int x1), (2, .int x2)]) rfl ?_
  exact t_Mo_memory_0 C hR x1 x2 h
theorem d_Mo_remembered_0 : decode b_Mo_remembered_c 0 = .ok (.aload_n 0, 1) := by decide +kernel
theorem d_Mo_remembered_1 : decode b_Mo_remembered_c 1 = .ok (.getfield 71, 3) := by decide +kernel
theorem d_Mo_remembered_4 : decode b_Mo_remembered_c 4 = .ok (.ifCond .ne 6, 3) := by decide +kernel
theorem d_Mo_remembered_7 : decode b_Mo_remembered_c 7 = .ok (.ldc 134, 2) := by decide +kernel
theorem d_Mo_remembered_9 : decode b_Mo_remembered_c 9 = .ok (.ireturn, 1) := by decide +kernel
theorem d_Mo_remembered_10 : decode b_Mo_remembered_c 10 = .ok (.iload_n 1, 1) := by decide +kernel
theorem d_Mo_remembered_11 : decode b_Mo_remembered_c 11 = .ok (.iconst 0, 1) := by decide +kernel
theorem d_Mo_remembered_12 : decode b_Mo_remembered_c 12 = .ok (.iconst 1, 1) := by decide +kernel
theorem d_Mo_remembered_13 : decode b_Mo_remembered_c 13 = .ok (.invokestatic 78, 3) := by decide +kernel
theorem d_Mo_remembered_16 : decode b_Mo_remembered_c 16 = .ok (.ifCond .ne 6, 3) := by decide +kernel
theorem d_Mo_remembered_19 : decode b_Mo_remembered_c 19 = .ok (.bipush (-2), 2) := by decide +kernel
theorem d_Mo_remembered_21 : decode b_Mo_remembered_c 21 = .ok (.ireturn, 1) := by decide +kernel
theorem d_Mo_remembered_22 : decode b_Mo_remembered_c 22 = .ok (.aload_n 0, 1) := by decide +kernel
theorem d_Mo_remembered_23 : decode b_Mo_remembered_c 23 = .ok (.invokevirtual 110, 3) := by decide +kernel
theorem d_Mo_remembered_26 : decode b_Mo_remembered_c 26 = .ok (.iconst 1, 1) := by decide +kernel
theorem d_Mo_remembered_27 : decode b_Mo_remembered_c 27 = .ok (.istore_n 2, 1) := by decide +kernel
theorem d_Mo_remembered_28 : decode b_Mo_remembered_c 28 = .ok (.iconst 0, 1) := by decide +kernel
theorem d_Mo_remembered_29 : decode b_Mo_remembered_c 29 = .ok (.istore_n 3, 1) := by decide +kernel
theorem d_Mo_remembered_30 : decode b_Mo_remembered_c 30 = .ok (.iload_n 3, 1) := by decide +kernel
theorem d_Mo_remembered_31 : decode b_Mo_remembered_c 31 = .ok (.aload_n 0, 1) := by decide +kernel
theorem d_Mo_remembered_32 : decode b_Mo_remembered_c 32 = .ok (.getfield 71, 3) := by decide +kernel
theorem d_Mo_remembered_35 : decode b_Mo_remembered_c 35 = .ok (.if_icmp .ge 134, 3) := by decide +kernel
theorem d_Mo_remembered_38 : decode b_Mo_remembered_c 38 = .ok (.iconst 0, 1) := by decide +kernel
theorem d_Mo_remembered_39 : decode b_Mo_remembered_c 39 = .ok (.istore 4, 2) := by decide +kernel
theorem d_Mo_remembered_41 : decode b_Mo_remembered_c 41 = .ok (.iload 4, 2) := by decide +kernel
theorem d_Mo_remembered_43 : decode b_Mo_remembered_c 43 = .ok (.iload_n 3, 1) := by decide +kernel
theorem d_Mo_remembered_44 : decode b_Mo_remembered_c 44 = .ok (.if_icmp .ge 119, 3) := by decide +kernel
theorem d_Mo_remembered_47 : decode b_Mo_remembered_c 47 = .ok (.aload_n 0, 1) := by decide +kernel
theorem d_Mo_remembered_48 : decode b_Mo_remembered_c 48 = .ok (.getfield 37, 3) := by decide +kernel
theorem d_Mo_remembered_51 : decode b_Mo_remembered_c 51 = .ok (.iload_n 3, 1) := by decide +kernel
theorem d_Mo_remembered_52 : decode b_Mo_remembered_c 52 = .ok (.baload, 1) := by decide +kernel
theorem d_Mo_remembered_53 : decode b_Mo_remembered_c 53 = .ok (.ifCond .eq 69, 3) := by decide +kernel
theorem d_Mo_remembered_56 : decode b_Mo_remembered_c 56 = .ok (.aload_n 0, 1) := by decide +kernel
theorem d_Mo_remembered_57 : decode b_Mo_remembered_c 57 = .ok (.getfield 37, 3) := by decide +kernel
theorem d_Mo_remembered_60 : decode b_Mo_remembered_c 60 = .ok (.iload 4, 2) := by decide +kernel
theorem d_Mo_remembered_62 : decode b_Mo_remembered_c 62 = .ok (.baload, 1) := by decide +kernel
theorem d_Mo_remembered_63 : decode b_Mo_remembered_c 63 = .ok (.ifCond .eq 59, 3) := by decide +kernel
theorem d_Mo_remembered_66 : decode b_Mo_remembered_c 66 = .ok (.aload_n 0, 1) := by decide +kernel
theorem d_Mo_remembered_67 : decode b_Mo_remembered_c 67 = .ok (.getfield 7, 3) := by decide +kernel
theorem d_Mo_remembered_70 : decode b_Mo_remembered_c 70 = .ok (.iload_n 3, 1) := by decide +kernel
theorem d_Mo_remembered_71 : decode b_Mo_remembered_c 71 = .ok (.iaload, 1) := by decide +kernel
theorem d_Mo_remembered_72 : decode b_Mo_remembered_c 72 = .ok (.iconst 2, 1) := by decide +kernel
theorem d_Mo_remembered_73 : decode b_Mo_remembered_c 73 = .ok (.if_icmp .ne 49, 3) := by decide +kernel
theorem d_Mo_remembered_76 : decode b_Mo_remembered_c 76 = .ok (.aload_n 0, 1) := by decide +kernel
theorem d_Mo_remembered_77 : decode b_Mo_remembered_c 77 = .ok (.getfield 7, 3) := by decide +kernel
theorem d_Mo_remembered_80 : decode b_Mo_remembered_c 80 = .ok (.iload 4, 2) := by decide +kernel
theorem d_Mo_remembered_82 : decode b_Mo_remembered_c 82 = .ok (.iaload, 1) := by decide +kernel
theorem d_Mo_remembered_83 : decode b_Mo_remembered_c 83 = .ok (.iconst 2, 1) := by decide +kernel
theorem d_Mo_remembered_84 : decode b_Mo_remembered_c 84 = .ok (.if_icmp .ne 38, 3) := by decide +kernel
theorem d_Mo_remembered_87 : decode b_Mo_remembered_c 87 = .ok (.aload_n 0, 1) := by decide +kernel
theorem d_Mo_remembered_88 : decode b_Mo_remembered_c 88 = .ok (.getfield 13, 3) := by decide +kernel
theorem d_Mo_remembered_91 : decode b_Mo_remembered_c 91 = .ok (.iload_n 3, 1) := by decide +kernel
theorem d_Mo_remembered_92 : decode b_Mo_remembered_c 92 = .ok (.iaload, 1) := by decide +kernel
theorem d_Mo_remembered_93 : decode b_Mo_remembered_c 93 = .ok (.aload_n 0, 1) := by decide +kernel
theorem d_Mo_remembered_94 : decode b_Mo_remembered_c 94 = .ok (.getfield 13, 3) := by decide +kernel
theorem d_Mo_remembered_97 : decode b_Mo_remembered_c 97 = .ok (.iload 4, 2) := by decide +kernel
theorem d_Mo_remembered_99 : decode b_Mo_remembered_c 99 = .ok (.iaload, 1) := by decide +kernel
theorem d_Mo_remembered_100 : decode b_Mo_remembered_c 100 = .ok (.if_icmp .ne 22, 3) := by decide +kernel
theorem d_Mo_remembered_103 : decode b_Mo_remembered_c 103 = .ok (.aload_n 0, 1) := by decide +kernel
theorem d_Mo_remembered_104 : decode b_Mo_remembered_c 104 = .ok (.getfield 31, 3) := by decide +kernel
theorem d_Mo_remembered_107 : decode b_Mo_remembered_c 107 = .ok (.aload_n 0, 1) := by decide +kernel
theorem d_Mo_remembered_108 : decode b_Mo_remembered_c 108 = .ok (.getfield 13, 3) := by decide +kernel
theorem d_Mo_remembered_111 : decode b_Mo_remembered_c 111 = .ok (.iload_n 3, 1) := by decide +kernel
theorem d_Mo_remembered_112 : decode b_Mo_remembered_c 112 = .ok (.iaload, 1) := by decide +kernel
theorem d_Mo_remembered_113 : decode b_Mo_remembered_c 113 = .ok (.iaload, 1) := by decide +kernel
theorem d_Mo_remembered_114 : decode b_Mo_remembered_c 114 = .ok (.iload_n 1, 1) := by decide +kernel
theorem d_Mo_remembered_115 : decode b_Mo_remembered_c 115 = .ok (.if_icmp .ne 7, 3) := by decide +kernel
theorem d_Mo_remembered_118 : decode b_Mo_remembered_c 118 = .ok (.iconst 1, 1) := by decide +kernel
theorem d_Mo_remembered_119 : decode b_Mo_remembered_c 119 = .ok (.goto 4, 3) := by decide +kernel
theorem d_Mo_remembered_122 : decode b_Mo_remembered_c 122 = .ok (.iconst 0, 1) := by decide +kernel
theorem d_Mo_remembered_123 : decode b_Mo_remembered_c 123 = .ok (.istore 5, 2) := by decide +kernel
theorem d_Mo_remembered_125 : decode b_Mo_remembered_c 125 = .ok (.iload_n 2, 1) := by decide +kernel
theorem d_Mo_remembered_126 : decode b_Mo_remembered_c 126 = .ok (.ifCond .eq 29, 3) := by decide +kernel
theorem d_Mo_remembered_129 : decode b_Mo_remembered_c 129 = .ok (.iload 5, 2) := by decide +kernel
theorem d_Mo_remembered_131 : decode b_Mo_remembered_c 131 = .ok (.ifCond .eq 20, 3) := by decide +kernel
theorem d_Mo_remembered_134 : decode b_Mo_remembered_c 134 = .ok (.aload_n 0, 1) := by decide +kernel
theorem d_Mo_remembered_135 : decode b_Mo_remembered_c 135 = .ok (.iload_n 1, 1) := by decide +kernel
theorem d_Mo_remembered_136 : decode b_Mo_remembered_c 136 = .ok (.iload_n 3, 1) := by decide +kernel
theorem d_Mo_remembered_137 : decode b_Mo_remembered_c 137 = .ok (.invokevirtual 207, 3) := by decide +kernel
theorem d_Mo_remembered_140 : decode b_Mo_remembered_c 140 = .ok (.aload_n 0, 1) := by decide +kernel
theorem d_Mo_remembered_141 : decode b_Mo_remembered_c 141 = .ok (.iload_n 1, 1) := by decide +kernel
theorem d_Mo_remembered_142 : decode b_Mo_remembered_c 142 = .ok (.iload 4, 2) := by decide +kernel
theorem d_Mo_remembered_144 : decode b_Mo_remembered_c 144 = .ok (.invokevirtual 207, 3) := by decide +kernel
theorem d_Mo_remembered_147 : decode b_Mo_remembered_c 147 = .ok (.lcmp, 1) := by decide +kernel
theorem d_Mo_remembered_148 : decode b_Mo_remembered_c 148 = .ok (.ifCond .ne 7, 3) := by decide +kernel
theorem d_Mo_remembered_151 : decode b_Mo_remembered_c 151 = .ok (.iconst 1, 1) := by decide +kernel
theorem d_Mo_remembered_152 : decode b_Mo_remembered_c 152 = .ok (.goto 4, 3) := by decide +kernel
theorem d_Mo_remembered_155 : decode b_Mo_remembered_c 155 = .ok (.iconst 0, 1) := by decide +kernel
theorem d_Mo_remembered_156 : decode b_Mo_remembered_c 156 = .ok (.istore_n 2, 1) := by decide +kernel
theorem d_Mo_remembered_157 : decode b_Mo_remembered_c 157 = .ok (.iinc 4 1, 3) := by decide +kernel
theorem d_Mo_remembered_160 : decode b_Mo_remembered_c 160 = .ok (.goto (-119), 3) := by decide +kernel
theorem d_Mo_remembered_163 : decode b_Mo_remembered_c 163 = .ok (.iinc 3 1, 3) := by decide +kernel
theorem d_Mo_remembered_166 : decode b_Mo_remembered_c 166 = .ok (.goto (-136), 3) := by decide +kernel
theorem d_Mo_remembered_169 : decode b_Mo_remembered_c 169 = .ok (.iload_n 2, 1) := by decide +kernel
theorem d_Mo_remembered_170 : decode b_Mo_remembered_c 170 = .ok (.ifCond .eq 7, 3) := by decide +kernel
theorem d_Mo_remembered_173 : decode b_Mo_remembered_c 173 = .ok (.iconst 1, 1) := by decide +kernel
theorem d_Mo_remembered_174 : decode b_Mo_remembered_c 174 = .ok (.goto 4, 3) := by decide +kernel
theorem d_Mo_remembered_177 : decode b_Mo_remembered_c 177 = .ok (.iconst 0, 1) := by decide +kernel
theorem d_Mo_remembered_178 : decode b_Mo_remembered_c 178 = .ok (.ireturn, 1) := by decide +kernel
/-! GameRowsModel.remembered(I)I -/
set_option maxHeartbeats 4000000 in
set_option maxRecDepth 100000 in
theorem t_Mo_remembered_156 {X : gX} {r : (Int32 × gS)} (C : gC X b_Mo_remembered_c R_Mo 6 1 27) (hR : ∀ pc lv, decode b_Mo_remembered_c pc = .ok (.ireturn, 1) → G X pc lv [.int r.1] r.2) {k30 : Int32 × Int32 × Int32 × gS → Option (Int32 × gS)}  {k41 : Int32 × Int32 × Int32 × Int32 × gS → Option (Int32 × gS)}  (hk30 : ∀ x, k30 x = some r → G X 30 [(0, .ref (gA X 46)), (1, .int x.1), (2, .int x.2.1), (3, .int x.2.2.1)] [] x.2.2.2) (hk41 : ∀ x, k41 x = some r → G X 41 [(0, .ref (gA X 46)), (1, .int x.1), (2, .int x.2.1), (3, .int x.2.2.1), (4, .int x.2.2.2.1)] [] x.2.2.2.2) (x1 : Int32) (x3 : Int32) (x4 : Int32) (y0 : Int32) (σ : gS) (h : b_Mo_remembered_156 k30 k41 x1 x3 x4 y0 σ = some r) : G X 156 [(0, .ref (gA X 46)), (1, .int x1), (3, .int x3), (4, .int x4)] [.int y0] σ := by
  unfold b_Mo_remembered_156 at h
  refine r_istore_n C (lv' := [(2, .int y0), (0, .ref (gA X 46)), (1, .int x1), (3, .int x3), (4, .int x4)]) d_Mo_remembered_156 rfl (by decide) rfl rfl ?_
  obtain ⟨x4_1, ex4_1, h⟩ := bnd_some h
  refine r_iinc C 4 (lv' := [(4, .int x4_1), (2, .int y0), (0, .ref (gA X 46)), (1, .int x1), (3, .int x3)]) d_Mo_remembered_157 rfl (by rw [ex4_1]; rfl) (by decide) rfl ?_
  refine r_goto C (tgt := 41) d_Mo_remembered_160 (by decide) ?_
  refine r_sub [2, 3, 1, 4, 0] (lv' := [(0, .ref (gA X 46)), (1, .int x1), (2, .int y0), (3, .int x3), (4, .int x4_1)]) rfl ?_
  exact hk41 _ h
set_option maxHeartbeats 4000000 in
set_option maxRecDepth 100000 in
theorem t_Mo_remembered_155 {X : gX} {r : (Int32 × gS)} (C : gC X b_Mo_remembered_c R_Mo 6 1 27) (hR : ∀ pc lv, decode b_Mo_remembered_c pc = .ok (.ireturn, 1) → G X pc lv [.int r.1] r.2) {k30 : Int32 × Int32 × Int32 × gS → Option (Int32 × gS)}  {k41 : Int32 × Int32 × Int32 × Int32 × gS → Option (Int32 × gS)}  (hk30 : ∀ x, k30 x = some r → G X 30 [(0, .ref (gA X 46)), (1, .int x.1), (2, .int x.2.1), (3, .int x.2.2.1)] [] x.2.2.2) (hk41 : ∀ x, k41 x = some r → G X 41 [(0, .ref (gA X 46)), (1, .int x.1), (2, .int x.2.1), (3, .int x.2.2.1), (4, .int x.2.2.2.1)] [] x.2.2.2.2) (x1 : Int32) (x3 : Int32) (x4 : Int32) (σ : gS) (h : b_Mo_remembered_155 k30 k41 x1 x3 x4 σ = some r) : G X 155 [(0, .ref (gA X 46)), (1, .int x1), (3, .int x3), (4, .int x4)] [] σ := by
  unfold b_Mo_remembered_155 at h
  refine r_iconst C (v := 0) d_Mo_remembered_155 (by decide) ?_
  exact t_Mo_remembered_156 C hR hk30 hk41 x1 x3 x4 0 σ h
set_option maxHeartbeats 4000000 in
set_option maxRecDepth 100000 in
theorem t_Mo_remembered_151 {X : gX} {r : (Int32 × gS)} (C : gC X b_Mo_remembered_c R_Mo 6 1 27) (hR : ∀ pc lv, decode b_Mo_remembered_c pc = .ok (.ireturn, 1) → G X pc lv [.int r.1] r.2) {k30 : Int32 × Int32 × Int32 × gS → Option (Int32 × gS)}  {k41 : Int32 × Int32 × Int32 × Int32 × gS → Option (Int32 × gS)}  (hk30 : ∀ x, k30 x = some r → G X 30 [(0, .ref (gA X 46)), (1, .int x.1), (2, .int x.2.1), (3, .int x.2.2.1)] [] x.2.2.2) (hk41 : ∀ x, k41 x = some r → G X 41 [(0, .ref (gA X 46)), (1, .int x.1), (2, .int x.2.1), (3, .int x.2.2.1), (4, .int x.2.2.2.1)] [] x.2.2.2.2) (x1 : Int32) (x3 : Int32) (x4 : Int32) (σ : gS) (h : b_Mo_remembered_151 k30 k41 x1 x3 x4 σ = some r) : G X 151 [(0, .ref (gA X 46)), (1, .int x1), (3, .int x3), (4, .int x4)] [] σ := by
  unfold b_Mo_remembered_151 at h
  refine r_iconst C (v := 1) d_Mo_remembered_151 (by decide) ?_
  refine r_goto C (tgt := 156) d_Mo_remembered_152 (by decide) ?_
  exact t_Mo_remembered_156 C hR hk30 hk41 x1 x3 x4 1 σ h
set_option maxHeartbeats 4000000 in
set_option maxRecDepth 100000 in
theorem t_Mo_remembered_123 {X : gX} {r : (Int32 × gS)} (C : gC X b_Mo_remembered_c R_Mo 6 1 27) (hR : ∀ pc lv, decode b_Mo_remembered_c pc = .ok (.ireturn, 1) → G X pc lv [.int r.1] r.2) {k30 : Int32 × Int32 × Int32 × gS → Option (Int32 × gS)}  {k41 : Int32 × Int32 × Int32 × Int32 × gS → Option (Int32 × gS)}  (hk30 : ∀ x, k30 x = some r → G X 30 [(0, .ref (gA X 46)), (1, .int x.1), (2, .int x.2.1), (3, .int x.2.2.1)] [] x.2.2.2) (hk41 : ∀ x, k41 x = some r → G X 41 [(0, .ref (gA X 46)), (1, .int x.1), (2, .int x.2.1), (3, .int x.2.2.1), (4, .int x.2.2.2.1)] [] x.2.2.2.2) (x1 : Int32) (x2 : Int32) (x3 : Int32) (x4 : Int32) (y0 : Int32) (σ : gS) (h : b_Mo_remembered_123 k30 k41 x1 x2 x3 x4 y0 σ = some r) : G X 123 [(0, .ref (gA X 46)), (1, .int x1), (2, .int x2), (3, .int x3), (4, .int x4)] [.int y0] σ := by
  unfold b_Mo_remembered_123 at h
  refine r_istore C (lv' := [(5, .int y0), (0, .ref (gA X 46)), (1, .int x1), (2, .int x2), (3, .int x3), (4, .int x4)]) d_Mo_remembered_123 (by decide) rfl rfl ?_
  refine r_iload_n C 3 d_Mo_remembered_125 rfl rfl ?_
  refine r_if_eq C (tgt := 155) d_Mo_remembered_126 (by decide) (fun hc_1 => ?_) (fun hc_1 => ?_)
  · rw [if_pos hc_1] at h
    refine r_sub [1, 2, 4, 5] (lv' := [(0, .ref (gA X 46)), (1, .int x1), (3, .int x3), (4, .int x4)]) rfl ?_
    exact t_Mo_remembered_155 C hR hk30 hk41 x1 x3 x4 σ h
  · rw [if_neg hc_1] at h
    refine r_iload C 0 d_Mo_remembered_129 rfl ?_
    refine r_if_eq C (tgt := 151) d_Mo_remembered_131 (by decide) (fun hc_2 => ?_) (fun hc_2 => ?_)
    · rw [if_pos hc_2] at h
      refine r_sub [1, 2, 4, 5] (lv' := [(0, .ref (gA X 46)), (1, .int x1), (3, .int x3), (4, .int x4)]) rfl ?_
      exact t_Mo_remembered_151 C hR hk30 hk41 x1 x3 x4 σ h
    · rw [if_neg hc_2] at h
      refine r_aload_n C 1 d_Mo_remembered_134 rfl rfl ?_
      refine r_iload_n C 2 d_Mo_remembered_135 rfl rfl ?_
      refine r_iload_n C 4 d_Mo_remembered_136 rfl rfl ?_
      obtain ⟨r_3, er_3, h⟩ := bind_some h
      refine r_callV C (As := [.int x1, .int x3]) (rest := []) (st1 := [.long r_3]) (c_Mo_memory X.1.2.1 σ x1 x3 er_3) k_Mo_memory m_572 (by decide) cel_Mo rfl rfl rfl rfl (Nat.le_of_ble_eq_true rfl) ⟨Nat.le_of_ble_eq_true rfl, Nat.le_of_ble_eq_true rfl⟩ d_Mo_remembered_137 rfl ?_
      refine r_aload_n C 1 d_Mo_remembered_140 rfl rfl ?_
      refine r_iload_n C 2 d_Mo_remembered_141 rfl rfl ?_
      refine r_iload C 5 d_Mo_remembered_142 rfl ?_
      obtain ⟨r_4, er_4, h⟩ := bind_some h
      refine r_callV C (As := [.int x1, .int x4]) (rest := [.long r_3]) (st1 := [.long r_4, .long r_3]) (c_Mo_memory X.1.2.1 σ x1 x4 er_4) k_Mo_memory m_572 (by decide) cel_Mo rfl rfl rfl rfl (Nat.le_of_ble_eq_true rfl) ⟨Nat.le_of_ble_eq_true rfl, Nat.le_of_ble_eq_true rfl⟩ d_Mo_remembered_144 rfl ?_
      refine r_lcmp C d_Mo_remembered_147 ?_
      refine r_if_ne C (tgt := 155) d_Mo_remembered_148 (by decide) (fun hc_5 => ?_) (fun hc_5 => ?_)
      · rw [if_neg hc_5] at h
        refine r_sub [1, 2, 4, 5] (lv' := [(0, .ref (gA X 46)), (1, .int x1), (3, .int x3), (4, .int x4)]) rfl ?_
        exact t_Mo_remembered_155 C hR hk30 hk41 x1 x3 x4 σ h
      · rw [if_pos hc_5] at h
        refine r_sub [1, 2, 4, 5] (lv' := [(0, .ref (gA X 46)), (1, .int x1), (3, .int x3), (4, .int x4)]) rfl ?_
        exact t_Mo_remembered_151 C hR hk30 hk41 x1 x3 x4 σ h
set_option maxHeartbeats 4000000 in
set_option maxRecDepth 100000 in
theorem t_Mo_remembered_122 {X : gX} {r : (Int32 × gS)} (C : gC X b_Mo_remembered_c R_Mo 6 1 27) (hR : ∀ pc lv, decode b_Mo_remembered_c pc = .ok (.ireturn, 1) → G X pc lv [.int r.1] r.2) {k30 : Int32 × Int32 × Int32 × gS → Option (Int32 × gS)}  {k41 : Int32 × Int32 × Int32 × Int32 × gS → Option (Int32 × gS)}  (hk30 : ∀ x, k30 x = some r → G X 30 [(0, .ref (gA X 46)), (1, .int x.1), (2, .int x.2.1), (3, .int x.2.2.1)] [] x.2.2.2) (hk41 : ∀ x, k41 x = some r → G X 41 [(0, .ref (gA X 46)), (1, .int x.1), (2, .int x.2.1), (3, .int x.2.2.1), (4, .int x.2.2.2.1)] [] x.2.2.2.2) (x1 : Int32) (x2 : Int32) (x3 : Int32) (x4 : Int32) (σ : gS) (h : b_Mo_remembered_122 k30 k41 x1 x2 x3 x4 σ = some r) : G X 122 [(0, .ref (gA X 46)), (1, .int x1), (2, .int x2), (3, .int x3), (4, .int x4)] [] σ := by
  unfold b_Mo_remembered_122 at h
  refine r_iconst C (v := 0) d_Mo_remembered_122 (by decide) ?_
  exact t_Mo_remembered_123 C hR hk30 hk41 x1 x2 x3 x4 0 σ h
set_option maxHeartbeats 4000000 in
set_option maxRecDepth 100000 in
theorem t_Mo_remembered_41 {X : gX} {r : (Int32 × gS)} (C : gC X b_Mo_remembered_c R_Mo 6 1 27) (hR : ∀ pc lv, decode b_Mo_remembered_c pc = .ok (.ireturn, 1) → G X pc lv [.int r.1] r.2) {k30 : Int32 × Int32 × Int32 × gS → Option (Int32 × gS)}  {k41 : Int32 × Int32 × Int32 × Int32 × gS → Option (Int32 × gS)}  (hk30 : ∀ x, k30 x = some r → G X 30 [(0, .ref (gA X 46)), (1, .int x.1), (2, .int x.2.1), (3, .int x.2.2.1)] [] x.2.2.2) (hk41 : ∀ x, k41 x = some r → G X 41 [(0, .ref (gA X 46)), (1, .int x.1), (2, .int x.2.1), (3, .int x.2.2.1), (4, .int x.2.2.2.1)] [] x.2.2.2.2) (x1 : Int32) (x2 : Int32) (x3 : Int32) (x4 : Int32) (σ : gS) (h : b_Mo_remembered_41 k30 k41 x1 x2 x3 x4 σ = some r) : G X 41 [(0, .ref (gA X 46)), (1, .int x1), (2, .int x2), (3, .int x3), (4, .int x4)] [] σ := by
  unfold b_Mo_remembered_41 at h
  refine r_iload C 4 d_Mo_remembered_41 rfl ?_
  refine r_iload_n C 3 d_Mo_remembered_43 rfl rfl ?_
  refine r_icmp_ge C (tgt := 163) d_Mo_remembered_44 (by decide) (fun hc_1 => ?_) (fun hc_1 => ?_)
  · rw [if_pos hc_1] at h
    obtain ⟨x3_2, ex3_2, h⟩ := bnd_some h
    refine r_iinc C 3 (lv' := [(3, .int x3_2), (0, .ref (gA X 46)), (1, .int x1), (2, .int x2), (4, .int x4)]) d_Mo_remembered_163 rfl (by rw [ex3_2]; rfl) (by decide) rfl ?_
    refine r_goto C (tgt := 30) d_Mo_remembered_166 (by decide) ?_
    refine r_sub [1, 2, 3, 0] (lv' := [(0, .ref (gA X 46)), (1, .int x1), (2, .int x2), (3, .int x3_2)]) rfl ?_
    exact hk30 _ h
  · rw [if_neg hc_1] at h
    refine r_aload_n C 0 d_Mo_remembered_47 rfl rfl ?_
    refine q_Mo_37 C d_Mo_remembered_48 ?_
    refine r_iload_n C 3 d_Mo_remembered_51 rfl rfl ?_
    obtain ⟨hi_3, h⟩ := ck_some h
    refine r_zald C hi_3 d_Mo_remembered_52 ?_
    refine r_if_eq C (tgt := 122) d_Mo_remembered_53 (by decide) (fun hc_4 => ?_) (fun hc_4 => ?_)
    · rw [if_pos hc_4] at h
      exact t_Mo_remembered_122 C hR hk30 hk41 x1 x2 x3 x4 σ h
    · rw [if_neg hc_4] at h
      refine r_aload_n C 0 d_Mo_remembered_56 rfl rfl ?_
      refine q_Mo_37 C d_Mo_remembered_57 ?_
      refine r_iload C 4 d_Mo_remembered_60 rfl ?_
      obtain ⟨hi_5, h⟩ := ck_some h
      refine r_zald C hi_5 d_Mo_remembered_62 ?_
      refine r_if_eq C (tgt := 122) d_Mo_remembered_63 (by decide) (fun hc_6 => ?_) (fun hc_6 => ?_)
      · rw [if_pos hc_6] at h
        exact t_Mo_remembered_122 C hR hk30 hk41 x1 x2 x3 x4 σ h
      · rw [if_neg hc_6] at h
        refine r_aload_n C 0 d_Mo_remembered_66 rfl rfl ?_
        refine q_Mo_7 C d_Mo_remembered_67 ?_
        refine r_iload_n C 3 d_Mo_remembered_70 rfl rfl ?_
        obtain ⟨hi_7, h⟩ := ck_some h
        refine r_iald C hi_7 d_Mo_remembered_71 ?_
        refine r_iconst C (v := 2) d_Mo_remembered_72 (by decide) ?_
        refine r_icmp_ne C (tgt := 122) d_Mo_remembered_73 (by decide) (fun hc_8 => ?_) (fun hc_8 => ?_)
        · rw [if_neg hc_8] at h
          exact t_Mo_remembered_122 C hR hk30 hk41 x1 x2 x3 x4 σ h
        · rw [if_pos hc_8] at h
          refine r_aload_n C 0 d_Mo_remembered_76 rfl rfl ?_
          refine q_Mo_7 C d_Mo_remembered_77 ?_
          refine r_iload C 4 d_Mo_remembered_80 rfl ?_
          obtain ⟨hi_9, h⟩ := ck_some h
          refine r_iald C hi_9 d_Mo_remembered_82 ?_
          refine r_iconst C (v := 2) d_Mo_remembered_83 (by decide) ?_
          refine r_icmp_ne C (tgt := 122) d_Mo_remembered_84 (by decide) (fun hc_10 => ?_) (fun hc_10 => ?_)
          · rw [if_neg hc_10] at h
            exact t_Mo_remembered_122 C hR hk30 hk41 x1 x2 x3 x4 σ h
          · rw [if_pos hc_10] at h
            refine r_aload_n C 0 d_Mo_remembered_87 rfl rfl ?_
            refine q_Mo_13 C d_Mo_remembered_88 ?_
            refine r_iload_n C 3 d_Mo_remembered_91 rfl rfl ?_
            obtain ⟨hi_11, h⟩ := ck_some h
            refine r_iald C hi_11 d_Mo_remembered_92 ?_
            refine r_aload_n C 0 d_Mo_remembered_93 rfl rfl ?_
            refine q_Mo_13 C d_Mo_remembered_94 ?_
            refine r_iload C 4 d_Mo_remembered_97 rfl ?_
            obtain ⟨hi_12, h⟩ := ck_some h
            refine r_iald C hi_12 d_Mo_remembered_99 ?_
            refine r_icmp_ne C (tgt := 122) d_Mo_remembered_100 (by decide) (fun hc_13 => ?_) (fun hc_13 => ?_)
            · rw [if_neg hc_13] at h
              exact t_Mo_remembered_122 C hR hk30 hk41 x1 x2 x3 x4 σ h
            · rw [if_pos hc_13] at h
              refine r_aload_n C 0 d_Mo_remembered_103 rfl rfl ?_
              refine q_Mo_31 C d_Mo_remembered_104 ?_
              refine r_aload_n C 0 d_Mo_remembered_107 rfl rfl ?_
              refine q_Mo_13 C d_Mo_remembered_108 ?_
              refine r_iload_n C 3 d_Mo_remembered_111 rfl rfl ?_
              obtain ⟨hi_14, h⟩ := ck_some h
              refine r_iald C hi_14 d_Mo_remembered_112 ?_
              obtain ⟨hi_15, h⟩ := ck_some h
              refine r_iald C hi_15 d_Mo_remembered_113 ?_
              refine r_iload_n C 1 d_Mo_remembered_114 rfl rfl ?_
              refine r_icmp_ne C (tgt := 122) d_Mo_remembered_115 (by decide) (fun hc_16 => ?_) (fun hc_16 => ?_)
              · rw [if_neg hc_16] at h
                exact t_Mo_remembered_122 C hR hk30 hk41 x1 x2 x3 x4 σ h
              · rw [if_pos hc_16] at h
                refine r_iconst C (v := 1) d_Mo_remembered_118 (by decide) ?_
                refine r_goto C (tgt := 123) d_Mo_remembered_119 (by decide) ?_
                exact t_Mo_remembered_123 C hR hk30 hk41 x1 x2 x3 x4 1 σ h
set_option maxHeartbeats 4000000 in
set_option maxRecDepth 100000 in
theorem u_Mo_remembered_41 {X : gX} {r : (Int32 × gS)} (C : gC X b_Mo_remembered_c R_Mo 6 1 27) (hR : ∀ pc lv, decode b_Mo_remembered_c pc = .ok (.ireturn, 1) → G X pc lv [.int r.1] r.2) {k30 : Int32 × Int32 × Int32 × gS → Option (Int32 × gS)}  (hk30 : ∀ x, k30 x = some r → G X 30 [(0, .ref (gA X 46)), (1, .int x.1), (2, .int x.2.1), (3, .int x.2.2.1)] [] x.2.2.2) (x : Int32 × Int32 × Int32 × Int32 × gS) (h : l_Mo_remembered_41 k30 x = some r) : G X 41 [(0, .ref (gA X 46)), (1, .int x.1), (2, .int x.2.1), (3, .int x.2.2.1), (4, .int x.2.2.2.1)] [] x.2.2.2.2 :=
  lpF_ind (P := fun x => G X 41 [(0, .ref (gA X 46)), (1, .int x.1), (2, .int x.2.1), (3, .int x.2.2.1), (4, .int x.2.2.2.1)] [] x.2.2.2.2) (fun k hk x h => t_Mo_remembered_41 C hR hk30 hk x.1 x.2.1 x.2.2.1 x.2.2.2.1 x.2.2.2.2 h) gF x h
set_option maxHeartbeats 4000000 in
set_option maxRecDepth 100000 in
theorem t_Mo_remembered_30 {X : gX} {r : (Int32 × gS)} (C : gC X b_Mo_remembered_c R_Mo 6 1 27) (hR : ∀ pc lv, decode b_Mo_remembered_c pc = .ok (.ireturn, 1) → G X pc lv [.int r.1] r.2) {k30 : Int32 × Int32 × Int32 × gS → Option (Int32 × gS)}  (hk30 : ∀ x, k30 x = some r → G X 30 [(0, .ref (gA X 46)), (1, .int x.1), (2, .int x.2.1), (3, .int x.2.2.1)] [] x.2.2.2) (x1 : Int32) (x2 : Int32) (x3 : Int32) (σ : gS) (h : b_Mo_remembered_30 k30 x1 x2 x3 σ = some r) : G X 30 [(0, .ref (gA X 46)), (1, .int x1), (2, .int x2), (3, .int x3)] [] σ := by
  unfold b_Mo_remembered_30 at h
  refine r_iload_n C 3 d_Mo_remembered_30 rfl rfl ?_
  refine r_aload_n C 0 d_Mo_remembered_31 rfl rfl ?_
  refine q_Mo_71 C d_Mo_remembered_32 ?_
  refine r_icmp_ge C (tgt := 169) d_Mo_remembered_35 (by decide) (fun hc_1 => ?_) (fun hc_1 => ?_)
  · rw [if_pos hc_1] at h
    refine r_iload_n C 2 d_Mo_remembered_169 rfl rfl ?_
    refine r_if_eq C (tgt := 177) d_Mo_remembered_170 (by decide) (fun hc_2 => ?_) (fun hc_2 => ?_)
    · rw [if_pos hc_2] at h
      refine r_iconst C (v := 0) d_Mo_remembered_177 (by decide) ?_
      cases h
      exact hR _ _ d_Mo_remembered_178
    · rw [if_neg hc_2] at h
      refine r_iconst C (v := 1) d_Mo_remembered_173 (by decide) ?_
      refine r_goto C (tgt := 178) d_Mo_remembered_174 (by decide) ?_
      cases h
      exact hR _ _ d_Mo_remembered_178
  · rw [if_neg hc_1] at h
    refine r_iconst C (v := 0) d_Mo_remembered_38 (by decide) ?_
    refine r_istore C (lv' := [(4, .int 0), (0, .ref (gA X 46)), (1, .int x1), (2, .int x2), (3, .int x3)]) d_Mo_remembered_39 (by decide) rfl rfl ?_
    refine r_sub [1, 2, 3, 4, 0] (lv' := [(0, .ref (gA X 46)), (1, .int x1), (2, .int x2), (3, .int x3), (4, .int 0)]) rfl ?_
    exact u_Mo_remembered_41 C hR hk30 (x1, x2, x3, 0, σ) h
set_option maxHeartbeats 4000000 in
set_option maxRecDepth 100000 in
theorem u_Mo_remembered_30 {X : gX} {r : (Int32 × gS)} (C : gC X b_Mo_remembered_c R_Mo 6 1 27) (hR : ∀ pc lv, decode b_Mo_remembered_c pc = .ok (.ireturn, 1) → G X pc lv [.int r.1] r.2)  (x : Int32 × Int32 × Int32 × gS) (h : l_Mo_remembered_30 x = some r) : G X 30 [(0, .ref (gA X 46)), (1, .int x.1), (2, .int x.2.1), (3, .int x.2.2.1)] [] x.2.2.2 :=
  lpF_ind (P := fun x => G X 30 [(0, .ref (gA X 46)), (1, .int x.1), (2, .int x.2.1), (3, .int x.2.2.1)] [] x.2.2.2) (fun k hk x h => t_Mo_remembered_30 C hR hk x.1 x.2.1 x.2.2.1 x.2.2.2 h) gF x h
set_option maxHeartbeats 4000000 in
set_option maxRecDepth 100000 in
theorem t_Mo_remembered_0 {X : gX} {r : (Int32 × gS)} (C : gC X b_Mo_remembered_c R_Mo 6 1 27) (hR : ∀ pc lv, decode b_Mo_remembered_c pc = .ok (.ireturn, 1) → G X pc lv [.int r.1] r.2) (x1 : Int32) (σ : gS) (h : b_Mo_remembered_0 x1 σ = some r) : G X 0 [(0, .ref (gA X 46)), (1, .int x1)] [] σ := by
  unfold b_Mo_remembered_0 at h
  refine r_aload_n C 0 d_Mo_remembered_0 rfl rfl ?_
  refine q_Mo_71 C d_Mo_remembered_1 ?_
  refine r_if_ne C (tgt := 10) d_Mo_remembered_4 (by decide) (fun hc_1 => ?_) (fun hc_1 => ?_)
  · rw [if_neg hc_1] at h
    refine r_iload_n C 1 d_Mo_remembered_10 rfl rfl ?_
    refine r_iconst C (v := 0) d_Mo_remembered_11 (by decide) ?_
    refine r_iconst C (v := 1) d_Mo_remembered_12 (by decide) ?_
    obtain ⟨r_2, er_2, h⟩ := bind_some h
    refine r_callS C (As := [.int x1, .int 0, .int 1]) (rest := []) (st1 := [.int r_2]) (c_Mo_isFrom X.1.2.1 σ x1 0 1 er_2) k_Mo_isFrom m_420 rfl rfl rfl (Nat.le_of_ble_eq_true rfl) ⟨Nat.le_of_ble_eq_true rfl, Nat.le_of_ble_eq_true rfl⟩ d_Mo_remembered_13 rfl ?_
    refine r_if_ne C (tgt := 22) d_Mo_remembered_16 (by decide) (fun hc_3 => ?_) (fun hc_3 => ?_)
    · rw [if_neg hc_3] at h
      refine r_aload_n C 0 d_Mo_remembered_22 rfl rfl ?_
      obtain ⟨r_4, er_4, h⟩ := bind_some h
      refine r_callV C (As := []) (rest := []) (st1 := []) (c_Mo_findTree X.1.2.1 σ  er_4) k_Mo_findTree m_442 (by decide) cel_Mo rfl rfl rfl rfl (Nat.le_of_ble_eq_true rfl) ⟨Nat.le_of_ble_eq_true rfl, Nat.le_of_ble_eq_true rfl⟩ d_Mo_remembered_23 rfl ?_
      refine r_iconst C (v := 1) d_Mo_remembered_26 (by decide) ?_
      refine r_istore_n C (lv' := [(2, .int 1), (0, .ref (gA X 46)), (1, .int x1)]) d_Mo_remembered_27 rfl (by decide) rfl rfl ?_
      refine r_iconst C (v := 0) d_Mo_remembered_28 (by decide) ?_
      refine r_istore_n C (lv' := [(3, .int 0), (2, .int 1), (0, .ref (gA X 46)), (1, .int x1)]) d_Mo_remembered_29 rfl (by decide) rfl rfl ?_
      refine r_sub [2, 3, 1, 0] (lv' := [(0, .ref (gA X 46)), (1, .int x1), (2, .int 1), (3, .int 0)]) rfl ?_
      exact u_Mo_remembered_30 C hR  (x1, 1, 0, r_4) h
    · rw [if_pos hc_3] at h
      refine r_bipush C (v := (-2)) d_Mo_remembered_19 (by decide) ?_
      cases h
      exact hR _ _ d_Mo_remembered_21
  · rw [if_pos hc_1] at h
    refine r_ldc C (v := (-1000000)) m_491 d_Mo_remembered_7 ?_
    cases h
    exact hR _ _ d_Mo_remembered_9
set_option maxHeartbeats 4000000 in
set_option maxRecDepth 100000 in
theorem c_Mo_remembered (l : Launch) (σ : gS) (x1 : Int32) {r : (Int32 × gS)} (h : f_Mo_remembered σ x1 = some r) : gMet l y_Mo_remembered b_Mo_remembered_c 6 (some .int) 1 27 (fun a => [.ref (a 46), .int x1]) σ (some (.int r.1)) r.2 := by
  refine gMet_i (by decide +kernel) (fun a => Nat.le_of_ble_eq_true rfl) (fun X _ C hR => ?_)
  refine r_sub [0, 1] (lv' := [(0, .ref (gA X 46)), (1, .int x1)]) rfl ?_
  exact t_Mo_remembered_0 C hR x1 σ h
theorem d_Mo_bestOf_0 : decode b_Mo_bestOf_c 0 = .ok (.iconst 0, 1) := by decide +kernel
theorem d_Mo_bestOf_1 : decode b_Mo_bestOf_c 1 = .ok (.istore_n 2, 1) := by decide +kernel
theorem d_Mo_bestOf_2 : decode b_Mo_bestOf_c 2 = .ok (.iconst 1, 1) := by decide +kernel
theorem d_Mo_bestOf_3 : decode b_Mo_bestOf_c 3 = .ok (.istore_n 3, 1) := by decide +kernel
theorem d_Mo_bestOf_4 : decode b_Mo_bestOf_c 4 = .ok (.iload_n 3, 1) := by decide +kernel
theorem d_Mo_bestOf_5 : decode b_Mo_bestOf_c 5 = .ok (.aload_n 0, 1) := by decide +kernel
theorem d_Mo_bestOf_6 : decode b_Mo_bestOf_c 6 = .ok (.iload_n 1, 1) := by decide +kernel
theorem d_Mo_bestOf_7 : decode b_Mo_bestOf_c 7 = .ok (.invokevirtual 146, 3) := by decide +kernel
theorem d_Mo_bestOf_10 : decode b_Mo_bestOf_c 10 = .ok (.if_icmp .ge 40, 3) := by decide +kernel
theorem d_Mo_bestOf_13 : decode b_Mo_bestOf_c 13 = .ok (.aload_n 0, 1) := by decide +kernel
theorem d_Mo_bestOf_14 : decode b_Mo_bestOf_c 14 = .ok (.getfield 68, 3) := by decide +kernel
theorem d_Mo_bestOf_17 : decode b_Mo_bestOf_c 17 = .ok (.bipush 64, 2) := by decide +kernel
theorem d_Mo_bestOf_19 : decode b_Mo_bestOf_c 19 = .ok (.iload_n 1, 1) := by decide +kernel
theorem d_Mo_bestOf_20 : decode b_Mo_bestOf_c 20 = .ok (.imul, 1) := by decide +kernel
theorem d_Mo_bestOf_21 : decode b_Mo_bestOf_c 21 = .ok (.iload_n 3, 1) := by decide +kernel
theorem d_Mo_bestOf_22 : decode b_Mo_bestOf_c 22 = .ok (.iadd, 1) := by decide +kernel
theorem d_Mo_bestOf_23 : decode b_Mo_bestOf_c 23 = .ok (.iaload, 1) := by decide +kernel
theorem d_Mo_bestOf_24 : decode b_Mo_bestOf_c 24 = .ok (.aload_n 0, 1) := by decide +kernel
theorem d_Mo_bestOf_25 : decode b_Mo_bestOf_c 25 = .ok (.getfield 68, 3) := by decide +kernel
theorem d_Mo_bestOf_28 : decode b_Mo_bestOf_c 28 = .ok (.bipush 64, 2) := by decide +kernel
theorem d_Mo_bestOf_30 : decode b_Mo_bestOf_c 30 = .ok (.iload_n 1, 1) := by decide +kernel
theorem d_Mo_bestOf_31 : decode b_Mo_bestOf_c 31 = .ok (.imul, 1) := by decide +kernel
theorem d_Mo_bestOf_32 : decode b_Mo_bestOf_c 32 = .ok (.iload_n 2, 1) := by decide +kernel
theorem d_Mo_bestOf_33 : decode b_Mo_bestOf_c 33 = .ok (.iadd, 1) := by decide +kernel
theorem d_Mo_bestOf_34 : decode b_Mo_bestOf_c 34 = .ok (.iaload, 1) := by decide +kernel
theorem d_Mo_bestOf_35 : decode b_Mo_bestOf_c 35 = .ok (.if_icmp .le 7, 3) := by decide +kernel
theorem d_Mo_bestOf_38 : decode b_Mo_bestOf_c 38 = .ok (.iload_n 3, 1) := by decide +kernel
theorem d_Mo_bestOf_39 : decode b_Mo_bestOf_c 39 = .ok (.goto 4, 3) := by decide +kernel
theorem d_Mo_bestOf_42 : decode b_Mo_bestOf_c 42 = .ok (.iload_n 2, 1) := by decide +kernel
theorem d_Mo_bestOf_43 : decode b_Mo_bestOf_c 43 = .ok (.istore_n 2, 1) := by decide +kernel
theorem d_Mo_bestOf_44 : decode b_Mo_bestOf_c 44 = .ok (.iinc 3 1, 3) := by decide +kernel
theorem d_Mo_bestOf_47 : decode b_Mo_bestOf_c 47 = .ok (.goto (-43), 3) := by decide +kernel
theorem d_Mo_bestOf_50 : decode b_Mo_bestOf_c 50 = .ok (.iload_n 2, 1) := by decide +kernel
theorem d_Mo_bestOf_51 : decode b_Mo_bestOf_c 51 = .ok (.ireturn, 1) := by decide +kernel
/-! GameRowsModel.bestOf(I)I -/
set_option maxHeartbeats 4000000 in
set_option maxRecDepth 100000 in
theorem t_Mo_bestOf_43 {X : gX} {r : Int32} {σ : gS} (C : gC X b_Mo_bestOf_c R_Mo 4 1 21) (hR : ∀ pc lv, decode b_Mo_bestOf_c pc = .ok (.ireturn, 1) → G X pc lv [.int r] σ) {k4 : Int32 × Int32 × Int32 → Option Int32}  (hk4 : ∀ x, k4 x = some r → G X 4 [(0, .ref (gA X 46)), (1, .int x.1), (2, .int x.2.1), (3, .int x.2.2)] [] σ) (x1 : Int32) (x3 : Int32) (y0 : Int32) (h : b_Mo_bestOf_43 σ k4 x1 x3 y0 = some r) : G X 43 [(0, .ref (gA X 46)), (1, .int x1), (3, .int x3)] [.int y0] σ := by
  unfold b_Mo_bestOf_43 at h
  refine r_istore_n C (lv' := [(2, .int y0), (0, .ref (gA X 46)), (1, .int x1), (3, .int x3)]) d_Mo_bestOf_43 rfl (by decide) rfl rfl ?_
  obtain ⟨x3_1, ex3_1, h⟩ := bnd_some h
  refine r_iinc C 3 (lv' := [(3, .int x3_1), (2, .int y0), (0, .ref (gA X 46)), (1, .int x1)]) d_Mo_bestOf_44 rfl (by rw [ex3_1]; rfl) (by decide) rfl ?_
  refine r_goto C (tgt := 4) d_Mo_bestOf_47 (by decide) ?_
  refine r_sub [2, 3, 1, 0] (lv' := [(0, .ref (gA X 46)), (1, .int x1), (2, .int y0), (3, .int x3_1)]) rfl ?_
  exact hk4 _ h
set_option maxHeartbeats 4000000 in
set_option maxRecDepth 100000 in
theorem t_Mo_bestOf_4 {X : gX} {r : Int32} {σ : gS} (C : gC X b_Mo_bestOf_c R_Mo 4 1 21) (hR : ∀ pc lv, decode b_Mo_bestOf_c pc = .ok (.ireturn, 1) → G X pc lv [.int r] σ) {k4 : Int32 × Int32 × Int32 → Option Int32}  (hk4 : ∀ x, k4 x = some r → G X 4 [(0, .ref (gA X 46)), (1, .int x.1), (2, .int x.2.1), (3, .int x.2.2)] [] σ) (x1 : Int32) (x2 : Int32) (x3 : Int32) (h : b_Mo_bestOf_4 σ k4 x1 x2 x3 = some r) : G X 4 [(0, .ref (gA X 46)), (1, .int x1), (2, .int x2), (3, .int x3)] [] σ := by
  unfold b_Mo_bestOf_4 at h
  refine r_iload_n C 3 d_Mo_bestOf_4 rfl rfl ?_
  refine r_aload_n C 0 d_Mo_bestOf_5 rfl rfl ?_
  refine r_iload_n C 1 d_Mo_bestOf_6 rfl rfl ?_
  obtain ⟨r_1, er_1, h⟩ := bind_some h
  refine r_callV C (As := [.int x1]) (rest := [.int x3]) (st1 := [.int r_1, .int x3]) (c_Mo_many X.1.2.1 σ x1 er_1) k_Mo_many m_500 (by decide) cel_Mo rfl rfl rfl rfl (Nat.le_of_ble_eq_true rfl) ⟨Nat.le_of_ble_eq_true rfl, Nat.le_of_ble_eq_true rfl⟩ d_Mo_bestOf_7 rfl ?_
  refine r_icmp_ge C (tgt := 50) d_Mo_bestOf_10 (by decide) (fun hc_2 => ?_) (fun hc_2 => ?_)
  · rw [if_pos hc_2] at h
    refine r_iload_n C 2 d_Mo_bestOf_50 rfl rfl ?_
    cases h
    exact hR _ _ d_Mo_bestOf_51
  · rw [if_neg hc_2] at h
    refine r_aload_n C 0 d_Mo_bestOf_13 rfl rfl ?_
    refine q_Mo_68 C d_Mo_bestOf_14 ?_
    refine r_bipush C (v := 64) d_Mo_bestOf_17 (by decide) ?_
    refine r_iload_n C 1 d_Mo_bestOf_19 rfl rfl ?_
    refine r_imul C d_Mo_bestOf_20 ?_
    refine r_iload_n C 3 d_Mo_bestOf_21 rfl rfl ?_
    refine r_iadd C d_Mo_bestOf_22 ?_
    obtain ⟨hi_3, h⟩ := ck_some h
    refine r_iald C hi_3 d_Mo_bestOf_23 ?_
    refine r_aload_n C 0 d_Mo_bestOf_24 rfl rfl ?_
    refine q_Mo_68 C d_Mo_bestOf_25 ?_
    refine r_bipush C (v := 64) d_Mo_bestOf_28 (by decide) ?_
    refine r_iload_n C 1 d_Mo_bestOf_30 rfl rfl ?_
    refine r_imul C d_Mo_bestOf_31 ?_
    refine r_iload_n C 2 d_Mo_bestOf_32 rfl rfl ?_
    refine r_iadd C d_Mo_bestOf_33 ?_
    obtain ⟨hi_4, h⟩ := ck_some h
    refine r_iald C hi_4 d_Mo_bestOf_34 ?_
    refine r_icmp_le C (tgt := 42) d_Mo_bestOf_35 (by decide) (fun hc_5 => ?_) (fun hc_5 => ?_)
    · rw [if_pos hc_5] at h
      refine r_iload_n C 2 d_Mo_bestOf_42 rfl rfl ?_
      refine r_sub [0, 1, 3] (lv' := [(0, .ref (gA X 46)), (1, .int x1), (3, .int x3)]) rfl ?_
      exact t_Mo_bestOf_43 C hR hk4 x1 x3 x2 h
    · rw [if_neg hc_5] at h
      refine r_iload_n C 3 d_Mo_bestOf_38 rfl rfl ?_
      refine r_goto C (tgt := 43) d_Mo_bestOf_39 (by decide) ?_
      refine r_sub [0, 1, 3] (lv' := [(0, .ref (gA X 46)), (1, .int x1), (3, .int x3)]) rfl ?_
      exact t_Mo_bestOf_43 C hR hk4 x1 x3 x3 h
set_option maxHeartbeats 4000000 in
set_option maxRecDepth 100000 in
theorem u_Mo_bestOf_4 {X : gX} {r : Int32} {σ : gS} (C : gC X b_Mo_bestOf_c R_Mo 4 1 21) (hR : ∀ pc lv, decode b_Mo_bestOf_c pc = .ok (.ireturn, 1) → G X pc lv [.int r] σ)  (x : Int32 × Int32 × Int32) (h : l_Mo_bestOf_4 σ x = some r) : G X 4 [(0, .ref (gA X 46)), (1, .int x.1), (2, .int x.2.1), (3, .int x.2.2)] [] σ :=
  lpF_ind (P := fun x => G X 4 [(0, .ref (gA X 46)), (1, .int x.1), (2, .int x.2.1), (3, .int x.2.2)] [] σ) (fun k hk x h => t_Mo_bestOf_4 C hR hk x.1 x.2.1 x.2.2 h) gF x h
set_option maxHeartbeats 4000000 in
set_option maxRecDepth 100000 in
theorem t_Mo_bestOf_0 {X : gX} {r : Int32} {σ : gS} (C : gC X b_Mo_bestOf_c R_Mo 4 1 21) (hR : ∀ pc lv, decode b_Mo_bestOf_c pc = .ok (.ireturn, 1) → G X pc lv [.int r] σ) (x1 : Int32) (h : b_Mo_bestOf_0 σ x1 = some r) : G X 0 [(0, .ref (gA X 46)), (1, .int x1)] [] σ := by
  unfold b_Mo_bestOf_0 at h
  refine r_iconst C (v := 0) d_Mo_bestOf_0 (by decide) ?_
  refine r_istore_n C (lv' := [(2, .int 0), (0, .ref (gA X 46)), (1, .int x1)]) d_Mo_bestOf_1 rfl (by decide) rfl rfl ?_
  refine r_iconst C (v := 1) d_Mo_bestOf_2 (by decide) ?_
  refine r_istore_n C (lv' := [(3, .int 1), (2, .int 0), (0, .ref (gA X 46)), (1, .int x1)]) d_Mo_bestOf_3 rfl (by decide) rfl rfl ?_
  refine r_sub [2, 3, 1, 0] (lv' := [(0, .ref (gA X 46)), (1, .int x1), (2, .int 0), (3, .int 1)]) rfl ?_
  exact u_Mo_bestOf_4 C hR  (x1, 0, 1) h
set_option maxHeartbeats 4000000 in
set_option maxRecDepth 100000 in
theorem c_Mo_bestOf (l : Launch) (σ : gS) (x1 : Int32) {r : Int32} (h : f_Mo_bestOf σ x1 = some r) : gMet l y_Mo_bestOf b_Mo_bestOf_c 4 (some .int) 1 21 (fun a => [.ref (a 46), .int x1]) σ (some (.int r)) σ := by
  refine gMet_i (by decide +kernel) (fun a => Nat.le_of_ble_eq_true rfl) (fun X _ C hR => ?_)
  refine r_sub [0, 1] (lv' := [(0, .ref (gA X 46)), (1, .int x1)]) rfl ?_
  exact t_Mo_bestOf_0 C hR x1 h
theorem d_Mo_take_0 : decode b_Mo_take_c 0 = .ok (.aload_n 0, 1) := by decide +kernel
theorem d_Mo_take_1 : decode b_Mo_take_c 1 = .ok (.getfield 65, 3) := by decide +kernel
theorem d_Mo_take_4 : decode b_Mo_take_c 4 = .ok (.bipush 64, 2) := by decide +kernel
theorem d_Mo_take_6 : decode b_Mo_take_c 6 = .ok (.iload_n 1, 1) := by decide +kernel
theorem d_Mo_take_7 : decode b_Mo_take_c 7 = .ok (.imul, 1) := by decide +kernel
theorem d_Mo_take_8 : decode b_Mo_take_c 8 = .ok (.iload_n 2, 1) := by decide +kernel
theorem d_Mo_take_9 : decode b_Mo_take_c 9 = .ok (.iadd, 1) := by decide +kernel
theorem d_Mo_take_10 : decode b_Mo_take_c 10 = .ok (.dup2, 1) := by decide +kernel
theorem d_Mo_take_11 : decode b_Mo_take_c 11 = .ok (.iaload, 1) := by decide +kernel
theorem d_Mo_take_12 : decode b_Mo_take_c 12 = .ok (.iconst 1, 1) := by decide +kernel
theorem d_Mo_take_13 : decode b_Mo_take_c 13 = .ok (.iadd, 1) := by decide +kernel
theorem d_Mo_take_14 : decode b_Mo_take_c 14 = .ok (.iastore, 1) := by decide +kernel
theorem d_Mo_take_15 : decode b_Mo_take_c 15 = .ok (.iconst 0, 1) := by decide +kernel
theorem d_Mo_take_16 : decode b_Mo_take_c 16 = .ok (.istore_n 3, 1) := by decide +kernel
theorem d_Mo_take_17 : decode b_Mo_take_c 17 = .ok (.iload_n 3, 1) := by decide +kernel
theorem d_Mo_take_18 : decode b_Mo_take_c 18 = .ok (.aload_n 0, 1) := by decide +kernel
theorem d_Mo_take_19 : decode b_Mo_take_c 19 = .ok (.iconst 1, 1) := by decide +kernel
theorem d_Mo_take_20 : decode b_Mo_take_c 20 = .ok (.iload_n 1, 1) := by decide +kernel
theorem d_Mo_take_21 : decode b_Mo_take_c 21 = .ok (.isub, 1) := by decide +kernel
theorem d_Mo_take_22 : decode b_Mo_take_c 22 = .ok (.invokevirtual 146, 3) := by decide +kernel
theorem d_Mo_take_25 : decode b_Mo_take_c 25 = .ok (.if_icmp .ge 34, 3) := by decide +kernel
theorem d_Mo_take_28 : decode b_Mo_take_c 28 = .ok (.aload_n 0, 1) := by decide +kernel
theorem d_Mo_take_29 : decode b_Mo_take_c 29 = .ok (.getfield 68, 3) := by decide +kernel
theorem d_Mo_take_32 : decode b_Mo_take_c 32 = .ok (.bipush 64, 2) := by decide +kernel
theorem d_Mo_take_34 : decode b_Mo_take_c 34 = .ok (.iconst 1, 1) := by decide +kernel
theorem d_Mo_take_35 : decode b_Mo_take_c 35 = .ok (.iload_n 1, 1) := by decide +kernel
theorem d_Mo_take_36 : decode b_Mo_take_c 36 = .ok (.isub, 1) := by decide +kernel
theorem d_Mo_take_37 : decode b_Mo_take_c 37 = .ok (.imul, 1) := by decide +kernel
theorem d_Mo_take_38 : decode b_Mo_take_c 38 = .ok (.iload_n 3, 1) := by decide +kernel
theorem d_Mo_take_39 : decode b_Mo_take_c 39 = .ok (.iadd, 1) := by decide +kernel
theorem d_Mo_take_40 : decode b_Mo_take_c 40 = .ok (.dup2, 1) := by decide +kernel
theorem d_Mo_take_41 : decode b_Mo_take_c 41 = .ok (.iaload, 1) := by decide +kernel
theorem d_Mo_take_42 : decode b_Mo_take_c 42 = .ok (.aload_n 0, 1) := by decide +kernel
theorem d_Mo_take_43 : decode b_Mo_take_c 43 = .ok (.iconst 1, 1) := by decide +kernel
theorem d_Mo_take_44 : decode b_Mo_take_c 44 = .ok (.iload_n 1, 1) := by decide +kernel
theorem d_Mo_take_45 : decode b_Mo_take_c 45 = .ok (.isub, 1) := by decide +kernel
theorem d_Mo_take_46 : decode b_Mo_take_c 46 = .ok (.iload_n 3, 1) := by decide +kernel
theorem d_Mo_take_47 : decode b_Mo_take_c 47 = .ok (.iload_n 2, 1) := by decide +kernel
theorem d_Mo_take_48 : decode b_Mo_take_c 48 = .ok (.invokevirtual 143, 3) := by decide +kernel
theorem d_Mo_take_51 : decode b_Mo_take_c 51 = .ok (.iadd, 1) := by decide +kernel
theorem d_Mo_take_52 : decode b_Mo_take_c 52 = .ok (.iastore, 1) := by decide +kernel
theorem d_Mo_take_53 : decode b_Mo_take_c 53 = .ok (.iinc 3 1, 3) := by decide +kernel
theorem d_Mo_take_56 : decode b_Mo_take_c 56 = .ok (.goto (-39), 3) := by decide +kernel
theorem d_Mo_take_59 : decode b_Mo_take_c 59 = .ok (.return_, 1) := by decide +kernel
/-! GameRowsModel.take(II)V -/
set_option maxHeartbeats 4000000 in
set_option maxRecDepth 100000 in
theorem t_Mo_take_17 {X : gX} {r : gS} (C : gC X b_Mo_take_c R_Mo 4 1 23) (hR : ∀ pc lv, decode b_Mo_take_c pc = .ok (.return_, 1) → G X pc lv [] r) {k17 : Int32 × Int32 × Int32 × gS → Option gS}  (hk17 : ∀ x, k17 x = some r → G X 17 [(0, .ref (gA X 46)), (1, .int x.1), (2, .int x.2.1), (3, .int x.2.2.1)] [] x.2.2.2) (x1 : Int32) (x2 : Int32) (x3 : Int32) (σ : gS) (h : b_Mo_take_17 k17 x1 x2 x3 σ = some r) : G X 17 [(0, .ref (gA X 46)), (1, .int x1), (2, .int x2), (3, .int x3)] [] σ := by
  unfold b_Mo_take_17 at h
  refine r_iload_n C 3 d_Mo_take_17 rfl rfl ?_
  refine r_aload_n C 0 d_Mo_take_18 rfl rfl ?_
  refine r_iconst C (v := 1) d_Mo_take_19 (by decide) ?_
  refine r_iload_n C 1 d_Mo_take_20 rfl rfl ?_
  refine r_isub C d_Mo_take_21 ?_
  obtain ⟨r_1, er_1, h⟩ := bind_some h
  refine r_callV C (As := [.int (1 - x1)]) (rest := [.int x3]) (st1 := [.int r_1, .int x3]) (c_Mo_many X.1.2.1 σ (1 - x1) er_1) k_Mo_many m_500 (by decide) cel_Mo rfl rfl rfl rfl (Nat.le_of_ble_eq_true rfl) ⟨Nat.le_of_ble_eq_true rfl, Nat.le_of_ble_eq_true rfl⟩ d_Mo_take_22 rfl ?_
  refine r_icmp_ge C (tgt := 59) d_Mo_take_25 (by decide) (fun hc_2 => ?_) (fun hc_2 => ?_)
  · rw [if_pos hc_2] at h
    cases h
    exact hR _ _ d_Mo_take_59
  · rw [if_neg hc_2] at h
    refine r_aload_n C 0 d_Mo_take_28 rfl rfl ?_
    refine q_Mo_68 C d_Mo_take_29 ?_
    refine r_bipush C (v := 64) d_Mo_take_32 (by decide) ?_
    refine r_iconst C (v := 1) d_Mo_take_34 (by decide) ?_
    refine r_iload_n C 1 d_Mo_take_35 rfl rfl ?_
    refine r_isub C d_Mo_take_36 ?_
    refine r_imul C d_Mo_take_37 ?_
    refine r_iload_n C 3 d_Mo_take_38 rfl rfl ?_
    refine r_iadd C d_Mo_take_39 ?_
    refine r_dup2_11 C d_Mo_take_40 rfl rfl ?_
    obtain ⟨hi_3, h⟩ := ck_some h
    refine r_iald C hi_3 d_Mo_take_41 ?_
    refine r_aload_n C 0 d_Mo_take_42 rfl rfl ?_
    refine r_iconst C (v := 1) d_Mo_take_43 (by decide) ?_
    refine r_iload_n C 1 d_Mo_take_44 rfl rfl ?_
    refine r_isub C d_Mo_take_45 ?_
    refine r_iload_n C 3 d_Mo_take_46 rfl rfl ?_
    refine r_iload_n C 2 d_Mo_take_47 rfl rfl ?_
    obtain ⟨r_4, er_4, h⟩ := bind_some h
    refine r_callV C (As := [.int (1 - x1), .int x3, .int x2]) (rest := [.int (gI σ 66 ((64 * (1 - x1)) + x3).toNatClampNeg), .int ((64 * (1 - x1)) + x3), .ref (gA X 66)]) (st1 := [.int r_4, .int (gI σ 66 ((64 * (1 - x1)) + x3).toNatClampNeg), .int ((64 * (1 - x1)) + x3), .ref (gA X 66)]) (c_Mo_worthTo X.1.2.1 σ (1 - x1) x3 x2 er_4) k_Mo_worthTo m_487 (by decide) cel_Mo rfl rfl rfl rfl (Nat.le_of_ble_eq_true rfl) ⟨Nat.le_of_ble_eq_true rfl, Nat.le_of_ble_eq_true rfl⟩ d_Mo_take_48 rfl ?_
    refine r_iadd C d_Mo_take_51 ?_
    obtain ⟨hi_5, h⟩ := ck_some h
    obtain ⟨σ_6, eσ_6, h⟩ := bnd_some h
    refine r_iast C hi_5 eσ_6 d_Mo_take_52 ?_
    obtain ⟨x3_7, ex3_7, h⟩ := bnd_some h
    refine r_iinc C 3 (lv' := [(3, .int x3_7), (0, .ref (gA X 46)), (1, .int x1), (2, .int x2)]) d_Mo_take_53 rfl (by rw [ex3_7]; rfl) (by decide) rfl ?_
    refine r_goto C (tgt := 17) d_Mo_take_56 (by decide) ?_
    refine r_sub [1, 2, 3, 0] (lv' := [(0, .ref (gA X 46)), (1, .int x1), (2, .int x2), (3, .int x3_7)]) rfl ?_
    exact hk17 _ h
set_option maxHeartbeats 4000000 in
set_option maxRecDepth 100000 in
theorem u_Mo_take_17 {X : gX} {r : gS} (C : gC X b_Mo_take_c R_Mo 4 1 23) (hR : ∀ pc lv, decode b_Mo_take_c pc = .ok (.return_, 1) → G X pc lv [] r)  (x : Int32 × Int32 × Int32 × gS) (h : l_Mo_take_17 x = some r) : G X 17 [(0, .ref (gA X 46)), (1, .int x.1), (2, .int x.2.1), (3, .int x.2.2.1)] [] x.2.2.2 :=
  lpF_ind (P := fun x => G X 17 [(0, .ref (gA X 46)), (1, .int x.1), (2, .int x.2.1), (3, .int x.2.2.1)] [] x.2.2.2) (fun k hk x h => t_Mo_take_17 C hR hk x.1 x.2.1 x.2.2.1 x.2.2.2 h) gF x h
set_option maxHeartbeats 4000000 in
set_option maxRecDepth 100000 in
theorem t_Mo_take_0 {X : gX} {r : gS} (C : gC X b_Mo_take_c R_Mo 4 1 23) (hR : ∀ pc lv, decode b_Mo_take_c pc = .ok (.return_, 1) → G X pc lv [] r) (x1 : Int32) (x2 : Int32) (σ : gS) (h : b_Mo_take_0 x1 x2 σ = some r) : G X 0 [(0, .ref (gA X 46)), (1, .int x1), (2, .int x2)] [] σ := by
  unfold b_Mo_take_0 at h
  refine r_aload_n C 0 d_Mo_take_0 rfl rfl ?_
  refine q_Mo_65 C d_Mo_take_1 ?_
  refine r_bipush C (v := 64) d_Mo_take_4 (by decide) ?_
  refine r_iload_n C 1 d_Mo_take_6 rfl rfl ?_
  refine r_imul C d_Mo_take_7 ?_
  refine r_iload_n C 2 d_Mo_take_8 rfl rfl ?_
  refine r_iadd C d_Mo_take_9 ?_
  refine r_dup2_11 C d_Mo_take_10 rfl rfl ?_
  obtain ⟨hi_1, h⟩ := ck_some h
  refine r_iald C hi_1 d_Mo_take_11 ?_
  refine r_iconst C (v := 1) d_Mo_take_12 (by decide) ?_
  refine r_iadd C d_Mo_take_13 ?_
  obtain ⟨hi_2, h⟩ := ck_some h
  obtain ⟨σ_3, eσ_3, h⟩ := bnd_some h
  refine r_iast C hi_2 eσ_3 d_Mo_take_14 ?_
  refine r_iconst C (v := 0) d_Mo_take_15 (by decide) ?_
  refine r_istore_n C (lv' := [(3, .int 0), (0, .ref (gA X 46)), (1, .int x1), (2, .int x2)]) d_Mo_take_16 rfl (by decide) rfl rfl ?_
  refine r_sub [1, 2, 3, 0] (lv' := [(0, .ref (gA X 46)), (1, .int x1), (2, .int x2), (3, .int 0)]) rfl ?_
  exact u_Mo_take_17 C hR  (x1, x2, 0, σ_3) h
set_option maxHeartbeats 4000000 in
set_option maxRecDepth 100000 in
theorem c_Mo_take (l : Launch) (σ : gS) (x1 : Int32) (x2 : Int32) {r : gS} (h : f_Mo_take σ x1 x2 = some r) : gMet l y_Mo_take b_Mo_take_c 4 (none) 1 23 (fun a => [.ref (a 46), .int x1, .int x2]) σ (none) r := by
  refine gMet_v (by decide +kernel) (fun a => Nat.le_of_ble_eq_true rfl) (fun X _ C hR => ?_)
  refine r_sub [0, 1, 2] (lv' := [(0, .ref (gA X 46)), (1, .int x1), (2, .int x2)]) rfl ?_
  exact t_Mo_take_0 C hR x1 x2 σ h
theorem d_Mo_answerAll_0 : decode b_Mo_answerAll_c 0 = .ok (.aload_n 0, 1) := by decide +kernel
theorem d_Mo_answerAll_1 : decode b_Mo_answerAll_c 1 = .ok (.aload_n 0, 1) := by decide +kernel
theorem d_Mo_answerAll_2 : decode b_Mo_answerAll_c 2 = .ok (.invokevirtual 135, 3) := by decide +kernel
theorem d_Mo_answerAll_5 : decode b_Mo_answerAll_c 5 = .ok (.invokevirtual 139, 3) := by decide +kernel
theorem d_Mo_answerAll_8 : decode b_Mo_answerAll_c 8 = .ok (.iconst 0, 1) := by decide +kernel
theorem d_Mo_answerAll_9 : decode b_Mo_answerAll_c 9 = .ok (.istore_n 2, 1) := by decide +kernel
theorem d_Mo_answerAll_10 : decode b_Mo_answerAll_c 10 = .ok (.iload_n 2, 1) := by decide +kernel
theorem d_Mo_answerAll_11 : decode b_Mo_answerAll_c 11 = .ok (.sipush 128, 3) := by decide +kernel
theorem d_Mo_answerAll_14 : decode b_Mo_answerAll_c 14 = .ok (.if_icmp .ge 23, 3) := by decide +kernel
theorem d_Mo_answerAll_17 : decode b_Mo_answerAll_c 17 = .ok (.aload_n 0, 1) := by decide +kernel
theorem d_Mo_answerAll_18 : decode b_Mo_answerAll_c 18 = .ok (.getfield 65, 3) := by decide +kernel
theorem d_Mo_answerAll_21 : decode b_Mo_answerAll_c 21 = .ok (.iload_n 2, 1) := by decide +kernel
theorem d_Mo_answerAll_22 : decode b_Mo_answerAll_c 22 = .ok (.iconst 0, 1) := by decide +kernel
theorem d_Mo_answerAll_23 : decode b_Mo_answerAll_c 23 = .ok (.iastore, 1) := by decide +kernel
theorem d_Mo_answerAll_24 : decode b_Mo_answerAll_c 24 = .ok (.aload_n 0, 1) := by decide +kernel
theorem d_Mo_answerAll_25 : decode b_Mo_answerAll_c 25 = .ok (.getfield 68, 3) := by decide +kernel
theorem d_Mo_answerAll_28 : decode b_Mo_answerAll_c 28 = .ok (.iload_n 2, 1) := by decide +kernel
theorem d_Mo_answerAll_29 : decode b_Mo_answerAll_c 29 = .ok (.iconst 0, 1) := by decide +kernel
theorem d_Mo_answerAll_30 : decode b_Mo_answerAll_c 30 = .ok (.iastore, 1) := by decide +kernel
theorem d_Mo_answerAll_31 : decode b_Mo_answerAll_c 31 = .ok (.iinc 2 1, 3) := by decide +kernel
theorem d_Mo_answerAll_34 : decode b_Mo_answerAll_c 34 = .ok (.goto (-24), 3) := by decide +kernel
theorem d_Mo_answerAll_37 : decode b_Mo_answerAll_c 37 = .ok (.iconst 0, 1) := by decide +kernel
theorem d_Mo_answerAll_38 : decode b_Mo_answerAll_c 38 = .ok (.istore_n 2, 1) := by decide +kernel
theorem d_Mo_answerAll_39 : decode b_Mo_answerAll_c 39 = .ok (.iload_n 2, 1) := by decide +kernel
theorem d_Mo_answerAll_40 : decode b_Mo_answerAll_c 40 = .ok (.iload_n 1, 1) := by decide +kernel
theorem d_Mo_answerAll_41 : decode b_Mo_answerAll_c 41 = .ok (.if_icmp .ge 35, 3) := by decide +kernel
theorem d_Mo_answerAll_44 : decode b_Mo_answerAll_c 44 = .ok (.aload_n 0, 1) := by decide +kernel
theorem d_Mo_answerAll_45 : decode b_Mo_answerAll_c 45 = .ok (.iconst 0, 1) := by decide +kernel
theorem d_Mo_answerAll_46 : decode b_Mo_answerAll_c 46 = .ok (.invokevirtual 211, 3) := by decide +kernel
theorem d_Mo_answerAll_49 : decode b_Mo_answerAll_c 49 = .ok (.istore_n 3, 1) := by decide +kernel
theorem d_Mo_answerAll_50 : decode b_Mo_answerAll_c 50 = .ok (.aload_n 0, 1) := by decide +kernel
theorem d_Mo_answerAll_51 : decode b_Mo_answerAll_c 51 = .ok (.iconst 1, 1) := by decide +kernel
theorem d_Mo_answerAll_52 : decode b_Mo_answerAll_c 52 = .ok (.invokevirtual 211, 3) := by decide +kernel
theorem d_Mo_answerAll_55 : decode b_Mo_answerAll_c 55 = .ok (.istore 4, 2) := by decide +kernel
theorem d_Mo_answerAll_57 : decode b_Mo_answerAll_c 57 = .ok (.aload_n 0, 1) := by decide +kernel
theorem d_Mo_answerAll_58 : decode b_Mo_answerAll_c 58 = .ok (.iconst 0, 1) := by decide +kernel
theorem d_Mo_answerAll_59 : decode b_Mo_answerAll_c 59 = .ok (.iload_n 3, 1) := by decide +kernel
theorem d_Mo_answerAll_60 : decode b_Mo_answerAll_c 60 = .ok (.invokevirtual 214, 3) := by decide +kernel
theorem d_Mo_answerAll_63 : decode b_Mo_answerAll_c 63 = .ok (.aload_n 0, 1) := by decide +kernel
theorem d_Mo_answerAll_64 : decode b_Mo_answerAll_c 64 = .ok (.iconst 1, 1) := by decide +kernel
theorem d_Mo_answerAll_65 : decode b_Mo_answerAll_c 65 = .ok (.iload 4, 2) := by decide +kernel
theorem d_Mo_answerAll_67 : decode b_Mo_answerAll_c 67 = .ok (.invokevirtual 214, 3) := by decide +kernel
theorem d_Mo_answerAll_70 : decode b_Mo_answerAll_c 70 = .ok (.iinc 2 1, 3) := by decide +kernel
theorem d_Mo_answerAll_73 : decode b_Mo_answerAll_c 73 = .ok (.goto (-34), 3) := by decide +kernel
theorem d_Mo_answerAll_76 : decode b_Mo_answerAll_c 76 = .ok (.return_, 1) := by decide +kernel
/-! GameRowsModel.answerAll(I)V -/
set_option maxHeartbeats 4000000 in
set_option maxRecDepth 100000 in
theorem t_Mo_answerAll_39 {X : gX} {r : gS} (C : gC X b_Mo_answerAll_c R_Mo 5 3 73) (hR : ∀ pc lv, decode b_Mo_answerAll_c pc = .ok (.return_, 1) → G X pc lv [] r) {k39 : Int32 × Int32 × gS → Option gS}  (hk39 : ∀ x, k39 x = some r → G X 39 [(0, .ref (gA X 46)), (1, .int x.1), (2, .int x.2.1)] [] x.2.2) (x1 : Int32) (x2 : Int32) (σ : gS) (h : b_Mo_answerAll_39 k39 x1 x2 σ = some r) : G X 39 [(0, .ref (gA X 46)), (1, .int x1), (2, .int x2)] [] σ := by
  unfold b_Mo_answerAll_39 at h
  refine r_iload_n C 2 d_Mo_answerAll_39 rfl rfl ?_
  refine r_iload_n C 1 d_Mo_answerAll_40 rfl rfl ?_
  refine r_icmp_ge C (tgt := 76) d_Mo_answerAll_41 (by decide) (fun hc_1 => ?_) (fun hc_1 => ?_)
  · rw [if_pos hc_1] at h
    cases h
    exact hR _ _ d_Mo_answerAll_76
  · rw [if_neg hc_1] at h
    refine r_aload_n C 0 d_Mo_answerAll_44 rfl rfl ?_
    refine r_iconst C (v := 0) d_Mo_answerAll_45 (by decide) ?_
    obtain ⟨r_2, er_2, h⟩ := bind_some h
    refine r_callV C (As := [.int 0]) (rest := []) (st1 := [.int r_2]) (c_Mo_bestOf X.1.2.1 σ 0 er_2) k_Mo_bestOf m_578 (by decide) cel_Mo rfl rfl rfl rfl (Nat.le_of_ble_eq_true rfl) ⟨Nat.le_of_ble_eq_true rfl, Nat.le_of_ble_eq_true rfl⟩ d_Mo_answerAll_46 rfl ?_
    refine r_istore_n C (lv' := [(3, .int r_2), (0, .ref (gA X 46)), (1, .int x1), (2, .int x2)]) d_Mo_answerAll_49 rfl (by decide) rfl rfl ?_
    refine r_aload_n C 1 d_Mo_answerAll_50 rfl rfl ?_
    refine r_iconst C (v := 1) d_Mo_answerAll_51 (by decide) ?_
    obtain ⟨r_3, er_3, h⟩ := bind_some h
    refine r_callV C (As := [.int 1]) (rest := []) (st1 := [.int r_3]) (c_Mo_bestOf X.1.2.1 σ 1 er_3) k_Mo_bestOf m_578 (by decide) cel_Mo rfl rfl rfl rfl (Nat.le_of_ble_eq_true rfl) ⟨Nat.le_of_ble_eq_true rfl, Nat.le_of_ble_eq_true rfl⟩ d_Mo_answerAll_52 rfl ?_
    refine r_istore C (lv' := [(4, .int r_3), (3, .int r_2), (0, .ref (gA X 46)), (1, .int x1), (2, .int x2)]) d_Mo_answerAll_55 (by decide) rfl rfl ?_
    refine r_aload_n C 2 d_Mo_answerAll_57 rfl rfl ?_
    refine r_iconst C (v := 0) d_Mo_answerAll_58 (by decide) ?_
    refine r_iload_n C 1 d_Mo_answerAll_59 rfl rfl ?_
    obtain ⟨r_4, er_4, h⟩ := bind_some h
    refine r_callV C (As := [.int 0, .int r_2]) (rest := []) (st1 := []) (c_Mo_take X.1.2.1 σ 0 r_2 er_4) k_Mo_take m_582 (by decide) cel_Mo rfl rfl rfl rfl (Nat.le_of_ble_eq_true rfl) ⟨Nat.le_of_ble_eq_true rfl, Nat.le_of_ble_eq_true rfl⟩ d_Mo_answerAll_60 rfl ?_
    refine r_aload_n C 2 d_Mo_answerAll_63 rfl rfl ?_
    refine r_iconst C (v := 1) d_Mo_answerAll_64 (by decide) ?_
    refine r_iload C 0 d_Mo_answerAll_65 rfl ?_
    obtain ⟨r_5, er_5, h⟩ := bind_some h
    refine r_callV C (As := [.int 1, .int r_3]) (rest := []) (st1 := []) (c_Mo_take X.1.2.1 r_4 1 r_3 er_5) k_Mo_take m_582 (by decide) cel_Mo rfl rfl rfl rfl (Nat.le_of_ble_eq_true rfl) ⟨Nat.le_of_ble_eq_true rfl, Nat.le_of_ble_eq_true rfl⟩ d_Mo_answerAll_67 rfl ?_
    obtain ⟨x2_6, ex2_6, h⟩ := bnd_some h
    refine r_iinc C 4 (lv' := [(2, .int x2_6), (4, .int r_3), (3, .int r_2), (0, .ref (gA X 46)), (1, .int x1)]) d_Mo_answerAll_70 rfl (by rw [ex2_6]; rfl) (by decide) rfl ?_
    refine r_goto C (tgt := 39) d_Mo_answerAll_73 (by decide) ?_
    refine r_sub [3, 4, 0] (lv' := [(0, .ref (gA X 46)), (1, .int x1), (2, .int x2_6)]) rfl ?_
    exact hk39 _ h
set_option maxHeartbeats 4000000 in
set_option maxRecDepth 100000 in
theorem u_Mo_answerAll_39 {X : gX} {r : gS} (C : gC X b_Mo_answerAll_c R_Mo 5 3 73) (hR : ∀ pc lv, decode b_Mo_answerAll_c pc = .ok (.return_, 1) → G X pc lv [] r)  (x : Int32 × Int32 × gS) (h : l_Mo_answerAll_39 x = some r) : G X 39 [(0, .ref (gA X 46)), (1, .int x.1), (2, .int x.2.1)] [] x.2.2 :=
  lpF_ind (P := fun x => G X 39 [(0, .ref (gA X 46)), (1, .int x.1), (2, .int x.2.1)] [] x.2.2) (fun k hk x h => t_Mo_answerAll_39 C hR hk x.1 x.2.1 x.2.2 h) gF x h
set_option maxHeartbeats 4000000 in
set_option maxRecDepth 100000 in
theorem t_Mo_answerAll_10 {X : gX} {r : gS} (C : gC X b_Mo_answerAll_c R_Mo 5 3 73) (hR : ∀ pc lv, decode b_Mo_answerAll_c pc = .ok (.return_, 1) → G X pc lv [] r) {k10 : Int32 × Int32 × gS → Option gS}  (hk10 : ∀ x, k10 x = some r → G X 10 [(0, .ref (gA X 46)), (1, .int x.1), (2, .int x.2.1)] [] x.2.2) (x1 : Int32) (x2 : Int32) (σ : gS) (h : b_Mo_answerAll_10 k10 x1 x2 σ = some r) : G X 10 [(0, .ref (gA X 46)), (1, .int x1), (2, .int x2)] [] σ := by
  unfold b_Mo_answerAll_10 at h
  refine r_iload_n C 2 d_Mo_answerAll_10 rfl rfl ?_
  refine r_sipush C (v := 128) d_Mo_answerAll_11 (by decide) ?_
  refine r_icmp_ge C (tgt := 37) d_Mo_answerAll_14 (by decide) (fun hc_1 => ?_) (fun hc_1 => ?_)
  · rw [if_pos hc_1] at h
    refine r_iconst C (v := 0) d_Mo_answerAll_37 (by decide) ?_
    refine r_istore_n C (lv' := [(2, .int 0), (0, .ref (gA X 46)), (1, .int x1)]) d_Mo_answerAll_38 rfl (by decide) rfl rfl ?_
    refine r_sub [1, 2, 0] (lv' := [(0, .ref (gA X 46)), (1, .int x1), (2, .int 0)]) rfl ?_
    exact u_Mo_answerAll_39 C hR  (x1, 0, σ) h
  · rw [if_neg hc_1] at h
    refine r_aload_n C 0 d_Mo_answerAll_17 rfl rfl ?_
    refine q_Mo_65 C d_Mo_answerAll_18 ?_
    refine r_iload_n C 2 d_Mo_answerAll_21 rfl rfl ?_
    refine r_iconst C (v := 0) d_Mo_answerAll_22 (by decide) ?_
    obtain ⟨hi_2, h⟩ := ck_some h
    obtain ⟨σ_3, eσ_3, h⟩ := bnd_some h
    refine r_iast C hi_2 eσ_3 d_Mo_answerAll_23 ?_
    refine r_aload_n C 0 d_Mo_answerAll_24 rfl rfl ?_
    refine q_Mo_68 C d_Mo_answerAll_25 ?_
    refine r_iload_n C 2 d_Mo_answerAll_28 rfl rfl ?_
    refine r_iconst C (v := 0) d_Mo_answerAll_29 (by decide) ?_
    obtain ⟨hi_4, h⟩ := ck_some h
    obtain ⟨σ_5, eσ_5, h⟩ := bnd_some h
    refine r_iast C hi_4 eσ_5 d_Mo_answerAll_30 ?_
    obtain ⟨x2_6, ex2_6, h⟩ := bnd_some h
    refine r_iinc C 2 (lv' := [(2, .int x2_6), (0, .ref (gA X 46)), (1, .int x1)]) d_Mo_answerAll_31 rfl (by rw [ex2_6]; rfl) (by decide) rfl ?_
    refine r_goto C (tgt := 10) d_Mo_answerAll_34 (by decide) ?_
    refine r_sub [1, 2, 0] (lv' := [(0, .ref (gA X 46)), (1, .int x1), (2, .int x2_6)]) rfl ?_
    exact hk10 _ h
set_option maxHeartbeats 4000000 in
set_option maxRecDepth 100000 in
theorem u_Mo_answerAll_10 {X : gX} {r : gS} (C : gC X b_Mo_answerAll_c R_Mo 5 3 73) (hR : ∀ pc lv, decode b_Mo_answerAll_c pc = .ok (.return_, 1) → G X pc lv [] r)  (x : Int32 × Int32 × gS) (h : l_Mo_answerAll_10 x = some r) : G X 10 [(0, .ref (gA X 46)), (1, .int x.1), (2, .int x.2.1)] [] x.2.2 :=
  lpF_ind (P := fun x => G X 10 [(0, .ref (gA X 46)), (1, .int x.1), (2, .int x.2.1)] [] x.2.2) (fun k hk x h => t_Mo_answerAll_10 C hR hk x.1 x.2.1 x.2.2 h) gF x h
set_option maxHeartbeats 4000000 in
set_option maxRecDepth 100000 in
theorem t_Mo_answerAll_0 {X : gX} {r : gS} (C : gC X b_Mo_answerAll_c R_Mo 5 3 73) (hR : ∀ pc lv, decode b_Mo_answerAll_c pc = .ok (.return_, 1) → G X pc lv [] r) (x1 : Int32) (σ : gS) (h : b_Mo_answerAll_0 x1 σ = some r) : G X 0 [(0, .ref (gA X 46)), (1, .int x1)] [] σ := by
  unfold b_Mo_answerAll_0 at h
  refine r_aload_n C 0 d_Mo_answerAll_0 rfl rfl ?_
  refine r_aload_n C 0 d_Mo_answerAll_1 rfl rfl ?_
  obtain ⟨r_1, er_1, h⟩ := bind_some h
  refine r_callV C (As := []) (rest := [.ref (gA X 46)]) (st1 := [.int r_1, .ref (gA X 46)]) (c_Mo_root X.1.2.1 σ  er_1) k_Mo_root m_492 (by decide) cel_Mo rfl rfl rfl rfl (Nat.le_of_ble_eq_true rfl) ⟨Nat.le_of_ble_eq_true rfl, Nat.le_of_ble_eq_true rfl⟩ d_Mo_answerAll_2 rfl ?_
  obtain ⟨r_2, er_2, h⟩ := bind_some h
  refine r_callV C (As := [.int r_1]) (rest := []) (st1 := []) (c_Mo_workAll X.1.2.1 σ r_1 er_2) k_Mo_workAll m_496 (by decide) cel_Mo rfl rfl rfl rfl (Nat.le_of_ble_eq_true rfl) ⟨Nat.le_of_ble_eq_true rfl, Nat.le_of_ble_eq_true rfl⟩ d_Mo_answerAll_5 rfl ?_
  refine r_iconst C (v := 0) d_Mo_answerAll_8 (by decide) ?_
  refine r_istore_n C (lv' := [(2, .int 0), (0, .ref (gA X 46)), (1, .int x1)]) d_Mo_answerAll_9 rfl (by decide) rfl rfl ?_
  refine r_sub [1, 2, 0] (lv' := [(0, .ref (gA X 46)), (1, .int x1), (2, .int 0)]) rfl ?_
  exact u_Mo_answerAll_10 C hR  (x1, 0, r_2) h
set_option maxHeartbeats 4000000 in
set_option maxRecDepth 100000 in
theorem c_Mo_answerAll (l : Launch) (σ : gS) (x1 : Int32) {r : gS} (h : f_Mo_answerAll σ x1 = some r) : gMet l y_Mo_answerAll b_Mo_answerAll_c 5 (none) 3 73 (fun a => [.ref (a 46), .int x1]) σ (none) r := by
  refine gMet_v (by decide +kernel) (fun a => Nat.le_of_ble_eq_true rfl) (fun X _ C hR => ?_)
  refine r_sub [0, 1] (lv' := [(0, .ref (gA X 46)), (1, .int x1)]) rfl ?_
  exact t_Mo_answerAll_0 C hR x1 σ h
theorem d_Mo_taken_0 : decode b_Mo_taken_c 0 = .ok (.aload_n 0, 1) := by decide +kernel
theorem d_Mo_taken_1 : decode b_Mo_taken_c 1 = .ok (.getfield 71, 3) := by decide +kernel
theorem d_Mo_taken_4 : decode b_Mo_taken_c 4 = .ok (.ifCond .ne 6, 3) := by decide +kernel
theorem d_Mo_taken_7 : decode b_Mo_taken_c 7 = .ok (.ldc 134, 2) := by decide +kernel
theorem d_Mo_taken_9 : decode b_Mo_taken_c 9 = .ok (.ireturn, 1) := by decide +kernel
theorem d_Mo_taken_10 : decode b_Mo_taken_c 10 = .ok (.iload_n 1, 1) := by decide +kernel
theorem d_Mo_taken_11 : decode b_Mo_taken_c 11 = .ok (.iconst 1, 1) := by decide +kernel
theorem d_Mo_taken_12 : decode b_Mo_taken_c 12 = .ok (.sipush 200, 3) := by decide +kernel
theorem d_Mo_taken_15 : decode b_Mo_taken_c 15 = .ok (.invokestatic 78, 3) := by decide +kernel
theorem d_Mo_taken_18 : decode b_Mo_taken_c 18 = .ok (.ifCond .eq 12, 3) := by decide +kernel
theorem d_Mo_taken_21 : decode b_Mo_taken_c 21 = .ok (.iload_n 2, 1) := by decide +kernel
theorem d_Mo_taken_22 : decode b_Mo_taken_c 22 = .ok (.iconst 0, 1) := by decide +kernel
theorem d_Mo_taken_23 : decode b_Mo_taken_c 23 = .ok (.iconst 1, 1) := by decide +kernel
theorem d_Mo_taken_24 : decode b_Mo_taken_c 24 = .ok (.invokestatic 78, 3) := by decide +kernel
theorem d_Mo_taken_27 : decode b_Mo_taken_c 27 = .ok (.ifCond .ne 6, 3) := by decide +kernel
theorem d_Mo_taken_30 : decode b_Mo_taken_c 30 = .ok (.bipush (-2), 2) := by decide +kernel
theorem d_Mo_taken_32 : decode b_Mo_taken_c 32 = .ok (.ireturn, 1) := by decide +kernel
theorem d_Mo_taken_33 : decode b_Mo_taken_c 33 = .ok (.aload_n 0, 1) := by decide +kernel
theorem d_Mo_taken_34 : decode b_Mo_taken_c 34 = .ok (.iload_n 1, 1) := by decide +kernel
theorem d_Mo_taken_35 : decode b_Mo_taken_c 35 = .ok (.invokevirtual 218, 3) := by decide +kernel
theorem d_Mo_taken_38 : decode b_Mo_taken_c 38 = .ok (.iload_n 3, 1) := by decide +kernel
theorem d_Mo_taken_39 : decode b_Mo_taken_c 39 = .ok (.iconst 0, 1) := by decide +kernel
theorem d_Mo_taken_40 : decode b_Mo_taken_c 40 = .ok (.aload_n 0, 1) := by decide +kernel
theorem d_Mo_taken_41 : decode b_Mo_taken_c 41 = .ok (.iload_n 2, 1) := by decide +kernel
theorem d_Mo_taken_42 : decode b_Mo_taken_c 42 = .ok (.invokevirtual 146, 3) := by decide +kernel
theorem d_Mo_taken_45 : decode b_Mo_taken_c 45 = .ok (.iconst 1, 1) := by decide +kernel
theorem d_Mo_taken_46 : decode b_Mo_taken_c 46 = .ok (.isub, 1) := by decide +kernel
theorem d_Mo_taken_47 : decode b_Mo_taken_c 47 = .ok (.invokestatic 78, 3) := by decide +kernel
theorem d_Mo_taken_50 : decode b_Mo_taken_c 50 = .ok (.ifCond .eq 17, 3) := by decide +kernel
theorem d_Mo_taken_53 : decode b_Mo_taken_c 53 = .ok (.aload_n 0, 1) := by decide +kernel
theorem d_Mo_taken_54 : decode b_Mo_taken_c 54 = .ok (.getfield 65, 3) := by decide +kernel
theorem d_Mo_taken_57 : decode b_Mo_taken_c 57 = .ok (.bipush 64, 2) := by decide +kernel
theorem d_Mo_taken_59 : decode b_Mo_taken_c 59 = .ok (.iload_n 2, 1) := by decide +kernel
theorem d_Mo_taken_60 : decode b_Mo_taken_c 60 = .ok (.imul, 1) := by decide +kernel
theorem d_Mo_taken_61 : decode b_Mo_taken_c 61 = .ok (.iload_n 3, 1) := by decide +kernel
theorem d_Mo_taken_62 : decode b_Mo_taken_c 62 = .ok (.iadd, 1) := by decide +kernel
theorem d_Mo_taken_63 : decode b_Mo_taken_c 63 = .ok (.iaload, 1) := by decide +kernel
theorem d_Mo_taken_64 : decode b_Mo_taken_c 64 = .ok (.goto 5, 3) := by decide +kernel
theorem d_Mo_taken_67 : decode b_Mo_taken_c 67 = .ok (.bipush (-2), 2) := by decide +kernel
theorem d_Mo_taken_69 : decode b_Mo_taken_c 69 = .ok (.ireturn, 1) := by decide +kernel
/-! GameRowsModel.taken(III)I -/
set_option maxHeartbeats 4000000 in
set_option maxRecDepth 100000 in
theorem t_Mo_taken_0 {X : gX} {r : (Int32 × gS)} (C : gC X b_Mo_taken_c R_Mo 4 4 97) (hR : ∀ pc lv, decode b_Mo_taken_c pc = .ok (.ireturn, 1) → G X pc lv [.int r.1] r.2) (x1 : Int32) (x2 : Int32) (x3 : Int32) (σ : gS) (h : b_Mo_taken_0 x1 x2 x3 σ = some r) : G X 0 [(0, .ref (gA X 46)), (1, .int x1), (2, .int x2), (3, .int x3)] [] σ := by
  unfold b_Mo_taken_0 at h
  refine r_aload_n C 0 d_Mo_taken_0 rfl rfl ?_
  refine q_Mo_71 C d_Mo_taken_1 ?_
  refine r_if_ne C (tgt := 10) d_Mo_taken_4 (by decide) (fun hc_1 => ?_) (fun hc_1 => ?_)
  · rw [if_neg hc_1] at h
    refine r_iload_n C 1 d_Mo_taken_10 rfl rfl ?_
    refine r_iconst C (v := 1) d_Mo_taken_11 (by decide) ?_
    refine r_sipush C (v := 200) d_Mo_taken_12 (by decide) ?_
    obtain ⟨r_2, er_2, h⟩ := bind_some h
    refine r_callS C (As := [.int x1, .int 1, .int 200]) (rest := []) (st1 := [.int r_2]) (c_Mo_isFrom X.1.2.1 σ x1 1 200 er_2) k_Mo_isFrom m_420 rfl rfl rfl (Nat.le_of_ble_eq_true rfl) ⟨Nat.le_of_ble_eq_true rfl, Nat.le_of_ble_eq_true rfl⟩ d_Mo_taken_15 rfl ?_
    refine r_if_eq C (tgt := 30) d_Mo_taken_18 (by decide) (fun hc_3 => ?_) (fun hc_3 => ?_)
    · rw [if_pos hc_3] at h
      refine r_bipush C (v := (-2)) d_Mo_taken_30 (by decide) ?_
      cases h
      exact hR _ _ d_Mo_taken_32
    · rw [if_neg hc_3] at h
      refine r_iload_n C 2 d_Mo_taken_21 rfl rfl ?_
      refine r_iconst C (v := 0) d_Mo_taken_22 (by decide) ?_
      refine r_iconst C (v := 1) d_Mo_taken_23 (by decide) ?_
      obtain ⟨r_4, er_4, h⟩ := bind_some h
      refine r_callS C (As := [.int x2, .int 0, .int 1]) (rest := []) (st1 := [.int r_4]) (c_Mo_isFrom X.1.2.1 σ x2 0 1 er_4) k_Mo_isFrom m_420 rfl rfl rfl (Nat.le_of_ble_eq_true rfl) ⟨Nat.le_of_ble_eq_true rfl, Nat.le_of_ble_eq_true rfl⟩ d_Mo_taken_24 rfl ?_
      refine r_if_ne C (tgt := 33) d_Mo_taken_27 (by decide) (fun hc_5 => ?_) (fun hc_5 => ?_)
      · rw [if_neg hc_5] at h
        refine r_aload_n C 0 d_Mo_taken_33 rfl rfl ?_
        refine r_iload_n C 1 d_Mo_taken_34 rfl rfl ?_
        obtain ⟨r_6, er_6, h⟩ := bind_some h
        refine r_callV C (As := [.int x1]) (rest := []) (st1 := []) (c_Mo_answerAll X.1.2.1 σ x1 er_6) k_Mo_answerAll m_586 (by decide) cel_Mo rfl rfl rfl rfl (Nat.le_of_ble_eq_true rfl) ⟨Nat.le_of_ble_eq_true rfl, Nat.le_of_ble_eq_true rfl⟩ d_Mo_taken_35 rfl ?_
        refine r_iload_n C 3 d_Mo_taken_38 rfl rfl ?_
        refine r_iconst C (v := 0) d_Mo_taken_39 (by decide) ?_
        refine r_aload_n C 0 d_Mo_taken_40 rfl rfl ?_
        refine r_iload_n C 2 d_Mo_taken_41 rfl rfl ?_
        obtain ⟨r_7, er_7, h⟩ := bind_some h
        refine r_callV C (As := [.int x2]) (rest := [.int 0, .int x3]) (st1 := [.int r_7, .int 0, .int x3]) (c_Mo_many X.1.2.1 r_6 x2 er_7) k_Mo_many m_500 (by decide) cel_Mo rfl rfl rfl rfl (Nat.le_of_ble_eq_true rfl) ⟨Nat.le_of_ble_eq_true rfl, Nat.le_of_ble_eq_true rfl⟩ d_Mo_taken_42 rfl ?_
        refine r_iconst C (v := 1) d_Mo_taken_45 (by decide) ?_
        refine r_isub C d_Mo_taken_46 ?_
        obtain ⟨r_8, er_8, h⟩ := bind_some h
        refine r_callS C (As := [.int x3, .int 0, .int (r_7 - 1)]) (rest := []) (st1 := [.int r_8]) (c_Mo_isFrom X.1.2.1 r_6 x3 0 (r_7 - 1) er_8) k_Mo_isFrom m_420 rfl rfl rfl (Nat.le_of_ble_eq_true rfl) ⟨Nat.le_of_ble_eq_true rfl, Nat.le_of_ble_eq_true rfl⟩ d_Mo_taken_47 rfl ?_
        refine r_if_eq C (tgt := 67) d_Mo_taken_50 (by decide) (fun hc_9 => ?_) (fun hc_9 => ?_)
        · rw [if_pos hc_9] at h
          refine r_bipush C (v := (-2)) d_Mo_taken_67 (by decide) ?_
          cases h
          exact hR _ _ d_Mo_taken_69
        · rw [if_neg hc_9] at h
          refine r_aload_n C 0 d_Mo_taken_53 rfl rfl ?_
          refine q_Mo_65 C d_Mo_taken_54 ?_
          refine r_bipush C (v := 64) d_Mo_taken_57 (by decide) ?_
          refine r_iload_n C 2 d_Mo_taken_59 rfl rfl ?_
          refine r_imul C d_Mo_taken_60 ?_
          refine r_iload_n C 3 d_Mo_taken_61 rfl rfl ?_
          refine r_iadd C d_Mo_taken_62 ?_
          obtain ⟨hi_10, h⟩ := ck_some h
          refine r_iald C hi_10 d_Mo_taken_63 ?_
          refine r_goto C (tgt := 69) d_Mo_taken_64 (by decide) ?_
          cases h
          exact hR _ _ d_Mo_taken_69
      · rw [if_pos hc_5] at h
        refine r_bipush C (v := (-2)) d_Mo_taken_30 (by decide) ?_
        cases h
        exact hR _ _ d_Mo_taken_32
  · rw [if_pos hc_1] at h
    refine r_ldc C (v := (-1000000)) m_491 d_Mo_taken_7 ?_
    cases h
    exact hR _ _ d_Mo_taken_9
set_option maxHeartbeats 4000000 in
set_option maxRecDepth 100000 in
theorem c_Mo_taken (l : Launch) (σ : gS) (x1 : Int32) (x2 : Int32) (x3 : Int32) {r : (Int32 × gS)} (h : f_Mo_taken σ x1 x2 x3 = some r) : gMet l y_Mo_taken b_Mo_taken_c 4 (some .int) 4 97 (fun a => [.ref (a 46), .int x1, .int x2, .int x3]) σ (some (.int r.1)) r.2 := by
  refine gMet_i (by decide +kernel) (fun a => Nat.le_of_ble_eq_true rfl) (fun X _ C hR => ?_)
  refine r_sub [0, 1, 2, 3] (lv' := [(0, .ref (gA X 46)), (1, .int x1), (2, .int x2), (3, .int x3)]) rfl ?_
  exact t_Mo_taken_0 C hR x1 x2 x3 σ h
theorem d_Mo_bound_0 : decode b_Mo_bound_c 0 = .ok (.iload_n 1, 1) := by decide +kernel
theorem d_Mo_bound_1 : decode b_Mo_bound_c 1 = .ok (.iconst 1, 1) := by decide +kernel
theorem d_Mo_bound_2 : decode b_Mo_bound_c 2 = .ok (.sipush 200, 3) := by decide +kernel
theorem d_Mo_bound_5 : decode b_Mo_bound_c 5 = .ok (.invokestatic 78, 3) := by decide +kernel
theorem d_Mo_bound_8 : decode b_Mo_bound_c 8 = .ok (.ifCond .eq 19, 3) := by decide +kernel
theorem d_Mo_bound_11 : decode b_Mo_bound_c 11 = .ok (.iload_n 2, 1) := by decide +kernel
theorem d_Mo_bound_12 : decode b_Mo_bound_c 12 = .ok (.iconst 0, 1) := by decide +kernel
theorem d_Mo_bound_13 : decode b_Mo_bound_c 13 = .ok (.iconst 1, 1) := by decide +kernel
theorem d_Mo_bound_14 : decode b_Mo_bound_c 14 = .ok (.invokestatic 78, 3) := by decide +kernel
theorem d_Mo_bound_17 : decode b_Mo_bound_c 17 = .ok (.ifCond .eq 10, 3) := by decide +kernel
theorem d_Mo_bound_20 : decode b_Mo_bound_c 20 = .ok (.aload_n 0, 1) := by decide +kernel
theorem d_Mo_bound_21 : decode b_Mo_bound_c 21 = .ok (.getfield 71, 3) := by decide +kernel
theorem d_Mo_bound_24 : decode b_Mo_bound_c 24 = .ok (.ifCond .ne 6, 3) := by decide +kernel
theorem d_Mo_bound_27 : decode b_Mo_bound_c 27 = .ok (.ldc 134, 2) := by decide +kernel
theorem d_Mo_bound_29 : decode b_Mo_bound_c 29 = .ok (.ireturn, 1) := by decide +kernel
theorem d_Mo_bound_30 : decode b_Mo_bound_c 30 = .ok (.aload_n 0, 1) := by decide +kernel
theorem d_Mo_bound_31 : decode b_Mo_bound_c 31 = .ok (.iload_n 1, 1) := by decide +kernel
theorem d_Mo_bound_32 : decode b_Mo_bound_c 32 = .ok (.invokevirtual 218, 3) := by decide +kernel
theorem d_Mo_bound_35 : decode b_Mo_bound_c 35 = .ok (.iload_n 2, 1) := by decide +kernel
theorem d_Mo_bound_36 : decode b_Mo_bound_c 36 = .ok (.iconst 1, 1) := by decide +kernel
theorem d_Mo_bound_37 : decode b_Mo_bound_c 37 = .ok (.if_icmp .ne 14, 3) := by decide +kernel
theorem d_Mo_bound_40 : decode b_Mo_bound_c 40 = .ok (.aload_n 0, 1) := by decide +kernel
theorem d_Mo_bound_41 : decode b_Mo_bound_c 41 = .ok (.getfield 68, 3) := by decide +kernel
theorem d_Mo_bound_44 : decode b_Mo_bound_c 44 = .ok (.aload_n 0, 1) := by decide +kernel
theorem d_Mo_bound_45 : decode b_Mo_bound_c 45 = .ok (.iconst 0, 1) := by decide +kernel
theorem d_Mo_bound_46 : decode b_Mo_bound_c 46 = .ok (.invokevirtual 211, 3) := by decide +kernel
theorem d_Mo_bound_49 : decode b_Mo_bound_c 49 = .ok (.iaload, 1) := by decide +kernel
theorem d_Mo_bound_50 : decode b_Mo_bound_c 50 = .ok (.ireturn, 1) := by decide +kernel
theorem d_Mo_bound_51 : decode b_Mo_bound_c 51 = .ok (.iconst 0, 1) := by decide +kernel
theorem d_Mo_bound_52 : decode b_Mo_bound_c 52 = .ok (.istore_n 3, 1) := by decide +kernel
theorem d_Mo_bound_53 : decode b_Mo_bound_c 53 = .ok (.iconst 0, 1) := by decide +kernel
theorem d_Mo_bound_54 : decode b_Mo_bound_c 54 = .ok (.istore 4, 2) := by decide +kernel
theorem d_Mo_bound_56 : decode b_Mo_bound_c 56 = .ok (.iload 4, 2) := by decide +kernel
theorem d_Mo_bound_58 : decode b_Mo_bound_c 58 = .ok (.aload_n 0, 1) := by decide +kernel
theorem d_Mo_bound_59 : decode b_Mo_bound_c 59 = .ok (.getfield 127, 3) := by decide +kernel
theorem d_Mo_bound_62 : decode b_Mo_bound_c 62 = .ok (.if_icmp .ge 70, 3) := by decide +kernel
theorem d_Mo_bound_65 : decode b_Mo_bound_c 65 = .ok (.iconst 0, 1) := by decide +kernel
theorem d_Mo_bound_66 : decode b_Mo_bound_c 66 = .ok (.istore 5, 2) := by decide +kernel
theorem d_Mo_bound_68 : decode b_Mo_bound_c 68 = .ok (.iconst 0, 1) := by decide +kernel
theorem d_Mo_bound_69 : decode b_Mo_bound_c 69 = .ok (.istore 6, 2) := by decide +kernel
theorem d_Mo_bound_71 : decode b_Mo_bound_c 71 = .ok (.iload 6, 2) := by decide +kernel
theorem d_Mo_bound_73 : decode b_Mo_bound_c 73 = .ok (.aload_n 0, 1) := by decide +kernel
theorem d_Mo_bound_74 : decode b_Mo_bound_c 74 = .ok (.getfield 124, 3) := by decide +kernel
theorem d_Mo_bound_77 : decode b_Mo_bound_c 77 = .ok (.if_icmp .ge 31, 3) := by decide +kernel
theorem d_Mo_bound_80 : decode b_Mo_bound_c 80 = .ok (.iload 5, 2) := by decide +kernel
theorem d_Mo_bound_82 : decode b_Mo_bound_c 82 = .ok (.aload_n 0, 1) := by decide +kernel
theorem d_Mo_bound_83 : decode b_Mo_bound_c 83 = .ok (.getfield 65, 3) := by decide +kernel
theorem d_Mo_bound_86 : decode b_Mo_bound_c 86 = .ok (.iload 6, 2) := by decide +kernel
theorem d_Mo_bound_88 : decode b_Mo_bound_c 88 = .ok (.iaload, 1) := by decide +kernel
theorem d_Mo_bound_89 : decode b_Mo_bound_c 89 = .ok (.aload_n 0, 1) := by decide +kernel
theorem d_Mo_bound_90 : decode b_Mo_bound_c 90 = .ok (.iconst 0, 1) := by decide +kernel
theorem d_Mo_bound_91 : decode b_Mo_bound_c 91 = .ok (.iload 6, 2) := by decide +kernel
theorem d_Mo_bound_93 : decode b_Mo_bound_c 93 = .ok (.iload 4, 2) := by decide +kernel
theorem d_Mo_bound_95 : decode b_Mo_bound_c 95 = .ok (.invokevirtual 143, 3) := by decide +kernel
theorem d_Mo_bound_98 : decode b_Mo_bound_c 98 = .ok (.imul, 1) := by decide +kernel
theorem d_Mo_bound_99 : decode b_Mo_bound_c 99 = .ok (.iadd, 1) := by decide +kernel
theorem d_Mo_bound_100 : decode b_Mo_bound_c 100 = .ok (.istore 5, 2) := by decide +kernel
theorem d_Mo_bound_102 : decode b_Mo_bound_c 102 = .ok (.iinc 6 1, 3) := by decide +kernel
theorem d_Mo_bound_105 : decode b_Mo_bound_c 105 = .ok (.goto (-34), 3) := by decide +kernel
theorem d_Mo_bound_108 : decode b_Mo_bound_c 108 = .ok (.iload 4, 2) := by decide +kernel
theorem d_Mo_bound_110 : decode b_Mo_bound_c 110 = .ok (.ifCond .eq 9, 3) := by decide +kernel
theorem d_Mo_bound_113 : decode b_Mo_bound_c 113 = .ok (.iload 5, 2) := by decide +kernel
theorem d_Mo_bound_115 : decode b_Mo_bound_c 115 = .ok (.iload_n 3, 1) := by decide +kernel
theorem d_Mo_bound_116 : decode b_Mo_bound_c 116 = .ok (.if_icmp .ge 8, 3) := by decide +kernel
theorem d_Mo_bound_119 : decode b_Mo_bound_c 119 = .ok (.iload 5, 2) := by decide +kernel
theorem d_Mo_bound_121 : decode b_Mo_bound_c 121 = .ok (.goto 4, 3) := by decide +kernel
theorem d_Mo_bound_124 : decode b_Mo_bound_c 124 = .ok (.iload_n 3, 1) := by decide +kernel
theorem d_Mo_bound_125 : decode b_Mo_bound_c 125 = .ok (.istore_n 3, 1) := by decide +kernel
theorem d_Mo_bound_126 : decode b_Mo_bound_c 126 = .ok (.iinc 4 1, 3) := by decide +kernel
theorem d_Mo_bound_129 : decode b_Mo_bound_c 129 = .ok (.goto (-73), 3) := by decide +kernel
theorem d_Mo_bound_132 : decode b_Mo_bound_c 132 = .ok (.iload_n 3, 1) := by decide +kernel
theorem d_Mo_bound_133 : decode b_Mo_bound_c 133 = .ok (.ireturn, 1) := by decide +kernel
/-! GameRowsModel.bound(II)I -/
set_option maxHeartbeats 4000000 in
set_option maxRecDepth 100000 in
theorem t_Mo_bound_125 {X : gX} {r : (Int32 × gS)} (C : gC X b_Mo_bound_c R_Mo 7 4 97) (hR : ∀ pc lv, decode b_Mo_bound_c pc = .ok (.ireturn, 1) → G X pc lv [.int r.1] r.2) {k56 : Int32 × Int32 × gS → Option (Int32 × gS)}  (hk56 : ∀ x, k56 x = some r → G X 56 [(0, .ref (gA X 46)), (3, .int x.1), (4, .int x.2.1)] [] x.2.2) (x4 : Int32) (y0 : Int32) (σ : gS) (h : b_Mo_bound_125 k56 x4 y0 σ = some r) : G X 125 [(0, .ref (gA X 46)), (4, .int x4)] [.int y0] σ := by
  unfold b_Mo_bound_125 at h
  refine r_istore_n C (lv' := [(3, .int y0), (0, .ref (gA X 46)), (4, .int x4)]) d_Mo_bound_125 rfl (by decide) rfl rfl ?_
  obtain ⟨x4_1, ex4_1, h⟩ := bnd_some h
  refine r_iinc C 2 (lv' := [(4, .int x4_1), (3, .int y0), (0, .ref (gA X 46))]) d_Mo_bound_126 rfl (by rw [ex4_1]; rfl) (by decide) rfl ?_
  refine r_goto C (tgt := 56) d_Mo_bound_129 (by decide) ?_
  refine r_sub [2, 1, 0] (lv' := [(0, .ref (gA X 46)), (3, .int y0), (4, .int x4_1)]) rfl ?_
  exact hk56 _ h
set_option maxHeartbeats 4000000 in
set_option maxRecDepth 100000 in
theorem t_Mo_bound_119 {X : gX} {r : (Int32 × gS)} (C : gC X b_Mo_bound_c R_Mo 7 4 97) (hR : ∀ pc lv, decode b_Mo_bound_c pc = .ok (.ireturn, 1) → G X pc lv [.int r.1] r.2) {k56 : Int32 × Int32 × gS → Option (Int32 × gS)}  (hk56 : ∀ x, k56 x = some r → G X 56 [(0, .ref (gA X 46)), (3, .int x.1), (4, .int x.2.1)] [] x.2.2) (x4 : Int32) (x5 : Int32) (σ : gS) (h : b_Mo_bound_119 k56 x4 x5 σ = some r) : G X 119 [(0, .ref (gA X 46)), (4, .int x4), (5, .int x5)] [] σ := by
  unfold b_Mo_bound_119 at h
  refine r_iload C 2 d_Mo_bound_119 rfl ?_
  refine r_goto C (tgt := 125) d_Mo_bound_121 (by decide) ?_
  refine r_sub [0, 1] (lv' := [(0, .ref (gA X 46)), (4, .int x4)]) rfl ?_
  exact t_Mo_bound_125 C hR hk56 x4 x5 σ h
set_option maxHeartbeats 4000000 in
set_option maxRecDepth 100000 in
theorem t_Mo_bound_71 {X : gX} {r : (Int32 × gS)} (C : gC X b_Mo_bound_c R_Mo 7 4 97) (hR : ∀ pc lv, decode b_Mo_bound_c pc = .ok (.ireturn, 1) → G X pc lv [.int r.1] r.2) {k56 : Int32 × Int32 × gS → Option (Int32 × gS)}  {k71 : Int32 × Int32 × Int32 × Int32 × gS → Option (Int32 × gS)}  (hk56 : ∀ x, k56 x = some r → G X 56 [(0, .ref (gA X 46)), (3, .int x.1), (4, .int x.2.1)] [] x.2.2) (hk71 : ∀ x, k71 x = some r → G X 71 [(0, .ref (gA X 46)), (3, .int x.1), (4, .int x.2.1), (5, .int x.2.2.1), (6, .int x.2.2.2.1)] [] x.2.2.2.2) (x3 : Int32) (x4 : Int32) (x5 : Int32) (x6 : Int32) (σ : gS) (h : b_Mo_bound_71 k56 k71 x3 x4 x5 x6 σ = some r) : G X 71 [(0, .ref (gA X 46)), (3, .int x3), (4, .int x4), (5, .int x5), (6, .int x6)] [] σ := by
  unfold b_Mo_bound_71 at h
  refine r_iload C 4 d_Mo_bound_71 rfl ?_
  refine r_aload_n C 0 d_Mo_bound_73 rfl rfl ?_
  refine q_Mo_124 C d_Mo_bound_74 ?_
  refine r_icmp_ge C (tgt := 108) d_Mo_bound_77 (by decide) (fun hc_1 => ?_) (fun hc_1 => ?_)
  · rw [if_pos hc_1] at h
    refine r_iload C 2 d_Mo_bound_108 rfl ?_
    refine r_if_eq C (tgt := 119) d_Mo_bound_110 (by decide) (fun hc_2 => ?_) (fun hc_2 => ?_)
    · rw [if_pos hc_2] at h
      refine r_sub [0, 2, 3] (lv' := [(0, .ref (gA X 46)), (4, .int x4), (5, .int x5)]) rfl ?_
      exact t_Mo_bound_119 C hR hk56 x4 x5 σ h
    · rw [if_neg hc_2] at h
      refine r_iload C 3 d_Mo_bound_113 rfl ?_
      refine r_iload_n C 1 d_Mo_bound_115 rfl rfl ?_
      refine r_icmp_ge C (tgt := 124) d_Mo_bound_116 (by decide) (fun hc_3 => ?_) (fun hc_3 => ?_)
      · rw [if_pos hc_3] at h
        refine r_iload_n C 1 d_Mo_bound_124 rfl rfl ?_
        refine r_sub [0, 2] (lv' := [(0, .ref (gA X 46)), (4, .int x4)]) rfl ?_
        exact t_Mo_bound_125 C hR hk56 x4 x3 σ h
      · rw [if_neg hc_3] at h
        refine r_sub [0, 2, 3] (lv' := [(0, .ref (gA X 46)), (4, .int x4), (5, .int x5)]) rfl ?_
        exact t_Mo_bound_119 C hR hk56 x4 x5 σ h
  · rw [if_neg hc_1] at h
    refine r_iload C 3 d_Mo_bound_80 rfl ?_
    refine r_aload_n C 0 d_Mo_bound_82 rfl rfl ?_
    refine q_Mo_65 C d_Mo_bound_83 ?_
    refine r_iload C 4 d_Mo_bound_86 rfl ?_
    obtain ⟨hi_4, h⟩ := ck_some h
    refine r_iald C hi_4 d_Mo_bound_88 ?_
    refine r_aload_n C 0 d_Mo_bound_89 rfl rfl ?_
    refine r_iconst C (v := 0) d_Mo_bound_90 (by decide) ?_
    refine r_iload C 4 d_Mo_bound_91 rfl ?_
    refine r_iload C 2 d_Mo_bound_93 rfl ?_
    obtain ⟨r_5, er_5, h⟩ := bind_some h
    refine r_callV C (As := [.int 0, .int x6, .int x4]) (rest := [.int (gI σ 65 x6.toNatClampNeg), .int x5]) (st1 := [.int r_5, .int (gI σ 65 x6.toNatClampNeg), .int x5]) (c_Mo_worthTo X.1.2.1 σ 0 x6 x4 er_5) k_Mo_worthTo m_487 (by decide) cel_Mo rfl rfl rfl rfl (Nat.le_of_ble_eq_true rfl) ⟨Nat.le_of_ble_eq_true rfl, Nat.le_of_ble_eq_true rfl⟩ d_Mo_bound_95 rfl ?_
    refine r_imul C d_Mo_bound_98 ?_
    refine r_iadd C d_Mo_bound_99 ?_
    obtain ⟨x5_6, ex5_6, h⟩ := bnd_some h
    refine r_istore C (lv' := [(5, .int x5_6), (0, .ref (gA X 46)), (3, .int x3), (4, .int x4), (6, .int x6)]) d_Mo_bound_100 (by decide) ex5_6 rfl ?_
    obtain ⟨x6_7, ex6_7, h⟩ := bnd_some h
    refine r_iinc C 4 (lv' := [(6, .int x6_7), (5, .int x5_6), (0, .ref (gA X 46)), (3, .int x3), (4, .int x4)]) d_Mo_bound_102 rfl (by rw [ex6_7]; rfl) (by decide) rfl ?_
    refine r_goto C (tgt := 71) d_Mo_bound_105 (by decide) ?_
    refine r_sub [2, 3, 4, 1, 0] (lv' := [(0, .ref (gA X 46)), (3, .int x3), (4, .int x4), (5, .int x5_6), (6, .int x6_7)]) rfl ?_
    exact hk71 _ h
set_option maxHeartbeats 4000000 in
set_option maxRecDepth 100000 in
theorem u_Mo_bound_71 {X : gX} {r : (Int32 × gS)} (C : gC X b_Mo_bound_c R_Mo 7 4 97) (hR : ∀ pc lv, decode b_Mo_bound_c pc = .ok (.ireturn, 1) → G X pc lv [.int r.1] r.2) {k56 : Int32 × Int32 × gS → Option (Int32 × gS)}  (hk56 : ∀ x, k56 x = some r → G X 56 [(0, .ref (gA X 46)), (3, .int x.1), (4, .int x.2.1)] [] x.2.2) (x : Int32 × Int32 × Int32 × Int32 × gS) (h : l_Mo_bound_71 k56 x = some r) : G X 71 [(0, .ref (gA X 46)), (3, .int x.1), (4, .int x.2.1), (5, .int x.2.2.1), (6, .int x.2.2.2.1)] [] x.2.2.2.2 :=
  lpF_ind (P := fun x => G X 71 [(0, .ref (gA X 46)), (3, .int x.1), (4, .int x.2.1), (5, .int x.2.2.1), (6, .int x.2.2.2.1)] [] x.2.2.2.2) (fun k hk x h => t_Mo_bound_71 C hR hk56 hk x.1 x.2.1 x.2.2.1 x.2.2.2.1 x.2.2.2.2 h) gF x h
set_option maxHeartbeats 4000000 in
set_option maxRecDepth 100000 in
theorem t_Mo_bound_56 {X : gX} {r : (Int32 × gS)} (C : gC X b_Mo_bound_c R_Mo 7 4 97) (hR : ∀ pc lv, decode b_Mo_bound_c pc = .ok (.ireturn, 1) → G X pc lv [.int r.1] r.2) {k56 : Int32 × Int32 × gS → Option (Int32 × gS)}  (hk56 : ∀ x, k56 x = some r → G X 56 [(0, .ref (gA X 46)), (3, .int x.1), (4, .int x.2.1)] [] x.2.2) (x3 : Int32) (x4 : Int32) (σ : gS) (h : b_Mo_bound_56 k56 x3 x4 σ = some r) : G X 56 [(0, .ref (gA X 46)), (3, .int x3), (4, .int x4)] [] σ := by
  unfold b_Mo_bound_56 at h
  refine r_iload C 2 d_Mo_bound_56 rfl ?_
  refine r_aload_n C 0 d_Mo_bound_58 rfl rfl ?_
  refine q_Mo_127 C d_Mo_bound_59 ?_
  refine r_icmp_ge C (tgt := 132) d_Mo_bound_62 (by decide) (fun hc_1 => ?_) (fun hc_1 => ?_)
  · rw [if_pos hc_1] at h
    refine r_iload_n C 1 d_Mo_bound_132 rfl rfl ?_
    cases h
    exact hR _ _ d_Mo_bound_133
  · rw [if_neg hc_1] at h
    refine r_iconst C (v := 0) d_Mo_bound_65 (by decide) ?_
    refine r_istore C (lv' := [(5, .int 0), (0, .ref (gA X 46)), (3, .int x3), (4, .int x4)]) d_Mo_bound_66 (by decide) rfl rfl ?_
    refine r_iconst C (v := 0) d_Mo_bound_68 (by decide) ?_
    refine r_istore C (lv' := [(6, .int 0), (5, .int 0), (0, .ref (gA X 46)), (3, .int x3), (4, .int x4)]) d_Mo_bound_69 (by decide) rfl rfl ?_
    refine r_sub [2, 3, 4, 1, 0] (lv' := [(0, .ref (gA X 46)), (3, .int x3), (4, .int x4), (5, .int 0), (6, .int 0)]) rfl ?_
    exact u_Mo_bound_71 C hR hk56 (x3, x4, 0, 0, σ) h
set_option maxHeartbeats 4000000 in
set_option maxRecDepth 100000 in
theorem u_Mo_bound_56 {X : gX} {r : (Int32 × gS)} (C : gC X b_Mo_bound_c R_Mo 7 4 97) (hR : ∀ pc lv, decode b_Mo_bound_c pc = .ok (.ireturn, 1) → G X pc lv [.int r.1] r.2)  (x : Int32 × Int32 × gS) (h : l_Mo_bound_56 x = some r) : G X 56 [(0, .ref (gA X 46)), (3, .int x.1), (4, .int x.2.1)] [] x.2.2 :=
  lpF_ind (P := fun x => G X 56 [(0, .ref (gA X 46)), (3, .int x.1), (4, .int x.2.1)] [] x.2.2) (fun k hk x h => t_Mo_bound_56 C hR hk x.1 x.2.1 x.2.2 h) gF x h
set_option maxHeartbeats 4000000 in
set_option maxRecDepth 100000 in
theorem t_Mo_bound_0 {X : gX} {r : (Int32 × gS)} (C : gC X b_Mo_bound_c R_Mo 7 4 97) (hR : ∀ pc lv, decode b_Mo_bound_c pc = .ok (.ireturn, 1) → G X pc lv [.int r.1] r.2) (x1 : Int32) (x2 : Int32) (σ : gS) (h : b_Mo_bound_0 x1 x2 σ = some r) : G X 0 [(0, .ref (gA X 46)), (1, .int x1), (2, .int x2)] [] σ := by
  unfold b_Mo_bound_0 at h
  refine r_iload_n C 1 d_Mo_bound_0 rfl rfl ?_
  refine r_iconst C (v := 1) d_Mo_bound_1 (by decide) ?_
  refine r_sipush C (v := 200) d_Mo_bound_2 (by decide) ?_
  obtain ⟨r_1, er_1, h⟩ := bind_some h
  refine r_callS C (As := [.int x1, .int 1, .int 200]) (rest := []) (st1 := [.int r_1]) (c_Mo_isFrom X.1.2.1 σ x1 1 200 er_1) k_Mo_isFrom m_420 rfl rfl rfl (Nat.le_of_ble_eq_true rfl) ⟨Nat.le_of_ble_eq_true rfl, Nat.le_of_ble_eq_true rfl⟩ d_Mo_bound_5 rfl ?_
  refine r_if_eq C (tgt := 27) d_Mo_bound_8 (by decide) (fun hc_2 => ?_) (fun hc_2 => ?_)
  · rw [if_pos hc_2] at h
    refine r_ldc C (v := (-1000000)) m_491 d_Mo_bound_27 ?_
    cases h
    exact hR _ _ d_Mo_bound_29
  · rw [if_neg hc_2] at h
    refine r_iload_n C 2 d_Mo_bound_11 rfl rfl ?_
    refine r_iconst C (v := 0) d_Mo_bound_12 (by decide) ?_
    refine r_iconst C (v := 1) d_Mo_bound_13 (by decide) ?_
    obtain ⟨r_3, er_3, h⟩ := bind_some h
    refine r_callS C (As := [.int x2, .int 0, .int 1]) (rest := []) (st1 := [.int r_3]) (c_Mo_isFrom X.1.2.1 σ x2 0 1 er_3) k_Mo_isFrom m_420 rfl rfl rfl (Nat.le_of_ble_eq_true rfl) ⟨Nat.le_of_ble_eq_true rfl, Nat.le_of_ble_eq_true rfl⟩ d_Mo_bound_14 rfl ?_
    refine r_if_eq C (tgt := 27) d_Mo_bound_17 (by decide) (fun hc_4 => ?_) (fun hc_4 => ?_)
    · rw [if_pos hc_4] at h
      refine r_ldc C (v := (-1000000)) m_491 d_Mo_bound_27 ?_
      cases h
      exact hR _ _ d_Mo_bound_29
    · rw [if_neg hc_4] at h
      refine r_aload_n C 0 d_Mo_bound_20 rfl rfl ?_
      refine q_Mo_71 C d_Mo_bound_21 ?_
      refine r_if_ne C (tgt := 30) d_Mo_bound_24 (by decide) (fun hc_5 => ?_) (fun hc_5 => ?_)
      · rw [if_neg hc_5] at h
        refine r_aload_n C 0 d_Mo_bound_30 rfl rfl ?_
        refine r_iload_n C 1 d_Mo_bound_31 rfl rfl ?_
        obtain ⟨r_6, er_6, h⟩ := bind_some h
        refine r_callV C (As := [.int x1]) (rest := []) (st1 := []) (c_Mo_answerAll X.1.2.1 σ x1 er_6) k_Mo_answerAll m_586 (by decide) cel_Mo rfl rfl rfl rfl (Nat.le_of_ble_eq_true rfl) ⟨Nat.le_of_ble_eq_true rfl, Nat.le_of_ble_eq_true rfl⟩ d_Mo_bound_32 rfl ?_
        refine r_iload_n C 2 d_Mo_bound_35 rfl rfl ?_
        refine r_iconst C (v := 1) d_Mo_bound_36 (by decide) ?_
        refine r_icmp_ne C (tgt := 51) d_Mo_bound_37 (by decide) (fun hc_7 => ?_) (fun hc_7 => ?_)
        · rw [if_neg hc_7] at h
          refine r_iconst C (v := 0) d_Mo_bound_51 (by decide) ?_
          refine r_istore_n C (lv' := [(3, .int 0), (0, .ref (gA X 46)), (1, .int x1), (2, .int x2)]) d_Mo_bound_52 rfl (by decide) rfl rfl ?_
          refine r_iconst C (v := 0) d_Mo_bound_53 (by decide) ?_
          refine r_istore C (lv' := [(4, .int 0), (3, .int 0), (0, .ref (gA X 46)), (1, .int x1), (2, .int x2)]) d_Mo_bound_54 (by decide) rfl rfl ?_
          refine r_sub [2, 1, 0] (lv' := [(0, .ref (gA X 46)), (3, .int 0), (4, .int 0)]) rfl ?_
          exact u_Mo_bound_56 C hR  (0, 0, r_6) h
        · rw [if_pos hc_7] at h
          refine r_aload_n C 0 d_Mo_bound_40 rfl rfl ?_
          refine q_Mo_68 C d_Mo_bound_41 ?_
          refine r_aload_n C 0 d_Mo_bound_44 rfl rfl ?_
          refine r_iconst C (v := 0) d_Mo_bound_45 (by decide) ?_
          obtain ⟨r_8, er_8, h⟩ := bind_some h
          refine r_callV C (As := [.int 0]) (rest := [.ref (gA X 66)]) (st1 := [.int r_8, .ref (gA X 66)]) (c_Mo_bestOf X.1.2.1 r_6 0 er_8) k_Mo_bestOf m_578 (by decide) cel_Mo rfl rfl rfl rfl (Nat.le_of_ble_eq_true rfl) ⟨Nat.le_of_ble_eq_true rfl, Nat.le_of_ble_eq_true rfl⟩ d_Mo_bound_46 rfl ?_
          obtain ⟨hi_9, h⟩ := ck_some h
          refine r_iald C hi_9 d_Mo_bound_49 ?_
          cases h
          exact hR _ _ d_Mo_bound_50
      · rw [if_pos hc_5] at h
        refine r_ldc C (v := (-1000000)) m_491 d_Mo_bound_27 ?_
        cases h
        exact hR _ _ d_Mo_bound_29
set_option maxHeartbeats 4000000 in
set_option maxRecDepth 100000 in
theorem c_Mo_bound (l : Launch) (σ : gS) (x1 : Int32) (x2 : Int32) {r : (Int32 × gS)} (h : f_Mo_bound σ x1 x2 = some r) : gMet l y_Mo_bound b_Mo_bound_c 7 (some .int) 4 97 (fun a => [.ref (a 46), .int x1, .int x2]) σ (some (.int r.1)) r.2 := by
  refine gMet_i (by decide +kernel) (fun a => Nat.le_of_ble_eq_true rfl) (fun X _ C hR => ?_)
  refine r_sub [0, 1, 2] (lv' := [(0, .ref (gA X 46)), (1, .int x1), (2, .int x2)]) rfl ?_
  exact t_Mo_bound_0 C hR x1 x2 σ h
theorem d_Mo_told_0 : decode b_Mo_told_c 0 = .ok (.aload_n 0, 1) := by decide +kernel
theorem d_Mo_told_1 : decode b_Mo_told_c 1 = .ok (.iload_n 1, 1) := by decide +kernel
theorem d_Mo_told_2 : decode b_Mo_told_c 2 = .ok (.invokevirtual 90, 3) := by decide +kernel
theorem d_Mo_told_5 : decode b_Mo_told_c 5 = .ok (.ifCond .eq 12, 3) := by decide +kernel
theorem d_Mo_told_8 : decode b_Mo_told_c 8 = .ok (.iload_n 2, 1) := by decide +kernel
theorem d_Mo_told_9 : decode b_Mo_told_c 9 = .ok (.iconst 0, 1) := by decide +kernel
theorem d_Mo_told_10 : decode b_Mo_told_c 10 = .ok (.iconst 5, 1) := by decide +kernel
theorem d_Mo_told_11 : decode b_Mo_told_c 11 = .ok (.invokestatic 78, 3) := by decide +kernel
theorem d_Mo_told_14 : decode b_Mo_told_c 14 = .ok (.ifCond .ne 6, 3) := by decide +kernel
theorem d_Mo_told_17 : decode b_Mo_told_c 17 = .ok (.ldc 134, 2) := by decide +kernel
theorem d_Mo_told_19 : decode b_Mo_told_c 19 = .ok (.ireturn, 1) := by decide +kernel
theorem d_Mo_told_20 : decode b_Mo_told_c 20 = .ok (.iload_n 2, 1) := by decide +kernel
theorem d_Mo_told_21 : decode b_Mo_told_c 21 = .ok (.tableswitch 68 0 2 #[27, 34, 61], 27) := by decide +kernel
theorem d_Mo_told_48 : decode b_Mo_told_c 48 = .ok (.aload_n 0, 1) := by decide +kernel
theorem d_Mo_told_49 : decode b_Mo_told_c 49 = .ok (.getfield 7, 3) := by decide +kernel
theorem d_Mo_told_52 : decode b_Mo_told_c 52 = .ok (.iload_n 1, 1) := by decide +kernel
theorem d_Mo_told_53 : decode b_Mo_told_c 53 = .ok (.iaload, 1) := by decide +kernel
theorem d_Mo_told_54 : decode b_Mo_told_c 54 = .ok (.ireturn, 1) := by decide +kernel
theorem d_Mo_told_55 : decode b_Mo_told_c 55 = .ok (.aload_n 0, 1) := by decide +kernel
theorem d_Mo_told_56 : decode b_Mo_told_c 56 = .ok (.getfield 7, 3) := by decide +kernel
theorem d_Mo_told_59 : decode b_Mo_told_c 59 = .ok (.iload_n 1, 1) := by decide +kernel
theorem d_Mo_told_60 : decode b_Mo_told_c 60 = .ok (.iaload, 1) := by decide +kernel
theorem d_Mo_told_61 : decode b_Mo_told_c 61 = .ok (.ifCond .ne 14, 3) := by decide +kernel
theorem d_Mo_told_64 : decode b_Mo_told_c 64 = .ok (.aload_n 0, 1) := by decide +kernel
theorem d_Mo_told_65 : decode b_Mo_told_c 65 = .ok (.getfield 16, 3) := by decide +kernel
theorem d_Mo_told_68 : decode b_Mo_told_c 68 = .ok (.iconst 2, 1) := by decide +kernel
theorem d_Mo_told_69 : decode b_Mo_told_c 69 = .ok (.iload_n 1, 1) := by decide +kernel
theorem d_Mo_told_70 : decode b_Mo_told_c 70 = .ok (.imul, 1) := by decide +kernel
theorem d_Mo_told_71 : decode b_Mo_told_c 71 = .ok (.iaload, 1) := by decide +kernel
theorem d_Mo_told_72 : decode b_Mo_told_c 72 = .ok (.goto 9, 3) := by decide +kernel
theorem d_Mo_told_75 : decode b_Mo_told_c 75 = .ok (.aload_n 0, 1) := by decide +kernel
theorem d_Mo_told_76 : decode b_Mo_told_c 76 = .ok (.getfield 13, 3) := by decide +kernel
theorem d_Mo_told_79 : decode b_Mo_told_c 79 = .ok (.iload_n 1, 1) := by decide +kernel
theorem d_Mo_told_80 : decode b_Mo_told_c 80 = .ok (.iaload, 1) := by decide +kernel
theorem d_Mo_told_81 : decode b_Mo_told_c 81 = .ok (.ireturn, 1) := by decide +kernel
theorem d_Mo_told_82 : decode b_Mo_told_c 82 = .ok (.aload_n 0, 1) := by decide +kernel
theorem d_Mo_told_83 : decode b_Mo_told_c 83 = .ok (.getfield 22, 3) := by decide +kernel
theorem d_Mo_told_86 : decode b_Mo_told_c 86 = .ok (.iload_n 1, 1) := by decide +kernel
theorem d_Mo_told_87 : decode b_Mo_told_c 87 = .ok (.iaload, 1) := by decide +kernel
theorem d_Mo_told_88 : decode b_Mo_told_c 88 = .ok (.ireturn, 1) := by decide +kernel
theorem d_Mo_told_89 : decode b_Mo_told_c 89 = .ok (.aload_n 0, 1) := by decide +kernel
theorem d_Mo_told_90 : decode b_Mo_told_c 90 = .ok (.getfield 7, 3) := by decide +kernel
theorem d_Mo_told_93 : decode b_Mo_told_c 93 = .ok (.iload_n 1, 1) := by decide +kernel
theorem d_Mo_told_94 : decode b_Mo_told_c 94 = .ok (.iaload, 1) := by decide +kernel
theorem d_Mo_told_95 : decode b_Mo_told_c 95 = .ok (.ifCond .ne 21, 3) := by decide +kernel
theorem d_Mo_told_98 : decode b_Mo_told_c 98 = .ok (.iload_n 2, 1) := by decide +kernel
theorem d_Mo_told_99 : decode b_Mo_told_c 99 = .ok (.iconst 3, 1) := by decide +kernel
theorem d_Mo_told_100 : decode b_Mo_told_c 100 = .ok (.if_icmp .ne 16, 3) := by decide +kernel
theorem d_Mo_told_103 : decode b_Mo_told_c 103 = .ok (.aload_n 0, 1) := by decide +kernel
theorem d_Mo_told_104 : decode b_Mo_told_c 104 = .ok (.getfield 16, 3) := by decide +kernel
theorem d_Mo_told_107 : decode b_Mo_told_c 107 = .ok (.iconst 2, 1) := by decide +kernel
theorem d_Mo_told_108 : decode b_Mo_told_c 108 = .ok (.iload_n 1, 1) := by decide +kernel
theorem d_Mo_told_109 : decode b_Mo_told_c 109 = .ok (.imul, 1) := by decide +kernel
theorem d_Mo_told_110 : decode b_Mo_told_c 110 = .ok (.iconst 1, 1) := by decide +kernel
theorem d_Mo_told_111 : decode b_Mo_told_c 111 = .ok (.iadd, 1) := by decide +kernel
theorem d_Mo_told_112 : decode b_Mo_told_c 112 = .ok (.iaload, 1) := by decide +kernel
theorem d_Mo_told_113 : decode b_Mo_told_c 113 = .ok (.goto 15, 3) := by decide +kernel
theorem d_Mo_told_116 : decode b_Mo_told_c 116 = .ok (.aload_n 0, 1) := by decide +kernel
theorem d_Mo_told_117 : decode b_Mo_told_c 117 = .ok (.getfield 19, 3) := by decide +kernel
theorem d_Mo_told_120 : decode b_Mo_told_c 120 = .ok (.iconst 3, 1) := by decide +kernel
theorem d_Mo_told_121 : decode b_Mo_told_c 121 = .ok (.iload_n 1, 1) := by decide +kernel
theorem d_Mo_told_122 : decode b_Mo_told_c 122 = .ok (.imul, 1) := by decide +kernel
theorem d_Mo_told_123 : decode b_Mo_told_c 123 = .ok (.iload_n 2, 1) := by decide +kernel
theorem d_Mo_told_124 : decode b_Mo_told_c 124 = .ok (.iadd, 1) := by decide +kernel
theorem d_Mo_told_125 : decode b_Mo_told_c 125 = .ok (.iconst 3, 1) := by decide +kernel
theorem d_Mo_told_126 : decode b_Mo_told_c 126 = .ok (.isub, 1) := by decide +kernel
theorem d_Mo_told_127 : decode b_Mo_told_c 127 = .ok (.iaload, 1) := by decide +kernel
theorem d_Mo_told_128 : decode b_Mo_told_c 128 = .ok (.ireturn, 1) := by decide +kernel
/-! GameRowsModel.told(II)I -/
set_option maxHeartbeats 4000000 in
set_option maxRecDepth 100000 in
theorem t_Mo_told_116 {X : gX} {r : Int32} {σ : gS} (C : gC X b_Mo_told_c R_Mo 3 2 43) (hR : ∀ pc lv, decode b_Mo_told_c pc = .ok (.ireturn, 1) → G X pc lv [.int r] σ) (x1 : Int32) (x2 : Int32) (h : b_Mo_told_116 σ x1 x2 = some r) : G X 116 [(0, .ref (gA X 46)), (1, .int x1), (2, .int x2)] [] σ := by
  unfold b_Mo_told_116 at h
  refine r_aload_n C 0 d_Mo_told_116 rfl rfl ?_
  refine q_Mo_19 C d_Mo_told_117 ?_
  refine r_iconst C (v := 3) d_Mo_told_120 (by decide) ?_
  refine r_iload_n C 1 d_Mo_told_121 rfl rfl ?_
  refine r_imul C d_Mo_told_122 ?_
  refine r_iload_n C 2 d_Mo_told_123 rfl rfl ?_
  refine r_iadd C d_Mo_told_124 ?_
  refine r_iconst C (v := 3) d_Mo_told_125 (by decide) ?_
  refine r_isub C d_Mo_told_126 ?_
  obtain ⟨hi_1, h⟩ := ck_some h
  refine r_iald C hi_1 d_Mo_told_127 ?_
  cases h
  exact hR _ _ d_Mo_told_128
set_option maxHeartbeats 4000000 in
set_option maxRecDepth 100000 in
theorem t_Mo_told_0 {X : gX} {r : Int32} {σ : gS} (C : gC X b_Mo_told_c R_Mo 3 2 43) (hR : ∀ pc lv, decode b_Mo_told_c pc = .ok (.ireturn, 1) → G X pc lv [.int r] σ) (x1 : Int32) (x2 : Int32) (h : b_Mo_told_0 σ x1 x2 = some r) : G X 0 [(0, .ref (gA X 46)), (1, .int x1), (2, .int x2)] [] σ := by
  unfold b_Mo_told_0 at h
  refine r_aload_n C 0 d_Mo_told_0 rfl rfl ?_
  refine r_iload_n C 1 d_Mo_told_1 rfl rfl ?_
  obtain ⟨r_1, er_1, h⟩ := bind_some h
  refine r_callV C (As := [.int x1]) (rest := []) (st1 := [.int r_1]) (c_Mo_isNode X.1.2.1 σ x1 er_1) k_Mo_isNode m_466 (by decide) cel_Mo rfl rfl rfl rfl (Nat.le_of_ble_eq_true rfl) ⟨Nat.le_of_ble_eq_true rfl, Nat.le_of_ble_eq_true rfl⟩ d_Mo_told_2 rfl ?_
  refine r_if_eq C (tgt := 17) d_Mo_told_5 (by decide) (fun hc_2 => ?_) (fun hc_2 => ?_)
  · rw [if_pos hc_2] at h
    refine r_ldc C (v := (-1000000)) m_491 d_Mo_told_17 ?_
    cases h
    exact hR _ _ d_Mo_told_19
  · rw [if_neg hc_2] at h
    refine r_iload_n C 2 d_Mo_told_8 rfl rfl ?_
    refine r_iconst C (v := 0) d_Mo_told_9 (by decide) ?_
    refine r_iconst C (v := 5) d_Mo_told_10 (by decide) ?_
    obtain ⟨r_3, er_3, h⟩ := bind_some h
    refine r_callS C (As := [.int x2, .int 0, .int 5]) (rest := []) (st1 := [.int r_3]) (c_Mo_isFrom X.1.2.1 σ x2 0 5 er_3) k_Mo_isFrom m_420 rfl rfl rfl (Nat.le_of_ble_eq_true rfl) ⟨Nat.le_of_ble_eq_true rfl, Nat.le_of_ble_eq_true rfl⟩ d_Mo_told_11 rfl ?_
    refine r_if_ne C (tgt := 20) d_Mo_told_14 (by decide) (fun hc_4 => ?_) (fun hc_4 => ?_)
    · rw [if_neg hc_4] at h
      refine r_iload_n C 2 d_Mo_told_20 rfl rfl ?_
      by_cases hc_9 : x2 < 0
      · rw [if_pos hc_9] at h
        refine r_tabLo C (tgt := 89) d_Mo_told_21 hc_9 (by decide) (by decide) ?_
        refine r_aload_n C 0 d_Mo_told_89 rfl rfl ?_
        refine q_Mo_7 C d_Mo_told_90 ?_
        refine r_iload_n C 1 d_Mo_told_93 rfl rfl ?_
        obtain ⟨hi_5, h⟩ := ck_some h
        refine r_iald C hi_5 d_Mo_told_94 ?_
        refine r_if_ne C (tgt := 116) d_Mo_told_95 (by decide) (fun hc_6 => ?_) (fun hc_6 => ?_)
        · rw [if_neg hc_6] at h
          exact t_Mo_told_116 C hR x1 x2 h
        · rw [if_pos hc_6] at h
          refine r_iload_n C 2 d_Mo_told_98 rfl rfl ?_
          refine r_iconst C (v := 3) d_Mo_told_99 (by decide) ?_
          refine r_icmp_ne C (tgt := 116) d_Mo_told_100 (by decide) (fun hc_7 => ?_) (fun hc_7 => ?_)
          · rw [if_neg hc_7] at h
            exact t_Mo_told_116 C hR x1 x2 h
          · rw [if_pos hc_7] at h
            refine r_aload_n C 0 d_Mo_told_103 rfl rfl ?_
            refine q_Mo_16 C d_Mo_told_104 ?_
            refine r_iconst C (v := 2) d_Mo_told_107 (by decide) ?_
            refine r_iload_n C 1 d_Mo_told_108 rfl rfl ?_
            refine r_imul C d_Mo_told_109 ?_
            refine r_iconst C (v := 1) d_Mo_told_110 (by decide) ?_
            refine r_iadd C d_Mo_told_111 ?_
            obtain ⟨hi_8, h⟩ := ck_some h
            refine r_iald C hi_8 d_Mo_told_112 ?_
            refine r_goto C (tgt := 128) d_Mo_told_113 (by decide) ?_
            cases h
            exact hR _ _ d_Mo_told_128
      rw [if_neg hc_9] at h
      by_cases hc_10 : 2 < x2
      · rw [if_pos hc_10] at h
        refine r_tabHi C (tgt := 89) d_Mo_told_21 hc_10 (by decide) (by decide) ?_
        refine r_aload_n C 0 d_Mo_told_89 rfl rfl ?_
        refine q_Mo_7 C d_Mo_told_90 ?_
        refine r_iload_n C 1 d_Mo_told_93 rfl rfl ?_
        obtain ⟨hi_11, h⟩ := ck_some h
        refine r_iald C hi_11 d_Mo_told_94 ?_
        refine r_if_ne C (tgt := 116) d_Mo_told_95 (by decide) (fun hc_12 => ?_) (fun hc_12 => ?_)
        · rw [if_neg hc_12] at h
          exact t_Mo_told_116 C hR x1 x2 h
        · rw [if_pos hc_12] at h
          refine r_iload_n C 2 d_Mo_told_98 rfl rfl ?_
          refine r_iconst C (v := 3) d_Mo_told_99 (by decide) ?_
          refine r_icmp_ne C (tgt := 116) d_Mo_told_100 (by decide) (fun hc_13 => ?_) (fun hc_13 => ?_)
          · rw [if_neg hc_13] at h
            exact t_Mo_told_116 C hR x1 x2 h
          · rw [if_pos hc_13] at h
            refine r_aload_n C 0 d_Mo_told_103 rfl rfl ?_
            refine q_Mo_16 C d_Mo_told_104 ?_
            refine r_iconst C (v := 2) d_Mo_told_107 (by decide) ?_
            refine r_iload_n C 1 d_Mo_told_108 rfl rfl ?_
            refine r_imul C d_Mo_told_109 ?_
            refine r_iconst C (v := 1) d_Mo_told_110 (by decide) ?_
            refine r_iadd C d_Mo_told_111 ?_
            obtain ⟨hi_14, h⟩ := ck_some h
            refine r_iald C hi_14 d_Mo_told_112 ?_
            refine r_goto C (tgt := 128) d_Mo_told_113 (by decide) ?_
            cases h
            exact hR _ _ d_Mo_told_128
      rw [if_neg hc_10] at h
      by_cases hc_15 : x2 = 0
      · rw [if_pos hc_15] at h
        refine r_tabIn C (tgt := 48) d_Mo_told_21 hc_15 (by decide) (by decide) rfl (by decide) ?_
        refine r_aload_n C 0 d_Mo_told_48 rfl rfl ?_
        refine q_Mo_7 C d_Mo_told_49 ?_
        refine r_iload_n C 1 d_Mo_told_52 rfl rfl ?_
        obtain ⟨hi_16, h⟩ := ck_some h
        refine r_iald C hi_16 d_Mo_told_53 ?_
        cases h
        exact hR _ _ d_Mo_told_54
      rw [if_neg hc_15] at h
      by_cases hc_17 : x2 = 1
      · rw [if_pos hc_17] at h
        refine r_tabIn C (tgt := 55) d_Mo_told_21 hc_17 (by decide) (by decide) rfl (by decide) ?_
        refine r_aload_n C 0 d_Mo_told_55 rfl rfl ?_
        refine q_Mo_7 C d_Mo_told_56 ?_
        refine r_iload_n C 1 d_Mo_told_59 rfl rfl ?_
        obtain ⟨hi_18, h⟩ := ck_some h
        refine r_iald C hi_18 d_Mo_told_60 ?_
        refine r_if_ne C (tgt := 75) d_Mo_told_61 (by decide) (fun hc_19 => ?_) (fun hc_19 => ?_)
        · rw [if_neg hc_19] at h
          refine r_aload_n C 0 d_Mo_told_75 rfl rfl ?_
          refine q_Mo_13 C d_Mo_told_76 ?_
          refine r_iload_n C 1 d_Mo_told_79 rfl rfl ?_
          obtain ⟨hi_20, h⟩ := ck_some h
          refine r_iald C hi_20 d_Mo_told_80 ?_
          cases h
          exact hR _ _ d_Mo_told_81
        · rw [if_pos hc_19] at h
          refine r_aload_n C 0 d_Mo_told_64 rfl rfl ?_
          refine q_Mo_16 C d_Mo_told_65 ?_
          refine r_iconst C (v := 2) d_Mo_told_68 (by decide) ?_
          refine r_iload_n C 1 d_Mo_told_69 rfl rfl ?_
          refine r_imul C d_Mo_told_70 ?_
          obtain ⟨hi_21, h⟩ := ck_some h
          refine r_iald C hi_21 d_Mo_told_71 ?_
          refine r_goto C (tgt := 81) d_Mo_told_72 (by decide) ?_
          cases h
          exact hR _ _ d_Mo_told_81
      rw [if_neg hc_17] at h
      by_cases hc_22 : x2 = 2
      · rw [if_pos hc_22] at h
        refine r_tabIn C (tgt := 82) d_Mo_told_21 hc_22 (by decide) (by decide) rfl (by decide) ?_
        refine r_aload_n C 0 d_Mo_told_82 rfl rfl ?_
        refine q_Mo_22 C d_Mo_told_83 ?_
        refine r_iload_n C 1 d_Mo_told_86 rfl rfl ?_
        obtain ⟨hi_23, h⟩ := ck_some h
        refine r_iald C hi_23 d_Mo_told_87 ?_
        cases h
        exact hR _ _ d_Mo_told_88
      rw [if_neg hc_22] at h
      cases h
    · rw [if_pos hc_4] at h
      refine r_ldc C (v := (-1000000)) m_491 d_Mo_told_17 ?_
      cases h
      exact hR _ _ d_Mo_told_19
set_option maxHeartbeats 4000000 in
set_option maxRecDepth 100000 in
theorem c_Mo_told (l : Launch) (σ : gS) (x1 : Int32) (x2 : Int32) {r : Int32} (h : f_Mo_told σ x1 x2 = some r) : gMet l y_Mo_told b_Mo_told_c 3 (some .int) 2 43 (fun a => [.ref (a 46), .int x1, .int x2]) σ (some (.int r)) σ := by
  refine gMet_i (by decide +kernel) (fun a => Nat.le_of_ble_eq_true rfl) (fun X _ C hR => ?_)
  refine r_sub [0, 1, 2] (lv' := [(0, .ref (gA X 46)), (1, .int x1), (2, .int x2)]) rfl ?_
  exact t_Mo_told_0 C hR x1 x2 h
theorem d_Mo_count_0 : decode b_Mo_count_c 0 = .ok (.iload_n 1, 1) := by decide +kernel
theorem d_Mo_count_1 : decode b_Mo_count_c 1 = .ok (.iconst 0, 1) := by decide +kernel
theorem d_Mo_count_2 : decode b_Mo_count_c 2 = .ok (.bipush 9, 2) := by decide +kernel
theorem d_Mo_count_4 : decode b_Mo_count_c 4 = .ok (.invokestatic 78, 3) := by decide +kernel
theorem d_Mo_count_7 : decode b_Mo_count_c 7 = .ok (.ifCond .ne 6, 3) := by decide +kernel
theorem d_Mo_count_10 : decode b_Mo_count_c 10 = .ok (.bipush (-2), 2) := by decide +kernel
theorem d_Mo_count_12 : decode b_Mo_count_c 12 = .ok (.ireturn, 1) := by decide +kernel
theorem d_Mo_count_13 : decode b_Mo_count_c 13 = .ok (.iload_n 1, 1) := by decide +kernel
theorem d_Mo_count_14 : decode b_Mo_count_c 14 = .ok (.ifCond .ne 8, 3) := by decide +kernel
theorem d_Mo_count_17 : decode b_Mo_count_c 17 = .ok (.aload_n 0, 1) := by decide +kernel
theorem d_Mo_count_18 : decode b_Mo_count_c 18 = .ok (.getfield 71, 3) := by decide +kernel
theorem d_Mo_count_21 : decode b_Mo_count_c 21 = .ok (.ireturn, 1) := by decide +kernel
theorem d_Mo_count_22 : decode b_Mo_count_c 22 = .ok (.iload_n 1, 1) := by decide +kernel
theorem d_Mo_count_23 : decode b_Mo_count_c 23 = .ok (.iconst 1, 1) := by decide +kernel
theorem d_Mo_count_24 : decode b_Mo_count_c 24 = .ok (.if_icmp .ne 8, 3) := by decide +kernel
theorem d_Mo_count_27 : decode b_Mo_count_c 27 = .ok (.aload_n 0, 1) := by decide +kernel
theorem d_Mo_count_28 : decode b_Mo_count_c 28 = .ok (.getfield 75, 3) := by decide +kernel
theorem d_Mo_count_31 : decode b_Mo_count_c 31 = .ok (.ireturn, 1) := by decide +kernel
theorem d_Mo_count_32 : decode b_Mo_count_c 32 = .ok (.aload_n 0, 1) := by decide +kernel
theorem d_Mo_count_33 : decode b_Mo_count_c 33 = .ok (.invokevirtual 110, 3) := by decide +kernel
theorem d_Mo_count_36 : decode b_Mo_count_c 36 = .ok (.iload_n 1, 1) := by decide +kernel
theorem d_Mo_count_37 : decode b_Mo_count_c 37 = .ok (.iconst 2, 1) := by decide +kernel
theorem d_Mo_count_38 : decode b_Mo_count_c 38 = .ok (.if_icmp .ne 40, 3) := by decide +kernel
theorem d_Mo_count_41 : decode b_Mo_count_c 41 = .ok (.iconst 0, 1) := by decide +kernel
theorem d_Mo_count_42 : decode b_Mo_count_c 42 = .ok (.istore_n 2, 1) := by decide +kernel
theorem d_Mo_count_43 : decode b_Mo_count_c 43 = .ok (.iconst 0, 1) := by decide +kernel
theorem d_Mo_count_44 : decode b_Mo_count_c 44 = .ok (.istore_n 3, 1) := by decide +kernel
theorem d_Mo_count_45 : decode b_Mo_count_c 45 = .ok (.iload_n 3, 1) := by decide +kernel
theorem d_Mo_count_46 : decode b_Mo_count_c 46 = .ok (.aload_n 0, 1) := by decide +kernel
theorem d_Mo_count_47 : decode b_Mo_count_c 47 = .ok (.getfield 71, 3) := by decide +kernel
theorem d_Mo_count_50 : decode b_Mo_count_c 50 = .ok (.if_icmp .ge 26, 3) := by decide +kernel
theorem d_Mo_count_53 : decode b_Mo_count_c 53 = .ok (.aload_n 0, 1) := by decide +kernel
theorem d_Mo_count_54 : decode b_Mo_count_c 54 = .ok (.getfield 37, 3) := by decide +kernel
theorem d_Mo_count_57 : decode b_Mo_count_c 57 = .ok (.iload_n 3, 1) := by decide +kernel
theorem d_Mo_count_58 : decode b_Mo_count_c 58 = .ok (.baload, 1) := by decide +kernel
theorem d_Mo_count_59 : decode b_Mo_count_c 59 = .ok (.ifCond .eq 9, 3) := by decide +kernel
theorem d_Mo_count_62 : decode b_Mo_count_c 62 = .ok (.iload_n 2, 1) := by decide +kernel
theorem d_Mo_count_63 : decode b_Mo_count_c 63 = .ok (.iconst 1, 1) := by decide +kernel
theorem d_Mo_count_64 : decode b_Mo_count_c 64 = .ok (.iadd, 1) := by decide +kernel
theorem d_Mo_count_65 : decode b_Mo_count_c 65 = .ok (.goto 4, 3) := by decide +kernel
theorem d_Mo_count_68 : decode b_Mo_count_c 68 = .ok (.iload_n 2, 1) := by decide +kernel
theorem d_Mo_count_69 : decode b_Mo_count_c 69 = .ok (.istore_n 2, 1) := by decide +kernel
theorem d_Mo_count_70 : decode b_Mo_count_c 70 = .ok (.iinc 3 1, 3) := by decide +kernel
theorem d_Mo_count_73 : decode b_Mo_count_c 73 = .ok (.goto (-28), 3) := by decide +kernel
theorem d_Mo_count_76 : decode b_Mo_count_c 76 = .ok (.iload_n 2, 1) := by decide +kernel
theorem d_Mo_count_77 : decode b_Mo_count_c 77 = .ok (.ireturn, 1) := by decide +kernel
theorem d_Mo_count_78 : decode b_Mo_count_c 78 = .ok (.aload_n 0, 1) := by decide +kernel
theorem d_Mo_count_79 : decode b_Mo_count_c 79 = .ok (.getfield 71, 3) := by decide +kernel
theorem d_Mo_count_82 : decode b_Mo_count_c 82 = .ok (.ifCond .ne 6, 3) := by decide +kernel
theorem d_Mo_count_85 : decode b_Mo_count_c 85 = .ok (.ldc 134, 2) := by decide +kernel
theorem d_Mo_count_87 : decode b_Mo_count_c 87 = .ok (.ireturn, 1) := by decide +kernel
theorem d_Mo_count_88 : decode b_Mo_count_c 88 = .ok (.iload_n 1, 1) := by decide +kernel
theorem d_Mo_count_89 : decode b_Mo_count_c 89 = .ok (.tableswitch 76 3 8 #[39, 45, 51, 58, 65, 71], 39) := by decide +kernel
theorem d_Mo_count_128 : decode b_Mo_count_c 128 = .ok (.aload_n 0, 1) := by decide +kernel
theorem d_Mo_count_129 : decode b_Mo_count_c 129 = .ok (.iconst 0, 1) := by decide +kernel
theorem d_Mo_count_130 : decode b_Mo_count_c 130 = .ok (.invokevirtual 113, 3) := by decide +kernel
theorem d_Mo_count_133 : decode b_Mo_count_c 133 = .ok (.ireturn, 1) := by decide +kernel
theorem d_Mo_count_134 : decode b_Mo_count_c 134 = .ok (.aload_n 0, 1) := by decide +kernel
theorem d_Mo_count_135 : decode b_Mo_count_c 135 = .ok (.iconst 1, 1) := by decide +kernel
theorem d_Mo_count_136 : decode b_Mo_count_c 136 = .ok (.invokevirtual 113, 3) := by decide +kernel
theorem d_Mo_count_139 : decode b_Mo_count_c 139 = .ok (.ireturn, 1) := by decide +kernel
theorem d_Mo_count_140 : decode b_Mo_count_c 140 = .ok (.aload_n 0, 1) := by decide +kernel
theorem d_Mo_count_141 : decode b_Mo_count_c 141 = .ok (.iconst 0, 1) := by decide +kernel
theorem d_Mo_count_142 : decode b_Mo_count_c 142 = .ok (.iconst (-1), 1) := by decide +kernel
theorem d_Mo_count_143 : decode b_Mo_count_c 143 = .ok (.invokevirtual 169, 3) := by decide +kernel
theorem d_Mo_count_146 : decode b_Mo_count_c 146 = .ok (.ireturn, 1) := by decide +kernel
theorem d_Mo_count_147 : decode b_Mo_count_c 147 = .ok (.aload_n 0, 1) := by decide +kernel
theorem d_Mo_count_148 : decode b_Mo_count_c 148 = .ok (.iconst 1, 1) := by decide +kernel
theorem d_Mo_count_149 : decode b_Mo_count_c 149 = .ok (.iconst (-1), 1) := by decide +kernel
theorem d_Mo_count_150 : decode b_Mo_count_c 150 = .ok (.invokevirtual 169, 3) := by decide +kernel
theorem d_Mo_count_153 : decode b_Mo_count_c 153 = .ok (.ireturn, 1) := by decide +kernel
theorem d_Mo_count_154 : decode b_Mo_count_c 154 = .ok (.aload_n 0, 1) := by decide +kernel
theorem d_Mo_count_155 : decode b_Mo_count_c 155 = .ok (.iconst (-1), 1) := by decide +kernel
theorem d_Mo_count_156 : decode b_Mo_count_c 156 = .ok (.invokevirtual 176, 3) := by decide +kernel
theorem d_Mo_count_159 : decode b_Mo_count_c 159 = .ok (.ireturn, 1) := by decide +kernel
theorem d_Mo_count_160 : decode b_Mo_count_c 160 = .ok (.aload_n 0, 1) := by decide +kernel
theorem d_Mo_count_161 : decode b_Mo_count_c 161 = .ok (.invokevirtual 200, 3) := by decide +kernel
theorem d_Mo_count_164 : decode b_Mo_count_c 164 = .ok (.ireturn, 1) := by decide +kernel
theorem d_Mo_count_165 : decode b_Mo_count_c 165 = .ok (.aload_n 0, 1) := by decide +kernel
theorem d_Mo_count_166 : decode b_Mo_count_c 166 = .ok (.getfield 25, 3) := by decide +kernel
theorem d_Mo_count_169 : decode b_Mo_count_c 169 = .ok (.aload_n 0, 1) := by decide +kernel
theorem d_Mo_count_170 : decode b_Mo_count_c 170 = .ok (.invokevirtual 135, 3) := by decide +kernel
theorem d_Mo_count_173 : decode b_Mo_count_c 173 = .ok (.iaload, 1) := by decide +kernel
theorem d_Mo_count_174 : decode b_Mo_count_c 174 = .ok (.ireturn, 1) := by decide +kernel
/-! GameRowsModel.count(I)I -/
set_option maxHeartbeats 4000000 in
set_option maxRecDepth 100000 in
theorem t_Mo_count_69 {X : gX} {r : (Int32 × gS)} (C : gC X b_Mo_count_c R_Mo 4 5 120) (hR : ∀ pc lv, decode b_Mo_count_c pc = .ok (.ireturn, 1) → G X pc lv [.int r.1] r.2) {k45 : Int32 × Int32 × gS → Option (Int32 × gS)}  (hk45 : ∀ x, k45 x = some r → G X 45 [(0, .ref (gA X 46)), (2, .int x.1), (3, .int x.2.1)] [] x.2.2) (x3 : Int32) (y0 : Int32) (σ : gS) (h : b_Mo_count_69 k45 x3 y0 σ = some r) : G X 69 [(0, .ref (gA X 46)), (3, .int x3)] [.int y0] σ := by
  unfold b_Mo_count_69 at h
  refine r_istore_n C (lv' := [(2, .int y0), (0, .ref (gA X 46)), (3, .int x3)]) d_Mo_count_69 rfl (by decide) rfl rfl ?_
  obtain ⟨x3_1, ex3_1, h⟩ := bnd_some h
  refine r_iinc C 2 (lv' := [(3, .int x3_1), (2, .int y0), (0, .ref (gA X 46))]) d_Mo_count_70 rfl (by rw [ex3_1]; rfl) (by decide) rfl ?_
  refine r_goto C (tgt := 45) d_Mo_count_73 (by decide) ?_
  refine r_sub [2, 1, 0] (lv' := [(0, .ref (gA X 46)), (2, .int y0), (3, .int x3_1)]) rfl ?_
  exact hk45 _ h
set_option maxHeartbeats 4000000 in
set_option maxRecDepth 100000 in
theorem t_Mo_count_45 {X : gX} {r : (Int32 × gS)} (C : gC X b_Mo_count_c R_Mo 4 5 120) (hR : ∀ pc lv, decode b_Mo_count_c pc = .ok (.ireturn, 1) → G X pc lv [.int r.1] r.2) {k45 : Int32 × Int32 × gS → Option (Int32 × gS)}  (hk45 : ∀ x, k45 x = some r → G X 45 [(0, .ref (gA X 46)), (2, .int x.1), (3, .int x.2.1)] [] x.2.2) (x2 : Int32) (x3 : Int32) (σ : gS) (h : b_Mo_count_45 k45 x2 x3 σ = some r) : G X 45 [(0, .ref (gA X 46)), (2, .int x2), (3, .int x3)] [] σ := by
  unfold b_Mo_count_45 at h
  refine r_iload_n C 2 d_Mo_count_45 rfl rfl ?_
  refine r_aload_n C 0 d_Mo_count_46 rfl rfl ?_
  refine q_Mo_71 C d_Mo_count_47 ?_
  refine r_icmp_ge C (tgt := 76) d_Mo_count_50 (by decide) (fun hc_1 => ?_) (fun hc_1 => ?_)
  · rw [if_pos hc_1] at h
    refine r_iload_n C 1 d_Mo_count_76 rfl rfl ?_
    cases h
    exact hR _ _ d_Mo_count_77
  · rw [if_neg hc_1] at h
    refine r_aload_n C 0 d_Mo_count_53 rfl rfl ?_
    refine q_Mo_37 C d_Mo_count_54 ?_
    refine r_iload_n C 2 d_Mo_count_57 rfl rfl ?_
    obtain ⟨hi_2, h⟩ := ck_some h
    refine r_zald C hi_2 d_Mo_count_58 ?_
    refine r_if_eq C (tgt := 68) d_Mo_count_59 (by decide) (fun hc_3 => ?_) (fun hc_3 => ?_)
    · rw [if_pos hc_3] at h
      refine r_iload_n C 1 d_Mo_count_68 rfl rfl ?_
      refine r_sub [0, 2] (lv' := [(0, .ref (gA X 46)), (3, .int x3)]) rfl ?_
      exact t_Mo_count_69 C hR hk45 x3 x2 σ h
    · rw [if_neg hc_3] at h
      refine r_iload_n C 1 d_Mo_count_62 rfl rfl ?_
      refine r_iconst C (v := 1) d_Mo_count_63 (by decide) ?_
      refine r_iadd C d_Mo_count_64 ?_
      refine r_goto C (tgt := 69) d_Mo_count_65 (by decide) ?_
      refine r_sub [0, 2] (lv' := [(0, .ref (gA X 46)), (3, .int x3)]) rfl ?_
      exact t_Mo_count_69 C hR hk45 x3 (x2 + 1) σ h
set_option maxHeartbeats 4000000 in
set_option maxRecDepth 100000 in
theorem u_Mo_count_45 {X : gX} {r : (Int32 × gS)} (C : gC X b_Mo_count_c R_Mo 4 5 120) (hR : ∀ pc lv, decode b_Mo_count_c pc = .ok (.ireturn, 1) → G X pc lv [.int r.1] r.2)  (x : Int32 × Int32 × gS) (h : l_Mo_count_45 x = some r) : G X 45 [(0, .ref (gA X 46)), (2, .int x.1), (3, .int x.2.1)] [] x.2.2 :=
  lpF_ind (P := fun x => G X 45 [(0, .ref (gA X 46)), (2, .int x.1), (3, .int x.2.1)] [] x.2.2) (fun k hk x h => t_Mo_count_45 C hR hk x.1 x.2.1 x.2.2 h) gF x h
set_option maxHeartbeats 4000000 in
set_option maxRecDepth 100000 in
theorem t_Mo_count_0 {X : gX} {r : (Int32 × gS)} (C : gC X b_Mo_count_c R_Mo 4 5 120) (hR : ∀ pc lv, decode b_Mo_count_c pc = .ok (.ireturn, 1) → G X pc lv [.int r.1] r.2) (x1 : Int32) (σ : gS) (h : b_Mo_count_0 x1 σ = some r) : G X 0 [(0, .ref (gA X 46)), (1, .int x1)] [] σ := by
  unfold b_Mo_count_0 at h
  refine r_iload_n C 1 d_Mo_count_0 rfl rfl ?_
  refine r_iconst C (v := 0) d_Mo_count_1 (by decide) ?_
  refine r_bipush C (v := 9) d_Mo_count_2 (by decide) ?_
  obtain ⟨r_1, er_1, h⟩ := bind_some h
  refine r_callS C (As := [.int x1, .int 0, .int 9]) (rest := []) (st1 := [.int r_1]) (c_Mo_isFrom X.1.2.1 σ x1 0 9 er_1) k_Mo_isFrom m_420 rfl rfl rfl (Nat.le_of_ble_eq_true rfl) ⟨Nat.le_of_ble_eq_true rfl, Nat.le_of_ble_eq_true rfl⟩ d_Mo_count_4 rfl ?_
  refine r_if_ne C (tgt := 13) d_Mo_count_7 (by decide) (fun hc_2 => ?_) (fun hc_2 => ?_)
  · rw [if_neg hc_2] at h
    refine r_iload_n C 1 d_Mo_count_13 rfl rfl ?_
    refine r_if_ne C (tgt := 22) d_Mo_count_14 (by decide) (fun hc_3 => ?_) (fun hc_3 => ?_)
    · rw [if_neg hc_3] at h
      refine r_iload_n C 1 d_Mo_count_22 rfl rfl ?_
      refine r_iconst C (v := 1) d_Mo_count_23 (by decide) ?_
      refine r_icmp_ne C (tgt := 32) d_Mo_count_24 (by decide) (fun hc_4 => ?_) (fun hc_4 => ?_)
      · rw [if_neg hc_4] at h
        refine r_aload_n C 0 d_Mo_count_32 rfl rfl ?_
        obtain ⟨r_5, er_5, h⟩ := bind_some h
        refine r_callV C (As := []) (rest := []) (st1 := []) (c_Mo_findTree X.1.2.1 σ  er_5) k_Mo_findTree m_442 (by decide) cel_Mo rfl rfl rfl rfl (Nat.le_of_ble_eq_true rfl) ⟨Nat.le_of_ble_eq_true rfl, Nat.le_of_ble_eq_true rfl⟩ d_Mo_count_33 rfl ?_
        refine r_iload_n C 1 d_Mo_count_36 rfl rfl ?_
        refine r_iconst C (v := 2) d_Mo_count_37 (by decide) ?_
        refine r_icmp_ne C (tgt := 78) d_Mo_count_38 (by decide) (fun hc_6 => ?_) (fun hc_6 => ?_)
        · rw [if_neg hc_6] at h
          refine r_aload_n C 0 d_Mo_count_78 rfl rfl ?_
          refine q_Mo_71 C d_Mo_count_79 ?_
          refine r_if_ne C (tgt := 88) d_Mo_count_82 (by decide) (fun hc_7 => ?_) (fun hc_7 => ?_)
          · rw [if_neg hc_7] at h
            refine r_iload_n C 1 d_Mo_count_88 rfl rfl ?_
            by_cases hc_10 : x1 < 3
            · rw [if_pos hc_10] at h
              refine r_tabLo C (tgt := 165) d_Mo_count_89 hc_10 (by decide) (by decide) ?_
              refine r_aload_n C 0 d_Mo_count_165 rfl rfl ?_
              refine q_Mo_25 C d_Mo_count_166 ?_
              refine r_aload_n C 0 d_Mo_count_169 rfl rfl ?_
              obtain ⟨r_8, er_8, h⟩ := bind_some h
              refine r_callV C (As := []) (rest := [.ref (gA X 52)]) (st1 := [.int r_8, .ref (gA X 52)]) (c_Mo_root X.1.2.1 r_5  er_8) k_Mo_root m_492 (by decide) cel_Mo rfl rfl rfl rfl (Nat.le_of_ble_eq_true rfl) ⟨Nat.le_of_ble_eq_true rfl, Nat.le_of_ble_eq_true rfl⟩ d_Mo_count_170 rfl ?_
              obtain ⟨hi_9, h⟩ := ck_some h
              refine r_iald C hi_9 d_Mo_count_173 ?_
              cases h
              exact hR _ _ d_Mo_count_174
            rw [if_neg hc_10] at h
            by_cases hc_11 : 8 < x1
            · rw [if_pos hc_11] at h
              refine r_tabHi C (tgt := 165) d_Mo_count_89 hc_11 (by decide) (by decide) ?_
              refine r_aload_n C 0 d_Mo_count_165 rfl rfl ?_
              refine q_Mo_25 C d_Mo_count_166 ?_
              refine r_aload_n C 0 d_Mo_count_169 rfl rfl ?_
              obtain ⟨r_12, er_12, h⟩ := bind_some h
              refine r_callV C (As := []) (rest := [.ref (gA X 52)]) (st1 := [.int r_12, .ref (gA X 52)]) (c_Mo_root X.1.2.1 r_5  er_12) k_Mo_root m_492 (by decide) cel_Mo rfl rfl rfl rfl (Nat.le_of_ble_eq_true rfl) ⟨Nat.le_of_ble_eq_true rfl, Nat.le_of_ble_eq_true rfl⟩ d_Mo_count_170 rfl ?_
              obtain ⟨hi_13, h⟩ := ck_some h
              refine r_iald C hi_13 d_Mo_count_173 ?_
              cases h
              exact hR _ _ d_Mo_count_174
            rw [if_neg hc_11] at h
            by_cases hc_14 : x1 = 3
            · rw [if_pos hc_14] at h
              refine r_tabIn C (tgt := 128) d_Mo_count_89 hc_14 (by decide) (by decide) rfl (by decide) ?_
              refine r_aload_n C 0 d_Mo_count_128 rfl rfl ?_
              refine r_iconst C (v := 0) d_Mo_count_129 (by decide) ?_
              obtain ⟨r_15, er_15, h⟩ := bind_some h
              refine r_callV C (As := [.int 0]) (rest := []) (st1 := [.int r_15]) (c_Mo_plansOf X.1.2.1 r_5 0 er_15) k_Mo_plansOf m_446 (by decide) cel_Mo rfl rfl rfl rfl (Nat.le_of_ble_eq_true rfl) ⟨Nat.le_of_ble_eq_true rfl, Nat.le_of_ble_eq_true rfl⟩ d_Mo_count_130 rfl ?_
              cases h
              exact hR _ _ d_Mo_count_133
            rw [if_neg hc_14] at h
            by_cases hc_16 : x1 = 4
            · rw [if_pos hc_16] at h
              refine r_tabIn C (tgt := 134) d_Mo_count_89 hc_16 (by decide) (by decide) rfl (by decide) ?_
              refine r_aload_n C 0 d_Mo_count_134 rfl rfl ?_
              refine r_iconst C (v := 1) d_Mo_count_135 (by decide) ?_
              obtain ⟨r_17, er_17, h⟩ := bind_some h
              refine r_callV C (As := [.int 1]) (rest := []) (st1 := [.int r_17]) (c_Mo_plansOf X.1.2.1 r_5 1 er_17) k_Mo_plansOf m_446 (by decide) cel_Mo rfl rfl rfl rfl (Nat.le_of_ble_eq_true rfl) ⟨Nat.le_of_ble_eq_true rfl, Nat.le_of_ble_eq_true rfl⟩ d_Mo_count_136 rfl ?_
              cases h
              exact hR _ _ d_Mo_count_139
            rw [if_neg hc_16] at h
            by_cases hc_18 : x1 = 5
            · rw [if_pos hc_18] at h
              refine r_tabIn C (tgt := 140) d_Mo_count_89 hc_18 (by decide) (by decide) rfl (by decide) ?_
              refine r_aload_n C 0 d_Mo_count_140 rfl rfl ?_
              refine r_iconst C (v := 0) d_Mo_count_141 (by decide) ?_
              refine r_iconst C (v := (-1)) d_Mo_count_142 (by decide) ?_
              obtain ⟨r_19, er_19, h⟩ := bind_some h
              refine r_callV C (As := [.int 0, .int (-1)]) (rest := []) (st1 := [.int r_19.1]) (c_Mo_countPoints X.1.2.1 r_5 0 (-1) er_19) k_Mo_countPoints m_526 (by decide) cel_Mo rfl rfl rfl rfl (Nat.le_of_ble_eq_true rfl) ⟨Nat.le_of_ble_eq_true rfl, Nat.le_of_ble_eq_true rfl⟩ d_Mo_count_143 rfl ?_
              cases h
              exact hR _ _ d_Mo_count_146
            rw [if_neg hc_18] at h
            by_cases hc_20 : x1 = 6
            · rw [if_pos hc_20] at h
              refine r_tabIn C (tgt := 147) d_Mo_count_89 hc_20 (by decide) (by decide) rfl (by decide) ?_
              refine r_aload_n C 0 d_Mo_count_147 rfl rfl ?_
              refine r_iconst C (v := 1) d_Mo_count_148 (by decide) ?_
              refine r_iconst C (v := (-1)) d_Mo_count_149 (by decide) ?_
              obtain ⟨r_21, er_21, h⟩ := bind_some h
              refine r_callV C (As := [.int 1, .int (-1)]) (rest := []) (st1 := [.int r_21.1]) (c_Mo_countPoints X.1.2.1 r_5 1 (-1) er_21) k_Mo_countPoints m_526 (by decide) cel_Mo rfl rfl rfl rfl (Nat.le_of_ble_eq_true rfl) ⟨Nat.le_of_ble_eq_true rfl, Nat.le_of_ble_eq_true rfl⟩ d_Mo_count_150 rfl ?_
              cases h
              exact hR _ _ d_Mo_count_153
            rw [if_neg hc_20] at h
            by_cases hc_22 : x1 = 7
            · rw [if_pos hc_22] at h
              refine r_tabIn C (tgt := 154) d_Mo_count_89 hc_22 (by decide) (by decide) rfl (by decide) ?_
              refine r_aload_n C 0 d_Mo_count_154 rfl rfl ?_
              refine r_iconst C (v := (-1)) d_Mo_count_155 (by decide) ?_
              obtain ⟨r_23, er_23, h⟩ := bind_some h
              refine r_callV C (As := [.int (-1)]) (rest := []) (st1 := [.int r_23.1]) (c_Mo_games X.1.2.1 r_5 (-1) er_23) k_Mo_games m_531 (by decide) cel_Mo rfl rfl rfl rfl (Nat.le_of_ble_eq_true rfl) ⟨Nat.le_of_ble_eq_true rfl, Nat.le_of_ble_eq_true rfl⟩ d_Mo_count_156 rfl ?_
              cases h
              exact hR _ _ d_Mo_count_159
            rw [if_neg hc_22] at h
            by_cases hc_24 : x1 = 8
            · rw [if_pos hc_24] at h
              refine r_tabIn C (tgt := 160) d_Mo_count_89 hc_24 (by decide) (by decide) rfl (by decide) ?_
              refine r_aload_n C 0 d_Mo_count_160 rfl rfl ?_
              obtain ⟨r_25, er_25, h⟩ := bind_some h
              refine r_callV C (As := []) (rest := []) (st1 := [.int r_25.1]) (c_Mo_doRounds X.1.2.1 r_5  er_25) k_Mo_doRounds m_566 (by decide) cel_Mo rfl rfl rfl rfl (Nat.le_of_ble_eq_true rfl) ⟨Nat.le_of_ble_eq_true rfl, Nat.le_of_ble_eq_true rfl⟩ d_Mo_count_161 rfl ?_
              cases h
              exact hR _ _ d_Mo_count_164
            rw [if_neg hc_24] at h
            cases h
          · rw [if_pos hc_7] at h
            refine r_ldc C (v := (-1000000)) m_491 d_Mo_count_85 ?_
            cases h
            exact hR _ _ d_Mo_count_87
        · rw [if_pos hc_6] at h
          refine r_iconst C (v := 0) d_Mo_count_41 (by decide) ?_
          refine r_istore_n C (lv' := [(2, .int 0), (0, .ref (gA X 46)), (1, .int x1)]) d_Mo_count_42 rfl (by decide) rfl rfl ?_
          refine r_iconst C (v := 0) d_Mo_count_43 (by decide) ?_
          refine r_istore_n C (lv' := [(3, .int 0), (2, .int 0), (0, .ref (gA X 46)), (1, .int x1)]) d_Mo_count_44 rfl (by decide) rfl rfl ?_
          refine r_sub [2, 1, 0] (lv' := [(0, .ref (gA X 46)), (2, .int 0), (3, .int 0)]) rfl ?_
          exact u_Mo_count_45 C hR  (0, 0, r_5) h
      · rw [if_pos hc_4] at h
        refine r_aload_n C 0 d_Mo_count_27 rfl rfl ?_
        refine q_Mo_75 C d_Mo_count_28 ?_
        cases h
        exact hR _ _ d_Mo_count_31
    · rw [if_pos hc_3] at h
      refine r_aload_n C 0 d_Mo_count_17 rfl rfl ?_
      refine q_Mo_71 C d_Mo_count_18 ?_
      cases h
      exact hR _ _ d_Mo_count_21
  · rw [if_pos hc_2] at h
    refine r_bipush C (v := (-2)) d_Mo_count_10 (by decide) ?_
    cases h
    exact hR _ _ d_Mo_count_12
set_option maxHeartbeats 4000000 in
set_option maxRecDepth 100000 in
theorem c_Mo_count (l : Launch) (σ : gS) (x1 : Int32) {r : (Int32 × gS)} (h : f_Mo_count σ x1 = some r) : gMet l y_Mo_count b_Mo_count_c 4 (some .int) 5 120 (fun a => [.ref (a 46), .int x1]) σ (some (.int r.1)) r.2 := by
  refine gMet_i (by decide +kernel) (fun a => Nat.le_of_ble_eq_true rfl) (fun X _ C hR => ?_)
  refine r_sub [0, 1] (lv' := [(0, .ref (gA X 46)), (1, .int x1)]) rfl ?_
  exact t_Mo_count_0 C hR x1 σ h
