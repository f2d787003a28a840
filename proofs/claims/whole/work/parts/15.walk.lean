theorem d_Mo_chance_0 : decode b_Mo_chance_c 0 = .ok (.iload_n 3, 1) := by decide +kernel
theorem d_Mo_chance_1 : decode b_Mo_chance_c 1 = .ok (.iconst (-1), 1) := by decide +kernel
theorem d_Mo_chance_2 : decode b_Mo_chance_c 2 = .ok (.if_icmp .eq 7, 3) := by decide +kernel
theorem d_Mo_chance_5 : decode b_Mo_chance_c 5 = .ok (.iconst 3, 1) := by decide +kernel
theorem d_Mo_chance_6 : decode b_Mo_chance_c 6 = .ok (.goto 13, 3) := by decide +kernel
theorem d_Mo_chance_9 : decode b_Mo_chance_c 9 = .ok (.iload_n 2, 1) := by decide +kernel
theorem d_Mo_chance_10 : decode b_Mo_chance_c 10 = .ok (.iconst (-1), 1) := by decide +kernel
theorem d_Mo_chance_11 : decode b_Mo_chance_c 11 = .ok (.if_icmp .eq 7, 3) := by decide +kernel
theorem d_Mo_chance_14 : decode b_Mo_chance_c 14 = .ok (.iconst 2, 1) := by decide +kernel
theorem d_Mo_chance_15 : decode b_Mo_chance_c 15 = .ok (.goto 4, 3) := by decide +kernel
theorem d_Mo_chance_18 : decode b_Mo_chance_c 18 = .ok (.iconst 1, 1) := by decide +kernel
theorem d_Mo_chance_19 : decode b_Mo_chance_c 19 = .ok (.istore 4, 2) := by decide +kernel
theorem d_Mo_chance_21 : decode b_Mo_chance_c 21 = .ok (.aload_n 0, 1) := by decide +kernel
theorem d_Mo_chance_22 : decode b_Mo_chance_c 22 = .ok (.iload_n 1, 1) := by decide +kernel
theorem d_Mo_chance_23 : decode b_Mo_chance_c 23 = .ok (.invokevirtual 90, 3) := by decide +kernel
theorem d_Mo_chance_26 : decode b_Mo_chance_c 26 = .ok (.ifCond .eq 35, 3) := by decide +kernel
theorem d_Mo_chance_29 : decode b_Mo_chance_c 29 = .ok (.iload 4, 2) := by decide +kernel
theorem d_Mo_chance_31 : decode b_Mo_chance_c 31 = .ok (.iconst 2, 1) := by decide +kernel
theorem d_Mo_chance_32 : decode b_Mo_chance_c 32 = .ok (.if_icmp .lt 11, 3) := by decide +kernel
theorem d_Mo_chance_35 : decode b_Mo_chance_c 35 = .ok (.aload_n 0, 1) := by decide +kernel
theorem d_Mo_chance_36 : decode b_Mo_chance_c 36 = .ok (.iload_n 2, 1) := by decide +kernel
theorem d_Mo_chance_37 : decode b_Mo_chance_c 37 = .ok (.invokevirtual 90, 3) := by decide +kernel
theorem d_Mo_chance_40 : decode b_Mo_chance_c 40 = .ok (.ifCond .eq 21, 3) := by decide +kernel
theorem d_Mo_chance_43 : decode b_Mo_chance_c 43 = .ok (.iload 4, 2) := by decide +kernel
theorem d_Mo_chance_45 : decode b_Mo_chance_c 45 = .ok (.iconst 3, 1) := by decide +kernel
theorem d_Mo_chance_46 : decode b_Mo_chance_c 46 = .ok (.if_icmp .lt 11, 3) := by decide +kernel
theorem d_Mo_chance_49 : decode b_Mo_chance_c 49 = .ok (.aload_n 0, 1) := by decide +kernel
theorem d_Mo_chance_50 : decode b_Mo_chance_c 50 = .ok (.iload_n 3, 1) := by decide +kernel
theorem d_Mo_chance_51 : decode b_Mo_chance_c 51 = .ok (.invokevirtual 90, 3) := by decide +kernel
theorem d_Mo_chance_54 : decode b_Mo_chance_c 54 = .ok (.ifCond .eq 7, 3) := by decide +kernel
theorem d_Mo_chance_57 : decode b_Mo_chance_c 57 = .ok (.iconst 1, 1) := by decide +kernel
theorem d_Mo_chance_58 : decode b_Mo_chance_c 58 = .ok (.goto 4, 3) := by decide +kernel
theorem d_Mo_chance_61 : decode b_Mo_chance_c 61 = .ok (.iconst 0, 1) := by decide +kernel
theorem d_Mo_chance_62 : decode b_Mo_chance_c 62 = .ok (.istore 5, 2) := by decide +kernel
theorem d_Mo_chance_64 : decode b_Mo_chance_c 64 = .ok (.iload 5, 2) := by decide +kernel
theorem d_Mo_chance_66 : decode b_Mo_chance_c 66 = .ok (.ifCond .ne 6, 3) := by decide +kernel
theorem d_Mo_chance_69 : decode b_Mo_chance_c 69 = .ok (.bipush (-2), 2) := by decide +kernel
theorem d_Mo_chance_71 : decode b_Mo_chance_c 71 = .ok (.ireturn, 1) := by decide +kernel
theorem d_Mo_chance_72 : decode b_Mo_chance_c 72 = .ok (.aload_n 0, 1) := by decide +kernel
theorem d_Mo_chance_73 : decode b_Mo_chance_c 73 = .ok (.getfield 71, 3) := by decide +kernel
theorem d_Mo_chance_76 : decode b_Mo_chance_c 76 = .ok (.bipush 40, 2) := by decide +kernel
theorem d_Mo_chance_78 : decode b_Mo_chance_c 78 = .ok (.if_icmp .ne 6, 3) := by decide +kernel
theorem d_Mo_chance_81 : decode b_Mo_chance_c 81 = .ok (.bipush (-3), 2) := by decide +kernel
theorem d_Mo_chance_83 : decode b_Mo_chance_c 83 = .ok (.ireturn, 1) := by decide +kernel
theorem d_Mo_chance_84 : decode b_Mo_chance_c 84 = .ok (.aload_n 0, 1) := by decide +kernel
theorem d_Mo_chance_85 : decode b_Mo_chance_c 85 = .ok (.iload 4, 2) := by decide +kernel
theorem d_Mo_chance_87 : decode b_Mo_chance_c 87 = .ok (.iload_n 1, 1) := by decide +kernel
theorem d_Mo_chance_88 : decode b_Mo_chance_c 88 = .ok (.iload_n 2, 1) := by decide +kernel
theorem d_Mo_chance_89 : decode b_Mo_chance_c 89 = .ok (.iload_n 3, 1) := by decide +kernel
theorem d_Mo_chance_90 : decode b_Mo_chance_c 90 = .ok (.iconst 1, 1) := by decide +kernel
theorem d_Mo_chance_91 : decode b_Mo_chance_c 91 = .ok (.invokevirtual 94, 3) := by decide +kernel
theorem d_Mo_chance_94 : decode b_Mo_chance_c 94 = .ok (.istore 6, 2) := by decide +kernel
theorem d_Mo_chance_96 : decode b_Mo_chance_c 96 = .ok (.iload 6, 2) := by decide +kernel
theorem d_Mo_chance_98 : decode b_Mo_chance_c 98 = .ok (.ifCond .eq 6, 3) := by decide +kernel
theorem d_Mo_chance_101 : decode b_Mo_chance_c 101 = .ok (.iload 6, 2) := by decide +kernel
theorem d_Mo_chance_103 : decode b_Mo_chance_c 103 = .ok (.ireturn, 1) := by decide +kernel
theorem d_Mo_chance_104 : decode b_Mo_chance_c 104 = .ok (.aload_n 0, 1) := by decide +kernel
theorem d_Mo_chance_105 : decode b_Mo_chance_c 105 = .ok (.iconst 1, 1) := by decide +kernel
theorem d_Mo_chance_106 : decode b_Mo_chance_c 106 = .ok (.invokevirtual 82, 3) := by decide +kernel
theorem d_Mo_chance_109 : decode b_Mo_chance_c 109 = .ok (.istore 7, 2) := by decide +kernel
theorem d_Mo_chance_111 : decode b_Mo_chance_c 111 = .ok (.aload_n 0, 1) := by decide +kernel
theorem d_Mo_chance_112 : decode b_Mo_chance_c 112 = .ok (.iload 7, 2) := by decide +kernel
theorem d_Mo_chance_114 : decode b_Mo_chance_c 114 = .ok (.iload 4, 2) := by decide +kernel
theorem d_Mo_chance_116 : decode b_Mo_chance_c 116 = .ok (.iload_n 1, 1) := by decide +kernel
theorem d_Mo_chance_117 : decode b_Mo_chance_c 117 = .ok (.iload_n 2, 1) := by decide +kernel
theorem d_Mo_chance_118 : decode b_Mo_chance_c 118 = .ok (.iload_n 3, 1) := by decide +kernel
theorem d_Mo_chance_119 : decode b_Mo_chance_c 119 = .ok (.iconst 1, 1) := by decide +kernel
theorem d_Mo_chance_120 : decode b_Mo_chance_c 120 = .ok (.invokevirtual 98, 3) := by decide +kernel
theorem d_Mo_chance_123 : decode b_Mo_chance_c 123 = .ok (.aload_n 0, 1) := by decide +kernel
theorem d_Mo_chance_124 : decode b_Mo_chance_c 124 = .ok (.invokevirtual 102, 3) := by decide +kernel
theorem d_Mo_chance_127 : decode b_Mo_chance_c 127 = .ok (.ifCond .eq 15, 3) := by decide +kernel
theorem d_Mo_chance_130 : decode b_Mo_chance_c 130 = .ok (.aload_n 0, 1) := by decide +kernel
theorem d_Mo_chance_131 : decode b_Mo_chance_c 131 = .ok (.iload 4, 2) := by decide +kernel
theorem d_Mo_chance_133 : decode b_Mo_chance_c 133 = .ok (.iload_n 1, 1) := by decide +kernel
theorem d_Mo_chance_134 : decode b_Mo_chance_c 134 = .ok (.iload_n 2, 1) := by decide +kernel
theorem d_Mo_chance_135 : decode b_Mo_chance_c 135 = .ok (.iload_n 3, 1) := by decide +kernel
theorem d_Mo_chance_136 : decode b_Mo_chance_c 136 = .ok (.invokevirtual 106, 3) := by decide +kernel
theorem d_Mo_chance_139 : decode b_Mo_chance_c 139 = .ok (.bipush (-6), 2) := by decide +kernel
theorem d_Mo_chance_141 : decode b_Mo_chance_c 141 = .ok (.ireturn, 1) := by decide +kernel
theorem d_Mo_chance_142 : decode b_Mo_chance_c 142 = .ok (.iload 7, 2) := by decide +kernel
theorem d_Mo_chance_144 : decode b_Mo_chance_c 144 = .ok (.ireturn, 1) := by decide +kernel
/-! GameRowsModel.chance(III)I -/
set_option maxHeartbeats 4000000 in
set_option maxRecDepth 100000 in
theorem t_Mo_chance_62 {X : gX} {r : (Int32 × gS)} (C : gC X b_Mo_chance_c R_Mo 8 2 53) (hR : ∀ pc lv, decode b_Mo_chance_c pc = .ok (.ireturn, 1) → G X pc lv [.int r.1] r.2) (x1 : Int32) (x2 : Int32) (x3 : Int32) (x4 : Int32) (y0 : Int32) (σ : gS) (h : b_Mo_chance_62 x1 x2 x3 x4 y0 σ = some r) : G X 62 [(0, .ref (gA X 46)), (1, .int x1), (2, .int x2), (3, .int x3), (4, .int x4)] [.int y0] σ := by
  unfold b_Mo_chance_62 at h
  refine r_istore C (lv' := [(5, .int y0), (0, .ref (gA X 46)), (1, .int x1), (2, .int x2), (3, .int x3), (4, .int x4)]) d_Mo_chance_62 (by decide) rfl rfl ?_
  refine r_iload C 0 d_Mo_chance_64 rfl ?_
  refine r_if_ne C (tgt := 72) d_Mo_chance_66 (by decide) (fun hc_1 => ?_) (fun hc_1 => ?_)
  · rw [if_neg hc_1] at h
    refine r_aload_n C 1 d_Mo_chance_72 rfl rfl ?_
    refine q_Mo_71 C d_Mo_chance_73 ?_
    refine r_bipush C (v := 40) d_Mo_chance_76 (by decide) ?_
    refine r_icmp_ne C (tgt := 84) d_Mo_chance_78 (by decide) (fun hc_2 => ?_) (fun hc_2 => ?_)
    · rw [if_neg hc_2] at h
      refine r_aload_n C 1 d_Mo_chance_84 rfl rfl ?_
      refine r_iload C 5 d_Mo_chance_85 rfl ?_
      refine r_iload_n C 2 d_Mo_chance_87 rfl rfl ?_
      refine r_iload_n C 3 d_Mo_chance_88 rfl rfl ?_
      refine r_iload_n C 4 d_Mo_chance_89 rfl rfl ?_
      refine r_iconst C (v := 1) d_Mo_chance_90 (by decide) ?_
      obtain ⟨r_3, er_3, h⟩ := bind_some h
      refine r_callV C (As := [.int x4, .int x1, .int x2, .int x3, .int 1]) (rest := []) (st1 := [.int r_3]) (c_Mo_bar X.1.2.1 σ x4 x1 x2 x3 1 er_3) k_Mo_bar m_450 (by decide) cel_Mo rfl rfl rfl rfl (Nat.le_of_ble_eq_true rfl) ⟨Nat.le_of_ble_eq_true rfl, Nat.le_of_ble_eq_true rfl⟩ d_Mo_chance_91 rfl ?_
      refine r_istore C (lv' := [(6, .int r_3), (5, .int y0), (0, .ref (gA X 46)), (1, .int x1), (2, .int x2), (3, .int x3), (4, .int x4)]) d_Mo_chance_94 (by decide) rfl rfl ?_
      refine r_iload C 0 d_Mo_chance_96 rfl ?_
      refine r_if_eq C (tgt := 104) d_Mo_chance_98 (by decide) (fun hc_4 => ?_) (fun hc_4 => ?_)
      · rw [if_pos hc_4] at h
        refine r_aload_n C 2 d_Mo_chance_104 rfl rfl ?_
        refine r_iconst C (v := 1) d_Mo_chance_105 (by decide) ?_
        obtain ⟨r_5, er_5, h⟩ := bind_some h
        refine r_callV C (As := [.int 1]) (rest := []) (st1 := [.int r_5.1]) (c_Mo_make X.1.2.1 σ 1 er_5) k_Mo_make m_433 (by decide) cel_Mo rfl rfl rfl rfl (Nat.le_of_ble_eq_true rfl) ⟨Nat.le_of_ble_eq_true rfl, Nat.le_of_ble_eq_true rfl⟩ d_Mo_chance_106 rfl ?_
        obtain ⟨x7_6, ex7_6, h⟩ := bnd_some h
        refine r_istore C (lv' := [(7, .int x7_6), (6, .int r_3), (5, .int y0), (0, .ref (gA X 46)), (1, .int x1), (2, .int x2), (3, .int x3), (4, .int x4)]) d_Mo_chance_109 (by decide) ex7_6 rfl ?_
        refine r_aload_n C 3 d_Mo_chance_111 rfl rfl ?_
        refine r_iload C 0 d_Mo_chance_112 rfl ?_
        refine r_iload C 7 d_Mo_chance_114 rfl ?_
        refine r_iload_n C 4 d_Mo_chance_116 rfl rfl ?_
        refine r_iload_n C 5 d_Mo_chance_117 rfl rfl ?_
        refine r_iload_n C 6 d_Mo_chance_118 rfl rfl ?_
        refine r_iconst C (v := 1) d_Mo_chance_119 (by decide) ?_
        obtain ⟨r_7, er_7, h⟩ := bind_some h
        refine r_callV C (As := [.int x7_6, .int x4, .int x1, .int x2, .int x3, .int 1]) (rest := []) (st1 := []) (c_Mo_adopt X.1.2.1 r_5.2 x7_6 x4 x1 x2 x3 1 er_7) k_Mo_adopt m_454 (by decide) cel_Mo rfl rfl rfl rfl (Nat.le_of_ble_eq_true rfl) ⟨Nat.le_of_ble_eq_true rfl, Nat.le_of_ble_eq_true rfl⟩ d_Mo_chance_120 rfl ?_
        refine r_aload_n C 3 d_Mo_chance_123 rfl rfl ?_
        obtain ⟨r_8, er_8, h⟩ := bind_some h
        refine r_callV C (As := []) (rest := []) (st1 := [.int r_8.1]) (c_Mo_tooMany X.1.2.1 r_7  er_8) k_Mo_tooMany m_458 (by decide) cel_Mo rfl rfl rfl rfl (Nat.le_of_ble_eq_true rfl) ⟨Nat.le_of_ble_eq_true rfl, Nat.le_of_ble_eq_true rfl⟩ d_Mo_chance_124 rfl ?_
        refine r_if_eq C (tgt := 142) d_Mo_chance_127 (by decide) (fun hc_9 => ?_) (fun hc_9 => ?_)
        · rw [if_pos hc_9] at h
          refine r_iload C 0 d_Mo_chance_142 rfl ?_
          cases h
          exact hR _ _ d_Mo_chance_144
        · rw [if_neg hc_9] at h
          refine r_aload_n C 3 d_Mo_chance_130 rfl rfl ?_
          refine r_iload C 7 d_Mo_chance_131 rfl ?_
          refine r_iload_n C 4 d_Mo_chance_133 rfl rfl ?_
          refine r_iload_n C 5 d_Mo_chance_134 rfl rfl ?_
          refine r_iload_n C 6 d_Mo_chance_135 rfl rfl ?_
          obtain ⟨r_10, er_10, h⟩ := bind_some h
          refine r_callV C (As := [.int x4, .int x1, .int x2, .int x3]) (rest := []) (st1 := []) (c_Mo_undo X.1.2.1 r_8.2 x4 x1 x2 x3 er_10) k_Mo_undo m_462 (by decide) cel_Mo rfl rfl rfl rfl (Nat.le_of_ble_eq_true rfl) ⟨Nat.le_of_ble_eq_true rfl, Nat.le_of_ble_eq_true rfl⟩ d_Mo_chance_136 rfl ?_
          refine r_bipush C (v := (-6)) d_Mo_chance_139 (by decide) ?_
          cases h
          exact hR _ _ d_Mo_chance_141
      · rw [if_neg hc_4] at h
        refine r_iload C 0 d_Mo_chance_101 rfl ?_
        cases h
        exact hR _ _ d_Mo_chance_103
    · rw [if_pos hc_2] at h
      refine r_bipush C (v := (-3)) d_Mo_chance_81 (by decide) ?_
      cases h
      exact hR _ _ d_Mo_chance_83
  · rw [if_pos hc_1] at h
    refine r_bipush C (v := (-2)) d_Mo_chance_69 (by decide) ?_
    cases h
    exact hR _ _ d_Mo_chance_71
set_option maxHeartbeats 4000000 in
set_option maxRecDepth 100000 in
theorem t_Mo_chance_61 {X : gX} {r : (Int32 × gS)} (C : gC X b_Mo_chance_c R_Mo 8 2 53) (hR : ∀ pc lv, decode b_Mo_chance_c pc = .ok (.ireturn, 1) → G X pc lv [.int r.1] r.2) (x1 : Int32) (x2 : Int32) (x3 : Int32) (x4 : Int32) (σ : gS) (h : b_Mo_chance_61 x1 x2 x3 x4 σ = some r) : G X 61 [(0, .ref (gA X 46)), (1, .int x1), (2, .int x2), (3, .int x3), (4, .int x4)] [] σ := by
  unfold b_Mo_chance_61 at h
  refine r_iconst C (v := 0) d_Mo_chance_61 (by decide) ?_
  exact t_Mo_chance_62 C hR x1 x2 x3 x4 0 σ h
set_option maxHeartbeats 4000000 in
set_option maxRecDepth 100000 in
theorem t_Mo_chance_57 {X : gX} {r : (Int32 × gS)} (C : gC X b_Mo_chance_c R_Mo 8 2 53) (hR : ∀ pc lv, decode b_Mo_chance_c pc = .ok (.ireturn, 1) → G X pc lv [.int r.1] r.2) (x1 : Int32) (x2 : Int32) (x3 : Int32) (x4 : Int32) (σ : gS) (h : b_Mo_chance_57 x1 x2 x3 x4 σ = some r) : G X 57 [(0, .ref (gA X 46)), (1, .int x1), (2, .int x2), (3, .int x3), (4, .int x4)] [] σ := by
  unfold b_Mo_chance_57 at h
  refine r_iconst C (v := 1) d_Mo_chance_57 (by decide) ?_
  refine r_goto C (tgt := 62) d_Mo_chance_58 (by decide) ?_
  exact t_Mo_chance_62 C hR x1 x2 x3 x4 1 σ h
set_option maxHeartbeats 4000000 in
set_option maxRecDepth 100000 in
theorem t_Mo_chance_43 {X : gX} {r : (Int32 × gS)} (C : gC X b_Mo_chance_c R_Mo 8 2 53) (hR : ∀ pc lv, decode b_Mo_chance_c pc = .ok (.ireturn, 1) → G X pc lv [.int r.1] r.2) (x1 : Int32) (x2 : Int32) (x3 : Int32) (x4 : Int32) (σ : gS) (h : b_Mo_chance_43 x1 x2 x3 x4 σ = some r) : G X 43 [(0, .ref (gA X 46)), (1, .int x1), (2, .int x2), (3, .int x3), (4, .int x4)] [] σ := by
  unfold b_Mo_chance_43 at h
  refine r_iload C 4 d_Mo_chance_43 rfl ?_
  refine r_iconst C (v := 3) d_Mo_chance_45 (by decide) ?_
  refine r_icmp_lt C (tgt := 57) d_Mo_chance_46 (by decide) (fun hc_1 => ?_) (fun hc_1 => ?_)
  · rw [if_pos hc_1] at h
    exact t_Mo_chance_57 C hR x1 x2 x3 x4 σ h
  · rw [if_neg hc_1] at h
    refine r_aload_n C 0 d_Mo_chance_49 rfl rfl ?_
    refine r_iload_n C 3 d_Mo_chance_50 rfl rfl ?_
    obtain ⟨r_2, er_2, h⟩ := bind_some h
    refine r_callV C (As := [.int x3]) (rest := []) (st1 := [.int r_2]) (c_Mo_isNode X.1.2.1 σ x3 er_2) k_Mo_isNode m_466 (by decide) cel_Mo rfl rfl rfl rfl (Nat.le_of_ble_eq_true rfl) ⟨Nat.le_of_ble_eq_true rfl, Nat.le_of_ble_eq_true rfl⟩ d_Mo_chance_51 rfl ?_
    refine r_if_eq C (tgt := 61) d_Mo_chance_54 (by decide) (fun hc_3 => ?_) (fun hc_3 => ?_)
    · rw [if_pos hc_3] at h
      exact t_Mo_chance_61 C hR x1 x2 x3 x4 σ h
    · rw [if_neg hc_3] at h
      exact t_Mo_chance_57 C hR x1 x2 x3 x4 σ h
set_option maxHeartbeats 4000000 in
set_option maxRecDepth 100000 in
theorem t_Mo_chance_19 {X : gX} {r : (Int32 × gS)} (C : gC X b_Mo_chance_c R_Mo 8 2 53) (hR : ∀ pc lv, decode b_Mo_chance_c pc = .ok (.ireturn, 1) → G X pc lv [.int r.1] r.2) (x1 : Int32) (x2 : Int32) (x3 : Int32) (y0 : Int32) (σ : gS) (h : b_Mo_chance_19 x1 x2 x3 y0 σ = some r) : G X 19 [(0, .ref (gA X 46)), (1, .int x1), (2, .int x2), (3, .int x3)] [.int y0] σ := by
  unfold b_Mo_chance_19 at h
  refine r_istore C (lv' := [(4, .int y0), (0, .ref (gA X 46)), (1, .int x1), (2, .int x2), (3, .int x3)]) d_Mo_chance_19 (by decide) rfl rfl ?_
  refine r_aload_n C 1 d_Mo_chance_21 rfl rfl ?_
  refine r_iload_n C 2 d_Mo_chance_22 rfl rfl ?_
  obtain ⟨r_1, er_1, h⟩ := bind_some h
  refine r_callV C (As := [.int x1]) (rest := []) (st1 := [.int r_1]) (c_Mo_isNode X.1.2.1 σ x1 er_1) k_Mo_isNode m_466 (by decide) cel_Mo rfl rfl rfl rfl (Nat.le_of_ble_eq_true rfl) ⟨Nat.le_of_ble_eq_true rfl, Nat.le_of_ble_eq_true rfl⟩ d_Mo_chance_23 rfl ?_
  refine r_if_eq C (tgt := 61) d_Mo_chance_26 (by decide) (fun hc_2 => ?_) (fun hc_2 => ?_)
  · rw [if_pos hc_2] at h
    refine r_sub [1, 2, 3, 4, 0] (lv' := [(0, .ref (gA X 46)), (1, .int x1), (2, .int x2), (3, .int x3), (4, .int y0)]) rfl ?_
    exact t_Mo_chance_61 C hR x1 x2 x3 y0 σ h
  · rw [if_neg hc_2] at h
    refine r_iload C 0 d_Mo_chance_29 rfl ?_
    refine r_iconst C (v := 2) d_Mo_chance_31 (by decide) ?_
    refine r_icmp_lt C (tgt := 43) d_Mo_chance_32 (by decide) (fun hc_3 => ?_) (fun hc_3 => ?_)
    · rw [if_pos hc_3] at h
      refine r_sub [1, 2, 3, 4, 0] (lv' := [(0, .ref (gA X 46)), (1, .int x1), (2, .int x2), (3, .int x3), (4, .int y0)]) rfl ?_
      exact t_Mo_chance_43 C hR x1 x2 x3 y0 σ h
    · rw [if_neg hc_3] at h
      refine r_aload_n C 1 d_Mo_chance_35 rfl rfl ?_
      refine r_iload_n C 3 d_Mo_chance_36 rfl rfl ?_
      obtain ⟨r_4, er_4, h⟩ := bind_some h
      refine r_callV C (As := [.int x2]) (rest := []) (st1 := [.int r_4]) (c_Mo_isNode X.1.2.1 σ x2 er_4) k_Mo_isNode m_466 (by decide) cel_Mo rfl rfl rfl rfl (Nat.le_of_ble_eq_true rfl) ⟨Nat.le_of_ble_eq_true rfl, Nat.le_of_ble_eq_true rfl⟩ d_Mo_chance_37 rfl ?_
      refine r_if_eq C (tgt := 61) d_Mo_chance_40 (by decide) (fun hc_5 => ?_) (fun hc_5 => ?_)
      · rw [if_pos hc_5] at h
        refine r_sub [1, 2, 3, 4, 0] (lv' := [(0, .ref (gA X 46)), (1, .int x1), (2, .int x2), (3, .int x3), (4, .int y0)]) rfl ?_
        exact t_Mo_chance_61 C hR x1 x2 x3 y0 σ h
      · rw [if_neg hc_5] at h
        refine r_sub [1, 2, 3, 4, 0] (lv' := [(0, .ref (gA X 46)), (1, .int x1), (2, .int x2), (3, .int x3), (4, .int y0)]) rfl ?_
        exact t_Mo_chance_43 C hR x1 x2 x3 y0 σ h
set_option maxHeartbeats 4000000 in
set_option maxRecDepth 100000 in
theorem t_Mo_chance_0 {X : gX} {r : (Int32 × gS)} (C : gC X b_Mo_chance_c R_Mo 8 2 53) (hR : ∀ pc lv, decode b_Mo_chance_c pc = .ok (.ireturn, 1) → G X pc lv [.int r.1] r.2) (x1 : Int32) (x2 : Int32) (x3 : Int32) (σ : gS) (h : b_Mo_chance_0 x1 x2 x3 σ = some r) : G X 0 [(0, .ref (gA X 46)), (1, .int x1), (2, .int x2), (3, .int x3)] [] σ := by
  unfold b_Mo_chance_0 at h
  refine r_iload_n C 3 d_Mo_chance_0 rfl rfl ?_
  refine r_iconst C (v := (-1)) d_Mo_chance_1 (by decide) ?_
  refine r_icmp_eq C (tgt := 9) d_Mo_chance_2 (by decide) (fun hc_1 => ?_) (fun hc_1 => ?_)
  · rw [if_pos hc_1] at h
    refine r_iload_n C 2 d_Mo_chance_9 rfl rfl ?_
    refine r_iconst C (v := (-1)) d_Mo_chance_10 (by decide) ?_
    refine r_icmp_eq C (tgt := 18) d_Mo_chance_11 (by decide) (fun hc_2 => ?_) (fun hc_2 => ?_)
    · rw [if_pos hc_2] at h
      refine r_iconst C (v := 1) d_Mo_chance_18 (by decide) ?_
      exact t_Mo_chance_19 C hR x1 x2 x3 1 σ h
    · rw [if_neg hc_2] at h
      refine r_iconst C (v := 2) d_Mo_chance_14 (by decide) ?_
      refine r_goto C (tgt := 19) d_Mo_chance_15 (by decide) ?_
      exact t_Mo_chance_19 C hR x1 x2 x3 2 σ h
  · rw [if_neg hc_1] at h
    refine r_iconst C (v := 3) d_Mo_chance_5 (by decide) ?_
    refine r_goto C (tgt := 19) d_Mo_chance_6 (by decide) ?_
    exact t_Mo_chance_19 C hR x1 x2 x3 3 σ h
set_option maxHeartbeats 4000000 in
set_option maxRecDepth 100000 in
theorem c_Mo_chance (l : Launch) (σ : gS) (x1 : Int32) (x2 : Int32) (x3 : Int32) {r : (Int32 × gS)} (h : f_Mo_chance σ x1 x2 x3 = some r) : gMet l y_Mo_chance b_Mo_chance_c 8 (some .int) 2 53 (fun a => [.ref (a 46), .int x1, .int x2, .int x3]) σ (some (.int r.1)) r.2 := by
  refine gMet_i (by decide +kernel) (fun a => Nat.le_of_ble_eq_true rfl) (fun X _ C hR => ?_)
  refine r_sub [0, 1, 2, 3] (lv' := [(0, .ref (gA X 46)), (1, .int x1), (2, .int x2), (3, .int x3)]) rfl ?_
  exact t_Mo_chance_0 C hR x1 x2 x3 σ h
theorem d_Mo_node_0 : decode b_Mo_node_c 0 = .ok (.iload_n 1, 1) := by decide +kernel
theorem d_Mo_node_1 : decode b_Mo_node_c 1 = .ok (.iconst 0, 1) := by decide +kernel
theorem d_Mo_node_2 : decode b_Mo_node_c 2 = .ok (.aload_n 0, 1) := by decide +kernel
theorem d_Mo_node_3 : decode b_Mo_node_c 3 = .ok (.getfield 75, 3) := by decide +kernel
theorem d_Mo_node_6 : decode b_Mo_node_c 6 = .ok (.iconst 1, 1) := by decide +kernel
theorem d_Mo_node_7 : decode b_Mo_node_c 7 = .ok (.isub, 1) := by decide +kernel
theorem d_Mo_node_8 : decode b_Mo_node_c 8 = .ok (.invokestatic 78, 3) := by decide +kernel
theorem d_Mo_node_11 : decode b_Mo_node_c 11 = .ok (.ifCond .eq 38, 3) := by decide +kernel
theorem d_Mo_node_14 : decode b_Mo_node_c 14 = .ok (.aload_n 0, 1) := by decide +kernel
theorem d_Mo_node_15 : decode b_Mo_node_c 15 = .ok (.iload_n 2, 1) := by decide +kernel
theorem d_Mo_node_16 : decode b_Mo_node_c 16 = .ok (.invokevirtual 90, 3) := by decide +kernel
theorem d_Mo_node_19 : decode b_Mo_node_c 19 = .ok (.ifCond .eq 30, 3) := by decide +kernel
theorem d_Mo_node_22 : decode b_Mo_node_c 22 = .ok (.aload_n 0, 1) := by decide +kernel
theorem d_Mo_node_23 : decode b_Mo_node_c 23 = .ok (.iload_n 3, 1) := by decide +kernel
theorem d_Mo_node_24 : decode b_Mo_node_c 24 = .ok (.invokevirtual 90, 3) := by decide +kernel
theorem d_Mo_node_27 : decode b_Mo_node_c 27 = .ok (.ifCond .eq 22, 3) := by decide +kernel
theorem d_Mo_node_30 : decode b_Mo_node_c 30 = .ok (.aload_n 0, 1) := by decide +kernel
theorem d_Mo_node_31 : decode b_Mo_node_c 31 = .ok (.getfield 34, 3) := by decide +kernel
theorem d_Mo_node_34 : decode b_Mo_node_c 34 = .ok (.iload_n 1, 1) := by decide +kernel
theorem d_Mo_node_35 : decode b_Mo_node_c 35 = .ok (.iaload, 1) := by decide +kernel
theorem d_Mo_node_36 : decode b_Mo_node_c 36 = .ok (.iconst 2, 1) := by decide +kernel
theorem d_Mo_node_37 : decode b_Mo_node_c 37 = .ok (.if_icmp .le 15, 3) := by decide +kernel
theorem d_Mo_node_40 : decode b_Mo_node_c 40 = .ok (.aload_n 0, 1) := by decide +kernel
theorem d_Mo_node_41 : decode b_Mo_node_c 41 = .ok (.iload 4, 2) := by decide +kernel
theorem d_Mo_node_43 : decode b_Mo_node_c 43 = .ok (.invokevirtual 90, 3) := by decide +kernel
theorem d_Mo_node_46 : decode b_Mo_node_c 46 = .ok (.ifCond .ne 6, 3) := by decide +kernel
theorem d_Mo_node_49 : decode b_Mo_node_c 49 = .ok (.bipush (-2), 2) := by decide +kernel
theorem d_Mo_node_51 : decode b_Mo_node_c 51 = .ok (.ireturn, 1) := by decide +kernel
theorem d_Mo_node_52 : decode b_Mo_node_c 52 = .ok (.aload_n 0, 1) := by decide +kernel
theorem d_Mo_node_53 : decode b_Mo_node_c 53 = .ok (.getfield 71, 3) := by decide +kernel
theorem d_Mo_node_56 : decode b_Mo_node_c 56 = .ok (.bipush 40, 2) := by decide +kernel
theorem d_Mo_node_58 : decode b_Mo_node_c 58 = .ok (.if_icmp .ne 6, 3) := by decide +kernel
theorem d_Mo_node_61 : decode b_Mo_node_c 61 = .ok (.bipush (-3), 2) := by decide +kernel
theorem d_Mo_node_63 : decode b_Mo_node_c 63 = .ok (.ireturn, 1) := by decide +kernel
theorem d_Mo_node_64 : decode b_Mo_node_c 64 = .ok (.aload_n 0, 1) := by decide +kernel
theorem d_Mo_node_65 : decode b_Mo_node_c 65 = .ok (.getfield 34, 3) := by decide +kernel
theorem d_Mo_node_68 : decode b_Mo_node_c 68 = .ok (.iload_n 1, 1) := by decide +kernel
theorem d_Mo_node_69 : decode b_Mo_node_c 69 = .ok (.iaload, 1) := by decide +kernel
theorem d_Mo_node_70 : decode b_Mo_node_c 70 = .ok (.istore 5, 2) := by decide +kernel
theorem d_Mo_node_72 : decode b_Mo_node_c 72 = .ok (.aload_n 0, 1) := by decide +kernel
theorem d_Mo_node_73 : decode b_Mo_node_c 73 = .ok (.iload 5, 2) := by decide +kernel
theorem d_Mo_node_75 : decode b_Mo_node_c 75 = .ok (.iload_n 2, 1) := by decide +kernel
theorem d_Mo_node_76 : decode b_Mo_node_c 76 = .ok (.iload_n 3, 1) := by decide +kernel
theorem d_Mo_node_77 : decode b_Mo_node_c 77 = .ok (.iload 4, 2) := by decide +kernel
theorem d_Mo_node_79 : decode b_Mo_node_c 79 = .ok (.iconst 0, 1) := by decide +kernel
theorem d_Mo_node_80 : decode b_Mo_node_c 80 = .ok (.invokevirtual 94, 3) := by decide +kernel
theorem d_Mo_node_83 : decode b_Mo_node_c 83 = .ok (.istore 6, 2) := by decide +kernel
theorem d_Mo_node_85 : decode b_Mo_node_c 85 = .ok (.iload 6, 2) := by decide +kernel
theorem d_Mo_node_87 : decode b_Mo_node_c 87 = .ok (.ifCond .eq 6, 3) := by decide +kernel
theorem d_Mo_node_90 : decode b_Mo_node_c 90 = .ok (.iload 6, 2) := by decide +kernel
theorem d_Mo_node_92 : decode b_Mo_node_c 92 = .ok (.ireturn, 1) := by decide +kernel
theorem d_Mo_node_93 : decode b_Mo_node_c 93 = .ok (.aload_n 0, 1) := by decide +kernel
theorem d_Mo_node_94 : decode b_Mo_node_c 94 = .ok (.iconst 2, 1) := by decide +kernel
theorem d_Mo_node_95 : decode b_Mo_node_c 95 = .ok (.invokevirtual 82, 3) := by decide +kernel
theorem d_Mo_node_98 : decode b_Mo_node_c 98 = .ok (.istore 7, 2) := by decide +kernel
theorem d_Mo_node_100 : decode b_Mo_node_c 100 = .ok (.aload_n 0, 1) := by decide +kernel
theorem d_Mo_node_101 : decode b_Mo_node_c 101 = .ok (.getfield 13, 3) := by decide +kernel
theorem d_Mo_node_104 : decode b_Mo_node_c 104 = .ok (.iload 7, 2) := by decide +kernel
theorem d_Mo_node_106 : decode b_Mo_node_c 106 = .ok (.iload_n 1, 1) := by decide +kernel
theorem d_Mo_node_107 : decode b_Mo_node_c 107 = .ok (.iastore, 1) := by decide +kernel
theorem d_Mo_node_108 : decode b_Mo_node_c 108 = .ok (.aload_n 0, 1) := by decide +kernel
theorem d_Mo_node_109 : decode b_Mo_node_c 109 = .ok (.iload 7, 2) := by decide +kernel
theorem d_Mo_node_111 : decode b_Mo_node_c 111 = .ok (.iload 5, 2) := by decide +kernel
theorem d_Mo_node_113 : decode b_Mo_node_c 113 = .ok (.iload_n 2, 1) := by decide +kernel
theorem d_Mo_node_114 : decode b_Mo_node_c 114 = .ok (.iload_n 3, 1) := by decide +kernel
theorem d_Mo_node_115 : decode b_Mo_node_c 115 = .ok (.iload 4, 2) := by decide +kernel
theorem d_Mo_node_117 : decode b_Mo_node_c 117 = .ok (.iconst 0, 1) := by decide +kernel
theorem d_Mo_node_118 : decode b_Mo_node_c 118 = .ok (.invokevirtual 98, 3) := by decide +kernel
theorem d_Mo_node_121 : decode b_Mo_node_c 121 = .ok (.aload_n 0, 1) := by decide +kernel
theorem d_Mo_node_122 : decode b_Mo_node_c 122 = .ok (.invokevirtual 102, 3) := by decide +kernel
theorem d_Mo_node_125 : decode b_Mo_node_c 125 = .ok (.ifCond .eq 16, 3) := by decide +kernel
theorem d_Mo_node_128 : decode b_Mo_node_c 128 = .ok (.aload_n 0, 1) := by decide +kernel
theorem d_Mo_node_129 : decode b_Mo_node_c 129 = .ok (.iload 5, 2) := by decide +kernel
theorem d_Mo_node_131 : decode b_Mo_node_c 131 = .ok (.iload_n 2, 1) := by decide +kernel
theorem d_Mo_node_132 : decode b_Mo_node_c 132 = .ok (.iload_n 3, 1) := by decide +kernel
theorem d_Mo_node_133 : decode b_Mo_node_c 133 = .ok (.iload 4, 2) := by decide +kernel
theorem d_Mo_node_135 : decode b_Mo_node_c 135 = .ok (.invokevirtual 106, 3) := by decide +kernel
theorem d_Mo_node_138 : decode b_Mo_node_c 138 = .ok (.bipush (-6), 2) := by decide +kernel
theorem d_Mo_node_140 : decode b_Mo_node_c 140 = .ok (.ireturn, 1) := by decide +kernel
theorem d_Mo_node_141 : decode b_Mo_node_c 141 = .ok (.iload 7, 2) := by decide +kernel
theorem d_Mo_node_143 : decode b_Mo_node_c 143 = .ok (.ireturn, 1) := by decide +kernel
/-! GameRowsModel.node(IIII)I -/
set_option maxHeartbeats 4000000 in
set_option maxRecDepth 100000 in
theorem t_Mo_node_52 {X : gX} {r : (Int32 × gS)} (C : gC X b_Mo_node_c R_Mo 8 2 53) (hR : ∀ pc lv, decode b_Mo_node_c pc = .ok (.ireturn, 1) → G X pc lv [.int r.1] r.2) (x1 : Int32) (x2 : Int32) (x3 : Int32) (x4 : Int32) (σ : gS) (h : b_Mo_node_52 x1 x2 x3 x4 σ = some r) : G X 52 [(0, .ref (gA X 46)), (1, .int x1), (2, .int x2), (3, .int x3), (4, .int x4)] [] σ := by
  unfold b_Mo_node_52 at h
  refine r_aload_n C 0 d_Mo_node_52 rfl rfl ?_
  refine q_Mo_71 C d_Mo_node_53 ?_
  refine r_bipush C (v := 40) d_Mo_node_56 (by decide) ?_
  refine r_icmp_ne C (tgt := 64) d_Mo_node_58 (by decide) (fun hc_1 => ?_) (fun hc_1 => ?_)
  · rw [if_neg hc_1] at h
    refine r_aload_n C 0 d_Mo_node_64 rfl rfl ?_
    refine q_Mo_34 C d_Mo_node_65 ?_
    refine r_iload_n C 1 d_Mo_node_68 rfl rfl ?_
    obtain ⟨hi_2, h⟩ := ck_some h
    refine r_iald C hi_2 d_Mo_node_69 ?_
    obtain ⟨x5_3, ex5_3, h⟩ := bnd_some h
    refine r_istore C (lv' := [(5, .int x5_3), (0, .ref (gA X 46)), (1, .int x1), (2, .int x2), (3, .int x3), (4, .int x4)]) d_Mo_node_70 (by decide) ex5_3 rfl ?_
    refine r_aload_n C 1 d_Mo_node_72 rfl rfl ?_
    refine r_iload C 0 d_Mo_node_73 rfl ?_
    refine r_iload_n C 3 d_Mo_node_75 rfl rfl ?_
    refine r_iload_n C 4 d_Mo_node_76 rfl rfl ?_
    refine r_iload C 5 d_Mo_node_77 rfl ?_
    refine r_iconst C (v := 0) d_Mo_node_79 (by decide) ?_
    obtain ⟨r_4, er_4, h⟩ := bind_some h
    refine r_callV C (As := [.int x5_3, .int x2, .int x3, .int x4, .int 0]) (rest := []) (st1 := [.int r_4]) (c_Mo_bar X.1.2.1 σ x5_3 x2 x3 x4 0 er_4) k_Mo_bar m_450 (by decide) cel_Mo rfl rfl rfl rfl (Nat.le_of_ble_eq_true rfl) ⟨Nat.le_of_ble_eq_true rfl, Nat.le_of_ble_eq_true rfl⟩ d_Mo_node_80 rfl ?_
    refine r_istore C (lv' := [(6, .int r_4), (5, .int x5_3), (0, .ref (gA X 46)), (1, .int x1), (2, .int x2), (3, .int x3), (4, .int x4)]) d_Mo_node_83 (by decide) rfl rfl ?_
    refine r_iload C 0 d_Mo_node_85 rfl ?_
    refine r_if_eq C (tgt := 93) d_Mo_node_87 (by decide) (fun hc_5 => ?_) (fun hc_5 => ?_)
    · rw [if_pos hc_5] at h
      refine r_aload_n C 2 d_Mo_node_93 rfl rfl ?_
      refine r_iconst C (v := 2) d_Mo_node_94 (by decide) ?_
      obtain ⟨r_6, er_6, h⟩ := bind_some h
      refine r_callV C (As := [.int 2]) (rest := []) (st1 := [.int r_6.1]) (c_Mo_make X.1.2.1 σ 2 er_6) k_Mo_make m_433 (by decide) cel_Mo rfl rfl rfl rfl (Nat.le_of_ble_eq_true rfl) ⟨Nat.le_of_ble_eq_true rfl, Nat.le_of_ble_eq_true rfl⟩ d_Mo_node_95 rfl ?_
      obtain ⟨x7_7, ex7_7, h⟩ := bnd_some h
      refine r_istore C (lv' := [(7, .int x7_7), (6, .int r_4), (5, .int x5_3), (0, .ref (gA X 46)), (1, .int x1), (2, .int x2), (3, .int x3), (4, .int x4)]) d_Mo_node_98 (by decide) ex7_7 rfl ?_
      refine r_aload_n C 3 d_Mo_node_100 rfl rfl ?_
      refine q_Mo_13 C d_Mo_node_101 ?_
      refine r_iload C 0 d_Mo_node_104 rfl ?_
      refine r_iload_n C 4 d_Mo_node_106 rfl rfl ?_
      obtain ⟨hi_8, h⟩ := ck_some h
      obtain ⟨σ_9, eσ_9, h⟩ := bnd_some h
      refine r_iast C hi_8 eσ_9 d_Mo_node_107 ?_
      refine r_aload_n C 3 d_Mo_node_108 rfl rfl ?_
      refine r_iload C 0 d_Mo_node_109 rfl ?_
      refine r_iload C 2 d_Mo_node_111 rfl ?_
      refine r_iload_n C 5 d_Mo_node_113 rfl rfl ?_
      refine r_iload_n C 6 d_Mo_node_114 rfl rfl ?_
      refine r_iload C 7 d_Mo_node_115 rfl ?_
      refine r_iconst C (v := 0) d_Mo_node_117 (by decide) ?_
      obtain ⟨r_10, er_10, h⟩ := bind_some h
      refine r_callV C (As := [.int x7_7, .int x5_3, .int x2, .int x3, .int x4, .int 0]) (rest := []) (st1 := []) (c_Mo_adopt X.1.2.1 σ_9 x7_7 x5_3 x2 x3 x4 0 er_10) k_Mo_adopt m_454 (by decide) cel_Mo rfl rfl rfl rfl (Nat.le_of_ble_eq_true rfl) ⟨Nat.le_of_ble_eq_true rfl, Nat.le_of_ble_eq_true rfl⟩ d_Mo_node_118 rfl ?_
      refine r_aload_n C 3 d_Mo_node_121 rfl rfl ?_
      obtain ⟨r_11, er_11, h⟩ := bind_some h
      refine r_callV C (As := []) (rest := []) (st1 := [.int r_11.1]) (c_Mo_tooMany X.1.2.1 r_10  er_11) k_Mo_tooMany m_458 (by decide) cel_Mo rfl rfl rfl rfl (Nat.le_of_ble_eq_true rfl) ⟨Nat.le_of_ble_eq_true rfl, Nat.le_of_ble_eq_true rfl⟩ d_Mo_node_122 rfl ?_
      refine r_if_eq C (tgt := 141) d_Mo_node_125 (by decide) (fun hc_12 => ?_) (fun hc_12 => ?_)
      · rw [if_pos hc_12] at h
        refine r_iload C 0 d_Mo_node_141 rfl ?_
        cases h
        exact hR _ _ d_Mo_node_143
      · rw [if_neg hc_12] at h
        refine r_aload_n C 3 d_Mo_node_128 rfl rfl ?_
        refine r_iload C 2 d_Mo_node_129 rfl ?_
        refine r_iload_n C 5 d_Mo_node_131 rfl rfl ?_
        refine r_iload_n C 6 d_Mo_node_132 rfl rfl ?_
        refine r_iload C 7 d_Mo_node_133 rfl ?_
        obtain ⟨r_13, er_13, h⟩ := bind_some h
        refine r_callV C (As := [.int x5_3, .int x2, .int x3, .int x4]) (rest := []) (st1 := []) (c_Mo_undo X.1.2.1 r_11.2 x5_3 x2 x3 x4 er_13) k_Mo_undo m_462 (by decide) cel_Mo rfl rfl rfl rfl (Nat.le_of_ble_eq_true rfl) ⟨Nat.le_of_ble_eq_true rfl, Nat.le_of_ble_eq_true rfl⟩ d_Mo_node_135 rfl ?_
        refine r_bipush C (v := (-6)) d_Mo_node_138 (by decide) ?_
        cases h
        exact hR _ _ d_Mo_node_140
    · rw [if_neg hc_5] at h
      refine r_iload C 0 d_Mo_node_90 rfl ?_
      cases h
      exact hR _ _ d_Mo_node_92
  · rw [if_pos hc_1] at h
    refine r_bipush C (v := (-3)) d_Mo_node_61 (by decide) ?_
    cases h
    exact hR _ _ d_Mo_node_63
set_option maxHeartbeats 4000000 in
set_option maxRecDepth 100000 in
theorem t_Mo_node_0 {X : gX} {r : (Int32 × gS)} (C : gC X b_Mo_node_c R_Mo 8 2 53) (hR : ∀ pc lv, decode b_Mo_node_c pc = .ok (.ireturn, 1) → G X pc lv [.int r.1] r.2) (x1 : Int32) (x2 : Int32) (x3 : Int32) (x4 : Int32) (σ : gS) (h : b_Mo_node_0 x1 x2 x3 x4 σ = some r) : G X 0 [(0, .ref (gA X 46)), (1, .int x1), (2, .int x2), (3, .int x3), (4, .int x4)] [] σ := by
  unfold b_Mo_node_0 at h
  refine r_iload_n C 1 d_Mo_node_0 rfl rfl ?_
  refine r_iconst C (v := 0) d_Mo_node_1 (by decide) ?_
  refine r_aload_n C 0 d_Mo_node_2 rfl rfl ?_
  refine q_Mo_75 C d_Mo_node_3 ?_
  refine r_iconst C (v := 1) d_Mo_node_6 (by decide) ?_
  refine r_isub C d_Mo_node_7 ?_
  obtain ⟨r_1, er_1, h⟩ := bind_some h
  refine r_callS C (As := [.int x1, .int 0, .int ((gI σ 46 1) - 1)]) (rest := []) (st1 := [.int r_1]) (c_Mo_isFrom X.1.2.1 σ x1 0 ((gI σ 46 1) - 1) er_1) k_Mo_isFrom m_420 rfl rfl rfl (Nat.le_of_ble_eq_true rfl) ⟨Nat.le_of_ble_eq_true rfl, Nat.le_of_ble_eq_true rfl⟩ d_Mo_node_8 rfl ?_
  refine r_if_eq C (tgt := 49) d_Mo_node_11 (by decide) (fun hc_2 => ?_) (fun hc_2 => ?_)
  · rw [if_pos hc_2] at h
    refine r_bipush C (v := (-2)) d_Mo_node_49 (by decide) ?_
    cases h
    exact hR _ _ d_Mo_node_51
  · rw [if_neg hc_2] at h
    refine r_aload_n C 0 d_Mo_node_14 rfl rfl ?_
    refine r_iload_n C 2 d_Mo_node_15 rfl rfl ?_
    obtain ⟨r_3, er_3, h⟩ := bind_some h
    refine r_callV C (As := [.int x2]) (rest := []) (st1 := [.int r_3]) (c_Mo_isNode X.1.2.1 σ x2 er_3) k_Mo_isNode m_466 (by decide) cel_Mo rfl rfl rfl rfl (Nat.le_of_ble_eq_true rfl) ⟨Nat.le_of_ble_eq_true rfl, Nat.le_of_ble_eq_true rfl⟩ d_Mo_node_16 rfl ?_
    refine r_if_eq C (tgt := 49) d_Mo_node_19 (by decide) (fun hc_4 => ?_) (fun hc_4 => ?_)
    · rw [if_pos hc_4] at h
      refine r_bipush C (v := (-2)) d_Mo_node_49 (by decide) ?_
      cases h
      exact hR _ _ d_Mo_node_51
    · rw [if_neg hc_4] at h
      refine r_aload_n C 0 d_Mo_node_22 rfl rfl ?_
      refine r_iload_n C 3 d_Mo_node_23 rfl rfl ?_
      obtain ⟨r_5, er_5, h⟩ := bind_some h
      refine r_callV C (As := [.int x3]) (rest := []) (st1 := [.int r_5]) (c_Mo_isNode X.1.2.1 σ x3 er_5) k_Mo_isNode m_466 (by decide) cel_Mo rfl rfl rfl rfl (Nat.le_of_ble_eq_true rfl) ⟨Nat.le_of_ble_eq_true rfl, Nat.le_of_ble_eq_true rfl⟩ d_Mo_node_24 rfl ?_
      refine r_if_eq C (tgt := 49) d_Mo_node_27 (by decide) (fun hc_6 => ?_) (fun hc_6 => ?_)
      · rw [if_pos hc_6] at h
        refine r_bipush C (v := (-2)) d_Mo_node_49 (by decide) ?_
        cases h
        exact hR _ _ d_Mo_node_51
      · rw [if_neg hc_6] at h
        refine r_aload_n C 0 d_Mo_node_30 rfl rfl ?_
        refine q_Mo_34 C d_Mo_node_31 ?_
        refine r_iload_n C 1 d_Mo_node_34 rfl rfl ?_
        obtain ⟨hi_7, h⟩ := ck_some h
        refine r_iald C hi_7 d_Mo_node_35 ?_
        refine r_iconst C (v := 2) d_Mo_node_36 (by decide) ?_
        refine r_icmp_le C (tgt := 52) d_Mo_node_37 (by decide) (fun hc_8 => ?_) (fun hc_8 => ?_)
        · rw [if_pos hc_8] at h
          exact t_Mo_node_52 C hR x1 x2 x3 x4 σ h
        · rw [if_neg hc_8] at h
          refine r_aload_n C 0 d_Mo_node_40 rfl rfl ?_
          refine r_iload C 4 d_Mo_node_41 rfl ?_
          obtain ⟨r_9, er_9, h⟩ := bind_some h
          refine r_callV C (As := [.int x4]) (rest := []) (st1 := [.int r_9]) (c_Mo_isNode X.1.2.1 σ x4 er_9) k_Mo_isNode m_466 (by decide) cel_Mo rfl rfl rfl rfl (Nat.le_of_ble_eq_true rfl) ⟨Nat.le_of_ble_eq_true rfl, Nat.le_of_ble_eq_true rfl⟩ d_Mo_node_43 rfl ?_
          refine r_if_ne C (tgt := 52) d_Mo_node_46 (by decide) (fun hc_10 => ?_) (fun hc_10 => ?_)
          · rw [if_neg hc_10] at h
            exact t_Mo_node_52 C hR x1 x2 x3 x4 σ h
          · rw [if_pos hc_10] at h
            refine r_bipush C (v := (-2)) d_Mo_node_49 (by decide) ?_
            cases h
            exact hR _ _ d_Mo_node_51
set_option maxHeartbeats 4000000 in
set_option maxRecDepth 100000 in
theorem c_Mo_node (l : Launch) (σ : gS) (x1 : Int32) (x2 : Int32) (x3 : Int32) (x4 : Int32) {r : (Int32 × gS)} (h : f_Mo_node σ x1 x2 x3 x4 = some r) : gMet l y_Mo_node b_Mo_node_c 8 (some .int) 2 53 (fun a => [.ref (a 46), .int x1, .int x2, .int x3, .int x4]) σ (some (.int r.1)) r.2 := by
  refine gMet_i (by decide +kernel) (fun a => Nat.le_of_ble_eq_true rfl) (fun X _ C hR => ?_)
  refine r_sub [0, 1, 2, 3, 4] (lv' := [(0, .ref (gA X 46)), (1, .int x1), (2, .int x2), (3, .int x3), (4, .int x4)]) rfl ?_
  exact t_Mo_node_0 C hR x1 x2 x3 x4 σ h
theorem d_Mo_root_0 : decode b_Mo_root_c 0 = .ok (.aload_n 0, 1) := by decide +kernel
theorem d_Mo_root_1 : decode b_Mo_root_c 1 = .ok (.getfield 71, 3) := by decide +kernel
theorem d_Mo_root_4 : decode b_Mo_root_c 4 = .ok (.iconst 1, 1) := by decide +kernel
theorem d_Mo_root_5 : decode b_Mo_root_c 5 = .ok (.isub, 1) := by decide +kernel
theorem d_Mo_root_6 : decode b_Mo_root_c 6 = .ok (.ireturn, 1) := by decide +kernel
/-! GameRowsModel.root()I -/
set_option maxHeartbeats 4000000 in
set_option maxRecDepth 100000 in
theorem t_Mo_root_0 {X : gX} {r : Int32} {σ : gS} (C : gC X b_Mo_root_c R_Mo 1 0 0) (hR : ∀ pc lv, decode b_Mo_root_c pc = .ok (.ireturn, 1) → G X pc lv [.int r] σ)  (h : b_Mo_root_0 σ = some r) : G X 0 [(0, .ref (gA X 46))] [] σ := by
  unfold b_Mo_root_0 at h
  refine r_aload_n C 0 d_Mo_root_0 rfl rfl ?_
  refine q_Mo_71 C d_Mo_root_1 ?_
  refine r_iconst C (v := 1) d_Mo_root_4 (by decide) ?_
  refine r_isub C d_Mo_root_5 ?_
  cases h
  exact hR _ _ d_Mo_root_6
set_option maxHeartbeats 4000000 in
set_option maxRecDepth 100000 in
theorem c_Mo_root (l : Launch) (σ : gS)  {r : Int32} (h : f_Mo_root σ = some r) : gMet l y_Mo_root b_Mo_root_c 1 (some .int) 0 0 (fun a => [.ref (a 46)]) σ (some (.int r)) σ := by
  refine gMet_i (by decide +kernel) (fun a => Nat.le_of_ble_eq_true rfl) (fun X _ C hR => ?_)
  refine r_sub [0] (lv' := [(0, .ref (gA X 46))]) rfl ?_
  exact t_Mo_root_0 C hR  h
theorem d_Mo_actOf_0 : decode b_Mo_actOf_c 0 = .ok (.iload_n 2, 1) := by decide +kernel
theorem d_Mo_actOf_1 : decode b_Mo_actOf_c 1 = .ok (.istore 4, 2) := by decide +kernel
theorem d_Mo_actOf_3 : decode b_Mo_actOf_c 3 = .ok (.aload_n 0, 1) := by decide +kernel
theorem d_Mo_actOf_4 : decode b_Mo_actOf_c 4 = .ok (.getfield 75, 3) := by decide +kernel
theorem d_Mo_actOf_7 : decode b_Mo_actOf_c 7 = .ok (.iconst 1, 1) := by decide +kernel
theorem d_Mo_actOf_8 : decode b_Mo_actOf_c 8 = .ok (.isub, 1) := by decide +kernel
theorem d_Mo_actOf_9 : decode b_Mo_actOf_c 9 = .ok (.istore 5, 2) := by decide +kernel
theorem d_Mo_actOf_11 : decode b_Mo_actOf_c 11 = .ok (.iload 5, 2) := by decide +kernel
theorem d_Mo_actOf_13 : decode b_Mo_actOf_c 13 = .ok (.iload_n 3, 1) := by decide +kernel
theorem d_Mo_actOf_14 : decode b_Mo_actOf_c 14 = .ok (.if_icmp .le 47, 3) := by decide +kernel
theorem d_Mo_actOf_17 : decode b_Mo_actOf_c 17 = .ok (.aload_n 0, 1) := by decide +kernel
theorem d_Mo_actOf_18 : decode b_Mo_actOf_c 18 = .ok (.getfield 41, 3) := by decide +kernel
theorem d_Mo_actOf_21 : decode b_Mo_actOf_c 21 = .ok (.iload 5, 2) := by decide +kernel
theorem d_Mo_actOf_23 : decode b_Mo_actOf_c 23 = .ok (.baload, 1) := by decide +kernel
theorem d_Mo_actOf_24 : decode b_Mo_actOf_c 24 = .ok (.ifCond .eq 27, 3) := by decide +kernel
theorem d_Mo_actOf_27 : decode b_Mo_actOf_c 27 = .ok (.aload_n 0, 1) := by decide +kernel
theorem d_Mo_actOf_28 : decode b_Mo_actOf_c 28 = .ok (.getfield 31, 3) := by decide +kernel
theorem d_Mo_actOf_31 : decode b_Mo_actOf_c 31 = .ok (.iload 5, 2) := by decide +kernel
theorem d_Mo_actOf_33 : decode b_Mo_actOf_c 33 = .ok (.iaload, 1) := by decide +kernel
theorem d_Mo_actOf_34 : decode b_Mo_actOf_c 34 = .ok (.iload_n 1, 1) := by decide +kernel
theorem d_Mo_actOf_35 : decode b_Mo_actOf_c 35 = .ok (.if_icmp .ne 16, 3) := by decide +kernel
theorem d_Mo_actOf_38 : decode b_Mo_actOf_c 38 = .ok (.iload 4, 2) := by decide +kernel
theorem d_Mo_actOf_40 : decode b_Mo_actOf_c 40 = .ok (.aload_n 0, 1) := by decide +kernel
theorem d_Mo_actOf_41 : decode b_Mo_actOf_c 41 = .ok (.getfield 34, 3) := by decide +kernel
theorem d_Mo_actOf_44 : decode b_Mo_actOf_c 44 = .ok (.iload 5, 2) := by decide +kernel
theorem d_Mo_actOf_46 : decode b_Mo_actOf_c 46 = .ok (.iaload, 1) := by decide +kernel
theorem d_Mo_actOf_47 : decode b_Mo_actOf_c 47 = .ok (.idiv, 1) := by decide +kernel
theorem d_Mo_actOf_48 : decode b_Mo_actOf_c 48 = .ok (.goto 5, 3) := by decide +kernel
theorem d_Mo_actOf_51 : decode b_Mo_actOf_c 51 = .ok (.iload 4, 2) := by decide +kernel
theorem d_Mo_actOf_53 : decode b_Mo_actOf_c 53 = .ok (.istore 4, 2) := by decide +kernel
theorem d_Mo_actOf_55 : decode b_Mo_actOf_c 55 = .ok (.iinc 5 (-1), 3) := by decide +kernel
theorem d_Mo_actOf_58 : decode b_Mo_actOf_c 58 = .ok (.goto (-47), 3) := by decide +kernel
theorem d_Mo_actOf_61 : decode b_Mo_actOf_c 61 = .ok (.iload 4, 2) := by decide +kernel
theorem d_Mo_actOf_63 : decode b_Mo_actOf_c 63 = .ok (.aload_n 0, 1) := by decide +kernel
theorem d_Mo_actOf_64 : decode b_Mo_actOf_c 64 = .ok (.getfield 34, 3) := by decide +kernel
theorem d_Mo_actOf_67 : decode b_Mo_actOf_c 67 = .ok (.iload_n 3, 1) := by decide +kernel
theorem d_Mo_actOf_68 : decode b_Mo_actOf_c 68 = .ok (.iaload, 1) := by decide +kernel
theorem d_Mo_actOf_69 : decode b_Mo_actOf_c 69 = .ok (.irem, 1) := by decide +kernel
theorem d_Mo_actOf_70 : decode b_Mo_actOf_c 70 = .ok (.ireturn, 1) := by decide +kernel
/-! GameRowsModel.actOf(III)I -/
set_option maxHeartbeats 4000000 in
set_option maxRecDepth 100000 in
theorem t_Mo_actOf_53 {X : gX} {r : Int32} {σ : gS} (C : gC X b_Mo_actOf_c R_Mo 6 0 0) (hR : ∀ pc lv, decode b_Mo_actOf_c pc = .ok (.ireturn, 1) → G X pc lv [.int r] σ) {k11 : Int32 × Int32 × Int32 × Int32 → Option Int32}  (hk11 : ∀ x, k11 x = some r → G X 11 [(0, .ref (gA X 46)), (1, .int x.1), (3, .int x.2.1), (4, .int x.2.2.1), (5, .int x.2.2.2)] [] σ) (x1 : Int32) (x3 : Int32) (x5 : Int32) (y0 : Int32) (h : b_Mo_actOf_53 σ k11 x1 x3 x5 y0 = some r) : G X 53 [(0, .ref (gA X 46)), (1, .int x1), (3, .int x3), (5, .int x5)] [.int y0] σ := by
  unfold b_Mo_actOf_53 at h
  refine r_istore C (lv' := [(4, .int y0), (0, .ref (gA X 46)), (1, .int x1), (3, .int x3), (5, .int x5)]) d_Mo_actOf_53 (by decide) rfl rfl ?_
  obtain ⟨x5_1, ex5_1, h⟩ := bnd_some h
  refine r_iinc C 4 (lv' := [(5, .int x5_1), (4, .int y0), (0, .ref (gA X 46)), (1, .int x1), (3, .int x3)]) d_Mo_actOf_55 rfl (by rw [ex5_1]; rfl) (by decide) rfl ?_
  refine r_goto C (tgt := 11) d_Mo_actOf_58 (by decide) ?_
  refine r_sub [2, 3, 4, 1, 0] (lv' := [(0, .ref (gA X 46)), (1, .int x1), (3, .int x3), (4, .int y0), (5, .int x5_1)]) rfl ?_
  exact hk11 _ h
set_option maxHeartbeats 4000000 in
set_option maxRecDepth 100000 in
theorem t_Mo_actOf_51 {X : gX} {r : Int32} {σ : gS} (C : gC X b_Mo_actOf_c R_Mo 6 0 0) (hR : ∀ pc lv, decode b_Mo_actOf_c pc = .ok (.ireturn, 1) → G X pc lv [.int r] σ) {k11 : Int32 × Int32 × Int32 × Int32 → Option Int32}  (hk11 : ∀ x, k11 x = some r → G X 11 [(0, .ref (gA X 46)), (1, .int x.1), (3, .int x.2.1), (4, .int x.2.2.1), (5, .int x.2.2.2)] [] σ) (x1 : Int32) (x3 : Int32) (x4 : Int32) (x5 : Int32) (h : b_Mo_actOf_51 σ k11 x1 x3 x4 x5 = some r) : G X 51 [(0, .ref (gA X 46)), (1, .int x1), (3, .int x3), (4, .int x4), (5, .int x5)] [] σ := by
  unfold b_Mo_actOf_51 at h
  refine r_iload C 3 d_Mo_actOf_51 rfl ?_
  refine r_sub [0, 1, 2, 4] (lv' := [(0, .ref (gA X 46)), (1, .int x1), (3, .int x3), (5, .int x5)]) rfl ?_
  exact t_Mo_actOf_53 C hR hk11 x1 x3 x5 x4 h
set_option maxHeartbeats 4000000 in
set_option maxRecDepth 100000 in
theorem t_Mo_actOf_11 {X : gX} {r : Int32} {σ : gS} (C : gC X b_Mo_actOf_c R_Mo 6 0 0) (hR : ∀ pc lv, decode b_Mo_actOf_c pc = .ok (.ireturn, 1) → G X pc lv [.int r] σ) {k11 : Int32 × Int32 × Int32 × Int32 → Option Int32}  (hk11 : ∀ x, k11 x = some r → G X 11 [(0, .ref (gA X 46)), (1, .int x.1), (3, .int x.2.1), (4, .int x.2.2.1), (5, .int x.2.2.2)] [] σ) (x1 : Int32) (x3 : Int32) (x4 : Int32) (x5 : Int32) (h : b_Mo_actOf_11 σ k11 x1 x3 x4 x5 = some r) : G X 11 [(0, .ref (gA X 46)), (1, .int x1), (3, .int x3), (4, .int x4), (5, .int x5)] [] σ := by
  unfold b_Mo_actOf_11 at h
  refine r_iload C 4 d_Mo_actOf_11 rfl ?_
  refine r_iload_n C 2 d_Mo_actOf_13 rfl rfl ?_
  refine r_icmp_le C (tgt := 61) d_Mo_actOf_14 (by decide) (fun hc_1 => ?_) (fun hc_1 => ?_)
  · rw [if_pos hc_1] at h
    refine r_iload C 3 d_Mo_actOf_61 rfl ?_
    refine r_aload_n C 0 d_Mo_actOf_63 rfl rfl ?_
    refine q_Mo_34 C d_Mo_actOf_64 ?_
    refine r_iload_n C 2 d_Mo_actOf_67 rfl rfl ?_
    obtain ⟨hi_2, h⟩ := ck_some h
    refine r_iald C hi_2 d_Mo_actOf_68 ?_
    obtain ⟨hz_3, h⟩ := ck_some h
    refine r_irem C d_Mo_actOf_69 hz_3 ?_
    cases h
    exact hR _ _ d_Mo_actOf_70
  · rw [if_neg hc_1] at h
    refine r_aload_n C 0 d_Mo_actOf_17 rfl rfl ?_
    refine q_Mo_41 C d_Mo_actOf_18 ?_
    refine r_iload C 4 d_Mo_actOf_21 rfl ?_
    obtain ⟨hi_4, h⟩ := ck_some h
    refine r_zald C hi_4 d_Mo_actOf_23 ?_
    refine r_if_eq C (tgt := 51) d_Mo_actOf_24 (by decide) (fun hc_5 => ?_) (fun hc_5 => ?_)
    · rw [if_pos hc_5] at h
      exact t_Mo_actOf_51 C hR hk11 x1 x3 x4 x5 h
    · rw [if_neg hc_5] at h
      refine r_aload_n C 0 d_Mo_actOf_27 rfl rfl ?_
      refine q_Mo_31 C d_Mo_actOf_28 ?_
      refine r_iload C 4 d_Mo_actOf_31 rfl ?_
      obtain ⟨hi_6, h⟩ := ck_some h
      refine r_iald C hi_6 d_Mo_actOf_33 ?_
      refine r_iload_n C 1 d_Mo_actOf_34 rfl rfl ?_
      refine r_icmp_ne C (tgt := 51) d_Mo_actOf_35 (by decide) (fun hc_7 => ?_) (fun hc_7 => ?_)
      · rw [if_neg hc_7] at h
        exact t_Mo_actOf_51 C hR hk11 x1 x3 x4 x5 h
      · rw [if_pos hc_7] at h
        refine r_iload C 3 d_Mo_actOf_38 rfl ?_
        refine r_aload_n C 0 d_Mo_actOf_40 rfl rfl ?_
        refine q_Mo_34 C d_Mo_actOf_41 ?_
        refine r_iload C 4 d_Mo_actOf_44 rfl ?_
        obtain ⟨hi_8, h⟩ := ck_some h
        refine r_iald C hi_8 d_Mo_actOf_46 ?_
        obtain ⟨hz_9, h⟩ := ck_some h
        refine r_idiv C d_Mo_actOf_47 hz_9 ?_
        refine r_goto C (tgt := 53) d_Mo_actOf_48 (by decide) ?_
        refine r_sub [0, 1, 2, 4] (lv' := [(0, .ref (gA X 46)), (1, .int x1), (3, .int x3), (5, .int x5)]) rfl ?_
        exact t_Mo_actOf_53 C hR hk11 x1 x3 x5 (x4 / (gI σ 55 x5.toNatClampNeg)) h
set_option maxHeartbeats 4000000 in
set_option maxRecDepth 100000 in
theorem u_Mo_actOf_11 {X : gX} {r : Int32} {σ : gS} (C : gC X b_Mo_actOf_c R_Mo 6 0 0) (hR : ∀ pc lv, decode b_Mo_actOf_c pc = .ok (.ireturn, 1) → G X pc lv [.int r] σ)  (x : Int32 × Int32 × Int32 × Int32) (h : l_Mo_actOf_11 σ x = some r) : G X 11 [(0, .ref (gA X 46)), (1, .int x.1), (3, .int x.2.1), (4, .int x.2.2.1), (5, .int x.2.2.2)] [] σ :=
  lpF_ind (P := fun x => G X 11 [(0, .ref (gA X 46)), (1, .int x.1), (3, .int x.2.1), (4, .int x.2.2.1), (5, .int x.2.2.2)] [] σ) (fun k hk x h => t_Mo_actOf_11 C hR hk x.1 x.2.1 x.2.2.1 x.2.2.2 h) gF x h
set_option maxHeartbeats 4000000 in
set_option maxRecDepth 100000 in
theorem t_Mo_actOf_0 {X : gX} {r : Int32} {σ : gS} (C : gC X b_Mo_actOf_c R_Mo 6 0 0) (hR : ∀ pc lv, decode b_Mo_actOf_c pc = .ok (.ireturn, 1) → G X pc lv [.int r] σ) (x1 : Int32) (x2 : Int32) (x3 : Int32) (h : b_Mo_actOf_0 σ x1 x2 x3 = some r) : G X 0 [(0, .ref (gA X 46)), (1, .int x1), (2, .int x2), (3, .int x3)] [] σ := by
  unfold b_Mo_actOf_0 at h
  refine r_iload_n C 2 d_Mo_actOf_0 rfl rfl ?_
  refine r_istore C (lv' := [(4, .int x2), (0, .ref (gA X 46)), (1, .int x1), (2, .int x2), (3, .int x3)]) d_Mo_actOf_1 (by decide) rfl rfl ?_
  refine r_aload_n C 1 d_Mo_actOf_3 rfl rfl ?_
  refine q_Mo_75 C d_Mo_actOf_4 ?_
  refine r_iconst C (v := 1) d_Mo_actOf_7 (by decide) ?_
  refine r_isub C d_Mo_actOf_8 ?_
  obtain ⟨x5_1, ex5_1, h⟩ := bnd_some h
  refine r_istore C (lv' := [(5, .int x5_1), (4, .int x2), (0, .ref (gA X 46)), (1, .int x1), (2, .int x2), (3, .int x3)]) d_Mo_actOf_9 (by decide) ex5_1 rfl ?_
  refine r_sub [2, 3, 5, 1, 0] (lv' := [(0, .ref (gA X 46)), (1, .int x1), (3, .int x3), (4, .int x2), (5, .int x5_1)]) rfl ?_
  exact u_Mo_actOf_11 C hR  (x1, x3, x2, x5_1) h
set_option maxHeartbeats 4000000 in
set_option maxRecDepth 100000 in
theorem c_Mo_actOf (l : Launch) (σ : gS) (x1 : Int32) (x2 : Int32) (x3 : Int32) {r : Int32} (h : f_Mo_actOf σ x1 x2 x3 = some r) : gMet l y_Mo_actOf b_Mo_actOf_c 6 (some .int) 0 0 (fun a => [.ref (a 46), .int x1, .int x2, .int x3]) σ (some (.int r)) σ := by
  refine gMet_i (by decide +kernel) (fun a => Nat.le_of_ble_eq_true rfl) (fun X _ C hR => ?_)
  refine r_sub [0, 1, 2, 3] (lv' := [(0, .ref (gA X 46)), (1, .int x1), (2, .int x2), (3, .int x3)]) rfl ?_
  exact t_Mo_actOf_0 C hR x1 x2 x3 h
theorem d_Mo_mean_0 : decode b_Mo_mean_c 0 = .ok (.iconst 0, 1) := by decide +kernel
theorem d_Mo_mean_1 : decode b_Mo_mean_c 1 = .ok (.istore_n 3, 1) := by decide +kernel
theorem d_Mo_mean_2 : decode b_Mo_mean_c 2 = .ok (.iconst 0, 1) := by decide +kernel
theorem d_Mo_mean_3 : decode b_Mo_mean_c 3 = .ok (.istore 4, 2) := by decide +kernel
theorem d_Mo_mean_5 : decode b_Mo_mean_c 5 = .ok (.iconst 0, 1) := by decide +kernel
theorem d_Mo_mean_6 : decode b_Mo_mean_c 6 = .ok (.istore 5, 2) := by decide +kernel
theorem d_Mo_mean_8 : decode b_Mo_mean_c 8 = .ok (.iload 5, 2) := by decide +kernel
theorem d_Mo_mean_10 : decode b_Mo_mean_c 10 = .ok (.iconst 3, 1) := by decide +kernel
theorem d_Mo_mean_11 : decode b_Mo_mean_c 11 = .ok (.if_icmp .ge 50, 3) := by decide +kernel
theorem d_Mo_mean_14 : decode b_Mo_mean_c 14 = .ok (.aload_n 0, 1) := by decide +kernel
theorem d_Mo_mean_15 : decode b_Mo_mean_c 15 = .ok (.getfield 19, 3) := by decide +kernel
theorem d_Mo_mean_18 : decode b_Mo_mean_c 18 = .ok (.iconst 3, 1) := by decide +kernel
theorem d_Mo_mean_19 : decode b_Mo_mean_c 19 = .ok (.iload_n 1, 1) := by decide +kernel
theorem d_Mo_mean_20 : decode b_Mo_mean_c 20 = .ok (.imul, 1) := by decide +kernel
theorem d_Mo_mean_21 : decode b_Mo_mean_c 21 = .ok (.iload 5, 2) := by decide +kernel
theorem d_Mo_mean_23 : decode b_Mo_mean_c 23 = .ok (.iadd, 1) := by decide +kernel
theorem d_Mo_mean_24 : decode b_Mo_mean_c 24 = .ok (.iaload, 1) := by decide +kernel
theorem d_Mo_mean_25 : decode b_Mo_mean_c 25 = .ok (.iconst (-1), 1) := by decide +kernel
theorem d_Mo_mean_26 : decode b_Mo_mean_c 26 = .ok (.if_icmp .eq 29, 3) := by decide +kernel
theorem d_Mo_mean_29 : decode b_Mo_mean_c 29 = .ok (.iload_n 3, 1) := by decide +kernel
theorem d_Mo_mean_30 : decode b_Mo_mean_c 30 = .ok (.aload_n 0, 1) := by decide +kernel
theorem d_Mo_mean_31 : decode b_Mo_mean_c 31 = .ok (.getfield 44, 3) := by decide +kernel
theorem d_Mo_mean_34 : decode b_Mo_mean_c 34 = .ok (.iconst 2, 1) := by decide +kernel
theorem d_Mo_mean_35 : decode b_Mo_mean_c 35 = .ok (.aload_n 0, 1) := by decide +kernel
theorem d_Mo_mean_36 : decode b_Mo_mean_c 36 = .ok (.getfield 19, 3) := by decide +kernel
theorem d_Mo_mean_39 : decode b_Mo_mean_c 39 = .ok (.iconst 3, 1) := by decide +kernel
theorem d_Mo_mean_40 : decode b_Mo_mean_c 40 = .ok (.iload_n 1, 1) := by decide +kernel
theorem d_Mo_mean_41 : decode b_Mo_mean_c 41 = .ok (.imul, 1) := by decide +kernel
theorem d_Mo_mean_42 : decode b_Mo_mean_c 42 = .ok (.iload 5, 2) := by decide +kernel
theorem d_Mo_mean_44 : decode b_Mo_mean_c 44 = .ok (.iadd, 1) := by decide +kernel
theorem d_Mo_mean_45 : decode b_Mo_mean_c 45 = .ok (.iaload, 1) := by decide +kernel
theorem d_Mo_mean_46 : decode b_Mo_mean_c 46 = .ok (.imul, 1) := by decide +kernel
theorem d_Mo_mean_47 : decode b_Mo_mean_c 47 = .ok (.iload_n 2, 1) := by decide +kernel
theorem d_Mo_mean_48 : decode b_Mo_mean_c 48 = .ok (.iadd, 1) := by decide +kernel
theorem d_Mo_mean_49 : decode b_Mo_mean_c 49 = .ok (.iaload, 1) := by decide +kernel
theorem d_Mo_mean_50 : decode b_Mo_mean_c 50 = .ok (.iadd, 1) := by decide +kernel
theorem d_Mo_mean_51 : decode b_Mo_mean_c 51 = .ok (.istore_n 3, 1) := by decide +kernel
theorem d_Mo_mean_52 : decode b_Mo_mean_c 52 = .ok (.iinc 4 1, 3) := by decide +kernel
theorem d_Mo_mean_55 : decode b_Mo_mean_c 55 = .ok (.iinc 5 1, 3) := by decide +kernel
theorem d_Mo_mean_58 : decode b_Mo_mean_c 58 = .ok (.goto (-50), 3) := by decide +kernel
theorem d_Mo_mean_61 : decode b_Mo_mean_c 61 = .ok (.iload_n 3, 1) := by decide +kernel
theorem d_Mo_mean_62 : decode b_Mo_mean_c 62 = .ok (.iload 4, 2) := by decide +kernel
theorem d_Mo_mean_64 : decode b_Mo_mean_c 64 = .ok (.idiv, 1) := by decide +kernel
theorem d_Mo_mean_65 : decode b_Mo_mean_c 65 = .ok (.ireturn, 1) := by decide +kernel
/-! GameRowsModel.mean(II)I -/
set_option maxHeartbeats 4000000 in
set_option maxRecDepth 100000 in
theorem t_Mo_mean_55 {X : gX} {r : Int32} {σ : gS} (C : gC X b_Mo_mean_c R_Mo 6 0 0) (hR : ∀ pc lv, decode b_Mo_mean_c pc = .ok (.ireturn, 1) → G X pc lv [.int r] σ) {k8 : Int32 × Int32 × Int32 × Int32 × Int32 → Option Int32}  (hk8 : ∀ x, k8 x = some r → G X 8 [(0, .ref (gA X 46)), (1, .int x.1), (2, .int x.2.1), (3, .int x.2.2.1), (4, .int x.2.2.2.1), (5, .int x.2.2.2.2)] [] σ) (x1 : Int32) (x2 : Int32) (x3 : Int32) (x4 : Int32) (x5 : Int32) (h : b_Mo_mean_55 σ k8 x1 x2 x3 x4 x5 = some r) : G X 55 [(0, .ref (gA X 46)), (1, .int x1), (2, .int x2), (3, .int x3), (4, .int x4), (5, .int x5)] [] σ := by
  unfold b_Mo_mean_55 at h
  obtain ⟨x5_1, ex5_1, h⟩ := bnd_some h
  refine r_iinc C 5 (lv' := [(5, .int x5_1), (0, .ref (gA X 46)), (1, .int x1), (2, .int x2), (3, .int x3), (4, .int x4)]) d_Mo_mean_55 rfl (by rw [ex5_1]; rfl) (by decide) rfl ?_
  refine r_goto C (tgt := 8) d_Mo_mean_58 (by decide) ?_
  refine r_sub [1, 2, 3, 4, 5, 0] (lv' := [(0, .ref (gA X 46)), (1, .int x1), (2, .int x2), (3, .int x3), (4, .int x4), (5, .int x5_1)]) rfl ?_
  exact hk8 _ h
set_option maxHeartbeats 4000000 in
set_option maxRecDepth 100000 in
theorem t_Mo_mean_8 {X : gX} {r : Int32} {σ : gS} (C : gC X b_Mo_mean_c R_Mo 6 0 0) (hR : ∀ pc lv, decode b_Mo_mean_c pc = .ok (.ireturn, 1) → G X pc lv [.int r] σ) {k8 : Int32 × Int32 × Int32 × Int32 × Int32 → Option Int32}  (hk8 : ∀ x, k8 x = some r → G X 8 [(0, .ref (gA X 46)), (1, .int x.1), (2, .int x.2.1), (3, .int x.2.2.1), (4, .int x.2.2.2.1), (5, .int x.2.2.2.2)] [] σ) (x1 : Int32) (x2 : Int32) (x3 : Int32) (x4 : Int32) (x5 : Int32) (h : b_Mo_mean_8 σ k8 x1 x2 x3 x4 x5 = some r) : G X 8 [(0, .ref (gA X 46)), (1, .int x1), (2, .int x2), (3, .int x3), (4, .int x4), (5, .int x5)] [] σ := by
  unfold b_Mo_mean_8 at h
  refine r_iload C 5 d_Mo_mean_8 rfl ?_
  refine r_iconst C (v := 3) d_Mo_mean_10 (by decide) ?_
  refine r_icmp_ge C (tgt := 61) d_Mo_mean_11 (by decide) (fun hc_1 => ?_) (fun hc_1 => ?_)
  · rw [if_pos hc_1] at h
    refine r_iload_n C 3 d_Mo_mean_61 rfl rfl ?_
    refine r_iload C 4 d_Mo_mean_62 rfl ?_
    obtain ⟨hz_2, h⟩ := ck_some h
    refine r_idiv C d_Mo_mean_64 hz_2 ?_
    cases h
    exact hR _ _ d_Mo_mean_65
  · rw [if_neg hc_1] at h
    refine r_aload_n C 0 d_Mo_mean_14 rfl rfl ?_
    refine q_Mo_19 C d_Mo_mean_15 ?_
    refine r_iconst C (v := 3) d_Mo_mean_18 (by decide) ?_
    refine r_iload_n C 1 d_Mo_mean_19 rfl rfl ?_
    refine r_imul C d_Mo_mean_20 ?_
    refine r_iload C 5 d_Mo_mean_21 rfl ?_
    refine r_iadd C d_Mo_mean_23 ?_
    obtain ⟨hi_3, h⟩ := ck_some h
    refine r_iald C hi_3 d_Mo_mean_24 ?_
    refine r_iconst C (v := (-1)) d_Mo_mean_25 (by decide) ?_
    refine r_icmp_eq C (tgt := 55) d_Mo_mean_26 (by decide) (fun hc_4 => ?_) (fun hc_4 => ?_)
    · rw [if_pos hc_4] at h
      exact t_Mo_mean_55 C hR hk8 x1 x2 x3 x4 x5 h
    · rw [if_neg hc_4] at h
      refine r_iload_n C 3 d_Mo_mean_29 rfl rfl ?_
      refine r_aload_n C 0 d_Mo_mean_30 rfl rfl ?_
      refine q_Mo_44 C d_Mo_mean_31 ?_
      refine r_iconst C (v := 2) d_Mo_mean_34 (by decide) ?_
      refine r_aload_n C 0 d_Mo_mean_35 rfl rfl ?_
      refine q_Mo_19 C d_Mo_mean_36 ?_
      refine r_iconst C (v := 3) d_Mo_mean_39 (by decide) ?_
      refine r_iload_n C 1 d_Mo_mean_40 rfl rfl ?_
      refine r_imul C d_Mo_mean_41 ?_
      refine r_iload C 5 d_Mo_mean_42 rfl ?_
      refine r_iadd C d_Mo_mean_44 ?_
      obtain ⟨hi_5, h⟩ := ck_some h
      refine r_iald C hi_5 d_Mo_mean_45 ?_
      refine r_imul C d_Mo_mean_46 ?_
      refine r_iload_n C 2 d_Mo_mean_47 rfl rfl ?_
      refine r_iadd C d_Mo_mean_48 ?_
      obtain ⟨hi_6, h⟩ := ck_some h
      refine r_iald C hi_6 d_Mo_mean_49 ?_
      refine r_iadd C d_Mo_mean_50 ?_
      obtain ⟨x3_7, ex3_7, h⟩ := bnd_some h
      refine r_istore_n C (lv' := [(3, .int x3_7), (0, .ref (gA X 46)), (1, .int x1), (2, .int x2), (4, .int x4), (5, .int x5)]) d_Mo_mean_51 rfl (by decide) ex3_7 rfl ?_
      obtain ⟨x4_8, ex4_8, h⟩ := bnd_some h
      refine r_iinc C 4 (lv' := [(4, .int x4_8), (3, .int x3_7), (0, .ref (gA X 46)), (1, .int x1), (2, .int x2), (5, .int x5)]) d_Mo_mean_52 rfl (by rw [ex4_8]; rfl) (by decide) rfl ?_
      refine r_sub [2, 3, 4, 1, 0, 5] (lv' := [(0, .ref (gA X 46)), (1, .int x1), (2, .int x2), (3, .int x3_7), (4, .int x4_8), (5, .int x5)]) rfl ?_
      exact t_Mo_mean_55 C hR hk8 x1 x2 x3_7 x4_8 x5 h
set_option maxHeartbeats 4000000 in
set_option maxRecDepth 100000 in
theorem u_Mo_mean_8 {X : gX} {r : Int32} {σ : gS} (C : gC X b_Mo_mean_c R_Mo 6 0 0) (hR : ∀ pc lv, decode b_Mo_mean_c pc = .ok (.ireturn, 1) → G X pc lv [.int r] σ)  (x : Int32 × Int32 × Int32 × Int32 × Int32) (h : l_Mo_mean_8 σ x = some r) : G X 8 [(0, .ref (gA X 46)), (1, .int x.1), (2, .int x.2.1), (3, .int x.2.2.1), (4, .int x.2.2.2.1), (5, .int x.2.2.2.2)] [] σ :=
  lpF_ind (P := fun x => G X 8 [(0, .ref (gA X 46)), (1, .int x.1), (2, .int x.2.1), (3, .int x.2.2.1), (4, .int x.2.2.2.1), (5, .int x.2.2.2.2)] [] σ) (fun k hk x h => t_Mo_mean_8 C hR hk x.1 x.2.1 x.2.2.1 x.2.2.2.1 x.2.2.2.2 h) gF x h
set_option maxHeartbeats 4000000 in
set_option maxRecDepth 100000 in
theorem t_Mo_mean_0 {X : gX} {r : Int32} {σ : gS} (C : gC X b_Mo_mean_c R_Mo 6 0 0) (hR : ∀ pc lv, decode b_Mo_mean_c pc = .ok (.ireturn, 1) → G X pc lv [.int r] σ) (x1 : Int32) (x2 : Int32) (h : b_Mo_mean_0 σ x1 x2 = some r) : G X 0 [(0, .ref (gA X 46)), (1, .int x1), (2, .int x2)] [] σ := by
  unfold b_Mo_mean_0 at h
  refine r_iconst C (v := 0) d_Mo_mean_0 (by decide) ?_
  refine r_istore_n C (lv' := [(3, .int 0), (0, .ref (gA X 46)), (1, .int x1), (2, .int x2)]) d_Mo_mean_1 rfl (by decide) rfl rfl ?_
  refine r_iconst C (v := 0) d_Mo_mean_2 (by decide) ?_
  refine r_istore C (lv' := [(4, .int 0), (3, .int 0), (0, .ref (gA X 46)), (1, .int x1), (2, .int x2)]) d_Mo_mean_3 (by decide) rfl rfl ?_
  refine r_iconst C (v := 0) d_Mo_mean_5 (by decide) ?_
  refine r_istore C (lv' := [(5, .int 0), (4, .int 0), (3, .int 0), (0, .ref (gA X 46)), (1, .int x1), (2, .int x2)]) d_Mo_mean_6 (by decide) rfl rfl ?_
  refine r_sub [3, 4, 5, 2, 1, 0] (lv' := [(0, .ref (gA X 46)), (1, .int x1), (2, .int x2), (3, .int 0), (4, .int 0), (5, .int 0)]) rfl ?_
  exact u_Mo_mean_8 C hR  (x1, x2, 0, 0, 0) h
set_option maxHeartbeats 4000000 in
set_option maxRecDepth 100000 in
theorem c_Mo_mean (l : Launch) (σ : gS) (x1 : Int32) (x2 : Int32) {r : Int32} (h : f_Mo_mean σ x1 x2 = some r) : gMet l y_Mo_mean b_Mo_mean_c 6 (some .int) 0 0 (fun a => [.ref (a 46), .int x1, .int x2]) σ (some (.int r)) σ := by
  refine gMet_i (by decide +kernel) (fun a => Nat.le_of_ble_eq_true rfl) (fun X _ C hR => ?_)
  refine r_sub [0, 1, 2] (lv' := [(0, .ref (gA X 46)), (1, .int x1), (2, .int x2)]) rfl ?_
  exact t_Mo_mean_0 C hR x1 x2 h
theorem d_Mo_work_0 : decode b_Mo_work_c 0 = .ok (.iconst 0, 1) := by decide +kernel
theorem d_Mo_work_1 : decode b_Mo_work_c 1 = .ok (.istore 4, 2) := by decide +kernel
theorem d_Mo_work_3 : decode b_Mo_work_c 3 = .ok (.iload 4, 2) := by decide +kernel
theorem d_Mo_work_5 : decode b_Mo_work_c 5 = .ok (.aload_n 0, 1) := by decide +kernel
theorem d_Mo_work_6 : decode b_Mo_work_c 6 = .ok (.getfield 75, 3) := by decide +kernel
theorem d_Mo_work_9 : decode b_Mo_work_c 9 = .ok (.if_icmp .ge 58, 3) := by decide +kernel
theorem d_Mo_work_12 : decode b_Mo_work_c 12 = .ok (.aload_n 0, 1) := by decide +kernel
theorem d_Mo_work_13 : decode b_Mo_work_c 13 = .ok (.getfield 50, 3) := by decide +kernel
theorem d_Mo_work_16 : decode b_Mo_work_c 16 = .ok (.iload 4, 2) := by decide +kernel
theorem d_Mo_work_18 : decode b_Mo_work_c 18 = .ok (.aload_n 0, 1) := by decide +kernel
theorem d_Mo_work_19 : decode b_Mo_work_c 19 = .ok (.getfield 41, 3) := by decide +kernel
theorem d_Mo_work_22 : decode b_Mo_work_c 22 = .ok (.iload 4, 2) := by decide +kernel
theorem d_Mo_work_24 : decode b_Mo_work_c 24 = .ok (.baload, 1) := by decide +kernel
theorem d_Mo_work_25 : decode b_Mo_work_c 25 = .ok (.ifCond .eq 34, 3) := by decide +kernel
theorem d_Mo_work_28 : decode b_Mo_work_c 28 = .ok (.aload_n 0, 1) := by decide +kernel
theorem d_Mo_work_29 : decode b_Mo_work_c 29 = .ok (.aload_n 0, 1) := by decide +kernel
theorem d_Mo_work_30 : decode b_Mo_work_c 30 = .ok (.getfield 31, 3) := by decide +kernel
theorem d_Mo_work_33 : decode b_Mo_work_c 33 = .ok (.iload 4, 2) := by decide +kernel
theorem d_Mo_work_35 : decode b_Mo_work_c 35 = .ok (.iaload, 1) := by decide +kernel
theorem d_Mo_work_36 : decode b_Mo_work_c 36 = .ok (.aload_n 0, 1) := by decide +kernel
theorem d_Mo_work_37 : decode b_Mo_work_c 37 = .ok (.getfield 31, 3) := by decide +kernel
theorem d_Mo_work_40 : decode b_Mo_work_c 40 = .ok (.iload 4, 2) := by decide +kernel
theorem d_Mo_work_42 : decode b_Mo_work_c 42 = .ok (.iaload, 1) := by decide +kernel
theorem d_Mo_work_43 : decode b_Mo_work_c 43 = .ok (.ifCond .ne 7, 3) := by decide +kernel
theorem d_Mo_work_46 : decode b_Mo_work_c 46 = .ok (.iload_n 2, 1) := by decide +kernel
theorem d_Mo_work_47 : decode b_Mo_work_c 47 = .ok (.goto 4, 3) := by decide +kernel
theorem d_Mo_work_50 : decode b_Mo_work_c 50 = .ok (.iload_n 3, 1) := by decide +kernel
theorem d_Mo_work_51 : decode b_Mo_work_c 51 = .ok (.iload 4, 2) := by decide +kernel
theorem d_Mo_work_53 : decode b_Mo_work_c 53 = .ok (.invokevirtual 116, 3) := by decide +kernel
theorem d_Mo_work_56 : decode b_Mo_work_c 56 = .ok (.goto 4, 3) := by decide +kernel
theorem d_Mo_work_59 : decode b_Mo_work_c 59 = .ok (.iconst 0, 1) := by decide +kernel
theorem d_Mo_work_60 : decode b_Mo_work_c 60 = .ok (.iastore, 1) := by decide +kernel
theorem d_Mo_work_61 : decode b_Mo_work_c 61 = .ok (.iinc 4 1, 3) := by decide +kernel
theorem d_Mo_work_64 : decode b_Mo_work_c 64 = .ok (.goto (-61), 3) := by decide +kernel
theorem d_Mo_work_67 : decode b_Mo_work_c 67 = .ok (.iconst 0, 1) := by decide +kernel
theorem d_Mo_work_68 : decode b_Mo_work_c 68 = .ok (.istore 4, 2) := by decide +kernel
theorem d_Mo_work_70 : decode b_Mo_work_c 70 = .ok (.iload 4, 2) := by decide +kernel
theorem d_Mo_work_72 : decode b_Mo_work_c 72 = .ok (.iload_n 1, 1) := by decide +kernel
theorem d_Mo_work_73 : decode b_Mo_work_c 73 = .ok (.if_icmp .gt 129, 3) := by decide +kernel
theorem d_Mo_work_76 : decode b_Mo_work_c 76 = .ok (.iconst 0, 1) := by decide +kernel
theorem d_Mo_work_77 : decode b_Mo_work_c 77 = .ok (.istore 5, 2) := by decide +kernel
theorem d_Mo_work_79 : decode b_Mo_work_c 79 = .ok (.iload 5, 2) := by decide +kernel
theorem d_Mo_work_81 : decode b_Mo_work_c 81 = .ok (.iconst 2, 1) := by decide +kernel
theorem d_Mo_work_82 : decode b_Mo_work_c 82 = .ok (.if_icmp .ge 114, 3) := by decide +kernel
theorem d_Mo_work_85 : decode b_Mo_work_c 85 = .ok (.aload_n 0, 1) := by decide +kernel
theorem d_Mo_work_86 : decode b_Mo_work_c 86 = .ok (.getfield 37, 3) := by decide +kernel
theorem d_Mo_work_89 : decode b_Mo_work_c 89 = .ok (.iload 4, 2) := by decide +kernel
theorem d_Mo_work_91 : decode b_Mo_work_c 91 = .ok (.baload, 1) := by decide +kernel
theorem d_Mo_work_92 : decode b_Mo_work_c 92 = .ok (.ifCond .eq 104, 3) := by decide +kernel
theorem d_Mo_work_95 : decode b_Mo_work_c 95 = .ok (.aload_n 0, 1) := by decide +kernel
theorem d_Mo_work_96 : decode b_Mo_work_c 96 = .ok (.getfield 44, 3) := by decide +kernel
theorem d_Mo_work_99 : decode b_Mo_work_c 99 = .ok (.iconst 2, 1) := by decide +kernel
theorem d_Mo_work_100 : decode b_Mo_work_c 100 = .ok (.iload 4, 2) := by decide +kernel
theorem d_Mo_work_102 : decode b_Mo_work_c 102 = .ok (.imul, 1) := by decide +kernel
theorem d_Mo_work_103 : decode b_Mo_work_c 103 = .ok (.iload 5, 2) := by decide +kernel
theorem d_Mo_work_105 : decode b_Mo_work_c 105 = .ok (.iadd, 1) := by decide +kernel
theorem d_Mo_work_106 : decode b_Mo_work_c 106 = .ok (.aload_n 0, 1) := by decide +kernel
theorem d_Mo_work_107 : decode b_Mo_work_c 107 = .ok (.getfield 7, 3) := by decide +kernel
theorem d_Mo_work_110 : decode b_Mo_work_c 110 = .ok (.iload 4, 2) := by decide +kernel
theorem d_Mo_work_112 : decode b_Mo_work_c 112 = .ok (.iaload, 1) := by decide +kernel
theorem d_Mo_work_113 : decode b_Mo_work_c 113 = .ok (.ifCond .ne 22, 3) := by decide +kernel
theorem d_Mo_work_116 : decode b_Mo_work_c 116 = .ok (.aload_n 0, 1) := by decide +kernel
theorem d_Mo_work_117 : decode b_Mo_work_c 117 = .ok (.getfield 16, 3) := by decide +kernel
theorem d_Mo_work_120 : decode b_Mo_work_c 120 = .ok (.iconst 2, 1) := by decide +kernel
theorem d_Mo_work_121 : decode b_Mo_work_c 121 = .ok (.iload 4, 2) := by decide +kernel
theorem d_Mo_work_123 : decode b_Mo_work_c 123 = .ok (.imul, 1) := by decide +kernel
theorem d_Mo_work_124 : decode b_Mo_work_c 124 = .ok (.iload 5, 2) := by decide +kernel
theorem d_Mo_work_126 : decode b_Mo_work_c 126 = .ok (.iadd, 1) := by decide +kernel
theorem d_Mo_work_127 : decode b_Mo_work_c 127 = .ok (.iaload, 1) := by decide +kernel
theorem d_Mo_work_128 : decode b_Mo_work_c 128 = .ok (.sipush 7776, 3) := by decide +kernel
theorem d_Mo_work_131 : decode b_Mo_work_c 131 = .ok (.imul, 1) := by decide +kernel
theorem d_Mo_work_132 : decode b_Mo_work_c 132 = .ok (.goto 57, 3) := by decide +kernel
theorem d_Mo_work_135 : decode b_Mo_work_c 135 = .ok (.aload_n 0, 1) := by decide +kernel
theorem d_Mo_work_136 : decode b_Mo_work_c 136 = .ok (.getfield 7, 3) := by decide +kernel
theorem d_Mo_work_139 : decode b_Mo_work_c 139 = .ok (.iload 4, 2) := by decide +kernel
theorem d_Mo_work_141 : decode b_Mo_work_c 141 = .ok (.iaload, 1) := by decide +kernel
theorem d_Mo_work_142 : decode b_Mo_work_c 142 = .ok (.iconst 1, 1) := by decide +kernel
theorem d_Mo_work_143 : decode b_Mo_work_c 143 = .ok (.if_icmp .ne 14, 3) := by decide +kernel
theorem d_Mo_work_146 : decode b_Mo_work_c 146 = .ok (.aload_n 0, 1) := by decide +kernel
theorem d_Mo_work_147 : decode b_Mo_work_c 147 = .ok (.iload 4, 2) := by decide +kernel
theorem d_Mo_work_149 : decode b_Mo_work_c 149 = .ok (.iload 5, 2) := by decide +kernel
theorem d_Mo_work_151 : decode b_Mo_work_c 151 = .ok (.invokevirtual 120, 3) := by decide +kernel
theorem d_Mo_work_154 : decode b_Mo_work_c 154 = .ok (.goto 35, 3) := by decide +kernel
theorem d_Mo_work_157 : decode b_Mo_work_c 157 = .ok (.aload_n 0, 1) := by decide +kernel
theorem d_Mo_work_158 : decode b_Mo_work_c 158 = .ok (.getfield 44, 3) := by decide +kernel
theorem d_Mo_work_161 : decode b_Mo_work_c 161 = .ok (.iconst 2, 1) := by decide +kernel
theorem d_Mo_work_162 : decode b_Mo_work_c 162 = .ok (.aload_n 0, 1) := by decide +kernel
theorem d_Mo_work_163 : decode b_Mo_work_c 163 = .ok (.getfield 19, 3) := by decide +kernel
theorem d_Mo_work_166 : decode b_Mo_work_c 166 = .ok (.iconst 3, 1) := by decide +kernel
theorem d_Mo_work_167 : decode b_Mo_work_c 167 = .ok (.iload 4, 2) := by decide +kernel
theorem d_Mo_work_169 : decode b_Mo_work_c 169 = .ok (.imul, 1) := by decide +kernel
theorem d_Mo_work_170 : decode b_Mo_work_c 170 = .ok (.aload_n 0, 1) := by decide +kernel
theorem d_Mo_work_171 : decode b_Mo_work_c 171 = .ok (.getfield 50, 3) := by decide +kernel
theorem d_Mo_work_174 : decode b_Mo_work_c 174 = .ok (.aload_n 0, 1) := by decide +kernel
theorem d_Mo_work_175 : decode b_Mo_work_c 175 = .ok (.getfield 13, 3) := by decide +kernel
theorem d_Mo_work_178 : decode b_Mo_work_c 178 = .ok (.iload 4, 2) := by decide +kernel
theorem d_Mo_work_180 : decode b_Mo_work_c 180 = .ok (.iaload, 1) := by decide +kernel
theorem d_Mo_work_181 : decode b_Mo_work_c 181 = .ok (.iaload, 1) := by decide +kernel
theorem d_Mo_work_182 : decode b_Mo_work_c 182 = .ok (.iadd, 1) := by decide +kernel
theorem d_Mo_work_183 : decode b_Mo_work_c 183 = .ok (.iaload, 1) := by decide +kernel
theorem d_Mo_work_184 : decode b_Mo_work_c 184 = .ok (.imul, 1) := by decide +kernel
theorem d_Mo_work_185 : decode b_Mo_work_c 185 = .ok (.iload 5, 2) := by decide +kernel
theorem d_Mo_work_187 : decode b_Mo_work_c 187 = .ok (.iadd, 1) := by decide +kernel
theorem d_Mo_work_188 : decode b_Mo_work_c 188 = .ok (.iaload, 1) := by decide +kernel
theorem d_Mo_work_189 : decode b_Mo_work_c 189 = .ok (.iastore, 1) := by decide +kernel
theorem d_Mo_work_190 : decode b_Mo_work_c 190 = .ok (.iinc 5 1, 3) := by decide +kernel
theorem d_Mo_work_193 : decode b_Mo_work_c 193 = .ok (.goto (-114), 3) := by decide +kernel
theorem d_Mo_work_196 : decode b_Mo_work_c 196 = .ok (.iinc 4 1, 3) := by decide +kernel
theorem d_Mo_work_199 : decode b_Mo_work_c 199 = .ok (.goto (-129), 3) := by decide +kernel
theorem d_Mo_work_202 : decode b_Mo_work_c 202 = .ok (.aload_n 0, 1) := by decide +kernel
theorem d_Mo_work_203 : decode b_Mo_work_c 203 = .ok (.getfield 47, 3) := by decide +kernel
theorem d_Mo_work_206 : decode b_Mo_work_c 206 = .ok (.bipush 64, 2) := by decide +kernel
theorem d_Mo_work_208 : decode b_Mo_work_c 208 = .ok (.iload_n 2, 1) := by decide +kernel
theorem d_Mo_work_209 : decode b_Mo_work_c 209 = .ok (.imul, 1) := by decide +kernel
theorem d_Mo_work_210 : decode b_Mo_work_c 210 = .ok (.iload_n 3, 1) := by decide +kernel
theorem d_Mo_work_211 : decode b_Mo_work_c 211 = .ok (.iadd, 1) := by decide +kernel
theorem d_Mo_work_212 : decode b_Mo_work_c 212 = .ok (.aload_n 0, 1) := by decide +kernel
theorem d_Mo_work_213 : decode b_Mo_work_c 213 = .ok (.getfield 44, 3) := by decide +kernel
theorem d_Mo_work_216 : decode b_Mo_work_c 216 = .ok (.iconst 2, 1) := by decide +kernel
theorem d_Mo_work_217 : decode b_Mo_work_c 217 = .ok (.iload_n 1, 1) := by decide +kernel
theorem d_Mo_work_218 : decode b_Mo_work_c 218 = .ok (.imul, 1) := by decide +kernel
theorem d_Mo_work_219 : decode b_Mo_work_c 219 = .ok (.iaload, 1) := by decide +kernel
theorem d_Mo_work_220 : decode b_Mo_work_c 220 = .ok (.iastore, 1) := by decide +kernel
theorem d_Mo_work_221 : decode b_Mo_work_c 221 = .ok (.aload_n 0, 1) := by decide +kernel
theorem d_Mo_work_222 : decode b_Mo_work_c 222 = .ok (.getfield 47, 3) := by decide +kernel
theorem d_Mo_work_225 : decode b_Mo_work_c 225 = .ok (.sipush 4096, 3) := by decide +kernel
theorem d_Mo_work_228 : decode b_Mo_work_c 228 = .ok (.bipush 64, 2) := by decide +kernel
theorem d_Mo_work_230 : decode b_Mo_work_c 230 = .ok (.iload_n 2, 1) := by decide +kernel
theorem d_Mo_work_231 : decode b_Mo_work_c 231 = .ok (.imul, 1) := by decide +kernel
theorem d_Mo_work_232 : decode b_Mo_work_c 232 = .ok (.iadd, 1) := by decide +kernel
theorem d_Mo_work_233 : decode b_Mo_work_c 233 = .ok (.iload_n 3, 1) := by decide +kernel
theorem d_Mo_work_234 : decode b_Mo_work_c 234 = .ok (.iadd, 1) := by decide +kernel
theorem d_Mo_work_235 : decode b_Mo_work_c 235 = .ok (.aload_n 0, 1) := by decide +kernel
theorem d_Mo_work_236 : decode b_Mo_work_c 236 = .ok (.getfield 44, 3) := by decide +kernel
theorem d_Mo_work_239 : decode b_Mo_work_c 239 = .ok (.iconst 2, 1) := by decide +kernel
theorem d_Mo_work_240 : decode b_Mo_work_c 240 = .ok (.iload_n 1, 1) := by decide +kernel
theorem d_Mo_work_241 : decode b_Mo_work_c 241 = .ok (.imul, 1) := by decide +kernel
theorem d_Mo_work_242 : decode b_Mo_work_c 242 = .ok (.iconst 1, 1) := by decide +kernel
theorem d_Mo_work_243 : decode b_Mo_work_c 243 = .ok (.iadd, 1) := by decide +kernel
theorem d_Mo_work_244 : decode b_Mo_work_c 244 = .ok (.iaload, 1) := by decide +kernel
theorem d_Mo_work_245 : decode b_Mo_work_c 245 = .ok (.iastore, 1) := by decide +kernel
theorem d_Mo_work_246 : decode b_Mo_work_c 246 = .ok (.return_, 1) := by decide +kernel
/-! GameRowsModel.work(III)V -/
set_option maxHeartbeats 4000000 in
set_option maxRecDepth 100000 in
theorem t_Mo_work_196 {X : gX} {r : gS} (C : gC X b_Mo_work_c R_Mo 6 1 25) (hR : ∀ pc lv, decode b_Mo_work_c pc = .ok (.return_, 1) → G X pc lv [] r) {k70 : Int32 × Int32 × Int32 × Int32 × gS → Option gS}  (hk70 : ∀ x, k70 x = some r → G X 70 [(0, .ref (gA X 46)), (1, .int x.1), (2, .int x.2.1), (3, .int x.2.2.1), (4, .int x.2.2.2.1)] [] x.2.2.2.2) (x1 : Int32) (x2 : Int32) (x3 : Int32) (x4 : Int32) (σ : gS) (h : b_Mo_work_196 k70 x1 x2 x3 x4 σ = some r) : G X 196 [(0, .ref (gA X 46)), (1, .int x1), (2, .int x2), (3, .int x3), (4, .int x4)] [] σ := by
  unfold b_Mo_work_196 at h
  obtain ⟨x4_1, ex4_1, h⟩ := bnd_some h
  refine r_iinc C 4 (lv' := [(4, .int x4_1), (0, .ref (gA X 46)), (1, .int x1), (2, .int x2), (3, .int x3)]) d_Mo_work_196 rfl (by rw [ex4_1]; rfl) (by decide) rfl ?_
  refine r_goto C (tgt := 70) d_Mo_work_199 (by decide) ?_
  refine r_sub [1, 2, 3, 4, 0] (lv' := [(0, .ref (gA X 46)), (1, .int x1), (2, .int x2), (3, .int x3), (4, .int x4_1)]) rfl ?_
  exact hk70 _ h
set_option maxHeartbeats 4000000 in
set_option maxRecDepth 100000 in
theorem t_Mo_work_189 {X : gX} {r : gS} (C : gC X b_Mo_work_c R_Mo 6 1 25) (hR : ∀ pc lv, decode b_Mo_work_c pc = .ok (.return_, 1) → G X pc lv [] r) {k70 : Int32 × Int32 × Int32 × Int32 × gS → Option gS}  {k79 : Int32 × Int32 × Int32 × Int32 × Int32 × gS → Option gS}  (hk70 : ∀ x, k70 x = some r → G X 70 [(0, .ref (gA X 46)), (1, .int x.1), (2, .int x.2.1), (3, .int x.2.2.1), (4, .int x.2.2.2.1)] [] x.2.2.2.2) (hk79 : ∀ x, k79 x = some r → G X 79 [(0, .ref (gA X 46)), (1, .int x.1), (2, .int x.2.1), (3, .int x.2.2.1), (4, .int x.2.2.2.1), (5, .int x.2.2.2.2.1)] [] x.2.2.2.2.2) (x1 : Int32) (x2 : Int32) (x3 : Int32) (x4 : Int32) (x5 : Int32) (y1 : Int32) (y2 : Int32) (σ : gS) (h : b_Mo_work_189 k70 k79 x1 x2 x3 x4 x5 y1 y2 σ = some r) : G X 189 [(0, .ref (gA X 46)), (1, .int x1), (2, .int x2), (3, .int x3), (4, .int x4), (5, .int x5)] [.int y2, .int y1, .ref (gA X 58)] σ := by
  unfold b_Mo_work_189 at h
  obtain ⟨hi_1, h⟩ := ck_some h
  obtain ⟨σ_2, eσ_2, h⟩ := bnd_some h
  refine r_iast C hi_1 eσ_2 d_Mo_work_189 ?_
  obtain ⟨x5_3, ex5_3, h⟩ := bnd_some h
  refine r_iinc C 5 (lv' := [(5, .int x5_3), (0, .ref (gA X 46)), (1, .int x1), (2, .int x2), (3, .int x3), (4, .int x4)]) d_Mo_work_190 rfl (by rw [ex5_3]; rfl) (by decide) rfl ?_
  refine r_goto C (tgt := 79) d_Mo_work_193 (by decide) ?_
  refine r_sub [1, 2, 3, 4, 5, 0] (lv' := [(0, .ref (gA X 46)), (1, .int x1), (2, .int x2), (3, .int x3), (4, .int x4), (5, .int x5_3)]) rfl ?_
  exact hk79 _ h
set_option maxHeartbeats 4000000 in
set_option maxRecDepth 100000 in
theorem t_Mo_work_79 {X : gX} {r : gS} (C : gC X b_Mo_work_c R_Mo 6 1 25) (hR : ∀ pc lv, decode b_Mo_work_c pc = .ok (.return_, 1) → G X pc lv [] r) {k70 : Int32 × Int32 × Int32 × Int32 × gS → Option gS}  {k79 : Int32 × Int32 × Int32 × Int32 × Int32 × gS → Option gS}  (hk70 : ∀ x, k70 x = some r → G X 70 [(0, .ref (gA X 46)), (1, .int x.1), (2, .int x.2.1), (3, .int x.2.2.1), (4, .int x.2.2.2.1)] [] x.2.2.2.2) (hk79 : ∀ x, k79 x = some r → G X 79 [(0, .ref (gA X 46)), (1, .int x.1), (2, .int x.2.1), (3, .int x.2.2.1), (4, .int x.2.2.2.1), (5, .int x.2.2.2.2.1)] [] x.2.2.2.2.2) (x1 : Int32) (x2 : Int32) (x3 : Int32) (x4 : Int32) (x5 : Int32) (σ : gS) (h : b_Mo_work_79 k70 k79 x1 x2 x3 x4 x5 σ = some r) : G X 79 [(0, .ref (gA X 46)), (1, .int x1), (2, .int x2), (3, .int x3), (4, .int x4), (5, .int x5)] [] σ := by
  unfold b_Mo_work_79 at h
  refine r_iload C 5 d_Mo_work_79 rfl ?_
  refine r_iconst C (v := 2) d_Mo_work_81 (by decide) ?_
  refine r_icmp_ge C (tgt := 196) d_Mo_work_82 (by decide) (fun hc_1 => ?_) (fun hc_1 => ?_)
  · rw [if_pos hc_1] at h
    refine r_sub [0, 1, 2, 3, 4] (lv' := [(0, .ref (gA X 46)), (1, .int x1), (2, .int x2), (3, .int x3), (4, .int x4)]) rfl ?_
    exact t_Mo_work_196 C hR hk70 x1 x2 x3 x4 σ h
  · rw [if_neg hc_1] at h
    refine r_aload_n C 0 d_Mo_work_85 rfl rfl ?_
    refine q_Mo_37 C d_Mo_work_86 ?_
    refine r_iload C 4 d_Mo_work_89 rfl ?_
    obtain ⟨hi_2, h⟩ := ck_some h
    refine r_zald C hi_2 d_Mo_work_91 ?_
    refine r_if_eq C (tgt := 196) d_Mo_work_92 (by decide) (fun hc_3 => ?_) (fun hc_3 => ?_)
    · rw [if_pos hc_3] at h
      refine r_sub [0, 1, 2, 3, 4] (lv' := [(0, .ref (gA X 46)), (1, .int x1), (2, .int x2), (3, .int x3), (4, .int x4)]) rfl ?_
      exact t_Mo_work_196 C hR hk70 x1 x2 x3 x4 σ h
    · rw [if_neg hc_3] at h
      refine r_aload_n C 0 d_Mo_work_95 rfl rfl ?_
      refine q_Mo_44 C d_Mo_work_96 ?_
      refine r_iconst C (v := 2) d_Mo_work_99 (by decide) ?_
      refine r_iload C 4 d_Mo_work_100 rfl ?_
      refine r_imul C d_Mo_work_102 ?_
      refine r_iload C 5 d_Mo_work_103 rfl ?_
      refine r_iadd C d_Mo_work_105 ?_
      refine r_aload_n C 0 d_Mo_work_106 rfl rfl ?_
      refine q_Mo_7 C d_Mo_work_107 ?_
      refine r_iload C 4 d_Mo_work_110 rfl ?_
      obtain ⟨hi_4, h⟩ := ck_some h
      refine r_iald C hi_4 d_Mo_work_112 ?_
      refine r_if_ne C (tgt := 135) d_Mo_work_113 (by decide) (fun hc_5 => ?_) (fun hc_5 => ?_)
      · rw [if_neg hc_5] at h
        refine r_aload_n C 0 d_Mo_work_135 rfl rfl ?_
        refine q_Mo_7 C d_Mo_work_136 ?_
        refine r_iload C 4 d_Mo_work_139 rfl ?_
        obtain ⟨hi_6, h⟩ := ck_some h
        refine r_iald C hi_6 d_Mo_work_141 ?_
        refine r_iconst C (v := 1) d_Mo_work_142 (by decide) ?_
        refine r_icmp_ne C (tgt := 157) d_Mo_work_143 (by decide) (fun hc_7 => ?_) (fun hc_7 => ?_)
        · rw [if_neg hc_7] at h
          refine r_aload_n C 0 d_Mo_work_157 rfl rfl ?_
          refine q_Mo_44 C d_Mo_work_158 ?_
          refine r_iconst C (v := 2) d_Mo_work_161 (by decide) ?_
          refine r_aload_n C 0 d_Mo_work_162 rfl rfl ?_
          refine q_Mo_19 C d_Mo_work_163 ?_
          refine r_iconst C (v := 3) d_Mo_work_166 (by decide) ?_
          refine r_iload C 4 d_Mo_work_167 rfl ?_
          refine r_imul C d_Mo_work_169 ?_
          refine r_aload_n C 0 d_Mo_work_170 rfl rfl ?_
          refine q_Mo_50 C d_Mo_work_171 ?_
          refine r_aload_n C 0 d_Mo_work_174 rfl rfl ?_
          refine q_Mo_13 C d_Mo_work_175 ?_
          refine r_iload C 4 d_Mo_work_178 rfl ?_
          obtain ⟨hi_8, h⟩ := ck_some h
          refine r_iald C hi_8 d_Mo_work_180 ?_
          obtain ⟨hi_9, h⟩ := ck_some h
          refine r_iald C hi_9 d_Mo_work_181 ?_
          refine r_iadd C d_Mo_work_182 ?_
          obtain ⟨hi_10, h⟩ := ck_some h
          refine r_iald C hi_10 d_Mo_work_183 ?_
          refine r_imul C d_Mo_work_184 ?_
          refine r_iload C 5 d_Mo_work_185 rfl ?_
          refine r_iadd C d_Mo_work_187 ?_
          obtain ⟨hi_11, h⟩ := ck_some h
          refine r_iald C hi_11 d_Mo_work_188 ?_
          exact t_Mo_work_189 C hR hk70 hk79 x1 x2 x3 x4 x5 ((2 * x4) + x5) (gI σ 58 ((2 * (gI σ 50 ((3 * x4) + (gI σ 60 (gI σ 48 x4.toNatClampNeg).toNatClampNeg)).toNatClampNeg)) + x5).toNatClampNeg) σ h
        · rw [if_pos hc_7] at h
          refine r_aload_n C 0 d_Mo_work_146 rfl rfl ?_
          refine r_iload C 4 d_Mo_work_147 rfl ?_
          refine r_iload C 5 d_Mo_work_149 rfl ?_
          obtain ⟨r_12, er_12, h⟩ := bind_some h
          refine r_callV C (As := [.int x4, .int x5]) (rest := [.int ((2 * x4) + x5), .ref (gA X 58)]) (st1 := [.int r_12, .int ((2 * x4) + x5), .ref (gA X 58)]) (c_Mo_mean X.1.2.1 σ x4 x5 er_12) k_Mo_mean m_472 (by decide) cel_Mo rfl rfl rfl rfl (Nat.le_of_ble_eq_true rfl) ⟨Nat.le_of_ble_eq_true rfl, Nat.le_of_ble_eq_true rfl⟩ d_Mo_work_151 rfl ?_
          refine r_goto C (tgt := 189) d_Mo_work_154 (by decide) ?_
          exact t_Mo_work_189 C hR hk70 hk79 x1 x2 x3 x4 x5 ((2 * x4) + x5) r_12 σ h
      · rw [if_pos hc_5] at h
        refine r_aload_n C 0 d_Mo_work_116 rfl rfl ?_
        refine q_Mo_16 C d_Mo_work_117 ?_
        refine r_iconst C (v := 2) d_Mo_work_120 (by decide) ?_
        refine r_iload C 4 d_Mo_work_121 rfl ?_
        refine r_imul C d_Mo_work_123 ?_
        refine r_iload C 5 d_Mo_work_124 rfl ?_
        refine r_iadd C d_Mo_work_126 ?_
        obtain ⟨hi_13, h⟩ := ck_some h
        refine r_iald C hi_13 d_Mo_work_127 ?_
        refine r_sipush C (v := 7776) d_Mo_work_128 (by decide) ?_
        refine r_imul C d_Mo_work_131 ?_
        refine r_goto C (tgt := 189) d_Mo_work_132 (by decide) ?_
        exact t_Mo_work_189 C hR hk70 hk79 x1 x2 x3 x4 x5 ((2 * x4) + x5) ((gI σ 49 ((2 * x4) + x5).toNatClampNeg) * 7776) σ h
set_option maxHeartbeats 4000000 in
set_option maxRecDepth 100000 in
theorem u_Mo_work_79 {X : gX} {r : gS} (C : gC X b_Mo_work_c R_Mo 6 1 25) (hR : ∀ pc lv, decode b_Mo_work_c pc = .ok (.return_, 1) → G X pc lv [] r) {k70 : Int32 × Int32 × Int32 × Int32 × gS → Option gS}  (hk70 : ∀ x, k70 x = some r → G X 70 [(0, .ref (gA X 46)), (1, .int x.1), (2, .int x.2.1), (3, .int x.2.2.1), (4, .int x.2.2.2.1)] [] x.2.2.2.2) (x : Int32 × Int32 × Int32 × Int32 × Int32 × gS) (h : l_Mo_work_79 k70 x = some r) : G X 79 [(0, .ref (gA X 46)), (1, .int x.1), (2, .int x.2.1), (3, .int x.2.2.1), (4, .int x.2.2.2.1), (5, .int x.2.2.2.2.1)] [] x.2.2.2.2.2 :=
  lpF_ind (P := fun x => G X 79 [(0, .ref (gA X 46)), (1, .int x.1), (2, .int x.2.1), (3, .int x.2.2.1), (4, .int x.2.2.2.1), (5, .int x.2.2.2.2.1)] [] x.2.2.2.2.2) (fun k hk x h => t_Mo_work_79 C hR hk70 hk x.1 x.2.1 x.2.2.1 x.2.2.2.1 x.2.2.2.2.1 x.2.2.2.2.2 h) gF x h
set_option maxHeartbeats 4000000 in
set_option maxRecDepth 100000 in
theorem t_Mo_work_70 {X : gX} {r : gS} (C : gC X b_Mo_work_c R_Mo 6 1 25) (hR : ∀ pc lv, decode b_Mo_work_c pc = .ok (.return_, 1) → G X pc lv [] r) {k70 : Int32 × Int32 × Int32 × Int32 × gS → Option gS}  (hk70 : ∀ x, k70 x = some r → G X 70 [(0, .ref (gA X 46)), (1, .int x.1), (2, .int x.2.1), (3, .int x.2.2.1), (4, .int x.2.2.2.1)] [] x.2.2.2.2) (x1 : Int32) (x2 : Int32) (x3 : Int32) (x4 : Int32) (σ : gS) (h : b_Mo_work_70 k70 x1 x2 x3 x4 σ = some r) : G X 70 [(0, .ref (gA X 46)), (1, .int x1), (2, .int x2), (3, .int x3), (4, .int x4)] [] σ := by
  unfold b_Mo_work_70 at h
  refine r_iload C 4 d_Mo_work_70 rfl ?_
  refine r_iload_n C 1 d_Mo_work_72 rfl rfl ?_
  refine r_icmp_gt C (tgt := 202) d_Mo_work_73 (by decide) (fun hc_1 => ?_) (fun hc_1 => ?_)
  · rw [if_pos hc_1] at h
    refine r_aload_n C 0 d_Mo_work_202 rfl rfl ?_
    refine q_Mo_47 C d_Mo_work_203 ?_
    refine r_bipush C (v := 64) d_Mo_work_206 (by decide) ?_
    refine r_iload_n C 2 d_Mo_work_208 rfl rfl ?_
    refine r_imul C d_Mo_work_209 ?_
    refine r_iload_n C 3 d_Mo_work_210 rfl rfl ?_
    refine r_iadd C d_Mo_work_211 ?_
    refine r_aload_n C 0 d_Mo_work_212 rfl rfl ?_
    refine q_Mo_44 C d_Mo_work_213 ?_
    refine r_iconst C (v := 2) d_Mo_work_216 (by decide) ?_
    refine r_iload_n C 1 d_Mo_work_217 rfl rfl ?_
    refine r_imul C d_Mo_work_218 ?_
    obtain ⟨hi_2, h⟩ := ck_some h
    refine r_iald C hi_2 d_Mo_work_219 ?_
    obtain ⟨hi_3, h⟩ := ck_some h
    obtain ⟨σ_4, eσ_4, h⟩ := bnd_some h
    refine r_iast C hi_3 eσ_4 d_Mo_work_220 ?_
    refine r_aload_n C 0 d_Mo_work_221 rfl rfl ?_
    refine q_Mo_47 C d_Mo_work_222 ?_
    refine r_sipush C (v := 4096) d_Mo_work_225 (by decide) ?_
    refine r_bipush C (v := 64) d_Mo_work_228 (by decide) ?_
    refine r_iload_n C 2 d_Mo_work_230 rfl rfl ?_
    refine r_imul C d_Mo_work_231 ?_
    refine r_iadd C d_Mo_work_232 ?_
    refine r_iload_n C 3 d_Mo_work_233 rfl rfl ?_
    refine r_iadd C d_Mo_work_234 ?_
    refine r_aload_n C 0 d_Mo_work_235 rfl rfl ?_
    refine q_Mo_44 C d_Mo_work_236 ?_
    refine r_iconst C (v := 2) d_Mo_work_239 (by decide) ?_
    refine r_iload_n C 1 d_Mo_work_240 rfl rfl ?_
    refine r_imul C d_Mo_work_241 ?_
    refine r_iconst C (v := 1) d_Mo_work_242 (by decide) ?_
    refine r_iadd C d_Mo_work_243 ?_
    obtain ⟨hi_5, h⟩ := ck_some h
    refine r_iald C hi_5 d_Mo_work_244 ?_
    obtain ⟨hi_6, h⟩ := ck_some h
    obtain ⟨σ_7, eσ_7, h⟩ := bnd_some h
    refine r_iast C hi_6 eσ_7 d_Mo_work_245 ?_
    cases h
    exact hR _ _ d_Mo_work_246
  · rw [if_neg hc_1] at h
    refine r_iconst C (v := 0) d_Mo_work_76 (by decide) ?_
    refine r_istore C (lv' := [(5, .int 0), (0, .ref (gA X 46)), (1, .int x1), (2, .int x2), (3, .int x3), (4, .int x4)]) d_Mo_work_77 (by decide) rfl rfl ?_
    refine r_sub [1, 2, 3, 4, 5, 0] (lv' := [(0, .ref (gA X 46)), (1, .int x1), (2, .int x2), (3, .int x3), (4, .int x4), (5, .int 0)]) rfl ?_
    exact u_Mo_work_79 C hR hk70 (x1, x2, x3, x4, 0, σ) h
set_option maxHeartbeats 4000000 in
set_option maxRecDepth 100000 in
theorem u_Mo_work_70 {X : gX} {r : gS} (C : gC X b_Mo_work_c R_Mo 6 1 25) (hR : ∀ pc lv, decode b_Mo_work_c pc = .ok (.return_, 1) → G X pc lv [] r)  (x : Int32 × Int32 × Int32 × Int32 × gS) (h : l_Mo_work_70 x = some r) : G X 70 [(0, .ref (gA X 46)), (1, .int x.1), (2, .int x.2.1), (3, .int x.2.2.1), (4, .int x.2.2.2.1)] [] x.2.2.2.2 :=
  lpF_ind (P := fun x => G X 70 [(0, .ref (gA X 46)), (1, .int x.1), (2, .int x.2.1), (3, .int x.2.2.1), (4, .int x.2.2.2.1)] [] x.2.2.2.2) (fun k hk x h => t_Mo_work_70 C hR hk x.1 x.2.1 x.2.2.1 x.2.2.2.1 x.2.2.2.2 h) gF x h
set_option maxHeartbeats 4000000 in
set_option maxRecDepth 100000 in
theorem t_Mo_work_60 {X : gX} {r : gS} (C : gC X b_Mo_work_c R_Mo 6 1 25) (hR : ∀ pc lv, decode b_Mo_work_c pc = .ok (.return_, 1) → G X pc lv [] r) {k3 : Int32 × Int32 × Int32 × Int32 × gS → Option gS}  (hk3 : ∀ x, k3 x = some r → G X 3 [(0, .ref (gA X 46)), (1, .int x.1), (2, .int x.2.1), (3, .int x.2.2.1), (4, .int x.2.2.2.1)] [] x.2.2.2.2) (x1 : Int32) (x2 : Int32) (x3 : Int32) (x4 : Int32) (y1 : Int32) (y2 : Int32) (σ : gS) (h : b_Mo_work_60 k3 x1 x2 x3 x4 y1 y2 σ = some r) : G X 60 [(0, .ref (gA X 46)), (1, .int x1), (2, .int x2), (3, .int x3), (4, .int x4)] [.int y2, .int y1, .ref (gA X 60)] σ := by
  unfold b_Mo_work_60 at h
  obtain ⟨hi_1, h⟩ := ck_some h
  obtain ⟨σ_2, eσ_2, h⟩ := bnd_some h
  refine r_iast C hi_1 eσ_2 d_Mo_work_60 ?_
  obtain ⟨x4_3, ex4_3, h⟩ := bnd_some h
  refine r_iinc C 4 (lv' := [(4, .int x4_3), (0, .ref (gA X 46)), (1, .int x1), (2, .int x2), (3, .int x3)]) d_Mo_work_61 rfl (by rw [ex4_3]; rfl) (by decide) rfl ?_
  refine r_goto C (tgt := 3) d_Mo_work_64 (by decide) ?_
  refine r_sub [1, 2, 3, 4, 0] (lv' := [(0, .ref (gA X 46)), (1, .int x1), (2, .int x2), (3, .int x3), (4, .int x4_3)]) rfl ?_
  exact hk3 _ h
set_option maxHeartbeats 4000000 in
set_option maxRecDepth 100000 in
theorem t_Mo_work_51 {X : gX} {r : gS} (C : gC X b_Mo_work_c R_Mo 6 1 25) (hR : ∀ pc lv, decode b_Mo_work_c pc = .ok (.return_, 1) → G X pc lv [] r) {k3 : Int32 × Int32 × Int32 × Int32 × gS → Option gS}  (hk3 : ∀ x, k3 x = some r → G X 3 [(0, .ref (gA X 46)), (1, .int x.1), (2, .int x.2.1), (3, .int x.2.2.1), (4, .int x.2.2.2.1)] [] x.2.2.2.2) (x1 : Int32) (x2 : Int32) (x3 : Int32) (x4 : Int32) (y1 : Int32) (y3 : Int32) (y4 : Int32) (σ : gS) (h : b_Mo_work_51 k3 x1 x2 x3 x4 y1 y3 y4 σ = some r) : G X 51 [(0, .ref (gA X 46)), (1, .int x1), (2, .int x2), (3, .int x3), (4, .int x4)] [.int y4, .int y3, .ref (gA X 46), .int y1, .ref (gA X 60)] σ := by
  unfold b_Mo_work_51 at h
  refine r_iload C 4 d_Mo_work_51 rfl ?_
  obtain ⟨r_1, er_1, h⟩ := bind_some h
  refine r_callV C (As := [.int y3, .int y4, .int x4]) (rest := [.int y1, .ref (gA X 60)]) (st1 := [.int r_1, .int y1, .ref (gA X 60)]) (c_Mo_actOf X.1.2.1 σ y3 y4 x4 er_1) k_Mo_actOf m_477 (by decide) cel_Mo rfl rfl rfl rfl (Nat.le_of_ble_eq_true rfl) ⟨Nat.le_of_ble_eq_true rfl, Nat.le_of_ble_eq_true rfl⟩ d_Mo_work_53 rfl ?_
  refine r_goto C (tgt := 60) d_Mo_work_56 (by decide) ?_
  exact t_Mo_work_60 C hR hk3 x1 x2 x3 x4 y1 r_1 σ h
set_option maxHeartbeats 4000000 in
set_option maxRecDepth 100000 in
theorem t_Mo_work_3 {X : gX} {r : gS} (C : gC X b_Mo_work_c R_Mo 6 1 25) (hR : ∀ pc lv, decode b_Mo_work_c pc = .ok (.return_, 1) → G X pc lv [] r) {k3 : Int32 × Int32 × Int32 × Int32 × gS → Option gS}  (hk3 : ∀ x, k3 x = some r → G X 3 [(0, .ref (gA X 46)), (1, .int x.1), (2, .int x.2.1), (3, .int x.2.2.1), (4, .int x.2.2.2.1)] [] x.2.2.2.2) (x1 : Int32) (x2 : Int32) (x3 : Int32) (x4 : Int32) (σ : gS) (h : b_Mo_work_3 k3 x1 x2 x3 x4 σ = some r) : G X 3 [(0, .ref (gA X 46)), (1, .int x1), (2, .int x2), (3, .int x3), (4, .int x4)] [] σ := by
  unfold b_Mo_work_3 at h
  refine r_iload C 4 d_Mo_work_3 rfl ?_
  refine r_aload_n C 0 d_Mo_work_5 rfl rfl ?_
  refine q_Mo_75 C d_Mo_work_6 ?_
  refine r_icmp_ge C (tgt := 67) d_Mo_work_9 (by decide) (fun hc_1 => ?_) (fun hc_1 => ?_)
  · rw [if_pos hc_1] at h
    refine r_iconst C (v := 0) d_Mo_work_67 (by decide) ?_
    refine r_istore C (lv' := [(4, .int 0), (0, .ref (gA X 46)), (1, .int x1), (2, .int x2), (3, .int x3)]) d_Mo_work_68 (by decide) rfl rfl ?_
    refine r_sub [1, 2, 3, 4, 0] (lv' := [(0, .ref (gA X 46)), (1, .int x1), (2, .int x2), (3, .int x3), (4, .int 0)]) rfl ?_
    exact u_Mo_work_70 C hR  (x1, x2, x3, 0, σ) h
  · rw [if_neg hc_1] at h
    refine r_aload_n C 0 d_Mo_work_12 rfl rfl ?_
    refine q_Mo_50 C d_Mo_work_13 ?_
    refine r_iload C 4 d_Mo_work_16 rfl ?_
    refine r_aload_n C 0 d_Mo_work_18 rfl rfl ?_
    refine q_Mo_41 C d_Mo_work_19 ?_
    refine r_iload C 4 d_Mo_work_22 rfl ?_
    obtain ⟨hi_2, h⟩ := ck_some h
    refine r_zald C hi_2 d_Mo_work_24 ?_
    refine r_if_eq C (tgt := 59) d_Mo_work_25 (by decide) (fun hc_3 => ?_) (fun hc_3 => ?_)
    · rw [if_pos hc_3] at h
      refine r_iconst C (v := 0) d_Mo_work_59 (by decide) ?_
      exact t_Mo_work_60 C hR hk3 x1 x2 x3 x4 x4 0 σ h
    · rw [if_neg hc_3] at h
      refine r_aload_n C 0 d_Mo_work_28 rfl rfl ?_
      refine r_aload_n C 0 d_Mo_work_29 rfl rfl ?_
      refine q_Mo_31 C d_Mo_work_30 ?_
      refine r_iload C 4 d_Mo_work_33 rfl ?_
      obtain ⟨hi_4, h⟩ := ck_some h
      refine r_iald C hi_4 d_Mo_work_35 ?_
      refine r_aload_n C 0 d_Mo_work_36 rfl rfl ?_
      refine q_Mo_31 C d_Mo_work_37 ?_
      refine r_iload C 4 d_Mo_work_40 rfl ?_
      obtain ⟨hi_5, h⟩ := ck_some h
      refine r_iald C hi_5 d_Mo_work_42 ?_
      refine r_if_ne C (tgt := 50) d_Mo_work_43 (by decide) (fun hc_6 => ?_) (fun hc_6 => ?_)
      · rw [if_neg hc_6] at h
        refine r_iload_n C 3 d_Mo_work_50 rfl rfl ?_
        exact t_Mo_work_51 C hR hk3 x1 x2 x3 x4 x4 (gI σ 54 x4.toNatClampNeg) x3 σ h
      · rw [if_pos hc_6] at h
        refine r_iload_n C 2 d_Mo_work_46 rfl rfl ?_
        refine r_goto C (tgt := 51) d_Mo_work_47 (by decide) ?_
        exact t_Mo_work_51 C hR hk3 x1 x2 x3 x4 x4 (gI σ 54 x4.toNatClampNeg) x2 σ h
set_option maxHeartbeats 4000000 in
set_option maxRecDepth 100000 in
theorem u_Mo_work_3 {X : gX} {r : gS} (C : gC X b_Mo_work_c R_Mo 6 1 25) (hR : ∀ pc lv, decode b_Mo_work_c pc = .ok (.return_, 1) → G X pc lv [] r)  (x : Int32 × Int32 × Int32 × Int32 × gS) (h : l_Mo_work_3 x = some r) : G X 3 [(0, .ref (gA X 46)), (1, .int x.1), (2, .int x.2.1), (3, .int x.2.2.1), (4, .int x.2.2.2.1)] [] x.2.2.2.2 :=
  lpF_ind (P := fun x => G X 3 [(0, .ref (gA X 46)), (1, .int x.1), (2, .int x.2.1), (3, .int x.2.2.1), (4, .int x.2.2.2.1)] [] x.2.2.2.2) (fun k hk x h => t_Mo_work_3 C hR hk x.1 x.2.1 x.2.2.1 x.2.2.2.1 x.2.2.2.2 h) gF x h
set_option maxHeartbeats 4000000 in
set_option maxRecDepth 100000 in
theorem t_Mo_work_0 {X : gX} {r : gS} (C : gC X b_Mo_work_c R_Mo 6 1 25) (hR : ∀ pc lv, decode b_Mo_work_c pc = .ok (.return_, 1) → G X pc lv [] r) (x1 : Int32) (x2 : Int32) (x3 : Int32) (σ : gS) (h : b_Mo_work_0 x1 x2 x3 σ = some r) : G X 0 [(0, .ref (gA X 46)), (1, .int x1), (2, .int x2), (3, .int x3)] [] σ := by
  unfold b_Mo_work_0 at h
  refine r_iconst C (v := 0) d_Mo_work_0 (by decide) ?_
  refine r_istore C (lv' := [(4, .int 0), (0, .ref (gA X 46)), (1, .int x1), (2, .int x2), (3, .int x3)]) d_Mo_work_1 (by decide) rfl rfl ?_
  refine r_sub [1, 2, 3, 4, 0] (lv' := [(0, .ref (gA X 46)), (1, .int x1), (2, .int x2), (3, .int x3), (4, .int 0)]) rfl ?_
  exact u_Mo_work_3 C hR  (x1, x2, x3, 0, σ) h
set_option maxHeartbeats 4000000 in
set_option maxRecDepth 100000 in
theorem c_Mo_work (l : Launch) (σ : gS) (x1 : Int32) (x2 : Int32) (x3 : Int32) {r : gS} (h : f_Mo_work σ x1 x2 x3 = some r) : gMet l y_Mo_work b_Mo_work_c 6 (none) 1 25 (fun a => [.ref (a 46), .int x1, .int x2, .int x3]) σ (none) r := by
  refine gMet_v (by decide +kernel) (fun a => Nat.le_of_ble_eq_true rfl) (fun X _ C hR => ?_)
  refine r_sub [0, 1, 2, 3] (lv' := [(0, .ref (gA X 46)), (1, .int x1), (2, .int x2), (3, .int x3)]) rfl ?_
  exact t_Mo_work_0 C hR x1 x2 x3 σ h
theorem d_Mo_workAll_0 : decode b_Mo_workAll_c 0 = .ok (.aload_n 0, 1) := by decide +kernel
theorem d_Mo_workAll_1 : decode b_Mo_workAll_c 1 = .ok (.invokevirtual 110, 3) := by decide +kernel
theorem d_Mo_workAll_4 : decode b_Mo_workAll_c 4 = .ok (.aload_n 0, 1) := by decide +kernel
theorem d_Mo_workAll_5 : decode b_Mo_workAll_c 5 = .ok (.aload_n 0, 1) := by decide +kernel
theorem d_Mo_workAll_6 : decode b_Mo_workAll_c 6 = .ok (.iconst 0, 1) := by decide +kernel
theorem d_Mo_workAll_7 : decode b_Mo_workAll_c 7 = .ok (.invokevirtual 113, 3) := by decide +kernel
theorem d_Mo_workAll_10 : decode b_Mo_workAll_c 10 = .ok (.putfield 124, 3) := by decide +kernel
theorem d_Mo_workAll_13 : decode b_Mo_workAll_c 13 = .ok (.aload_n 0, 1) := by decide +kernel
theorem d_Mo_workAll_14 : decode b_Mo_workAll_c 14 = .ok (.aload_n 0, 1) := by decide +kernel
theorem d_Mo_workAll_15 : decode b_Mo_workAll_c 15 = .ok (.iconst 1, 1) := by decide +kernel
theorem d_Mo_workAll_16 : decode b_Mo_workAll_c 16 = .ok (.invokevirtual 113, 3) := by decide +kernel
theorem d_Mo_workAll_19 : decode b_Mo_workAll_c 19 = .ok (.putfield 127, 3) := by decide +kernel
theorem d_Mo_workAll_22 : decode b_Mo_workAll_c 22 = .ok (.iconst 0, 1) := by decide +kernel
theorem d_Mo_workAll_23 : decode b_Mo_workAll_c 23 = .ok (.istore_n 2, 1) := by decide +kernel
theorem d_Mo_workAll_24 : decode b_Mo_workAll_c 24 = .ok (.iload_n 2, 1) := by decide +kernel
theorem d_Mo_workAll_25 : decode b_Mo_workAll_c 25 = .ok (.aload_n 0, 1) := by decide +kernel
theorem d_Mo_workAll_26 : decode b_Mo_workAll_c 26 = .ok (.getfield 124, 3) := by decide +kernel
theorem d_Mo_workAll_29 : decode b_Mo_workAll_c 29 = .ok (.if_icmp .ge 32, 3) := by decide +kernel
theorem d_Mo_workAll_32 : decode b_Mo_workAll_c 32 = .ok (.iconst 0, 1) := by decide +kernel
theorem d_Mo_workAll_33 : decode b_Mo_workAll_c 33 = .ok (.istore_n 3, 1) := by decide +kernel
theorem d_Mo_workAll_34 : decode b_Mo_workAll_c 34 = .ok (.iload_n 3, 1) := by decide +kernel
theorem d_Mo_workAll_35 : decode b_Mo_workAll_c 35 = .ok (.aload_n 0, 1) := by decide +kernel
theorem d_Mo_workAll_36 : decode b_Mo_workAll_c 36 = .ok (.getfield 127, 3) := by decide +kernel
theorem d_Mo_workAll_39 : decode b_Mo_workAll_c 39 = .ok (.if_icmp .ge 16, 3) := by decide +kernel
theorem d_Mo_workAll_42 : decode b_Mo_workAll_c 42 = .ok (.aload_n 0, 1) := by decide +kernel
theorem d_Mo_workAll_43 : decode b_Mo_workAll_c 43 = .ok (.iload_n 1, 1) := by decide +kernel
theorem d_Mo_workAll_44 : decode b_Mo_workAll_c 44 = .ok (.iload_n 2, 1) := by decide +kernel
theorem d_Mo_workAll_45 : decode b_Mo_workAll_c 45 = .ok (.iload_n 3, 1) := by decide +kernel
theorem d_Mo_workAll_46 : decode b_Mo_workAll_c 46 = .ok (.invokevirtual 130, 3) := by decide +kernel
theorem d_Mo_workAll_49 : decode b_Mo_workAll_c 49 = .ok (.iinc 3 1, 3) := by decide +kernel
theorem d_Mo_workAll_52 : decode b_Mo_workAll_c 52 = .ok (.goto (-18), 3) := by decide +kernel
theorem d_Mo_workAll_55 : decode b_Mo_workAll_c 55 = .ok (.iinc 2 1, 3) := by decide +kernel
theorem d_Mo_workAll_58 : decode b_Mo_workAll_c 58 = .ok (.goto (-34), 3) := by decide +kernel
theorem d_Mo_workAll_61 : decode b_Mo_workAll_c 61 = .ok (.return_, 1) := by decide +kernel
/-! GameRowsModel.workAll(I)V -/
set_option maxHeartbeats 4000000 in
set_option maxRecDepth 100000 in
theorem t_Mo_workAll_34 {X : gX} {r : gS} (C : gC X b_Mo_workAll_c R_Mo 4 2 50) (hR : ∀ pc lv, decode b_Mo_workAll_c pc = .ok (.return_, 1) → G X pc lv [] r) {k24 : Int32 × Int32 × gS → Option gS}  {k34 : Int32 × Int32 × Int32 × gS → Option gS}  (hk24 : ∀ x, k24 x = some r → G X 24 [(0, .ref (gA X 46)), (1, .int x.1), (2, .int x.2.1)] [] x.2.2) (hk34 : ∀ x, k34 x = some r → G X 34 [(0, .ref (gA X 46)), (1, .int x.1), (2, .int x.2.1), (3, .int x.2.2.1)] [] x.2.2.2) (x1 : Int32) (x2 : Int32) (x3 : Int32) (σ : gS) (h : b_Mo_workAll_34 k24 k34 x1 x2 x3 σ = some r) : G X 34 [(0, .ref (gA X 46)), (1, .int x1), (2, .int x2), (3, .int x3)] [] σ := by
  unfold b_Mo_workAll_34 at h
  refine r_iload_n C 3 d_Mo_workAll_34 rfl rfl ?_
  refine r_aload_n C 0 d_Mo_workAll_35 rfl rfl ?_
  refine q_Mo_127 C d_Mo_workAll_36 ?_
  refine r_icmp_ge C (tgt := 55) d_Mo_workAll_39 (by decide) (fun hc_1 => ?_) (fun hc_1 => ?_)
  · rw [if_pos hc_1] at h
    obtain ⟨x2_2, ex2_2, h⟩ := bnd_some h
    refine r_iinc C 2 (lv' := [(2, .int x2_2), (0, .ref (gA X 46)), (1, .int x1), (3, .int x3)]) d_Mo_workAll_55 rfl (by rw [ex2_2]; rfl) (by decide) rfl ?_
    refine r_goto C (tgt := 24) d_Mo_workAll_58 (by decide) ?_
    refine r_sub [1, 2, 0] (lv' := [(0, .ref (gA X 46)), (1, .int x1), (2, .int x2_2)]) rfl ?_
    exact hk24 _ h
  · rw [if_neg hc_1] at h
    refine r_aload_n C 0 d_Mo_workAll_42 rfl rfl ?_
    refine r_iload_n C 1 d_Mo_workAll_43 rfl rfl ?_
    refine r_iload_n C 2 d_Mo_workAll_44 rfl rfl ?_
    refine r_iload_n C 3 d_Mo_workAll_45 rfl rfl ?_
    obtain ⟨r_3, er_3, h⟩ := bind_some h
    refine r_callV C (As := [.int x1, .int x2, .int x3]) (rest := []) (st1 := []) (c_Mo_work X.1.2.1 σ x1 x2 x3 er_3) k_Mo_work m_482 (by decide) cel_Mo rfl rfl rfl rfl (Nat.le_of_ble_eq_true rfl) ⟨Nat.le_of_ble_eq_true rfl, Nat.le_of_ble_eq_true rfl⟩ d_Mo_workAll_46 rfl ?_
    obtain ⟨x3_4, ex3_4, h⟩ := bnd_some h
    refine r_iinc C 3 (lv' := [(3, .int x3_4), (0, .ref (gA X 46)), (1, .int x1), (2, .int x2)]) d_Mo_workAll_49 rfl (by rw [ex3_4]; rfl) (by decide) rfl ?_
    refine r_goto C (tgt := 34) d_Mo_workAll_52 (by decide) ?_
    refine r_sub [1, 2, 3, 0] (lv' := [(0, .ref (gA X 46)), (1, .int x1), (2, .int x2), (3, .int x3_4)]) rfl ?_
    exact hk34 _ h
set_option maxHeartbeats 4000000 in
set_option maxRecDepth 100000 in
theorem u_Mo_workAll_34 {X : gX} {r : gS} (C : gC X b_Mo_workAll_c R_Mo 4 2 50) (hR : ∀ pc lv, decode b_Mo_workAll_c pc = .ok (.return_, 1) → G X pc lv [] r) {k24 : Int32 × Int32 × gS → Option gS}  (hk24 : ∀ x, k24 x = some r → G X 24 [(0, .ref (gA X 46)), (1, .int x.1), (2, .int x.2.1)] [] x.2.2) (x : Int32 × Int32 × Int32 × gS) (h : l_Mo_workAll_34 k24 x = some r) : G X 34 [(0, .ref (gA X 46)), (1, .int x.1), (2, .int x.2.1), (3, .int x.2.2.1)] [] x.2.2.2 :=
  lpF_ind (P := fun x => G X 34 [(0, .ref (gA X 46)), (1, .int x.1), (2, .int x.2.1), (3, .int x.2.2.1)] [] x.2.2.2) (fun k hk x h => t_Mo_workAll_34 C hR hk24 hk x.1 x.2.1 x.2.2.1 x.2.2.2 h) gF x h
set_option maxHeartbeats 4000000 in
set_option maxRecDepth 100000 in
theorem t_Mo_workAll_24 {X : gX} {r : gS} (C : gC X b_Mo_workAll_c R_Mo 4 2 50) (hR : ∀ pc lv, decode b_Mo_workAll_c pc = .ok (.return_, 1) → G X pc lv [] r) {k24 : Int32 × Int32 × gS → Option gS}  (hk24 : ∀ x, k24 x = some r → G X 24 [(0, .ref (gA X 46)), (1, .int x.1), (2, .int x.2.1)] [] x.2.2) (x1 : Int32) (x2 : Int32) (σ : gS) (h : b_Mo_workAll_24 k24 x1 x2 σ = some r) : G X 24 [(0, .ref (gA X 46)), (1, .int x1), (2, .int x2)] [] σ := by
  unfold b_Mo_workAll_24 at h
  refine r_iload_n C 2 d_Mo_workAll_24 rfl rfl ?_
  refine r_aload_n C 0 d_Mo_workAll_25 rfl rfl ?_
  refine q_Mo_124 C d_Mo_workAll_26 ?_
  refine r_icmp_ge C (tgt := 61) d_Mo_workAll_29 (by decide) (fun hc_1 => ?_) (fun hc_1 => ?_)
  · rw [if_pos hc_1] at h
    cases h
    exact hR _ _ d_Mo_workAll_61
  · rw [if_neg hc_1] at h
    refine r_iconst C (v := 0) d_Mo_workAll_32 (by decide) ?_
    refine r_istore_n C (lv' := [(3, .int 0), (0, .ref (gA X 46)), (1, .int x1), (2, .int x2)]) d_Mo_workAll_33 rfl (by decide) rfl rfl ?_
    refine r_sub [1, 2, 3, 0] (lv' := [(0, .ref (gA X 46)), (1, .int x1), (2, .int x2), (3, .int 0)]) rfl ?_
    exact u_Mo_workAll_34 C hR hk24 (x1, x2, 0, σ) h
set_option maxHeartbeats 4000000 in
set_option maxRecDepth 100000 in
theorem u_Mo_workAll_24 {X : gX} {r : gS} (C : gC X b_Mo_workAll_c R_Mo 4 2 50) (hR : ∀ pc lv, decode b_Mo_workAll_c pc = .ok (.return_, 1) → G X pc lv [] r)  (x : Int32 × Int32 × gS) (h : l_Mo_workAll_24 x = some r) : G X 24 [(0, .ref (gA X 46)), (1, .int x.1), (2, .int x.2.1)] [] x.2.2 :=
  lpF_ind (P := fun x => G X 24 [(0, .ref (gA X 46)), (1, .int x.1), (2, .int x.2.1)] [] x.2.2) (fun k hk x h => t_Mo_workAll_24 C hR hk x.1 x.2.1 x.2.2 h) gF x h
set_option maxHeartbeats 4000000 in
set_option maxRecDepth 100000 in
theorem t_Mo_workAll_0 {X : gX} {r : gS} (C : gC X b_Mo_workAll_c R_Mo 4 2 50) (hR : ∀ pc lv, decode b_Mo_workAll_c pc = .ok (.return_, 1) → G X pc lv [] r) (x1 : Int32) (σ : gS) (h : b_Mo_workAll_0 x1 σ = some r) : G X 0 [(0, .ref (gA X 46)), (1, .int x1)] [] σ := by
  unfold b_Mo_workAll_0 at h
  refine r_aload_n C 0 d_Mo_workAll_0 rfl rfl ?_
  obtain ⟨r_1, er_1, h⟩ := bind_some h
  refine r_callV C (As := []) (rest := []) (st1 := []) (c_Mo_findTree X.1.2.1 σ  er_1) k_Mo_findTree m_442 (by decide) cel_Mo rfl rfl rfl rfl (Nat.le_of_ble_eq_true rfl) ⟨Nat.le_of_ble_eq_true rfl, Nat.le_of_ble_eq_true rfl⟩ d_Mo_workAll_1 rfl ?_
  refine r_aload_n C 0 d_Mo_workAll_4 rfl rfl ?_
  refine r_aload_n C 0 d_Mo_workAll_5 rfl rfl ?_
  refine r_iconst C (v := 0) d_Mo_workAll_6 (by decide) ?_
  obtain ⟨r_2, er_2, h⟩ := bind_some h
  refine r_callV C (As := [.int 0]) (rest := [.ref (gA X 46)]) (st1 := [.int r_2, .ref (gA X 46)]) (c_Mo_plansOf X.1.2.1 r_1 0 er_2) k_Mo_plansOf m_446 (by decide) cel_Mo rfl rfl rfl rfl (Nat.le_of_ble_eq_true rfl) ⟨Nat.le_of_ble_eq_true rfl, Nat.le_of_ble_eq_true rfl⟩ d_Mo_workAll_7 rfl ?_
  obtain ⟨σ_3, eσ_3, h⟩ := bnd_some h
  refine p_Mo_124 C eσ_3 d_Mo_workAll_10 ?_
  refine r_aload_n C 0 d_Mo_workAll_13 rfl rfl ?_
  refine r_aload_n C 0 d_Mo_workAll_14 rfl rfl ?_
  refine r_iconst C (v := 1) d_Mo_workAll_15 (by decide) ?_
  obtain ⟨r_4, er_4, h⟩ := bind_some h
  refine r_callV C (As := [.int 1]) (rest := [.ref (gA X 46)]) (st1 := [.int r_4, .ref (gA X 46)]) (c_Mo_plansOf X.1.2.1 σ_3 1 er_4) k_Mo_plansOf m_446 (by decide) cel_Mo rfl rfl rfl rfl (Nat.le_of_ble_eq_true rfl) ⟨Nat.le_of_ble_eq_true rfl, Nat.le_of_ble_eq_true rfl⟩ d_Mo_workAll_16 rfl ?_
  obtain ⟨σ_5, eσ_5, h⟩ := bnd_some h
  refine p_Mo_127 C eσ_5 d_Mo_workAll_19 ?_
  refine r_iconst C (v := 0) d_Mo_workAll_22 (by decide) ?_
  refine r_istore_n C (lv' := [(2, .int 0), (0, .ref (gA X 46)), (1, .int x1)]) d_Mo_workAll_23 rfl (by decide) rfl rfl ?_
  refine r_sub [1, 2, 0] (lv' := [(0, .ref (gA X 46)), (1, .int x1), (2, .int 0)]) rfl ?_
  exact u_Mo_workAll_24 C hR  (x1, 0, σ_5) h
set_option maxHeartbeats 4000000 in
set_option maxRecDepth 100000 in
theorem c_Mo_workAll (l : Launch) (σ : gS) (x1 : Int32) {r : gS} (h : f_Mo_workAll σ x1 = some r) : gMet l y_Mo_workAll b_Mo_workAll_c 4 (none) 2 50 (fun a => [.ref (a 46), .int x1]) σ (none) r := by
  refine gMet_v (by decide +kernel) (fun a => Nat.le_of_ble_eq_true rfl) (fun X _ C hR => ?_)
  refine r_sub [0, 1] (lv' := [(0, .ref (gA X 46)), (1, .int x1)]) rfl ?_
  exact t_Mo_workAll_0 C hR x1 σ h
theorem d_Mo_worthTo_0 : decode b_Mo_worthTo_c 0 = .ok (.iload_n 1, 1) := by decide +kernel
theorem d_Mo_worthTo_1 : decode b_Mo_worthTo_c 1 = .ok (.ifCond .ne 17, 3) := by decide +kernel
theorem d_Mo_worthTo_4 : decode b_Mo_worthTo_c 4 = .ok (.aload_n 0, 1) := by decide +kernel
theorem d_Mo_worthTo_5 : decode b_Mo_worthTo_c 5 = .ok (.getfield 47, 3) := by decide +kernel
theorem d_Mo_worthTo_8 : decode b_Mo_worthTo_c 8 = .ok (.bipush 64, 2) := by decide +kernel
theorem d_Mo_worthTo_10 : decode b_Mo_worthTo_c 10 = .ok (.iload_n 2, 1) := by decide +kernel
theorem d_Mo_worthTo_11 : decode b_Mo_worthTo_c 11 = .ok (.imul, 1) := by decide +kernel
theorem d_Mo_worthTo_12 : decode b_Mo_worthTo_c 12 = .ok (.iload_n 3, 1) := by decide +kernel
theorem d_Mo_worthTo_13 : decode b_Mo_worthTo_c 13 = .ok (.iadd, 1) := by decide +kernel
theorem d_Mo_worthTo_14 : decode b_Mo_worthTo_c 14 = .ok (.iaload, 1) := by decide +kernel
theorem d_Mo_worthTo_15 : decode b_Mo_worthTo_c 15 = .ok (.goto 18, 3) := by decide +kernel
theorem d_Mo_worthTo_18 : decode b_Mo_worthTo_c 18 = .ok (.aload_n 0, 1) := by decide +kernel
theorem d_Mo_worthTo_19 : decode b_Mo_worthTo_c 19 = .ok (.getfield 47, 3) := by decide +kernel
theorem d_Mo_worthTo_22 : decode b_Mo_worthTo_c 22 = .ok (.sipush 4096, 3) := by decide +kernel
theorem d_Mo_worthTo_25 : decode b_Mo_worthTo_c 25 = .ok (.bipush 64, 2) := by decide +kernel
theorem d_Mo_worthTo_27 : decode b_Mo_worthTo_c 27 = .ok (.iload_n 3, 1) := by decide +kernel
theorem d_Mo_worthTo_28 : decode b_Mo_worthTo_c 28 = .ok (.imul, 1) := by decide +kernel
theorem d_Mo_worthTo_29 : decode b_Mo_worthTo_c 29 = .ok (.iadd, 1) := by decide +kernel
theorem d_Mo_worthTo_30 : decode b_Mo_worthTo_c 30 = .ok (.iload_n 2, 1) := by decide +kernel
theorem d_Mo_worthTo_31 : decode b_Mo_worthTo_c 31 = .ok (.iadd, 1) := by decide +kernel
theorem d_Mo_worthTo_32 : decode b_Mo_worthTo_c 32 = .ok (.iaload, 1) := by decide +kernel
theorem d_Mo_worthTo_33 : decode b_Mo_worthTo_c 33 = .ok (.ireturn, 1) := by decide +kernel
/-! GameRowsModel.worthTo(III)I -/
set_option maxHeartbeats 4000000 in
set_option maxRecDepth 100000 in
theorem t_Mo_worthTo_0 {X : gX} {r : Int32} {σ : gS} (C : gC X b_Mo_worthTo_c R_Mo 4 0 0) (hR : ∀ pc lv, decode b_Mo_worthTo_c pc = .ok (.ireturn, 1) → G X pc lv [.int r] σ) (x1 : Int32) (x2 : Int32) (x3 : Int32) (h : b_Mo_worthTo_0 σ x1 x2 x3 = some r) : G X 0 [(0, .ref (gA X 46)), (1, .int x1), (2, .int x2), (3, .int x3)] [] σ := by
  unfold b_Mo_worthTo_0 at h
  refine r_iload_n C 1 d_Mo_worthTo_0 rfl rfl ?_
  refine r_if_ne C (tgt := 18) d_Mo_worthTo_1 (by decide) (fun hc_1 => ?_) (fun hc_1 => ?_)
  · rw [if_neg hc_1] at h
    refine r_aload_n C 0 d_Mo_worthTo_18 rfl rfl ?_
    refine q_Mo_47 C d_Mo_worthTo_19 ?_
    refine r_sipush C (v := 4096) d_Mo_worthTo_22 (by decide) ?_
    refine r_bipush C (v := 64) d_Mo_worthTo_25 (by decide) ?_
    refine r_iload_n C 3 d_Mo_worthTo_27 rfl rfl ?_
    refine r_imul C d_Mo_worthTo_28 ?_
    refine r_iadd C d_Mo_worthTo_29 ?_
    refine r_iload_n C 2 d_Mo_worthTo_30 rfl rfl ?_
    refine r_iadd C d_Mo_worthTo_31 ?_
    obtain ⟨hi_2, h⟩ := ck_some h
    refine r_iald C hi_2 d_Mo_worthTo_32 ?_
    cases h
    exact hR _ _ d_Mo_worthTo_33
  · rw [if_pos hc_1] at h
    refine r_aload_n C 0 d_Mo_worthTo_4 rfl rfl ?_
    refine q_Mo_47 C d_Mo_worthTo_5 ?_
    refine r_bipush C (v := 64) d_Mo_worthTo_8 (by decide) ?_
    refine r_iload_n C 2 d_Mo_worthTo_10 rfl rfl ?_
    refine r_imul C d_Mo_worthTo_11 ?_
    refine r_iload_n C 3 d_Mo_worthTo_12 rfl rfl ?_
    refine r_iadd C d_Mo_worthTo_13 ?_
    obtain ⟨hi_3, h⟩ := ck_some h
    refine r_iald C hi_3 d_Mo_worthTo_14 ?_
    refine r_goto C (tgt := 33) d_Mo_worthTo_15 (by decide) ?_
    cases h
    exact hR _ _ d_Mo_worthTo_33
set_option maxHeartbeats 4000000 in
set_option maxRecDepth 100000 in
theorem c_Mo_worthTo (l : Launch) (σ : gS) (x1 : Int32) (x2 : Int32) (x3 : Int32) {r : Int32} (h : f_Mo_worthTo σ x1 x2 x3 = some r) : gMet l y_Mo_worthTo b_Mo_worthTo_c 4 (some .int) 0 0 (fun a => [.ref (a 46), .int x1, .int x2, .int x3]) σ (some (.int r)) σ := by
  refine gMet_i (by decide +kernel) (fun a => Nat.le_of_ble_eq_true rfl) (fun X _ C hR => ?_)
  refine r_sub [0, 1, 2, 3] (lv' := [(0, .ref (gA X 46)), (1, .int x1), (2, .int x2), (3, .int x3)]) rfl ?_
  exact t_Mo_worthTo_0 C hR x1 x2 x3 h
theorem d_Mo_worth_0 : decode b_Mo_worth_c 0 = .ok (.iload_n 3, 1) := by decide +kernel
theorem d_Mo_worth_1 : decode b_Mo_worth_c 1 = .ok (.iconst 0, 1) := by decide +kernel
theorem d_Mo_worth_2 : decode b_Mo_worth_c 2 = .ok (.iconst 1, 1) := by decide +kernel
theorem d_Mo_worth_3 : decode b_Mo_worth_c 3 = .ok (.invokestatic 78, 3) := by decide +kernel
theorem d_Mo_worth_6 : decode b_Mo_worth_c 6 = .ok (.ifCond .eq 10, 3) := by decide +kernel
theorem d_Mo_worth_9 : decode b_Mo_worth_c 9 = .ok (.aload_n 0, 1) := by decide +kernel
theorem d_Mo_worth_10 : decode b_Mo_worth_c 10 = .ok (.getfield 71, 3) := by decide +kernel
theorem d_Mo_worth_13 : decode b_Mo_worth_c 13 = .ok (.ifCond .ne 6, 3) := by decide +kernel
theorem d_Mo_worth_16 : decode b_Mo_worth_c 16 = .ok (.ldc 134, 2) := by decide +kernel
theorem d_Mo_worth_18 : decode b_Mo_worth_c 18 = .ok (.ireturn, 1) := by decide +kernel
theorem d_Mo_worth_19 : decode b_Mo_worth_c 19 = .ok (.aload_n 0, 1) := by decide +kernel
theorem d_Mo_worth_20 : decode b_Mo_worth_c 20 = .ok (.aload_n 0, 1) := by decide +kernel
theorem d_Mo_worth_21 : decode b_Mo_worth_c 21 = .ok (.invokevirtual 135, 3) := by decide +kernel
theorem d_Mo_worth_24 : decode b_Mo_worth_c 24 = .ok (.invokevirtual 139, 3) := by decide +kernel
theorem d_Mo_worth_27 : decode b_Mo_worth_c 27 = .ok (.iload_n 1, 1) := by decide +kernel
theorem d_Mo_worth_28 : decode b_Mo_worth_c 28 = .ok (.iconst 0, 1) := by decide +kernel
theorem d_Mo_worth_29 : decode b_Mo_worth_c 29 = .ok (.aload_n 0, 1) := by decide +kernel
theorem d_Mo_worth_30 : decode b_Mo_worth_c 30 = .ok (.getfield 124, 3) := by decide +kernel
theorem d_Mo_worth_33 : decode b_Mo_worth_c 33 = .ok (.iconst 1, 1) := by decide +kernel
theorem d_Mo_worth_34 : decode b_Mo_worth_c 34 = .ok (.isub, 1) := by decide +kernel
theorem d_Mo_worth_35 : decode b_Mo_worth_c 35 = .ok (.invokestatic 78, 3) := by decide +kernel
theorem d_Mo_worth_38 : decode b_Mo_worth_c 38 = .ok (.ifCond .eq 43, 3) := by decide +kernel
theorem d_Mo_worth_41 : decode b_Mo_worth_c 41 = .ok (.iload_n 2, 1) := by decide +kernel
theorem d_Mo_worth_42 : decode b_Mo_worth_c 42 = .ok (.iconst 0, 1) := by decide +kernel
theorem d_Mo_worth_43 : decode b_Mo_worth_c 43 = .ok (.aload_n 0, 1) := by decide +kernel
theorem d_Mo_worth_44 : decode b_Mo_worth_c 44 = .ok (.getfield 127, 3) := by decide +kernel
theorem d_Mo_worth_47 : decode b_Mo_worth_c 47 = .ok (.iconst 1, 1) := by decide +kernel
theorem d_Mo_worth_48 : decode b_Mo_worth_c 48 = .ok (.isub, 1) := by decide +kernel
theorem d_Mo_worth_49 : decode b_Mo_worth_c 49 = .ok (.invokestatic 78, 3) := by decide +kernel
theorem d_Mo_worth_52 : decode b_Mo_worth_c 52 = .ok (.ifCond .eq 29, 3) := by decide +kernel
theorem d_Mo_worth_55 : decode b_Mo_worth_c 55 = .ok (.aload_n 0, 1) := by decide +kernel
theorem d_Mo_worth_56 : decode b_Mo_worth_c 56 = .ok (.iload_n 3, 1) := by decide +kernel
theorem d_Mo_worth_57 : decode b_Mo_worth_c 57 = .ok (.iload_n 3, 1) := by decide +kernel
theorem d_Mo_worth_58 : decode b_Mo_worth_c 58 = .ok (.ifCond .ne 7, 3) := by decide +kernel
theorem d_Mo_worth_61 : decode b_Mo_worth_c 61 = .ok (.iload_n 1, 1) := by decide +kernel
theorem d_Mo_worth_62 : decode b_Mo_worth_c 62 = .ok (.goto 4, 3) := by decide +kernel
theorem d_Mo_worth_65 : decode b_Mo_worth_c 65 = .ok (.iload_n 2, 1) := by decide +kernel
theorem d_Mo_worth_66 : decode b_Mo_worth_c 66 = .ok (.iload_n 3, 1) := by decide +kernel
theorem d_Mo_worth_67 : decode b_Mo_worth_c 67 = .ok (.ifCond .ne 7, 3) := by decide +kernel
theorem d_Mo_worth_70 : decode b_Mo_worth_c 70 = .ok (.iload_n 2, 1) := by decide +kernel
theorem d_Mo_worth_71 : decode b_Mo_worth_c 71 = .ok (.goto 4, 3) := by decide +kernel
theorem d_Mo_worth_74 : decode b_Mo_worth_c 74 = .ok (.iload_n 1, 1) := by decide +kernel
theorem d_Mo_worth_75 : decode b_Mo_worth_c 75 = .ok (.invokevirtual 143, 3) := by decide +kernel
theorem d_Mo_worth_78 : decode b_Mo_worth_c 78 = .ok (.goto 5, 3) := by decide +kernel
theorem d_Mo_worth_81 : decode b_Mo_worth_c 81 = .ok (.ldc 134, 2) := by decide +kernel
theorem d_Mo_worth_83 : decode b_Mo_worth_c 83 = .ok (.ireturn, 1) := by decide +kernel
/-! GameRowsModel.worth(III)I -/
set_option maxHeartbeats 4000000 in
set_option maxRecDepth 100000 in
theorem t_Mo_worth_75 {X : gX} {r : (Int32 × gS)} (C : gC X b_Mo_worth_c R_Mo 4 3 73) (hR : ∀ pc lv, decode b_Mo_worth_c pc = .ok (.ireturn, 1) → G X pc lv [.int r.1] r.2) (y1 : Int32) (y2 : Int32) (y3 : Int32) (σ : gS) (h : b_Mo_worth_75 y1 y2 y3 σ = some r) : G X 75 [] [.int y3, .int y2, .int y1, .ref (gA X 46)] σ := by
  unfold b_Mo_worth_75 at h
  obtain ⟨r_1, er_1, h⟩ := bind_some h
  refine r_callV C (As := [.int y1, .int y2, .int y3]) (rest := []) (st1 := [.int r_1]) (c_Mo_worthTo X.1.2.1 σ y1 y2 y3 er_1) k_Mo_worthTo m_487 (by decide) cel_Mo rfl rfl rfl rfl (Nat.le_of_ble_eq_true rfl) ⟨Nat.le_of_ble_eq_true rfl, Nat.le_of_ble_eq_true rfl⟩ d_Mo_worth_75 rfl ?_
  refine r_goto C (tgt := 83) d_Mo_worth_78 (by decide) ?_
  cases h
  exact hR _ _ d_Mo_worth_83
set_option maxHeartbeats 4000000 in
set_option maxRecDepth 100000 in
theorem t_Mo_worth_66 {X : gX} {r : (Int32 × gS)} (C : gC X b_Mo_worth_c R_Mo 4 3 73) (hR : ∀ pc lv, decode b_Mo_worth_c pc = .ok (.ireturn, 1) → G X pc lv [.int r.1] r.2) (x1 : Int32) (x2 : Int32) (x3 : Int32) (y1 : Int32) (y2 : Int32) (σ : gS) (h : b_Mo_worth_66 x1 x2 x3 y1 y2 σ = some r) : G X 66 [(1, .int x1), (2, .int x2), (3, .int x3)] [.int y2, .int y1, .ref (gA X 46)] σ := by
  unfold b_Mo_worth_66 at h
  refine r_iload_n C 2 d_Mo_worth_66 rfl rfl ?_
  refine r_if_ne C (tgt := 74) d_Mo_worth_67 (by decide) (fun hc_1 => ?_) (fun hc_1 => ?_)
  · rw [if_neg hc_1] at h
    refine r_iload_n C 0 d_Mo_worth_74 rfl rfl ?_
    refine r_sub [] (lv' := []) rfl ?_
    exact t_Mo_worth_75 C hR y1 y2 x1 σ h
  · rw [if_pos hc_1] at h
    refine r_iload_n C 1 d_Mo_worth_70 rfl rfl ?_
    refine r_goto C (tgt := 75) d_Mo_worth_71 (by decide) ?_
    refine r_sub [] (lv' := []) rfl ?_
    exact t_Mo_worth_75 C hR y1 y2 x2 σ h
set_option maxHeartbeats 4000000 in
set_option maxRecDepth 100000 in
theorem t_Mo_worth_0 {X : gX} {r : (Int32 × gS)} (C : gC X b_Mo_worth_c R_Mo 4 3 73) (hR : ∀ pc lv, decode b_Mo_worth_c pc = .ok (.ireturn, 1) → G X pc lv [.int r.1] r.2) (x1 : Int32) (x2 : Int32) (x3 : Int32) (σ : gS) (h : b_Mo_worth_0 x1 x2 x3 σ = some r) : G X 0 [(0, .ref (gA X 46)), (1, .int x1), (2, .int x2), (3, .int x3)] [] σ := by
  unfold b_Mo_worth_0 at h
  refine r_iload_n C 3 d_Mo_worth_0 rfl rfl ?_
  refine r_iconst C (v := 0) d_Mo_worth_1 (by decide) ?_
  refine r_iconst C (v := 1) d_Mo_worth_2 (by decide) ?_
  obtain ⟨r_1, er_1, h⟩ := bind_some h
  refine r_callS C (As := [.int x3, .int 0, .int 1]) (rest := []) (st1 := [.int r_1]) (c_Mo_isFrom X.1.2.1 σ x3 0 1 er_1) k_Mo_isFrom m_420 rfl rfl rfl (Nat.le_of_ble_eq_true rfl) ⟨Nat.le_of_ble_eq_true rfl, Nat.le_of_ble_eq_true rfl⟩ d_Mo_worth_3 rfl ?_
  refine r_if_eq C (tgt := 16) d_Mo_worth_6 (by decide) (fun hc_2 => ?_) (fun hc_2 => ?_)
  · rw [if_pos hc_2] at h
    refine r_ldc C (v := (-1000000)) m_491 d_Mo_worth_16 ?_
    cases h
    exact hR _ _ d_Mo_worth_18
  · rw [if_neg hc_2] at h
    refine r_aload_n C 0 d_Mo_worth_9 rfl rfl ?_
    refine q_Mo_71 C d_Mo_worth_10 ?_
    refine r_if_ne C (tgt := 19) d_Mo_worth_13 (by decide) (fun hc_3 => ?_) (fun hc_3 => ?_)
    · rw [if_neg hc_3] at h
      refine r_aload_n C 0 d_Mo_worth_19 rfl rfl ?_
      refine r_aload_n C 0 d_Mo_worth_20 rfl rfl ?_
      obtain ⟨r_4, er_4, h⟩ := bind_some h
      refine r_callV C (As := []) (rest := [.ref (gA X 46)]) (st1 := [.int r_4, .ref (gA X 46)]) (c_Mo_root X.1.2.1 σ  er_4) k_Mo_root m_492 (by decide) cel_Mo rfl rfl rfl rfl (Nat.le_of_ble_eq_true rfl) ⟨Nat.le_of_ble_eq_true rfl, Nat.le_of_ble_eq_true rfl⟩ d_Mo_worth_21 rfl ?_
      obtain ⟨r_5, er_5, h⟩ := bind_some h
      refine r_callV C (As := [.int r_4]) (rest := []) (st1 := []) (c_Mo_workAll X.1.2.1 σ r_4 er_5) k_Mo_workAll m_496 (by decide) cel_Mo rfl rfl rfl rfl (Nat.le_of_ble_eq_true rfl) ⟨Nat.le_of_ble_eq_true rfl, Nat.le_of_ble_eq_true rfl⟩ d_Mo_worth_24 rfl ?_
      refine r_iload_n C 1 d_Mo_worth_27 rfl rfl ?_
      refine r_iconst C (v := 0) d_Mo_worth_28 (by decide) ?_
      refine r_aload_n C 0 d_Mo_worth_29 rfl rfl ?_
      refine q_Mo_124 C d_Mo_worth_30 ?_
      refine r_iconst C (v := 1) d_Mo_worth_33 (by decide) ?_
      refine r_isub C d_Mo_worth_34 ?_
      obtain ⟨r_6, er_6, h⟩ := bind_some h
      refine r_callS C (As := [.int x1, .int 0, .int ((gI r_5 46 16) - 1)]) (rest := []) (st1 := [.int r_6]) (c_Mo_isFrom X.1.2.1 r_5 x1 0 ((gI r_5 46 16) - 1) er_6) k_Mo_isFrom m_420 rfl rfl rfl (Nat.le_of_ble_eq_true rfl) ⟨Nat.le_of_ble_eq_true rfl, Nat.le_of_ble_eq_true rfl⟩ d_Mo_worth_35 rfl ?_
      refine r_if_eq C (tgt := 81) d_Mo_worth_38 (by decide) (fun hc_7 => ?_) (fun hc_7 => ?_)
      · rw [if_pos hc_7] at h
        refine r_ldc C (v := (-1000000)) m_491 d_Mo_worth_81 ?_
        cases h
        exact hR _ _ d_Mo_worth_83
      · rw [if_neg hc_7] at h
        refine r_iload_n C 2 d_Mo_worth_41 rfl rfl ?_
        refine r_iconst C (v := 0) d_Mo_worth_42 (by decide) ?_
        refine r_aload_n C 0 d_Mo_worth_43 rfl rfl ?_
        refine q_Mo_127 C d_Mo_worth_44 ?_
        refine r_iconst C (v := 1) d_Mo_worth_47 (by decide) ?_
        refine r_isub C d_Mo_worth_48 ?_
        obtain ⟨r_8, er_8, h⟩ := bind_some h
        refine r_callS C (As := [.int x2, .int 0, .int ((gI r_5 46 17) - 1)]) (rest := []) (st1 := [.int r_8]) (c_Mo_isFrom X.1.2.1 r_5 x2 0 ((gI r_5 46 17) - 1) er_8) k_Mo_isFrom m_420 rfl rfl rfl (Nat.le_of_ble_eq_true rfl) ⟨Nat.le_of_ble_eq_true rfl, Nat.le_of_ble_eq_true rfl⟩ d_Mo_worth_49 rfl ?_
        refine r_if_eq C (tgt := 81) d_Mo_worth_52 (by decide) (fun hc_9 => ?_) (fun hc_9 => ?_)
        · rw [if_pos hc_9] at h
          refine r_ldc C (v := (-1000000)) m_491 d_Mo_worth_81 ?_
          cases h
          exact hR _ _ d_Mo_worth_83
        · rw [if_neg hc_9] at h
          refine r_aload_n C 0 d_Mo_worth_55 rfl rfl ?_
          refine r_iload_n C 3 d_Mo_worth_56 rfl rfl ?_
          refine r_iload_n C 3 d_Mo_worth_57 rfl rfl ?_
          refine r_if_ne C (tgt := 65) d_Mo_worth_58 (by decide) (fun hc_10 => ?_) (fun hc_10 => ?_)
          · rw [if_neg hc_10] at h
            refine r_iload_n C 2 d_Mo_worth_65 rfl rfl ?_
            refine r_sub [1, 2, 3] (lv' := [(1, .int x1), (2, .int x2), (3, .int x3)]) rfl ?_
            exact t_Mo_worth_66 C hR x1 x2 x3 x3 x2 r_5 h
          · rw [if_pos hc_10] at h
            refine r_iload_n C 1 d_Mo_worth_61 rfl rfl ?_
            refine r_goto C (tgt := 66) d_Mo_worth_62 (by decide) ?_
            refine r_sub [1, 2, 3] (lv' := [(1, .int x1), (2, .int x2), (3, .int x3)]) rfl ?_
            exact t_Mo_worth_66 C hR x1 x2 x3 x3 x1 r_5 h
    · rw [if_pos hc_3] at h
      refine r_ldc C (v := (-1000000)) m_491 d_Mo_worth_16 ?_
      cases h
      exact hR _ _ d_Mo_worth_18
set_option maxHeartbeats 4000000 in
set_option maxRecDepth 100000 in
theorem c_Mo_worth (l : Launch) (σ : gS) (x1 : Int32) (x2 : Int32) (x3 : Int32) {r : (Int32 × gS)} (h : f_Mo_worth σ x1 x2 x3 = some r) : gMet l y_Mo_worth b_Mo_worth_c 4 (some .int) 3 73 (fun a => [.ref (a 46), .int x1, .int x2, .int x3]) σ (some (.int r.1)) r.2 := by
  refine gMet_i (by decide +kernel) (fun a => Nat.le_of_ble_eq_true rfl) (fun X _ C hR => ?_)
  refine r_sub [0, 1, 2, 3] (lv' := [(0, .ref (gA X 46)), (1, .int x1), (2, .int x2), (3, .int x3)]) rfl ?_
  exact t_Mo_worth_0 C hR x1 x2 x3 σ h
theorem d_Mo_act_0 : decode b_Mo_act_c 0 = .ok (.aload_n 0, 1) := by decide +kernel
theorem d_Mo_act_1 : decode b_Mo_act_c 1 = .ok (.getfield 71, 3) := by decide +kernel
theorem d_Mo_act_4 : decode b_Mo_act_c 4 = .ok (.ifCond .ne 6, 3) := by decide +kernel
theorem d_Mo_act_7 : decode b_Mo_act_c 7 = .ok (.ldc 134, 2) := by decide +kernel
theorem d_Mo_act_9 : decode b_Mo_act_c 9 = .ok (.ireturn, 1) := by decide +kernel
theorem d_Mo_act_10 : decode b_Mo_act_c 10 = .ok (.iload_n 1, 1) := by decide +kernel
theorem d_Mo_act_11 : decode b_Mo_act_c 11 = .ok (.iconst 0, 1) := by decide +kernel
theorem d_Mo_act_12 : decode b_Mo_act_c 12 = .ok (.iconst 1, 1) := by decide +kernel
theorem d_Mo_act_13 : decode b_Mo_act_c 13 = .ok (.invokestatic 78, 3) := by decide +kernel
theorem d_Mo_act_16 : decode b_Mo_act_c 16 = .ok (.ifCond .eq 17, 3) := by decide +kernel
theorem d_Mo_act_19 : decode b_Mo_act_c 19 = .ok (.iload_n 3, 1) := by decide +kernel
theorem d_Mo_act_20 : decode b_Mo_act_c 20 = .ok (.iconst 0, 1) := by decide +kernel
theorem d_Mo_act_21 : decode b_Mo_act_c 21 = .ok (.aload_n 0, 1) := by decide +kernel
theorem d_Mo_act_22 : decode b_Mo_act_c 22 = .ok (.getfield 75, 3) := by decide +kernel
theorem d_Mo_act_25 : decode b_Mo_act_c 25 = .ok (.iconst 1, 1) := by decide +kernel
theorem d_Mo_act_26 : decode b_Mo_act_c 26 = .ok (.isub, 1) := by decide +kernel
theorem d_Mo_act_27 : decode b_Mo_act_c 27 = .ok (.invokestatic 78, 3) := by decide +kernel
theorem d_Mo_act_30 : decode b_Mo_act_c 30 = .ok (.ifCond .ne 6, 3) := by decide +kernel
theorem d_Mo_act_33 : decode b_Mo_act_c 33 = .ok (.bipush (-2), 2) := by decide +kernel
theorem d_Mo_act_35 : decode b_Mo_act_c 35 = .ok (.ireturn, 1) := by decide +kernel
theorem d_Mo_act_36 : decode b_Mo_act_c 36 = .ok (.aload_n 0, 1) := by decide +kernel
theorem d_Mo_act_37 : decode b_Mo_act_c 37 = .ok (.invokevirtual 110, 3) := by decide +kernel
theorem d_Mo_act_40 : decode b_Mo_act_c 40 = .ok (.iload_n 2, 1) := by decide +kernel
theorem d_Mo_act_41 : decode b_Mo_act_c 41 = .ok (.iconst 0, 1) := by decide +kernel
theorem d_Mo_act_42 : decode b_Mo_act_c 42 = .ok (.aload_n 0, 1) := by decide +kernel
theorem d_Mo_act_43 : decode b_Mo_act_c 43 = .ok (.iload_n 1, 1) := by decide +kernel
theorem d_Mo_act_44 : decode b_Mo_act_c 44 = .ok (.invokevirtual 113, 3) := by decide +kernel
theorem d_Mo_act_47 : decode b_Mo_act_c 47 = .ok (.iconst 1, 1) := by decide +kernel
theorem d_Mo_act_48 : decode b_Mo_act_c 48 = .ok (.isub, 1) := by decide +kernel
theorem d_Mo_act_49 : decode b_Mo_act_c 49 = .ok (.invokestatic 78, 3) := by decide +kernel
theorem d_Mo_act_52 : decode b_Mo_act_c 52 = .ok (.ifCond .ne 6, 3) := by decide +kernel
theorem d_Mo_act_55 : decode b_Mo_act_c 55 = .ok (.bipush (-2), 2) := by decide +kernel
theorem d_Mo_act_57 : decode b_Mo_act_c 57 = .ok (.ireturn, 1) := by decide +kernel
theorem d_Mo_act_58 : decode b_Mo_act_c 58 = .ok (.aload_n 0, 1) := by decide +kernel
theorem d_Mo_act_59 : decode b_Mo_act_c 59 = .ok (.getfield 31, 3) := by decide +kernel
theorem d_Mo_act_62 : decode b_Mo_act_c 62 = .ok (.iload_n 3, 1) := by decide +kernel
theorem d_Mo_act_63 : decode b_Mo_act_c 63 = .ok (.iaload, 1) := by decide +kernel
theorem d_Mo_act_64 : decode b_Mo_act_c 64 = .ok (.iload_n 1, 1) := by decide +kernel
theorem d_Mo_act_65 : decode b_Mo_act_c 65 = .ok (.if_icmp .ne 22, 3) := by decide +kernel
theorem d_Mo_act_68 : decode b_Mo_act_c 68 = .ok (.aload_n 0, 1) := by decide +kernel
theorem d_Mo_act_69 : decode b_Mo_act_c 69 = .ok (.getfield 41, 3) := by decide +kernel
theorem d_Mo_act_72 : decode b_Mo_act_c 72 = .ok (.iload_n 3, 1) := by decide +kernel
theorem d_Mo_act_73 : decode b_Mo_act_c 73 = .ok (.baload, 1) := by decide +kernel
theorem d_Mo_act_74 : decode b_Mo_act_c 74 = .ok (.ifCond .eq 13, 3) := by decide +kernel
theorem d_Mo_act_77 : decode b_Mo_act_c 77 = .ok (.aload_n 0, 1) := by decide +kernel
theorem d_Mo_act_78 : decode b_Mo_act_c 78 = .ok (.iload_n 1, 1) := by decide +kernel
theorem d_Mo_act_79 : decode b_Mo_act_c 79 = .ok (.iload_n 2, 1) := by decide +kernel
theorem d_Mo_act_80 : decode b_Mo_act_c 80 = .ok (.iload_n 3, 1) := by decide +kernel
theorem d_Mo_act_81 : decode b_Mo_act_c 81 = .ok (.invokevirtual 116, 3) := by decide +kernel
theorem d_Mo_act_84 : decode b_Mo_act_c 84 = .ok (.goto 4, 3) := by decide +kernel
theorem d_Mo_act_87 : decode b_Mo_act_c 87 = .ok (.iconst (-1), 1) := by decide +kernel
theorem d_Mo_act_88 : decode b_Mo_act_c 88 = .ok (.ireturn, 1) := by decide +kernel
/-! GameRowsModel.act(III)I -/
set_option maxHeartbeats 4000000 in
set_option maxRecDepth 100000 in
theorem t_Mo_act_0 {X : gX} {r : (Int32 × gS)} (C : gC X b_Mo_act_c R_Mo 4 1 25) (hR : ∀ pc lv, decode b_Mo_act_c pc = .ok (.ireturn, 1) → G X pc lv [.int r.1] r.2) (x1 : Int32) (x2 : Int32) (x3 : Int32) (σ : gS) (h : b_Mo_act_0 x1 x2 x3 σ = some r) : G X 0 [(0, .ref (gA X 46)), (1, .int x1), (2, .int x2), (3, .int x3)] [] σ := by
  unfold b_Mo_act_0 at h
  refine r_aload_n C 0 d_Mo_act_0 rfl rfl ?_
  refine q_Mo_71 C d_Mo_act_1 ?_
  refine r_if_ne C (tgt := 10) d_Mo_act_4 (by decide) (fun hc_1 => ?_) (fun hc_1 => ?_)
  · rw [if_neg hc_1] at h
    refine r_iload_n C 1 d_Mo_act_10 rfl rfl ?_
    refine r_iconst C (v := 0) d_Mo_act_11 (by decide) ?_
    refine r_iconst C (v := 1) d_Mo_act_12 (by decide) ?_
    obtain ⟨r_2, er_2, h⟩ := bind_some h
    refine r_callS C (As := [.int x1, .int 0, .int 1]) (rest := []) (st1 := [.int r_2]) (c_Mo_isFrom X.1.2.1 σ x1 0 1 er_2) k_Mo_isFrom m_420 rfl rfl rfl (Nat.le_of_ble_eq_true rfl) ⟨Nat.le_of_ble_eq_true rfl, Nat.le_of_ble_eq_true rfl⟩ d_Mo_act_13 rfl ?_
    refine r_if_eq C (tgt := 33) d_Mo_act_16 (by decide) (fun hc_3 => ?_) (fun hc_3 => ?_)
    · rw [if_pos hc_3] at h
      refine r_bipush C (v := (-2)) d_Mo_act_33 (by decide) ?_
      cases h
      exact hR _ _ d_Mo_act_35
    · rw [if_neg hc_3] at h
      refine r_iload_n C 3 d_Mo_act_19 rfl rfl ?_
      refine r_iconst C (v := 0) d_Mo_act_20 (by decide) ?_
      refine r_aload_n C 0 d_Mo_act_21 rfl rfl ?_
      refine q_Mo_75 C d_Mo_act_22 ?_
      refine r_iconst C (v := 1) d_Mo_act_25 (by decide) ?_
      refine r_isub C d_Mo_act_26 ?_
      obtain ⟨r_4, er_4, h⟩ := bind_some h
      refine r_callS C (As := [.int x3, .int 0, .int ((gI σ 46 1) - 1)]) (rest := []) (st1 := [.int r_4]) (c_Mo_isFrom X.1.2.1 σ x3 0 ((gI σ 46 1) - 1) er_4) k_Mo_isFrom m_420 rfl rfl rfl (Nat.le_of_ble_eq_true rfl) ⟨Nat.le_of_ble_eq_true rfl, Nat.le_of_ble_eq_true rfl⟩ d_Mo_act_27 rfl ?_
      refine r_if_ne C (tgt := 36) d_Mo_act_30 (by decide) (fun hc_5 => ?_) (fun hc_5 => ?_)
      · rw [if_neg hc_5] at h
        refine r_aload_n C 0 d_Mo_act_36 rfl rfl ?_
        obtain ⟨r_6, er_6, h⟩ := bind_some h
        refine r_callV C (As := []) (rest := []) (st1 := []) (c_Mo_findTree X.1.2.1 σ  er_6) k_Mo_findTree m_442 (by decide) cel_Mo rfl rfl rfl rfl (Nat.le_of_ble_eq_true rfl) ⟨Nat.le_of_ble_eq_true rfl, Nat.le_of_ble_eq_true rfl⟩ d_Mo_act_37 rfl ?_
        refine r_iload_n C 2 d_Mo_act_40 rfl rfl ?_
        refine r_iconst C (v := 0) d_Mo_act_41 (by decide) ?_
        refine r_aload_n C 0 d_Mo_act_42 rfl rfl ?_
        refine r_iload_n C 1 d_Mo_act_43 rfl rfl ?_
        obtain ⟨r_7, er_7, h⟩ := bind_some h
        refine r_callV C (As := [.int x1]) (rest := [.int 0, .int x2]) (st1 := [.int r_7, .int 0, .int x2]) (c_Mo_plansOf X.1.2.1 r_6 x1 er_7) k_Mo_plansOf m_446 (by decide) cel_Mo rfl rfl rfl rfl (Nat.le_of_ble_eq_true rfl) ⟨Nat.le_of_ble_eq_true rfl, Nat.le_of_ble_eq_true rfl⟩ d_Mo_act_44 rfl ?_
        refine r_iconst C (v := 1) d_Mo_act_47 (by decide) ?_
        refine r_isub C d_Mo_act_48 ?_
        obtain ⟨r_8, er_8, h⟩ := bind_some h
        refine r_callS C (As := [.int x2, .int 0, .int (r_7 - 1)]) (rest := []) (st1 := [.int r_8]) (c_Mo_isFrom X.1.2.1 r_6 x2 0 (r_7 - 1) er_8) k_Mo_isFrom m_420 rfl rfl rfl (Nat.le_of_ble_eq_true rfl) ⟨Nat.le_of_ble_eq_true rfl, Nat.le_of_ble_eq_true rfl⟩ d_Mo_act_49 rfl ?_
        refine r_if_ne C (tgt := 58) d_Mo_act_52 (by decide) (fun hc_9 => ?_) (fun hc_9 => ?_)
        · rw [if_neg hc_9] at h
          refine r_aload_n C 0 d_Mo_act_58 rfl rfl ?_
          refine q_Mo_31 C d_Mo_act_59 ?_
          refine r_iload_n C 3 d_Mo_act_62 rfl rfl ?_
          obtain ⟨hi_10, h⟩ := ck_some h
          refine r_iald C hi_10 d_Mo_act_63 ?_
          refine r_iload_n C 1 d_Mo_act_64 rfl rfl ?_
          refine r_icmp_ne C (tgt := 87) d_Mo_act_65 (by decide) (fun hc_11 => ?_) (fun hc_11 => ?_)
          · rw [if_neg hc_11] at h
            refine r_iconst C (v := (-1)) d_Mo_act_87 (by decide) ?_
            cases h
            exact hR _ _ d_Mo_act_88
          · rw [if_pos hc_11] at h
            refine r_aload_n C 0 d_Mo_act_68 rfl rfl ?_
            refine q_Mo_41 C d_Mo_act_69 ?_
            refine r_iload_n C 3 d_Mo_act_72 rfl rfl ?_
            obtain ⟨hi_12, h⟩ := ck_some h
            refine r_zald C hi_12 d_Mo_act_73 ?_
            refine r_if_eq C (tgt := 87) d_Mo_act_74 (by decide) (fun hc_13 => ?_) (fun hc_13 => ?_)
            · rw [if_pos hc_13] at h
              refine r_iconst C (v := (-1)) d_Mo_act_87 (by decide) ?_
              cases h
              exact hR _ _ d_Mo_act_88
            · rw [if_neg hc_13] at h
              refine r_aload_n C 0 d_Mo_act_77 rfl rfl ?_
              refine r_iload_n C 1 d_Mo_act_78 rfl rfl ?_
              refine r_iload_n C 2 d_Mo_act_79 rfl rfl ?_
              refine r_iload_n C 3 d_Mo_act_80 rfl rfl ?_
              obtain ⟨r_14, er_14, h⟩ := bind_some h
              refine r_callV C (As := [.int x1, .int x2, .int x3]) (rest := []) (st1 := [.int r_14]) (c_Mo_actOf X.1.2.1 r_6 x1 x2 x3 er_14) k_Mo_actOf m_477 (by decide) cel_Mo rfl rfl rfl rfl (Nat.le_of_ble_eq_true rfl) ⟨Nat.le_of_ble_eq_true rfl, Nat.le_of_ble_eq_true rfl⟩ d_Mo_act_81 rfl ?_
              refine r_goto C (tgt := 88) d_Mo_act_84 (by decide) ?_
              cases h
              exact hR _ _ d_Mo_act_88
        · rw [if_pos hc_9] at h
          refine r_bipush C (v := (-2)) d_Mo_act_55 (by decide) ?_
          cases h
          exact hR _ _ d_Mo_act_57
      · rw [if_pos hc_5] at h
        refine r_bipush C (v := (-2)) d_Mo_act_33 (by decide) ?_
        cases h
        exact hR _ _ d_Mo_act_35
  · rw [if_pos hc_1] at h
    refine r_ldc C (v := (-1000000)) m_491 d_Mo_act_7 ?_
    cases h
    exact hR _ _ d_Mo_act_9
set_option maxHeartbeats 4000000 in
set_option maxRecDepth 100000 in
theorem c_Mo_act (l : Launch) (σ : gS) (x1 : Int32) (x2 : Int32) (x3 : Int32) {r : (Int32 × gS)} (h : f_Mo_act σ x1 x2 x3 = some r) : gMet l y_Mo_act b_Mo_act_c 4 (some .int) 1 25 (fun a => [.ref (a 46), .int x1, .int x2, .int x3]) σ (some (.int r.1)) r.2 := by
  refine gMet_i (by decide +kernel) (fun a => Nat.le_of_ble_eq_true rfl) (fun X _ C hR => ?_)
  refine r_sub [0, 1, 2, 3] (lv' := [(0, .ref (gA X 46)), (1, .int x1), (2, .int x2), (3, .int x3)]) rfl ?_
  exact t_Mo_act_0 C hR x1 x2 x3 σ h
theorem d_Mo_many_0 : decode b_Mo_many_c 0 = .ok (.iload_n 1, 1) := by decide +kernel
theorem d_Mo_many_1 : decode b_Mo_many_c 1 = .ok (.ifCond .ne 10, 3) := by decide +kernel
theorem d_Mo_many_4 : decode b_Mo_many_c 4 = .ok (.aload_n 0, 1) := by decide +kernel
theorem d_Mo_many_5 : decode b_Mo_many_c 5 = .ok (.getfield 124, 3) := by decide +kernel
theorem d_Mo_many_8 : decode b_Mo_many_c 8 = .ok (.goto 7, 3) := by decide +kernel
theorem d_Mo_many_11 : decode b_Mo_many_c 11 = .ok (.aload_n 0, 1) := by decide +kernel
theorem d_Mo_many_12 : decode b_Mo_many_c 12 = .ok (.getfield 127, 3) := by decide +kernel
theorem d_Mo_many_15 : decode b_Mo_many_c 15 = .ok (.ireturn, 1) := by decide +kernel
/-! GameRowsModel.many(I)I -/
set_option maxHeartbeats 4000000 in
set_option maxRecDepth 100000 in
theorem t_Mo_many_0 {X : gX} {r : Int32} {σ : gS} (C : gC X b_Mo_many_c R_Mo 2 0 0) (hR : ∀ pc lv, decode b_Mo_many_c pc = .ok (.ireturn, 1) → G X pc lv [.int r] σ) (x1 : Int32) (h : b_Mo_many_0 σ x1 = some r) : G X 0 [(0, .ref (gA X 46)), (1, .int x1)] [] σ := by
  unfold b_Mo_many_0 at h
  refine r_iload_n C 1 d_Mo_many_0 rfl rfl ?_
  refine r_if_ne C (tgt := 11) d_Mo_many_1 (by decide) (fun hc_1 => ?_) (fun hc_1 => ?_)
  · rw [if_neg hc_1] at h
    refine r_aload_n C 0 d_Mo_many_11 rfl rfl ?_
    refine q_Mo_127 C d_Mo_many_12 ?_
    cases h
    exact hR _ _ d_Mo_many_15
  · rw [if_pos hc_1] at h
    refine r_aload_n C 0 d_Mo_many_4 rfl rfl ?_
    refine q_Mo_124 C d_Mo_many_5 ?_
    refine r_goto C (tgt := 15) d_Mo_many_8 (by decide) ?_
    cases h
    exact hR _ _ d_Mo_many_15
set_option maxHeartbeats 4000000 in
set_option maxRecDepth 100000 in
theorem c_Mo_many (l : Launch) (σ : gS) (x1 : Int32) {r : Int32} (h : f_Mo_many σ x1 = some r) : gMet l y_Mo_many b_Mo_many_c 2 (some .int) 0 0 (fun a => [.ref (a 46), .int x1]) σ (some (.int r)) σ := by
  refine gMet_i (by decide +kernel) (fun a => Nat.le_of_ble_eq_true rfl) (fun X _ C hR => ?_)
  refine r_sub [0, 1] (lv' := [(0, .ref (gA X 46)), (1, .int x1)]) rfl ?_
  exact t_Mo_many_0 C hR x1 h
theorem d_Mo_answerOf_0 : decode b_Mo_answerOf_c 0 = .ok (.iconst 0, 1) := by decide +kernel
theorem d_Mo_answerOf_1 : decode b_Mo_answerOf_c 1 = .ok (.istore_n 3, 1) := by decide +kernel
theorem d_Mo_answerOf_2 : decode b_Mo_answerOf_c 2 = .ok (.iconst 1, 1) := by decide +kernel
theorem d_Mo_answerOf_3 : decode b_Mo_answerOf_c 3 = .ok (.istore 4, 2) := by decide +kernel
theorem d_Mo_answerOf_5 : decode b_Mo_answerOf_c 5 = .ok (.iload 4, 2) := by decide +kernel
theorem d_Mo_answerOf_7 : decode b_Mo_answerOf_c 7 = .ok (.aload_n 0, 1) := by decide +kernel
theorem d_Mo_answerOf_8 : decode b_Mo_answerOf_c 8 = .ok (.iload_n 1, 1) := by decide +kernel
theorem d_Mo_answerOf_9 : decode b_Mo_answerOf_c 9 = .ok (.invokevirtual 146, 3) := by decide +kernel
theorem d_Mo_answerOf_12 : decode b_Mo_answerOf_c 12 = .ok (.if_icmp .ge 34, 3) := by decide +kernel
theorem d_Mo_answerOf_15 : decode b_Mo_answerOf_c 15 = .ok (.aload_n 0, 1) := by decide +kernel
theorem d_Mo_answerOf_16 : decode b_Mo_answerOf_c 16 = .ok (.iload_n 1, 1) := by decide +kernel
theorem d_Mo_answerOf_17 : decode b_Mo_answerOf_c 17 = .ok (.iload 4, 2) := by decide +kernel
theorem d_Mo_answerOf_19 : decode b_Mo_answerOf_c 19 = .ok (.iload_n 2, 1) := by decide +kernel
theorem d_Mo_answerOf_20 : decode b_Mo_answerOf_c 20 = .ok (.invokevirtual 143, 3) := by decide +kernel
theorem d_Mo_answerOf_23 : decode b_Mo_answerOf_c 23 = .ok (.aload_n 0, 1) := by decide +kernel
theorem d_Mo_answerOf_24 : decode b_Mo_answerOf_c 24 = .ok (.iload_n 1, 1) := by decide +kernel
theorem d_Mo_answerOf_25 : decode b_Mo_answerOf_c 25 = .ok (.iload_n 3, 1) := by decide +kernel
theorem d_Mo_answerOf_26 : decode b_Mo_answerOf_c 26 = .ok (.iload_n 2, 1) := by decide +kernel
theorem d_Mo_answerOf_27 : decode b_Mo_answerOf_c 27 = .ok (.invokevirtual 143, 3) := by decide +kernel
theorem d_Mo_answerOf_30 : decode b_Mo_answerOf_c 30 = .ok (.if_icmp .le 8, 3) := by decide +kernel
theorem d_Mo_answerOf_33 : decode b_Mo_answerOf_c 33 = .ok (.iload 4, 2) := by decide +kernel
theorem d_Mo_answerOf_35 : decode b_Mo_answerOf_c 35 = .ok (.goto 4, 3) := by decide +kernel
theorem d_Mo_answerOf_38 : decode b_Mo_answerOf_c 38 = .ok (.iload_n 3, 1) := by decide +kernel
theorem d_Mo_answerOf_39 : decode b_Mo_answerOf_c 39 = .ok (.istore_n 3, 1) := by decide +kernel
theorem d_Mo_answerOf_40 : decode b_Mo_answerOf_c 40 = .ok (.iinc 4 1, 3) := by decide +kernel
theorem d_Mo_answerOf_43 : decode b_Mo_answerOf_c 43 = .ok (.goto (-38), 3) := by decide +kernel
theorem d_Mo_answerOf_46 : decode b_Mo_answerOf_c 46 = .ok (.iload_n 3, 1) := by decide +kernel
theorem d_Mo_answerOf_47 : decode b_Mo_answerOf_c 47 = .ok (.ireturn, 1) := by decide +kernel
/-! GameRowsModel.answerOf(II)I -/
set_option maxHeartbeats 4000000 in
set_option maxRecDepth 100000 in
theorem t_Mo_answerOf_39 {X : gX} {r : Int32} {σ : gS} (C : gC X b_Mo_answerOf_c R_Mo 5 1 23) (hR : ∀ pc lv, decode b_Mo_answerOf_c pc = .ok (.ireturn, 1) → G X pc lv [.int r] σ) {k5 : Int32 × Int32 × Int32 × Int32 → Option Int32}  (hk5 : ∀ x, k5 x = some r → G X 5 [(0, .ref (gA X 46)), (1, .int x.1), (2, .int x.2.1), (3, .int x.2.2.1), (4, .int x.2.2.2)] [] σ) (x1 : Int32) (x2 : Int32) (x4 : Int32) (y0 : Int32) (h : b_Mo_answerOf_39 σ k5 x1 x2 x4 y0 = some r) : G X 39 [(0, .ref (gA X 46)), (1, .int x1), (2, .int x2), (4, .int x4)] [.int y0] σ := by
  unfold b_Mo_answerOf_39 at h
  refine r_istore_n C (lv' := [(3, .int y0), (0, .ref (gA X 46)), (1, .int x1), (2, .int x2), (4, .int x4)]) d_Mo_answerOf_39 rfl (by decide) rfl rfl ?_
  obtain ⟨x4_1, ex4_1, h⟩ := bnd_some h
  refine r_iinc C 4 (lv' := [(4, .int x4_1), (3, .int y0), (0, .ref (gA X 46)), (1, .int x1), (2, .int x2)]) d_Mo_answerOf_40 rfl (by rw [ex4_1]; rfl) (by decide) rfl ?_
  refine r_goto C (tgt := 5) d_Mo_answerOf_43 (by decide) ?_
  refine r_sub [2, 3, 4, 1, 0] (lv' := [(0, .ref (gA X 46)), (1, .int x1), (2, .int x2), (3, .int y0), (4, .int x4_1)]) rfl ?_
  exact hk5 _ h
set_option maxHeartbeats 4000000 in
set_option maxRecDepth 100000 in
theorem t_Mo_answerOf_5 {X : gX} {r : Int32} {σ : gS} (C : gC X b_Mo_answerOf_c R_Mo 5 1 23) (hR : ∀ pc lv, decode b_Mo_answerOf_c pc = .ok (.ireturn, 1) → G X pc lv [.int r] σ) {k5 : Int32 × Int32 × Int32 × Int32 → Option Int32}  (hk5 : ∀ x, k5 x = some r → G X 5 [(0, .ref (gA X 46)), (1, .int x.1), (2, .int x.2.1), (3, .int x.2.2.1), (4, .int x.2.2.2)] [] σ) (x1 : Int32) (x2 : Int32) (x3 : Int32) (x4 : Int32) (h : b_Mo_answerOf_5 σ k5 x1 x2 x3 x4 = some r) : G X 5 [(0, .ref (gA X 46)), (1, .int x1), (2, .int x2), (3, .int x3), (4, .int x4)] [] σ := by
  unfold b_Mo_answerOf_5 at h
  refine r_iload C 4 d_Mo_answerOf_5 rfl ?_
  refine r_aload_n C 0 d_Mo_answerOf_7 rfl rfl ?_
  refine r_iload_n C 1 d_Mo_answerOf_8 rfl rfl ?_
  obtain ⟨r_1, er_1, h⟩ := bind_some h
  refine r_callV C (As := [.int x1]) (rest := [.int x4]) (st1 := [.int r_1, .int x4]) (c_Mo_many X.1.2.1 σ x1 er_1) k_Mo_many m_500 (by decide) cel_Mo rfl rfl rfl rfl (Nat.le_of_ble_eq_true rfl) ⟨Nat.le_of_ble_eq_true rfl, Nat.le_of_ble_eq_true rfl⟩ d_Mo_answerOf_9 rfl ?_
  refine r_icmp_ge C (tgt := 46) d_Mo_answerOf_12 (by decide) (fun hc_2 => ?_) (fun hc_2 => ?_)
  · rw [if_pos hc_2] at h
    refine r_iload_n C 3 d_Mo_answerOf_46 rfl rfl ?_
    cases h
    exact hR _ _ d_Mo_answerOf_47
  · rw [if_neg hc_2] at h
    refine r_aload_n C 0 d_Mo_answerOf_15 rfl rfl ?_
    refine r_iload_n C 1 d_Mo_answerOf_16 rfl rfl ?_
    refine r_iload C 4 d_Mo_answerOf_17 rfl ?_
    refine r_iload_n C 2 d_Mo_answerOf_19 rfl rfl ?_
    obtain ⟨r_3, er_3, h⟩ := bind_some h
    refine r_callV C (As := [.int x1, .int x4, .int x2]) (rest := []) (st1 := [.int r_3]) (c_Mo_worthTo X.1.2.1 σ x1 x4 x2 er_3) k_Mo_worthTo m_487 (by decide) cel_Mo rfl rfl rfl rfl (Nat.le_of_ble_eq_true rfl) ⟨Nat.le_of_ble_eq_true rfl, Nat.le_of_ble_eq_true rfl⟩ d_Mo_answerOf_20 rfl ?_
    refine r_aload_n C 0 d_Mo_answerOf_23 rfl rfl ?_
    refine r_iload_n C 1 d_Mo_answerOf_24 rfl rfl ?_
    refine r_iload_n C 3 d_Mo_answerOf_25 rfl rfl ?_
    refine r_iload_n C 2 d_Mo_answerOf_26 rfl rfl ?_
    obtain ⟨r_4, er_4, h⟩ := bind_some h
    refine r_callV C (As := [.int x1, .int x3, .int x2]) (rest := [.int r_3]) (st1 := [.int r_4, .int r_3]) (c_Mo_worthTo X.1.2.1 σ x1 x3 x2 er_4) k_Mo_worthTo m_487 (by decide) cel_Mo rfl rfl rfl rfl (Nat.le_of_ble_eq_true rfl) ⟨Nat.le_of_ble_eq_true rfl, Nat.le_of_ble_eq_true rfl⟩ d_Mo_answerOf_27 rfl ?_
    refine r_icmp_le C (tgt := 38) d_Mo_answerOf_30 (by decide) (fun hc_5 => ?_) (fun hc_5 => ?_)
    · rw [if_pos hc_5] at h
      refine r_iload_n C 3 d_Mo_answerOf_38 rfl rfl ?_
      refine r_sub [0, 1, 2, 4] (lv' := [(0, .ref (gA X 46)), (1, .int x1), (2, .int x2), (4, .int x4)]) rfl ?_
      exact t_Mo_answerOf_39 C hR hk5 x1 x2 x4 x3 h
    · rw [if_neg hc_5] at h
      refine r_iload C 4 d_Mo_answerOf_33 rfl ?_
      refine r_goto C (tgt := 39) d_Mo_answerOf_35 (by decide) ?_
      refine r_sub [0, 1, 2, 4] (lv' := [(0, .ref (gA X 46)), (1, .int x1), (2, .int x2), (4, .int x4)]) rfl ?_
      exact t_Mo_answerOf_39 C hR hk5 x1 x2 x4 x4 h
set_option maxHeartbeats 4000000 in
set_option maxRecDepth 100000 in
theorem u_Mo_answerOf_5 {X : gX} {r : Int32} {σ : gS} (C : gC X b_Mo_answerOf_c R_Mo 5 1 23) (hR : ∀ pc lv, decode b_Mo_answerOf_c pc = .ok (.ireturn, 1) → G X pc lv [.int r] σ)  (x : Int32 × Int32 × Int32 × Int32) (h : l_Mo_answerOf_5 σ x = some r) : G X 5 [(0, .ref (gA X 46)), (1, .int x.1), (2, .int x.2.1), (3, .int x.2.2.1), (4, .int x.2.2.2)] [] σ :=
  lpF_ind (P := fun x => G X 5 [(0, .ref (gA X 46)), (1, .int x.1), (2, .int x.2.1), (3, .int x.2.2.1), (4, .int x.2.2.2)] [] σ) (fun k hk x h => t_Mo_answerOf_5 C hR hk x.1 x.2.1 x.2.2.1 x.2.2.2 h) gF x h
set_option maxHeartbeats 4000000 in
set_option maxRecDepth 100000 in
theorem t_Mo_answerOf_0 {X : gX} {r : Int32} {σ : gS} (C : gC X b_Mo_answerOf_c R_Mo 5 1 23) (hR : ∀ pc lv, decode b_Mo_answerOf_c pc = .ok (.ireturn, 1) → G X pc lv [.int r] σ) (x1 : Int32) (x2 : Int32) (h : b_Mo_answerOf_0 σ x1 x2 = some r) : G X 0 [(0, .ref (gA X 46)), (1, .int x1), (2, .int x2)] [] σ := by
  unfold b_Mo_answerOf_0 at h
  refine r_iconst C (v := 0) d_Mo_answerOf_0 (by decide) ?_
  refine r_istore_n C (lv' := [(3, .int 0), (0, .ref (gA X 46)), (1, .int x1), (2, .int x2)]) d_Mo_answerOf_1 rfl (by decide) rfl rfl ?_
  refine r_iconst C (v := 1) d_Mo_answerOf_2 (by decide) ?_
  refine r_istore C (lv' := [(4, .int 1), (3, .int 0), (0, .ref (gA X 46)), (1, .int x1), (2, .int x2)]) d_Mo_answerOf_3 (by decide) rfl rfl ?_
  refine r_sub [2, 3, 4, 1, 0] (lv' := [(0, .ref (gA X 46)), (1, .int x1), (2, .int x2), (3, .int 0), (4, .int 1)]) rfl ?_
  exact u_Mo_answerOf_5 C hR  (x1, x2, 0, 1) h
set_option maxHeartbeats 4000000 in
set_option maxRecDepth 100000 in
theorem c_Mo_answerOf (l : Launch) (σ : gS) (x1 : Int32) (x2 : Int32) {r : Int32} (h : f_Mo_answerOf σ x1 x2 = some r) : gMet l y_Mo_answerOf b_Mo_answerOf_c 5 (some .int) 1 23 (fun a => [.ref (a 46), .int x1, .int x2]) σ (some (.int r)) σ := by
  refine gMet_i (by decide +kernel) (fun a => Nat.le_of_ble_eq_true rfl) (fun X _ C hR => ?_)
  refine r_sub [0, 1, 2] (lv' := [(0, .ref (gA X 46)), (1, .int x1), (2, .int x2)]) rfl ?_
  exact t_Mo_answerOf_0 C hR x1 x2 h
theorem d_Mo_answer_0 : decode b_Mo_answer_c 0 = .ok (.aload_n 0, 1) := by decide +kernel
theorem d_Mo_answer_1 : decode b_Mo_answer_c 1 = .ok (.getfield 71, 3) := by decide +kernel
theorem d_Mo_answer_4 : decode b_Mo_answer_c 4 = .ok (.ifCond .ne 6, 3) := by decide +kernel
theorem d_Mo_answer_7 : decode b_Mo_answer_c 7 = .ok (.ldc 134, 2) := by decide +kernel
theorem d_Mo_answer_9 : decode b_Mo_answer_c 9 = .ok (.ireturn, 1) := by decide +kernel
theorem d_Mo_answer_10 : decode b_Mo_answer_c 10 = .ok (.iload_n 1, 1) := by decide +kernel
theorem d_Mo_answer_11 : decode b_Mo_answer_c 11 = .ok (.iconst 0, 1) := by decide +kernel
theorem d_Mo_answer_12 : decode b_Mo_answer_c 12 = .ok (.iconst 1, 1) := by decide +kernel
theorem d_Mo_answer_13 : decode b_Mo_answer_c 13 = .ok (.invokestatic 78, 3) := by decide +kernel
theorem d_Mo_answer_16 : decode b_Mo_answer_c 16 = .ok (.ifCond .ne 6, 3) := by decide +kernel
theorem d_Mo_answer_19 : decode b_Mo_answer_c 19 = .ok (.bipush (-2), 2) := by decide +kernel
theorem d_Mo_answer_21 : decode b_Mo_answer_c 21 = .ok (.ireturn, 1) := by decide +kernel
theorem d_Mo_answer_22 : decode b_Mo_answer_c 22 = .ok (.aload_n 0, 1) := by decide +kernel
theorem d_Mo_answer_23 : decode b_Mo_answer_c 23 = .ok (.aload_n 0, 1) := by decide +kernel
theorem d_Mo_answer_24 : decode b_Mo_answer_c 24 = .ok (.invokevirtual 135, 3) := by decide +kernel
theorem d_Mo_answer_27 : decode b_Mo_answer_c 27 = .ok (.invokevirtual 139, 3) := by decide +kernel
theorem d_Mo_answer_30 : decode b_Mo_answer_c 30 = .ok (.iload_n 2, 1) := by decide +kernel
theorem d_Mo_answer_31 : decode b_Mo_answer_c 31 = .ok (.iconst 0, 1) := by decide +kernel
theorem d_Mo_answer_32 : decode b_Mo_answer_c 32 = .ok (.aload_n 0, 1) := by decide +kernel
theorem d_Mo_answer_33 : decode b_Mo_answer_c 33 = .ok (.iconst 1, 1) := by decide +kernel
theorem d_Mo_answer_34 : decode b_Mo_answer_c 34 = .ok (.iload_n 1, 1) := by decide +kernel
theorem d_Mo_answer_35 : decode b_Mo_answer_c 35 = .ok (.isub, 1) := by decide +kernel
theorem d_Mo_answer_36 : decode b_Mo_answer_c 36 = .ok (.invokevirtual 146, 3) := by decide +kernel
theorem d_Mo_answer_39 : decode b_Mo_answer_c 39 = .ok (.iconst 1, 1) := by decide +kernel
theorem d_Mo_answer_40 : decode b_Mo_answer_c 40 = .ok (.isub, 1) := by decide +kernel
theorem d_Mo_answer_41 : decode b_Mo_answer_c 41 = .ok (.invokestatic 78, 3) := by decide +kernel
theorem d_Mo_answer_44 : decode b_Mo_answer_c 44 = .ok (.ifCond .eq 12, 3) := by decide +kernel
theorem d_Mo_answer_47 : decode b_Mo_answer_c 47 = .ok (.aload_n 0, 1) := by decide +kernel
theorem d_Mo_answer_48 : decode b_Mo_answer_c 48 = .ok (.iload_n 1, 1) := by decide +kernel
theorem d_Mo_answer_49 : decode b_Mo_answer_c 49 = .ok (.iload_n 2, 1) := by decide +kernel
theorem d_Mo_answer_50 : decode b_Mo_answer_c 50 = .ok (.invokevirtual 149, 3) := by decide +kernel
theorem d_Mo_answer_53 : decode b_Mo_answer_c 53 = .ok (.goto 5, 3) := by decide +kernel
theorem d_Mo_answer_56 : decode b_Mo_answer_c 56 = .ok (.bipush (-2), 2) := by decide +kernel
theorem d_Mo_answer_58 : decode b_Mo_answer_c 58 = .ok (.ireturn, 1) := by decide +kernel
/-! GameRowsModel.answer(II)I -/
set_option maxHeartbeats 4000000 in
set_option maxRecDepth 100000 in
theorem t_Mo_answer_0 {X : gX} {r : (Int32 × gS)} (C : gC X b_Mo_answer_c R_Mo 3 3 73) (hR : ∀ pc lv, decode b_Mo_answer_c pc = .ok (.ireturn, 1) → G X pc lv [.int r.1] r.2) (x1 : Int32) (x2 : Int32) (σ : gS) (h : b_Mo_answer_0 x1 x2 σ = some r) : G X 0 [(0, .ref (gA X 46)), (1, .int x1), (2, .int x2)] [] σ := by
  unfold b_Mo_answer_0 at h
  refine r_aload_n C 0 d_Mo_answer_0 rfl rfl ?_
  refine q_Mo_71 C d_Mo_answer_1 ?_
  refine r_if_ne C (tgt := 10) d_Mo_answer_4 (by decide) (fun hc_1 => ?_) (fun hc_1 => ?_)
  · rw [if_neg hc_1] at h
    refine r_iload_n C 1 d_Mo_answer_10 rfl rfl ?_
    refine r_iconst C (v := 0) d_Mo_answer_11 (by decide) ?_
    refine r_iconst C (v := 1) d_Mo_answer_12 (by decide) ?_
    obtain ⟨r_2, er_2, h⟩ := bind_some h
    refine r_callS C (As := [.int x1, .int 0, .int 1]) (rest := []) (st1 := [.int r_2]) (c_Mo_isFrom X.1.2.1 σ x1 0 1 er_2) k_Mo_isFrom m_420 rfl rfl rfl (Nat.le_of_ble_eq_true rfl) ⟨Nat.le_of_ble_eq_true rfl, Nat.le_of_ble_eq_true rfl⟩ d_Mo_answer_13 rfl ?_
    refine r_if_ne C (tgt := 22) d_Mo_answer_16 (by decide) (fun hc_3 => ?_) (fun hc_3 => ?_)
    · rw [if_neg hc_3] at h
      refine r_aload_n C 0 d_Mo_answer_22 rfl rfl ?_
      refine r_aload_n C 0 d_Mo_answer_23 rfl rfl ?_
      obtain ⟨r_4, er_4, h⟩ := bind_some h
      refine r_callV C (As := []) (rest := [.ref (gA X 46)]) (st1 := [.int r_4, .ref (gA X 46)]) (c_Mo_root X.1.2.1 σ  er_4) k_Mo_root m_492 (by decide) cel_Mo rfl rfl rfl rfl (Nat.le_of_ble_eq_true rfl) ⟨Nat.le_of_ble_eq_true rfl, Nat.le_of_ble_eq_true rfl⟩ d_Mo_answer_24 rfl ?_
      obtain ⟨r_5, er_5, h⟩ := bind_some h
      refine r_callV C (As := [.int r_4]) (rest := []) (st1 := []) (c_Mo_workAll X.1.2.1 σ r_4 er_5) k_Mo_workAll m_496 (by decide) cel_Mo rfl rfl rfl rfl (Nat.le_of_ble_eq_true rfl) ⟨Nat.le_of_ble_eq_true rfl, Nat.le_of_ble_eq_true rfl⟩ d_Mo_answer_27 rfl ?_
      refine r_iload_n C 2 d_Mo_answer_30 rfl rfl ?_
      refine r_iconst C (v := 0) d_Mo_answer_31 (by decide) ?_
      refine r_aload_n C 0 d_Mo_answer_32 rfl rfl ?_
      refine r_iconst C (v := 1) d_Mo_answer_33 (by decide) ?_
      refine r_iload_n C 1 d_Mo_answer_34 rfl rfl ?_
      refine r_isub C d_Mo_answer_35 ?_
      obtain ⟨r_6, er_6, h⟩ := bind_some h
      refine r_callV C (As := [.int (1 - x1)]) (rest := [.int 0, .int x2]) (st1 := [.int r_6, .int 0, .int x2]) (c_Mo_many X.1.2.1 r_5 (1 - x1) er_6) k_Mo_many m_500 (by decide) cel_Mo rfl rfl rfl rfl (Nat.le_of_ble_eq_true rfl) ⟨Nat.le_of_ble_eq_true rfl, Nat.le_of_ble_eq_true rfl⟩ d_Mo_answer_36 rfl ?_
      refine r_iconst C (v := 1) d_Mo_answer_39 (by decide) ?_
      refine r_isub C d_Mo_answer_40 ?_
      obtain ⟨r_7, er_7, h⟩ := bind_some h
      refine r_callS C (As := [.int x2, .int 0, .int (r_6 - 1)]) (rest := []) (st1 := [.int r_7]) (c_Mo_isFrom X.1.2.1 r_5 x2 0 (r_6 - 1) er_7) k_Mo_isFrom m_420 rfl rfl rfl (Nat.le_of_ble_eq_true rfl) ⟨Nat.le_of_ble_eq_true rfl, Nat.le_of_ble_eq_true rfl⟩ d_Mo_answer_41 rfl ?_
      refine r_if_eq C (tgt := 56) d_Mo_answer_44 (by decide) (fun hc_8 => ?_) (fun hc_8 => ?_)
      · rw [if_pos hc_8] at h
        refine r_bipush C (v := (-2)) d_Mo_answer_56 (by decide) ?_
        cases h
        exact hR _ _ d_Mo_answer_58
      · rw [if_neg hc_8] at h
        refine r_aload_n C 0 d_Mo_answer_47 rfl rfl ?_
        refine r_iload_n C 1 d_Mo_answer_48 rfl rfl ?_
        refine r_iload_n C 2 d_Mo_answer_49 rfl rfl ?_
        obtain ⟨r_9, er_9, h⟩ := bind_some h
        refine r_callV C (As := [.int x1, .int x2]) (rest := []) (st1 := [.int r_9]) (c_Mo_answerOf X.1.2.1 r_5 x1 x2 er_9) k_Mo_answerOf m_504 (by decide) cel_Mo rfl rfl rfl rfl (Nat.le_of_ble_eq_true rfl) ⟨Nat.le_of_ble_eq_true rfl, Nat.le_of_ble_eq_true rfl⟩ d_Mo_answer_50 rfl ?_
        refine r_goto C (tgt := 58) d_Mo_answer_53 (by decide) ?_
        cases h
        exact hR _ _ d_Mo_answer_58
    · rw [if_pos hc_3] at h
      refine r_bipush C (v := (-2)) d_Mo_answer_19 (by decide) ?_
      cases h
      exact hR _ _ d_Mo_answer_21
  · rw [if_pos hc_1] at h
    refine r_ldc C (v := (-1000000)) m_491 d_Mo_answer_7 ?_
    cases h
    exact hR _ _ d_Mo_answer_9
set_option maxHeartbeats 4000000 in
set_option maxRecDepth 100000 in
theorem c_Mo_answer (l : Launch) (σ : gS) (x1 : Int32) (x2 : Int32) {r : (Int32 × gS)} (h : f_Mo_answer σ x1 x2 = some r) : gMet l y_Mo_answer b_Mo_answer_c 3 (some .int) 3 73 (fun a => [.ref (a 46), .int x1, .int x2]) σ (some (.int r.1)) r.2 := by
  refine gMet_i (by decide +kernel) (fun a => Nat.le_of_ble_eq_true rfl) (fun X _ C hR => ?_)
  refine r_sub [0, 1, 2] (lv' := [(0, .ref (gA X 46)), (1, .int x1), (2, .int x2)]) rfl ?_
  exact t_Mo_answer_0 C hR x1 x2 σ h
theorem d_Mo_sift_0 : decode b_Mo_sift_c 0 = .ok (.iconst 0, 1) := by decide +kernel
theorem d_Mo_sift_1 : decode b_Mo_sift_c 1 = .ok (.istore_n 1, 1) := by decide +kernel
theorem d_Mo_sift_2 : decode b_Mo_sift_c 2 = .ok (.iload_n 1, 1) := by decide +kernel
theorem d_Mo_sift_3 : decode b_Mo_sift_c 3 = .ok (.aload_n 0, 1) := by decide +kernel
theorem d_Mo_sift_4 : decode b_Mo_sift_c 4 = .ok (.getfield 124, 3) := by decide +kernel
theorem d_Mo_sift_7 : decode b_Mo_sift_c 7 = .ok (.if_icmp .ge 79, 3) := by decide +kernel
theorem d_Mo_sift_10 : decode b_Mo_sift_c 10 = .ok (.aload_n 0, 1) := by decide +kernel
theorem d_Mo_sift_11 : decode b_Mo_sift_c 11 = .ok (.iconst 1, 1) := by decide +kernel
theorem d_Mo_sift_12 : decode b_Mo_sift_c 12 = .ok (.aload_n 0, 1) := by decide +kernel
theorem d_Mo_sift_13 : decode b_Mo_sift_c 13 = .ok (.iconst 1, 1) := by decide +kernel
theorem d_Mo_sift_14 : decode b_Mo_sift_c 14 = .ok (.iload_n 1, 1) := by decide +kernel
theorem d_Mo_sift_15 : decode b_Mo_sift_c 15 = .ok (.invokevirtual 149, 3) := by decide +kernel
theorem d_Mo_sift_18 : decode b_Mo_sift_c 18 = .ok (.iload_n 1, 1) := by decide +kernel
theorem d_Mo_sift_19 : decode b_Mo_sift_c 19 = .ok (.invokevirtual 143, 3) := by decide +kernel
theorem d_Mo_sift_22 : decode b_Mo_sift_c 22 = .ok (.istore_n 2, 1) := by decide +kernel
theorem d_Mo_sift_23 : decode b_Mo_sift_c 23 = .ok (.iconst 0, 1) := by decide +kernel
theorem d_Mo_sift_24 : decode b_Mo_sift_c 24 = .ok (.istore_n 3, 1) := by decide +kernel
theorem d_Mo_sift_25 : decode b_Mo_sift_c 25 = .ok (.iload_n 3, 1) := by decide +kernel
theorem d_Mo_sift_26 : decode b_Mo_sift_c 26 = .ok (.aload_n 0, 1) := by decide +kernel
theorem d_Mo_sift_27 : decode b_Mo_sift_c 27 = .ok (.getfield 127, 3) := by decide +kernel
theorem d_Mo_sift_30 : decode b_Mo_sift_c 30 = .ok (.if_icmp .ge 50, 3) := by decide +kernel
theorem d_Mo_sift_33 : decode b_Mo_sift_c 33 = .ok (.aload_n 0, 1) := by decide +kernel
theorem d_Mo_sift_34 : decode b_Mo_sift_c 34 = .ok (.getfield 53, 3) := by decide +kernel
theorem d_Mo_sift_37 : decode b_Mo_sift_c 37 = .ok (.bipush 64, 2) := by decide +kernel
theorem d_Mo_sift_39 : decode b_Mo_sift_c 39 = .ok (.iload_n 1, 1) := by decide +kernel
theorem d_Mo_sift_40 : decode b_Mo_sift_c 40 = .ok (.imul, 1) := by decide +kernel
theorem d_Mo_sift_41 : decode b_Mo_sift_c 41 = .ok (.iload_n 3, 1) := by decide +kernel
theorem d_Mo_sift_42 : decode b_Mo_sift_c 42 = .ok (.iadd, 1) := by decide +kernel
theorem d_Mo_sift_43 : decode b_Mo_sift_c 43 = .ok (.aload_n 0, 1) := by decide +kernel
theorem d_Mo_sift_44 : decode b_Mo_sift_c 44 = .ok (.getfield 53, 3) := by decide +kernel
theorem d_Mo_sift_47 : decode b_Mo_sift_c 47 = .ok (.bipush 64, 2) := by decide +kernel
theorem d_Mo_sift_49 : decode b_Mo_sift_c 49 = .ok (.iload_n 1, 1) := by decide +kernel
theorem d_Mo_sift_50 : decode b_Mo_sift_c 50 = .ok (.imul, 1) := by decide +kernel
theorem d_Mo_sift_51 : decode b_Mo_sift_c 51 = .ok (.iload_n 3, 1) := by decide +kernel
theorem d_Mo_sift_52 : decode b_Mo_sift_c 52 = .ok (.iadd, 1) := by decide +kernel
theorem d_Mo_sift_53 : decode b_Mo_sift_c 53 = .ok (.baload, 1) := by decide +kernel
theorem d_Mo_sift_54 : decode b_Mo_sift_c 54 = .ok (.ifCond .eq 18, 3) := by decide +kernel
theorem d_Mo_sift_57 : decode b_Mo_sift_c 57 = .ok (.aload_n 0, 1) := by decide +kernel
theorem d_Mo_sift_58 : decode b_Mo_sift_c 58 = .ok (.iconst 1, 1) := by decide +kernel
theorem d_Mo_sift_59 : decode b_Mo_sift_c 59 = .ok (.iload_n 3, 1) := by decide +kernel
theorem d_Mo_sift_60 : decode b_Mo_sift_c 60 = .ok (.iload_n 1, 1) := by decide +kernel
theorem d_Mo_sift_61 : decode b_Mo_sift_c 61 = .ok (.invokevirtual 143, 3) := by decide +kernel
theorem d_Mo_sift_64 : decode b_Mo_sift_c 64 = .ok (.iload_n 2, 1) := by decide +kernel
theorem d_Mo_sift_65 : decode b_Mo_sift_c 65 = .ok (.if_icmp .ne 7, 3) := by decide +kernel
theorem d_Mo_sift_68 : decode b_Mo_sift_c 68 = .ok (.iconst 1, 1) := by decide +kernel
theorem d_Mo_sift_69 : decode b_Mo_sift_c 69 = .ok (.goto 4, 3) := by decide +kernel
theorem d_Mo_sift_72 : decode b_Mo_sift_c 72 = .ok (.iconst 0, 1) := by decide +kernel
theorem d_Mo_sift_73 : decode b_Mo_sift_c 73 = .ok (.bastore, 1) := by decide +kernel
theorem d_Mo_sift_74 : decode b_Mo_sift_c 74 = .ok (.iinc 3 1, 3) := by decide +kernel
theorem d_Mo_sift_77 : decode b_Mo_sift_c 77 = .ok (.goto (-52), 3) := by decide +kernel
theorem d_Mo_sift_80 : decode b_Mo_sift_c 80 = .ok (.iinc 1 1, 3) := by decide +kernel
theorem d_Mo_sift_83 : decode b_Mo_sift_c 83 = .ok (.goto (-81), 3) := by decide +kernel
theorem d_Mo_sift_86 : decode b_Mo_sift_c 86 = .ok (.iconst 0, 1) := by decide +kernel
theorem d_Mo_sift_87 : decode b_Mo_sift_c 87 = .ok (.istore_n 1, 1) := by decide +kernel
theorem d_Mo_sift_88 : decode b_Mo_sift_c 88 = .ok (.iload_n 1, 1) := by decide +kernel
theorem d_Mo_sift_89 : decode b_Mo_sift_c 89 = .ok (.aload_n 0, 1) := by decide +kernel
theorem d_Mo_sift_90 : decode b_Mo_sift_c 90 = .ok (.getfield 127, 3) := by decide +kernel
theorem d_Mo_sift_93 : decode b_Mo_sift_c 93 = .ok (.if_icmp .ge 79, 3) := by decide +kernel
theorem d_Mo_sift_96 : decode b_Mo_sift_c 96 = .ok (.aload_n 0, 1) := by decide +kernel
theorem d_Mo_sift_97 : decode b_Mo_sift_c 97 = .ok (.iconst 0, 1) := by decide +kernel
theorem d_Mo_sift_98 : decode b_Mo_sift_c 98 = .ok (.aload_n 0, 1) := by decide +kernel
theorem d_Mo_sift_99 : decode b_Mo_sift_c 99 = .ok (.iconst 0, 1) := by decide +kernel
theorem d_Mo_sift_100 : decode b_Mo_sift_c 100 = .ok (.iload_n 1, 1) := by decide +kernel
theorem d_Mo_sift_101 : decode b_Mo_sift_c 101 = .ok (.invokevirtual 149, 3) := by decide +kernel
theorem d_Mo_sift_104 : decode b_Mo_sift_c 104 = .ok (.iload_n 1, 1) := by decide +kernel
theorem d_Mo_sift_105 : decode b_Mo_sift_c 105 = .ok (.invokevirtual 143, 3) := by decide +kernel
theorem d_Mo_sift_108 : decode b_Mo_sift_c 108 = .ok (.istore_n 2, 1) := by decide +kernel
theorem d_Mo_sift_109 : decode b_Mo_sift_c 109 = .ok (.iconst 0, 1) := by decide +kernel
theorem d_Mo_sift_110 : decode b_Mo_sift_c 110 = .ok (.istore_n 3, 1) := by decide +kernel
theorem d_Mo_sift_111 : decode b_Mo_sift_c 111 = .ok (.iload_n 3, 1) := by decide +kernel
theorem d_Mo_sift_112 : decode b_Mo_sift_c 112 = .ok (.aload_n 0, 1) := by decide +kernel
theorem d_Mo_sift_113 : decode b_Mo_sift_c 113 = .ok (.getfield 124, 3) := by decide +kernel
theorem d_Mo_sift_116 : decode b_Mo_sift_c 116 = .ok (.if_icmp .ge 50, 3) := by decide +kernel
theorem d_Mo_sift_119 : decode b_Mo_sift_c 119 = .ok (.aload_n 0, 1) := by decide +kernel
theorem d_Mo_sift_120 : decode b_Mo_sift_c 120 = .ok (.getfield 53, 3) := by decide +kernel
theorem d_Mo_sift_123 : decode b_Mo_sift_c 123 = .ok (.bipush 64, 2) := by decide +kernel
theorem d_Mo_sift_125 : decode b_Mo_sift_c 125 = .ok (.iload_n 3, 1) := by decide +kernel
theorem d_Mo_sift_126 : decode b_Mo_sift_c 126 = .ok (.imul, 1) := by decide +kernel
theorem d_Mo_sift_127 : decode b_Mo_sift_c 127 = .ok (.iload_n 1, 1) := by decide +kernel
theorem d_Mo_sift_128 : decode b_Mo_sift_c 128 = .ok (.iadd, 1) := by decide +kernel
theorem d_Mo_sift_129 : decode b_Mo_sift_c 129 = .ok (.aload_n 0, 1) := by decide +kernel
theorem d_Mo_sift_130 : decode b_Mo_sift_c 130 = .ok (.getfield 53, 3) := by decide +kernel
theorem d_Mo_sift_133 : decode b_Mo_sift_c 133 = .ok (.bipush 64, 2) := by decide +kernel
theorem d_Mo_sift_135 : decode b_Mo_sift_c 135 = .ok (.iload_n 3, 1) := by decide +kernel
theorem d_Mo_sift_136 : decode b_Mo_sift_c 136 = .ok (.imul, 1) := by decide +kernel
theorem d_Mo_sift_137 : decode b_Mo_sift_c 137 = .ok (.iload_n 1, 1) := by decide +kernel
theorem d_Mo_sift_138 : decode b_Mo_sift_c 138 = .ok (.iadd, 1) := by decide +kernel
theorem d_Mo_sift_139 : decode b_Mo_sift_c 139 = .ok (.baload, 1) := by decide +kernel
theorem d_Mo_sift_140 : decode b_Mo_sift_c 140 = .ok (.ifCond .eq 18, 3) := by decide +kernel
theorem d_Mo_sift_143 : decode b_Mo_sift_c 143 = .ok (.aload_n 0, 1) := by decide +kernel
theorem d_Mo_sift_144 : decode b_Mo_sift_c 144 = .ok (.iconst 0, 1) := by decide +kernel
theorem d_Mo_sift_145 : decode b_Mo_sift_c 145 = .ok (.iload_n 3, 1) := by decide +kernel
theorem d_Mo_sift_146 : decode b_Mo_sift_c 146 = .ok (.iload_n 1, 1) := by decide +kernel
theorem d_Mo_sift_147 : decode b_Mo_sift_c 147 = .ok (.invokevirtual 143, 3) := by decide +kernel
theorem d_Mo_sift_150 : decode b_Mo_sift_c 150 = .ok (.iload_n 2, 1) := by decide +kernel
theorem d_Mo_sift_151 : decode b_Mo_sift_c 151 = .ok (.if_icmp .ne 7, 3) := by decide +kernel
theorem d_Mo_sift_154 : decode b_Mo_sift_c 154 = .ok (.iconst 1, 1) := by decide +kernel
theorem d_Mo_sift_155 : decode b_Mo_sift_c 155 = .ok (.goto 4, 3) := by decide +kernel
theorem d_Mo_sift_158 : decode b_Mo_sift_c 158 = .ok (.iconst 0, 1) := by decide +kernel
theorem d_Mo_sift_159 : decode b_Mo_sift_c 159 = .ok (.bastore, 1) := by decide +kernel
theorem d_Mo_sift_160 : decode b_Mo_sift_c 160 = .ok (.iinc 3 1, 3) := by decide +kernel
theorem d_Mo_sift_163 : decode b_Mo_sift_c 163 = .ok (.goto (-52), 3) := by decide +kernel
theorem d_Mo_sift_166 : decode b_Mo_sift_c 166 = .ok (.iinc 1 1, 3) := by decide +kernel
theorem d_Mo_sift_169 : decode b_Mo_sift_c 169 = .ok (.goto (-81), 3) := by decide +kernel
theorem d_Mo_sift_172 : decode b_Mo_sift_c 172 = .ok (.return_, 1) := by decide +kernel
/-! GameRowsModel.sift()V -/
set_option maxHeartbeats 4000000 in
set_option maxRecDepth 100000 in
theorem t_Mo_sift_159 {X : gX} {r : gS} (C : gC X b_Mo_sift_c R_Mo 4 2 47) (hR : ∀ pc lv, decode b_Mo_sift_c pc = .ok (.return_, 1) → G X pc lv [] r) {k88 : Int32 × gS → Option gS}  {k111 : Int32 × Int32 × Int32 × gS → Option gS}  (hk88 : ∀ x, k88 x = some r → G X 88 [(0, .ref (gA X 46)), (1, .int x.1)] [] x.2) (hk111 : ∀ x, k111 x = some r → G X 111 [(0, .ref (gA X 46)), (1, .int x.1), (2, .int x.2.1), (3, .int x.2.2.1)] [] x.2.2.2) (x1 : Int32) (x2 : Int32) (x3 : Int32) (y1 : Int32) (y2 : Int32) (σ : gS) (h : b_Mo_sift_159 k88 k111 x1 x2 x3 y1 y2 σ = some r) : G X 159 [(0, .ref (gA X 46)), (1, .int x1), (2, .int x2), (3, .int x3)] [.int y2, .int y1, .ref (gA X 61)] σ := by
  unfold b_Mo_sift_159 at h
  obtain ⟨hi_1, h⟩ := ck_some h
  obtain ⟨hb_3, h⟩ := ck_some h
  obtain ⟨σ_2, eσ_2, h⟩ := bnd_some h
  refine r_zast C hi_1 hb_3 eσ_2 d_Mo_sift_159 ?_
  obtain ⟨x3_4, ex3_4, h⟩ := bnd_some h
  refine r_iinc C 3 (lv' := [(3, .int x3_4), (0, .ref (gA X 46)), (1, .int x1), (2, .int x2)]) d_Mo_sift_160 rfl (by rw [ex3_4]; rfl) (by decide) rfl ?_
  refine r_goto C (tgt := 111) d_Mo_sift_163 (by decide) ?_
  refine r_sub [1, 2, 3, 0] (lv' := [(0, .ref (gA X 46)), (1, .int x1), (2, .int x2), (3, .int x3_4)]) rfl ?_
  exact hk111 _ h
set_option maxHeartbeats 4000000 in
set_option maxRecDepth 100000 in
theorem t_Mo_sift_158 {X : gX} {r : gS} (C : gC X b_Mo_sift_c R_Mo 4 2 47) (hR : ∀ pc lv, decode b_Mo_sift_c pc = .ok (.return_, 1) → G X pc lv [] r) {k88 : Int32 × gS → Option gS}  {k111 : Int32 × Int32 × Int32 × gS → Option gS}  (hk88 : ∀ x, k88 x = some r → G X 88 [(0, .ref (gA X 46)), (1, .int x.1)] [] x.2) (hk111 : ∀ x, k111 x = some r → G X 111 [(0, .ref (gA X 46)), (1, .int x.1), (2, .int x.2.1), (3, .int x.2.2.1)] [] x.2.2.2) (x1 : Int32) (x2 : Int32) (x3 : Int32) (y1 : Int32) (σ : gS) (h : b_Mo_sift_158 k88 k111 x1 x2 x3 y1 σ = some r) : G X 158 [(0, .ref (gA X 46)), (1, .int x1), (2, .int x2), (3, .int x3)] [.int y1, .ref (gA X 61)] σ := by
  unfold b_Mo_sift_158 at h
  refine r_iconst C (v := 0) d_Mo_sift_158 (by decide) ?_
  exact t_Mo_sift_159 C hR hk88 hk111 x1 x2 x3 y1 0 σ h
set_option maxHeartbeats 4000000 in
set_option maxRecDepth 100000 in
theorem t_Mo_sift_111 {X : gX} {r : gS} (C : gC X b_Mo_sift_c R_Mo 4 2 47) (hR : ∀ pc lv, decode b_Mo_sift_c pc = .ok (.return_, 1) → G X pc lv [] r) {k88 : Int32 × gS → Option gS}  {k111 : Int32 × Int32 × Int32 × gS → Option gS}  (hk88 : ∀ x, k88 x = some r → G X 88 [(0, .ref (gA X 46)), (1, .int x.1)] [] x.2) (hk111 : ∀ x, k111 x = some r → G X 111 [(0, .ref (gA X 46)), (1, .int x.1), (2, .int x.2.1), (3, .int x.2.2.1)] [] x.2.2.2) (x1 : Int32) (x2 : Int32) (x3 : Int32) (σ : gS) (h : b_Mo_sift_111 k88 k111 x1 x2 x3 σ = some r) : G X 111 [(0, .ref (gA X 46)), (1, .int x1), (2, .int x2), (3, .int x3)] [] σ := by
  unfold b_Mo_sift_111 at h
  refine r_iload_n C 3 d_Mo_sift_111 rfl rfl ?_
  refine r_aload_n C 0 d_Mo_sift_112 rfl rfl ?_
  refine q_Mo_124 C d_Mo_sift_113 ?_
  refine r_icmp_ge C (tgt := 166) d_Mo_sift_116 (by decide) (fun hc_1 => ?_) (fun hc_1 => ?_)
  · rw [if_pos hc_1] at h
    obtain ⟨x1_2, ex1_2, h⟩ := bnd_some h
    refine r_iinc C 1 (lv' := [(1, .int x1_2), (0, .ref (gA X 46)), (2, .int x2), (3, .int x3)]) d_Mo_sift_166 rfl (by rw [ex1_2]; rfl) (by decide) rfl ?_
    refine r_goto C (tgt := 88) d_Mo_sift_169 (by decide) ?_
    refine r_sub [1, 0] (lv' := [(0, .ref (gA X 46)), (1, .int x1_2)]) rfl ?_
    exact hk88 _ h
  · rw [if_neg hc_1] at h
    refine r_aload_n C 0 d_Mo_sift_119 rfl rfl ?_
    refine q_Mo_53 C d_Mo_sift_120 ?_
    refine r_bipush C (v := 64) d_Mo_sift_123 (by decide) ?_
    refine r_iload_n C 3 d_Mo_sift_125 rfl rfl ?_
    refine r_imul C d_Mo_sift_126 ?_
    refine r_iload_n C 1 d_Mo_sift_127 rfl rfl ?_
    refine r_iadd C d_Mo_sift_128 ?_
    refine r_aload_n C 0 d_Mo_sift_129 rfl rfl ?_
    refine q_Mo_53 C d_Mo_sift_130 ?_
    refine r_bipush C (v := 64) d_Mo_sift_133 (by decide) ?_
    refine r_iload_n C 3 d_Mo_sift_135 rfl rfl ?_
    refine r_imul C d_Mo_sift_136 ?_
    refine r_iload_n C 1 d_Mo_sift_137 rfl rfl ?_
    refine r_iadd C d_Mo_sift_138 ?_
    obtain ⟨hi_3, h⟩ := ck_some h
    refine r_zald C hi_3 d_Mo_sift_139 ?_
    refine r_if_eq C (tgt := 158) d_Mo_sift_140 (by decide) (fun hc_4 => ?_) (fun hc_4 => ?_)
    · rw [if_pos hc_4] at h
      exact t_Mo_sift_158 C hR hk88 hk111 x1 x2 x3 ((64 * x3) + x1) σ h
    · rw [if_neg hc_4] at h
      refine r_aload_n C 0 d_Mo_sift_143 rfl rfl ?_
      refine r_iconst C (v := 0) d_Mo_sift_144 (by decide) ?_
      refine r_iload_n C 3 d_Mo_sift_145 rfl rfl ?_
      refine r_iload_n C 1 d_Mo_sift_146 rfl rfl ?_
      obtain ⟨r_5, er_5, h⟩ := bind_some h
      refine r_callV C (As := [.int 0, .int x3, .int x1]) (rest := [.int ((64 * x3) + x1), .ref (gA X 61)]) (st1 := [.int r_5, .int ((64 * x3) + x1), .ref (gA X 61)]) (c_Mo_worthTo X.1.2.1 σ 0 x3 x1 er_5) k_Mo_worthTo m_487 (by decide) cel_Mo rfl rfl rfl rfl (Nat.le_of_ble_eq_true rfl) ⟨Nat.le_of_ble_eq_true rfl, Nat.le_of_ble_eq_true rfl⟩ d_Mo_sift_147 rfl ?_
      refine r_iload_n C 2 d_Mo_sift_150 rfl rfl ?_
      refine r_icmp_ne C (tgt := 158) d_Mo_sift_151 (by decide) (fun hc_6 => ?_) (fun hc_6 => ?_)
      · rw [if_neg hc_6] at h
        exact t_Mo_sift_158 C hR hk88 hk111 x1 x2 x3 ((64 * x3) + x1) σ h
      · rw [if_pos hc_6] at h
        refine r_iconst C (v := 1) d_Mo_sift_154 (by decide) ?_
        refine r_goto C (tgt := 159) d_Mo_sift_155 (by decide) ?_
        exact t_Mo_sift_159 C hR hk88 hk111 x1 x2 x3 ((64 * x3) + x1) 1 σ h
set_option maxHeartbeats 4000000 in
set_option maxRecDepth 100000 in
theorem u_Mo_sift_111 {X : gX} {r : gS} (C : gC X b_Mo_sift_c R_Mo 4 2 47) (hR : ∀ pc lv, decode b_Mo_sift_c pc = .ok (.return_, 1) → G X pc lv [] r) {k88 : Int32 × gS → Option gS}  (hk88 : ∀ x, k88 x = some r → G X 88 [(0, .ref (gA X 46)), (1, .int x.1)] [] x.2) (x : Int32 × Int32 × Int32 × gS) (h : l_Mo_sift_111 k88 x = some r) : G X 111 [(0, .ref (gA X 46)), (1, .int x.1), (2, .int x.2.1), (3, .int x.2.2.1)] [] x.2.2.2 :=
  lpF_ind (P := fun x => G X 111 [(0, .ref (gA X 46)), (1, .int x.1), (2, .int x.2.1), (3, .int x.2.2.1)] [] x.2.2.2) (fun k hk x h => t_Mo_sift_111 C hR hk88 hk x.1 x.2.1 x.2.2.1 x.2.2.2 h) gF x h
set_option maxHeartbeats 4000000 in
set_option maxRecDepth 100000 in
theorem t_Mo_sift_88 {X : gX} {r : gS} (C : gC X b_Mo_sift_c R_Mo 4 2 47) (hR : ∀ pc lv, decode b_Mo_sift_c pc = .ok (.return_, 1) → G X pc lv [] r) {k88 : Int32 × gS → Option gS}  (hk88 : ∀ x, k88 x = some r → G X 88 [(0, .ref (gA X 46)), (1, .int x.1)] [] x.2) (x1 : Int32) (σ : gS) (h : b_Mo_sift_88 k88 x1 σ = some r) : G X 88 [(0, .ref (gA X 46)), (1, .int x1)] [] σ := by
  unfold b_Mo_sift_88 at h
  refine r_iload_n C 1 d_Mo_sift_88 rfl rfl ?_
  refine r_aload_n C 0 d_Mo_sift_89 rfl rfl ?_
  refine q_Mo_127 C d_Mo_sift_90 ?_
  refine r_icmp_ge C (tgt := 172) d_Mo_sift_93 (by decide) (fun hc_1 => ?_) (fun hc_1 => ?_)
  · rw [if_pos hc_1] at h
    cases h
    exact hR _ _ d_Mo_sift_172
  · rw [if_neg hc_1] at h
    refine r_aload_n C 0 d_Mo_sift_96 rfl rfl ?_
    refine r_iconst C (v := 0) d_Mo_sift_97 (by decide) ?_
    refine r_aload_n C 0 d_Mo_sift_98 rfl rfl ?_
    refine r_iconst C (v := 0) d_Mo_sift_99 (by decide) ?_
    refine r_iload_n C 1 d_Mo_sift_100 rfl rfl ?_
    obtain ⟨r_2, er_2, h⟩ := bind_some h
    refine r_callV C (As := [.int 0, .int x1]) (rest := [.int 0, .ref (gA X 46)]) (st1 := [.int r_2, .int 0, .ref (gA X 46)]) (c_Mo_answerOf X.1.2.1 σ 0 x1 er_2) k_Mo_answerOf m_504 (by decide) cel_Mo rfl rfl rfl rfl (Nat.le_of_ble_eq_true rfl) ⟨Nat.le_of_ble_eq_true rfl, Nat.le_of_ble_eq_true rfl⟩ d_Mo_sift_101 rfl ?_
    refine r_iload_n C 1 d_Mo_sift_104 rfl rfl ?_
    obtain ⟨r_3, er_3, h⟩ := bind_some h
    refine r_callV C (As := [.int 0, .int r_2, .int x1]) (rest := []) (st1 := [.int r_3]) (c_Mo_worthTo X.1.2.1 σ 0 r_2 x1 er_3) k_Mo_worthTo m_487 (by decide) cel_Mo rfl rfl rfl rfl (Nat.le_of_ble_eq_true rfl) ⟨Nat.le_of_ble_eq_true rfl, Nat.le_of_ble_eq_true rfl⟩ d_Mo_sift_105 rfl ?_
    refine r_istore_n C (lv' := [(2, .int r_3), (0, .ref (gA X 46)), (1, .int x1)]) d_Mo_sift_108 rfl (by decide) rfl rfl ?_
    refine r_iconst C (v := 0) d_Mo_sift_109 (by decide) ?_
    refine r_istore_n C (lv' := [(3, .int 0), (2, .int r_3), (0, .ref (gA X 46)), (1, .int x1)]) d_Mo_sift_110 rfl (by decide) rfl rfl ?_
    refine r_sub [2, 3, 1, 0] (lv' := [(0, .ref (gA X 46)), (1, .int x1), (2, .int r_3), (3, .int 0)]) rfl ?_
    exact u_Mo_sift_111 C hR hk88 (x1, r_3, 0, σ) h
set_option maxHeartbeats 4000000 in
set_option maxRecDepth 100000 in
theorem u_Mo_sift_88 {X : gX} {r : gS} (C : gC X b_Mo_sift_c R_Mo 4 2 47) (hR : ∀ pc lv, decode b_Mo_sift_c pc = .ok (.return_, 1) → G X pc lv [] r)  (x : Int32 × gS) (h : l_Mo_sift_88 x = some r) : G X 88 [(0, .ref (gA X 46)), (1, .int x.1)] [] x.2 :=
  lpF_ind (P := fun x => G X 88 [(0, .ref (gA X 46)), (1, .int x.1)] [] x.2) (fun k hk x h => t_Mo_sift_88 C hR hk x.1 x.2 h) gF x h
set_option maxHeartbeats 4000000 in
set_option maxRecDepth 100000 in
theorem t_Mo_sift_73 {X : gX} {r : gS} (C : gC X b_Mo_sift_c R_Mo 4 2 47) (hR : ∀ pc lv, decode b_Mo_sift_c pc = .ok (.return_, 1) → G X pc lv [] r) {k2 : Int32 × gS → Option gS}  {k25 : Int32 × Int32 × Int32 × gS → Option gS}  (hk2 : ∀ x, k2 x = some r → G X 2 [(0, .ref (gA X 46)), (1, .int x.1)] [] x.2) (hk25 : ∀ x, k25 x = some r → G X 25 [(0, .ref (gA X 46)), (1, .int x.1), (2, .int x.2.1), (3, .int x.2.2.1)] [] x.2.2.2) (x1 : Int32) (x2 : Int32) (x3 : Int32) (y1 : Int32) (y2 : Int32) (σ : gS) (h : b_Mo_sift_73 k2 k25 x1 x2 x3 y1 y2 σ = some r) : G X 73 [(0, .ref (gA X 46)), (1, .int x1), (2, .int x2), (3, .int x3)] [.int y2, .int y1, .ref (gA X 61)] σ := by
  unfold b_Mo_sift_73 at h
  obtain ⟨hi_1, h⟩ := ck_some h
  obtain ⟨hb_3, h⟩ := ck_some h
  obtain ⟨σ_2, eσ_2, h⟩ := bnd_some h
  refine r_zast C hi_1 hb_3 eσ_2 d_Mo_sift_73 ?_
  obtain ⟨x3_4, ex3_4, h⟩ := bnd_some h
  refine r_iinc C 3 (lv' := [(3, .int x3_4), (0, .ref (gA X 46)), (1, .int x1), (2, .int x2)]) d_Mo_sift_74 rfl (by rw [ex3_4]; rfl) (by decide) rfl ?_
  refine r_goto C (tgt := 25) d_Mo_sift_77 (by decide) ?_
  refine r_sub [1, 2, 3, 0] (lv' := [(0, .ref (gA X 46)), (1, .int x1), (2, .int x2), (3, .int x3_4)]) rfl ?_
  exact hk25 _ h
set_option maxHeartbeats 4000000 in
set_option maxRecDepth 100000 in
theorem t_Mo_sift_72 {X : gX} {r : gS} (C : gC X b_Mo_sift_c R_Mo 4 2 47) (hR : ∀ pc lv, decode b_Mo_sift_c pc = .ok (.return_, 1) → G X pc lv [] r) {k2 : Int32 × gS → Option gS}  {k25 : Int32 × Int32 × Int32 × gS → Option gS}  (hk2 : ∀ x, k2 x = some r → G X 2 [(0, .ref (gA X 46)), (1, .int x.1)] [] x.2) (hk25 : ∀ x, k25 x = some r → G X 25 [(0, .ref (gA X 46)), (1, .int x.1), (2, .int x.2.1), (3, .int x.2.2.1)] [] x.2.2.2) (x1 : Int32) (x2 : Int32) (x3 : Int32) (y1 : Int32) (σ : gS) (h : b_Mo_sift_72 k2 k25 x1 x2 x3 y1 σ = some r) : G X 72 [(0, .ref (gA X 46)), (1, .int x1), (2, .int x2), (3, .int x3)] [.int y1, .ref (gA X 61)] σ := by
  unfold b_Mo_sift_72 at h
  refine r_iconst C (v := 0) d_Mo_sift_72 (by decide) ?_
  exact t_Mo_sift_73 C hR hk2 hk25 x1 x2 x3 y1 0 σ h
set_option maxHeartbeats 4000000 in
set_option maxRecDepth 100000 in
theorem t_Mo_sift_25 {X : gX} {r : gS} (C : gC X b_Mo_sift_c R_Mo 4 2 47) (hR : ∀ pc lv, decode b_Mo_sift_c pc = .ok (.return_, 1) → G X pc lv [] r) {k2 : Int32 × gS → Option gS}  {k25 : Int32 × Int32 × Int32 × gS → Option gS}  (hk2 : ∀ x, k2 x = some r → G X 2 [(0, .ref (gA X 46)), (1, .int x.1)] [] x.2) (hk25 : ∀ x, k25 x = some r → G X 25 [(0, .ref (gA X 46)), (1, .int x.1), (2, .int x.2.1), (3, .int x.2.2.1)] [] x.2.2.2) (x1 : Int32) (x2 : Int32) (x3 : Int32) (σ : gS) (h : b_Mo_sift_25 k2 k25 x1 x2 x3 σ = some r) : G X 25 [(0, .ref (gA X 46)), (1, .int x1), (2, .int x2), (3, .int x3)] [] σ := by
  unfold b_Mo_sift_25 at h
  refine r_iload_n C 3 d_Mo_sift_25 rfl rfl ?_
  refine r_aload_n C 0 d_Mo_sift_26 rfl rfl ?_
  refine q_Mo_127 C d_Mo_sift_27 ?_
  refine r_icmp_ge C (tgt := 80) d_Mo_sift_30 (by decide) (fun hc_1 => ?_) (fun hc_1 => ?_)
  · rw [if_pos hc_1] at h
    obtain ⟨x1_2, ex1_2, h⟩ := bnd_some h
    refine r_iinc C 1 (lv' := [(1, .int x1_2), (0, .ref (gA X 46)), (2, .int x2), (3, .int x3)]) d_Mo_sift_80 rfl (by rw [ex1_2]; rfl) (by decide) rfl ?_
    refine r_goto C (tgt := 2) d_Mo_sift_83 (by decide) ?_
    refine r_sub [1, 0] (lv' := [(0, .ref (gA X 46)), (1, .int x1_2)]) rfl ?_
    exact hk2 _ h
  · rw [if_neg hc_1] at h
    refine r_aload_n C 0 d_Mo_sift_33 rfl rfl ?_
    refine q_Mo_53 C d_Mo_sift_34 ?_
    refine r_bipush C (v := 64) d_Mo_sift_37 (by decide) ?_
    refine r_iload_n C 1 d_Mo_sift_39 rfl rfl ?_
    refine r_imul C d_Mo_sift_40 ?_
    refine r_iload_n C 3 d_Mo_sift_41 rfl rfl ?_
    refine r_iadd C d_Mo_sift_42 ?_
    refine r_aload_n C 0 d_Mo_sift_43 rfl rfl ?_
    refine q_Mo_53 C d_Mo_sift_44 ?_
    refine r_bipush C (v := 64) d_Mo_sift_47 (by decide) ?_
    refine r_iload_n C 1 d_Mo_sift_49 rfl rfl ?_
    refine r_imul C d_Mo_sift_50 ?_
    refine r_iload_n C 3 d_Mo_sift_51 rfl rfl ?_
    refine r_iadd C d_Mo_sift_52 ?_
    obtain ⟨hi_3, h⟩ := ck_some h
    refine r_zald C hi_3 d_Mo_sift_53 ?_
    refine r_if_eq C (tgt := 72) d_Mo_sift_54 (by decide) (fun hc_4 => ?_) (fun hc_4 => ?_)
    · rw [if_pos hc_4] at h
      exact t_Mo_sift_72 C hR hk2 hk25 x1 x2 x3 ((64 * x1) + x3) σ h
    · rw [if_neg hc_4] at h
      refine r_aload_n C 0 d_Mo_sift_57 rfl rfl ?_
      refine r_iconst C (v := 1) d_Mo_sift_58 (by decide) ?_
      refine r_iload_n C 3 d_Mo_sift_59 rfl rfl ?_
      refine r_iload_n C 1 d_Mo_sift_60 rfl rfl ?_
      obtain ⟨r_5, er_5, h⟩ := bind_some h
      refine r_callV C (As := [.int 1, .int x3, .int x1]) (rest := [.int ((64 * x1) + x3), .ref (gA X 61)]) (st1 := [.int r_5, .int ((64 * x1) + x3), .ref (gA X 61)]) (c_Mo_worthTo X.1.2.1 σ 1 x3 x1 er_5) k_Mo_worthTo m_487 (by decide) cel_Mo rfl rfl rfl rfl (Nat.le_of_ble_eq_true rfl) ⟨Nat.le_of_ble_eq_true rfl, Nat.le_of_ble_eq_true rfl⟩ d_Mo_sift_61 rfl ?_
      refine r_iload_n C 2 d_Mo_sift_64 rfl rfl ?_
      refine r_icmp_ne C (tgt := 72) d_Mo_sift_65 (by decide) (fun hc_6 => ?_) (fun hc_6 => ?_)
      · rw [if_neg hc_6] at h
        exact t_Mo_sift_72 C hR hk2 hk25 x1 x2 x3 ((64 * x1) + x3) σ h
      · rw [if_pos hc_6] at h
        refine r_iconst C (v := 1) d_Mo_sift_68 (by decide) ?_
        refine r_goto C (tgt := 73) d_Mo_sift_69 (by decide) ?_
        exact t_Mo_sift_73 C hR hk2 hk25 x1 x2 x3 ((64 * x1) + x3) 1 σ h
set_option maxHeartbeats 4000000 in
set_option maxRecDepth 100000 in
theorem u_Mo_sift_25 {X : gX} {r : gS} (C : gC X b_Mo_sift_c R_Mo 4 2 47) (hR : ∀ pc lv, decode b_Mo_sift_c pc = .ok (.return_, 1) → G X pc lv [] r) {k2 : Int32 × gS → Option gS}  (hk2 : ∀ x, k2 x = some r → G X 2 [(0, .ref (gA X 46)), (1, .int x.1)] [] x.2) (x : Int32 × Int32 × Int32 × gS) (h : l_Mo_sift_25 k2 x = some r) : G X 25 [(0, .ref (gA X 46)), (1, .int x.1), (2, .int x.2.1), (3, .int x.2.2.1)] [] x.2.2.2 :=
  lpF_ind (P := fun x => G X 25 [(0, .ref (gA X 46)), (1, .int x.1), (2, .int x.2.1), (3, .int x.2.2.1)] [] x.2.2.2) (fun k hk x h => t_Mo_sift_25 C hR hk2 hk x.1 x.2.1 x.2.2.1 x.2.2.2 h) gF x h
set_option maxHeartbeats 4000000 in
set_option maxRecDepth 100000 in
theorem t_Mo_sift_2 {X : gX} {r : gS} (C : gC X b_Mo_sift_c R_Mo 4 2 47) (hR : ∀ pc lv, decode b_Mo_sift_c pc = .ok (.return_, 1) → G X pc lv [] r) {k2 : Int32 × gS → Option gS}  (hk2 : ∀ x, k2 x = some r → G X 2 [(0, .ref (gA X 46)), (1, .int x.1)] [] x.2) (x1 : Int32) (σ : gS) (h : b_Mo_sift_2 k2 x1 σ = some r) : G X 2 [(0, .ref (gA X 46)), (1, .int x1)] [] σ := by
  unfold b_Mo_sift_2 at h
  refine r_iload_n C 1 d_Mo_sift_2 rfl rfl ?_
  refine r_aload_n C 0 d_Mo_sift_3 rfl rfl ?_
  refine q_Mo_124 C d_Mo_sift_4 ?_
  refine r_icmp_ge C (tgt := 86) d_Mo_sift_7 (by decide) (fun hc_1 => ?_) (fun hc_1 => ?_)
  · rw [if_pos hc_1] at h
    refine r_iconst C (v := 0) d_Mo_sift_86 (by decide) ?_
    refine r_istore_n C (lv' := [(1, .int 0), (0, .ref (gA X 46))]) d_Mo_sift_87 rfl (by decide) rfl rfl ?_
    refine r_sub [1, 0] (lv' := [(0, .ref (gA X 46)), (1, .int 0)]) rfl ?_
    exact u_Mo_sift_88 C hR  (0, σ) h
  · rw [if_neg hc_1] at h
    refine r_aload_n C 0 d_Mo_sift_10 rfl rfl ?_
    refine r_iconst C (v := 1) d_Mo_sift_11 (by decide) ?_
    refine r_aload_n C 0 d_Mo_sift_12 rfl rfl ?_
    refine r_iconst C (v := 1) d_Mo_sift_13 (by decide) ?_
    refine r_iload_n C 1 d_Mo_sift_14 rfl rfl ?_
    obtain ⟨r_2, er_2, h⟩ := bind_some h
    refine r_callV C (As := [.int 1, .int x1]) (rest := [.int 1, .ref (gA X 46)]) (st1 := [.int r_2, .int 1, .ref (gA X 46)]) (c_Mo_answerOf X.1.2.1 σ 1 x1 er_2) k_Mo_answerOf m_504 (by decide) cel_Mo rfl rfl rfl rfl (Nat.le_of_ble_eq_true rfl) ⟨Nat.le_of_ble_eq_true rfl, Nat.le_of_ble_eq_true rfl⟩ d_Mo_sift_15 rfl ?_
    refine r_iload_n C 1 d_Mo_sift_18 rfl rfl ?_
    obtain ⟨r_3, er_3, h⟩ := bind_some h
    refine r_callV C (As := [.int 1, .int r_2, .int x1]) (rest := []) (st1 := [.int r_3]) (c_Mo_worthTo X.1.2.1 σ 1 r_2 x1 er_3) k_Mo_worthTo m_487 (by decide) cel_Mo rfl rfl rfl rfl (Nat.le_of_ble_eq_true rfl) ⟨Nat.le_of_ble_eq_true rfl, Nat.le_of_ble_eq_true rfl⟩ d_Mo_sift_19 rfl ?_
    refine r_istore_n C (lv' := [(2, .int r_3), (0, .ref (gA X 46)), (1, .int x1)]) d_Mo_sift_22 rfl (by decide) rfl rfl ?_
    refine r_iconst C (v := 0) d_Mo_sift_23 (by decide) ?_
    refine r_istore_n C (lv' := [(3, .int 0), (2, .int r_3), (0, .ref (gA X 46)), (1, .int x1)]) d_Mo_sift_24 rfl (by decide) rfl rfl ?_
    refine r_sub [2, 3, 1, 0] (lv' := [(0, .ref (gA X 46)), (1, .int x1), (2, .int r_3), (3, .int 0)]) rfl ?_
    exact u_Mo_sift_25 C hR hk2 (x1, r_3, 0, σ) h
set_option maxHeartbeats 4000000 in
set_option maxRecDepth 100000 in
theorem u_Mo_sift_2 {X : gX} {r : gS} (C : gC X b_Mo_sift_c R_Mo 4 2 47) (hR : ∀ pc lv, decode b_Mo_sift_c pc = .ok (.return_, 1) → G X pc lv [] r)  (x : Int32 × gS) (h : l_Mo_sift_2 x = some r) : G X 2 [(0, .ref (gA X 46)), (1, .int x.1)] [] x.2 :=
  lpF_ind (P := fun x => G X 2 [(0, .ref (gA X 46)), (1, .int x.1)] [] x.2) (fun k hk x h => t_Mo_sift_2 C hR hk x.1 x.2 h) gF x h
set_option maxHeartbeats 4000000 in
set_option maxRecDepth 100000 in
theorem t_Mo_sift_0 {X : gX} {r : gS} (C : gC X b_Mo_sift_c R_Mo 4 2 47) (hR : ∀ pc lv, decode b_Mo_sift_c pc = .ok (.return_, 1) → G X pc lv [] r) (σ : gS) (h : b_Mo_sift_0 σ = some r) : G X 0 [(0, .ref (gA X 46))] [] σ := by
  unfold b_Mo_sift_0 at h
  refine r_iconst C (v := 0) d_Mo_sift_0 (by decide) ?_
  refine r_istore_n C (lv' := [(1, .int 0), (0, .ref (gA X 46))]) d_Mo_sift_1 rfl (by decide) rfl rfl ?_
  refine r_sub [1, 0] (lv' := [(0, .ref (gA X 46)), (1, .int 0)]) rfl ?_
  exact u_Mo_sift_2 C hR  (0, σ) h
set_option maxHeartbeats 4000000 in
set_option maxRecDepth 100000 in
theorem c_Mo_sift (l : Launch) (σ : gS)  {r : gS} (h : f_Mo_sift σ = some r) : gMet l y_Mo_sift b_Mo_sift_c 4 (none) 2 47 (fun a => [.ref (a 46)]) σ (none) r := by
  refine gMet_v (by decide +kernel) (fun a => Nat.le_of_ble_eq_true rfl) (fun X _ C hR => ?_)
  refine r_sub [0] (lv' := [(0, .ref (gA X 46))]) rfl ?_
  exact t_Mo_sift_0 C hR σ h
