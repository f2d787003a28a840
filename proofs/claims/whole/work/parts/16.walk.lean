theorem d_Mo_isBelow_0 : decode b_Mo_isBelow_c 0 = .ok (.iload_n 1, 1) := by decide +kernel
theorem d_Mo_isBelow_1 : decode b_Mo_isBelow_c 1 = .ok (.istore_n 3, 1) := by decide +kernel
theorem d_Mo_isBelow_2 : decode b_Mo_isBelow_c 2 = .ok (.iload_n 3, 1) := by decide +kernel
theorem d_Mo_isBelow_3 : decode b_Mo_isBelow_c 3 = .ok (.iconst (-1), 1) := by decide +kernel
theorem d_Mo_isBelow_4 : decode b_Mo_isBelow_c 4 = .ok (.if_icmp .eq 18, 3) := by decide +kernel
theorem d_Mo_isBelow_7 : decode b_Mo_isBelow_c 7 = .ok (.iload_n 3, 1) := by decide +kernel
theorem d_Mo_isBelow_8 : decode b_Mo_isBelow_c 8 = .ok (.iload_n 2, 1) := by decide +kernel
theorem d_Mo_isBelow_9 : decode b_Mo_isBelow_c 9 = .ok (.if_icmp .eq 13, 3) := by decide +kernel
theorem d_Mo_isBelow_12 : decode b_Mo_isBelow_c 12 = .ok (.aload_n 0, 1) := by decide +kernel
theorem d_Mo_isBelow_13 : decode b_Mo_isBelow_c 13 = .ok (.getfield 22, 3) := by decide +kernel
theorem d_Mo_isBelow_16 : decode b_Mo_isBelow_c 16 = .ok (.iload_n 3, 1) := by decide +kernel
theorem d_Mo_isBelow_17 : decode b_Mo_isBelow_c 17 = .ok (.iaload, 1) := by decide +kernel
theorem d_Mo_isBelow_18 : decode b_Mo_isBelow_c 18 = .ok (.istore_n 3, 1) := by decide +kernel
theorem d_Mo_isBelow_19 : decode b_Mo_isBelow_c 19 = .ok (.goto (-17), 3) := by decide +kernel
theorem d_Mo_isBelow_22 : decode b_Mo_isBelow_c 22 = .ok (.iload_n 3, 1) := by decide +kernel
theorem d_Mo_isBelow_23 : decode b_Mo_isBelow_c 23 = .ok (.iload_n 2, 1) := by decide +kernel
theorem d_Mo_isBelow_24 : decode b_Mo_isBelow_c 24 = .ok (.if_icmp .ne 7, 3) := by decide +kernel
theorem d_Mo_isBelow_27 : decode b_Mo_isBelow_c 27 = .ok (.iconst 1, 1) := by decide +kernel
theorem d_Mo_isBelow_28 : decode b_Mo_isBelow_c 28 = .ok (.goto 4, 3) := by decide +kernel
theorem d_Mo_isBelow_31 : decode b_Mo_isBelow_c 31 = .ok (.iconst 0, 1) := by decide +kernel
theorem d_Mo_isBelow_32 : decode b_Mo_isBelow_c 32 = .ok (.ireturn, 1) := by decide +kernel
/-! GameRowsModel.isBelow(II)Z -/
set_option maxHeartbeats 4000000 in
set_option maxRecDepth 100000 in
theorem t_Mo_isBelow_22 {X : gX} {r : Int32} {σ : gS} (C : gC X b_Mo_isBelow_c R_Mo 4 0 0) (hR : ∀ pc lv, isB r = true → decode b_Mo_isBelow_c pc = .ok (.ireturn, 1) → G X pc lv [.int r] σ) (x2 : Int32) (x3 : Int32) (h : b_Mo_isBelow_22 σ x2 x3 = some r) : G X 22 [(2, .int x2), (3, .int x3)] [] σ := by
  unfold b_Mo_isBelow_22 at h
  refine r_iload_n C 1 d_Mo_isBelow_22 rfl rfl ?_
  refine r_iload_n C 0 d_Mo_isBelow_23 rfl rfl ?_
  refine r_icmp_ne C (tgt := 31) d_Mo_isBelow_24 (by decide) (fun hc_1 => ?_) (fun hc_1 => ?_)
  · rw [if_neg hc_1] at h
    refine r_iconst C (v := 0) d_Mo_isBelow_31 (by decide) ?_
    obtain ⟨hB, h⟩ := ck_some h
    cases h
    exact hR _ _ hB d_Mo_isBelow_32
  · rw [if_pos hc_1] at h
    refine r_iconst C (v := 1) d_Mo_isBelow_27 (by decide) ?_
    refine r_goto C (tgt := 32) d_Mo_isBelow_28 (by decide) ?_
    obtain ⟨hB, h⟩ := ck_some h
    cases h
    exact hR _ _ hB d_Mo_isBelow_32
set_option maxHeartbeats 4000000 in
set_option maxRecDepth 100000 in
theorem t_Mo_isBelow_2 {X : gX} {r : Int32} {σ : gS} (C : gC X b_Mo_isBelow_c R_Mo 4 0 0) (hR : ∀ pc lv, isB r = true → decode b_Mo_isBelow_c pc = .ok (.ireturn, 1) → G X pc lv [.int r] σ) {k2 : Int32 × Int32 → Option Int32}  (hk2 : ∀ x, k2 x = some r → G X 2 [(0, .ref (gA X 46)), (2, .int x.1), (3, .int x.2)] [] σ) (x2 : Int32) (x3 : Int32) (h : b_Mo_isBelow_2 σ k2 x2 x3 = some r) : G X 2 [(0, .ref (gA X 46)), (2, .int x2), (3, .int x3)] [] σ := by
  unfold b_Mo_isBelow_2 at h
  refine r_iload_n C 2 d_Mo_isBelow_2 rfl rfl ?_
  refine r_iconst C (v := (-1)) d_Mo_isBelow_3 (by decide) ?_
  refine r_icmp_eq C (tgt := 22) d_Mo_isBelow_4 (by decide) (fun hc_1 => ?_) (fun hc_1 => ?_)
  · rw [if_pos hc_1] at h
    refine r_sub [1, 2] (lv' := [(2, .int x2), (3, .int x3)]) rfl ?_
    exact t_Mo_isBelow_22 C hR x2 x3 h
  · rw [if_neg hc_1] at h
    refine r_iload_n C 2 d_Mo_isBelow_7 rfl rfl ?_
    refine r_iload_n C 1 d_Mo_isBelow_8 rfl rfl ?_
    refine r_icmp_eq C (tgt := 22) d_Mo_isBelow_9 (by decide) (fun hc_2 => ?_) (fun hc_2 => ?_)
    · rw [if_pos hc_2] at h
      refine r_sub [1, 2] (lv' := [(2, .int x2), (3, .int x3)]) rfl ?_
      exact t_Mo_isBelow_22 C hR x2 x3 h
    · rw [if_neg hc_2] at h
      refine r_aload_n C 0 d_Mo_isBelow_12 rfl rfl ?_
      refine q_Mo_22 C d_Mo_isBelow_13 ?_
      refine r_iload_n C 2 d_Mo_isBelow_16 rfl rfl ?_
      obtain ⟨hi_3, h⟩ := ck_some h
      refine r_iald C hi_3 d_Mo_isBelow_17 ?_
      obtain ⟨x3_4, ex3_4, h⟩ := bnd_some h
      refine r_istore_n C (lv' := [(3, .int x3_4), (0, .ref (gA X 46)), (2, .int x2)]) d_Mo_isBelow_18 rfl (by decide) ex3_4 rfl ?_
      refine r_goto C (tgt := 2) d_Mo_isBelow_19 (by decide) ?_
      refine r_sub [1, 2, 0] (lv' := [(0, .ref (gA X 46)), (2, .int x2), (3, .int x3_4)]) rfl ?_
      exact hk2 _ h
set_option maxHeartbeats 4000000 in
set_option maxRecDepth 100000 in
theorem u_Mo_isBelow_2 {X : gX} {r : Int32} {σ : gS} (C : gC X b_Mo_isBelow_c R_Mo 4 0 0) (hR : ∀ pc lv, isB r = true → decode b_Mo_isBelow_c pc = .ok (.ireturn, 1) → G X pc lv [.int r] σ)  (x : Int32 × Int32) (h : l_Mo_isBelow_2 σ x = some r) : G X 2 [(0, .ref (gA X 46)), (2, .int x.1), (3, .int x.2)] [] σ :=
  lpF_ind (P := fun x => G X 2 [(0, .ref (gA X 46)), (2, .int x.1), (3, .int x.2)] [] σ) (fun k hk x h => t_Mo_isBelow_2 C hR hk x.1 x.2 h) gF x h
set_option maxHeartbeats 4000000 in
set_option maxRecDepth 100000 in
theorem t_Mo_isBelow_0 {X : gX} {r : Int32} {σ : gS} (C : gC X b_Mo_isBelow_c R_Mo 4 0 0) (hR : ∀ pc lv, isB r = true → decode b_Mo_isBelow_c pc = .ok (.ireturn, 1) → G X pc lv [.int r] σ) (x1 : Int32) (x2 : Int32) (h : b_Mo_isBelow_0 σ x1 x2 = some r) : G X 0 [(0, .ref (gA X 46)), (1, .int x1), (2, .int x2)] [] σ := by
  unfold b_Mo_isBelow_0 at h
  refine r_iload_n C 1 d_Mo_isBelow_0 rfl rfl ?_
  refine r_istore_n C (lv' := [(3, .int x1), (0, .ref (gA X 46)), (1, .int x1), (2, .int x2)]) d_Mo_isBelow_1 rfl (by decide) rfl rfl ?_
  refine r_sub [1, 3, 0] (lv' := [(0, .ref (gA X 46)), (2, .int x2), (3, .int x1)]) rfl ?_
  exact u_Mo_isBelow_2 C hR  (x2, x1) h
set_option maxHeartbeats 4000000 in
set_option maxRecDepth 100000 in
theorem c_Mo_isBelow (l : Launch) (σ : gS) (x1 : Int32) (x2 : Int32) {r : Int32} (h : f_Mo_isBelow σ x1 x2 = some r) : gMet l y_Mo_isBelow b_Mo_isBelow_c 4 (some .boolean) 0 0 (fun a => [.ref (a 46), .int x1, .int x2]) σ (some (.int r)) σ := by
  refine gMet_z (by decide +kernel) (fun a => Nat.le_of_ble_eq_true rfl) (fun X _ C hR => ?_)
  refine r_sub [0, 1, 2] (lv' := [(0, .ref (gA X 46)), (1, .int x1), (2, .int x2)]) rfl ?_
  exact t_Mo_isBelow_0 C hR x1 x2 h
theorem d_Mo_isGame_0 : decode b_Mo_isGame_c 0 = .ok (.iload_n 1, 1) := by decide +kernel
theorem d_Mo_isGame_1 : decode b_Mo_isGame_c 1 = .ok (.aload_n 0, 1) := by decide +kernel
theorem d_Mo_isGame_2 : decode b_Mo_isGame_c 2 = .ok (.invokevirtual 135, 3) := by decide +kernel
theorem d_Mo_isGame_5 : decode b_Mo_isGame_c 5 = .ok (.if_icmp .ne 5, 3) := by decide +kernel
theorem d_Mo_isGame_8 : decode b_Mo_isGame_c 8 = .ok (.iconst 1, 1) := by decide +kernel
theorem d_Mo_isGame_9 : decode b_Mo_isGame_c 9 = .ok (.ireturn, 1) := by decide +kernel
theorem d_Mo_isGame_10 : decode b_Mo_isGame_c 10 = .ok (.aload_n 0, 1) := by decide +kernel
theorem d_Mo_isGame_11 : decode b_Mo_isGame_c 11 = .ok (.getfield 37, 3) := by decide +kernel
theorem d_Mo_isGame_14 : decode b_Mo_isGame_c 14 = .ok (.iload_n 1, 1) := by decide +kernel
theorem d_Mo_isGame_15 : decode b_Mo_isGame_c 15 = .ok (.baload, 1) := by decide +kernel
theorem d_Mo_isGame_16 : decode b_Mo_isGame_c 16 = .ok (.ifCond .eq 13, 3) := by decide +kernel
theorem d_Mo_isGame_19 : decode b_Mo_isGame_c 19 = .ok (.aload_n 0, 1) := by decide +kernel
theorem d_Mo_isGame_20 : decode b_Mo_isGame_c 20 = .ok (.getfield 7, 3) := by decide +kernel
theorem d_Mo_isGame_23 : decode b_Mo_isGame_c 23 = .ok (.iload_n 1, 1) := by decide +kernel
theorem d_Mo_isGame_24 : decode b_Mo_isGame_c 24 = .ok (.iaload, 1) := by decide +kernel
theorem d_Mo_isGame_25 : decode b_Mo_isGame_c 25 = .ok (.iconst 2, 1) := by decide +kernel
theorem d_Mo_isGame_26 : decode b_Mo_isGame_c 26 = .ok (.if_icmp .eq 5, 3) := by decide +kernel
theorem d_Mo_isGame_29 : decode b_Mo_isGame_c 29 = .ok (.iconst 0, 1) := by decide +kernel
theorem d_Mo_isGame_30 : decode b_Mo_isGame_c 30 = .ok (.ireturn, 1) := by decide +kernel
theorem d_Mo_isGame_31 : decode b_Mo_isGame_c 31 = .ok (.iconst 1, 1) := by decide +kernel
theorem d_Mo_isGame_32 : decode b_Mo_isGame_c 32 = .ok (.istore_n 2, 1) := by decide +kernel
theorem d_Mo_isGame_33 : decode b_Mo_isGame_c 33 = .ok (.iconst 0, 1) := by decide +kernel
theorem d_Mo_isGame_34 : decode b_Mo_isGame_c 34 = .ok (.istore_n 3, 1) := by decide +kernel
theorem d_Mo_isGame_35 : decode b_Mo_isGame_c 35 = .ok (.iload_n 3, 1) := by decide +kernel
theorem d_Mo_isGame_36 : decode b_Mo_isGame_c 36 = .ok (.aload_n 0, 1) := by decide +kernel
theorem d_Mo_isGame_37 : decode b_Mo_isGame_c 37 = .ok (.getfield 71, 3) := by decide +kernel
theorem d_Mo_isGame_40 : decode b_Mo_isGame_c 40 = .ok (.if_icmp .ge 159, 3) := by decide +kernel
theorem d_Mo_isGame_43 : decode b_Mo_isGame_c 43 = .ok (.aload_n 0, 1) := by decide +kernel
theorem d_Mo_isGame_44 : decode b_Mo_isGame_c 44 = .ok (.getfield 37, 3) := by decide +kernel
theorem d_Mo_isGame_47 : decode b_Mo_isGame_c 47 = .ok (.iload_n 3, 1) := by decide +kernel
theorem d_Mo_isGame_48 : decode b_Mo_isGame_c 48 = .ok (.baload, 1) := by decide +kernel
theorem d_Mo_isGame_49 : decode b_Mo_isGame_c 49 = .ok (.ifCond .eq 22, 3) := by decide +kernel
theorem d_Mo_isGame_52 : decode b_Mo_isGame_c 52 = .ok (.aload_n 0, 1) := by decide +kernel
theorem d_Mo_isGame_53 : decode b_Mo_isGame_c 53 = .ok (.getfield 7, 3) := by decide +kernel
theorem d_Mo_isGame_56 : decode b_Mo_isGame_c 56 = .ok (.iload_n 3, 1) := by decide +kernel
theorem d_Mo_isGame_57 : decode b_Mo_isGame_c 57 = .ok (.iaload, 1) := by decide +kernel
theorem d_Mo_isGame_58 : decode b_Mo_isGame_c 58 = .ok (.iconst 2, 1) := by decide +kernel
theorem d_Mo_isGame_59 : decode b_Mo_isGame_c 59 = .ok (.if_icmp .ne 12, 3) := by decide +kernel
theorem d_Mo_isGame_62 : decode b_Mo_isGame_c 62 = .ok (.iload_n 3, 1) := by decide +kernel
theorem d_Mo_isGame_63 : decode b_Mo_isGame_c 63 = .ok (.iload_n 1, 1) := by decide +kernel
theorem d_Mo_isGame_64 : decode b_Mo_isGame_c 64 = .ok (.if_icmp .eq 7, 3) := by decide +kernel
theorem d_Mo_isGame_67 : decode b_Mo_isGame_c 67 = .ok (.iconst 1, 1) := by decide +kernel
theorem d_Mo_isGame_68 : decode b_Mo_isGame_c 68 = .ok (.goto 4, 3) := by decide +kernel
theorem d_Mo_isGame_71 : decode b_Mo_isGame_c 71 = .ok (.iconst 0, 1) := by decide +kernel
theorem d_Mo_isGame_72 : decode b_Mo_isGame_c 72 = .ok (.istore 4, 2) := by decide +kernel
theorem d_Mo_isGame_74 : decode b_Mo_isGame_c 74 = .ok (.iload_n 2, 1) := by decide +kernel
theorem d_Mo_isGame_75 : decode b_Mo_isGame_c 75 = .ok (.ifCond .eq 27, 3) := by decide +kernel
theorem d_Mo_isGame_78 : decode b_Mo_isGame_c 78 = .ok (.iload 4, 2) := by decide +kernel
theorem d_Mo_isGame_80 : decode b_Mo_isGame_c 80 = .ok (.ifCond .eq 18, 3) := by decide +kernel
theorem d_Mo_isGame_83 : decode b_Mo_isGame_c 83 = .ok (.aload_n 0, 1) := by decide +kernel
theorem d_Mo_isGame_84 : decode b_Mo_isGame_c 84 = .ok (.getfield 13, 3) := by decide +kernel
theorem d_Mo_isGame_87 : decode b_Mo_isGame_c 87 = .ok (.iload_n 3, 1) := by decide +kernel
theorem d_Mo_isGame_88 : decode b_Mo_isGame_c 88 = .ok (.iaload, 1) := by decide +kernel
theorem d_Mo_isGame_89 : decode b_Mo_isGame_c 89 = .ok (.aload_n 0, 1) := by decide +kernel
theorem d_Mo_isGame_90 : decode b_Mo_isGame_c 90 = .ok (.getfield 13, 3) := by decide +kernel
theorem d_Mo_isGame_93 : decode b_Mo_isGame_c 93 = .ok (.iload_n 1, 1) := by decide +kernel
theorem d_Mo_isGame_94 : decode b_Mo_isGame_c 94 = .ok (.iaload, 1) := by decide +kernel
theorem d_Mo_isGame_95 : decode b_Mo_isGame_c 95 = .ok (.if_icmp .eq 7, 3) := by decide +kernel
theorem d_Mo_isGame_98 : decode b_Mo_isGame_c 98 = .ok (.iconst 1, 1) := by decide +kernel
theorem d_Mo_isGame_99 : decode b_Mo_isGame_c 99 = .ok (.goto 4, 3) := by decide +kernel
theorem d_Mo_isGame_102 : decode b_Mo_isGame_c 102 = .ok (.iconst 0, 1) := by decide +kernel
theorem d_Mo_isGame_103 : decode b_Mo_isGame_c 103 = .ok (.istore_n 2, 1) := by decide +kernel
theorem d_Mo_isGame_104 : decode b_Mo_isGame_c 104 = .ok (.iconst 0, 1) := by decide +kernel
theorem d_Mo_isGame_105 : decode b_Mo_isGame_c 105 = .ok (.istore 5, 2) := by decide +kernel
theorem d_Mo_isGame_107 : decode b_Mo_isGame_c 107 = .ok (.iload 5, 2) := by decide +kernel
theorem d_Mo_isGame_109 : decode b_Mo_isGame_c 109 = .ok (.aload_n 0, 1) := by decide +kernel
theorem d_Mo_isGame_110 : decode b_Mo_isGame_c 110 = .ok (.getfield 71, 3) := by decide +kernel
theorem d_Mo_isGame_113 : decode b_Mo_isGame_c 113 = .ok (.if_icmp .ge 80, 3) := by decide +kernel
theorem d_Mo_isGame_116 : decode b_Mo_isGame_c 116 = .ok (.iload 4, 2) := by decide +kernel
theorem d_Mo_isGame_118 : decode b_Mo_isGame_c 118 = .ok (.ifCond .eq 75, 3) := by decide +kernel
theorem d_Mo_isGame_121 : decode b_Mo_isGame_c 121 = .ok (.aload_n 0, 1) := by decide +kernel
theorem d_Mo_isGame_122 : decode b_Mo_isGame_c 122 = .ok (.iload_n 3, 1) := by decide +kernel
theorem d_Mo_isGame_123 : decode b_Mo_isGame_c 123 = .ok (.iload_n 1, 1) := by decide +kernel
theorem d_Mo_isGame_124 : decode b_Mo_isGame_c 124 = .ok (.invokevirtual 152, 3) := by decide +kernel
theorem d_Mo_isGame_127 : decode b_Mo_isGame_c 127 = .ok (.ifCond .eq 66, 3) := by decide +kernel
theorem d_Mo_isGame_130 : decode b_Mo_isGame_c 130 = .ok (.iload_n 2, 1) := by decide +kernel
theorem d_Mo_isGame_131 : decode b_Mo_isGame_c 131 = .ok (.ifCond .eq 54, 3) := by decide +kernel
theorem d_Mo_isGame_134 : decode b_Mo_isGame_c 134 = .ok (.aload_n 0, 1) := by decide +kernel
theorem d_Mo_isGame_135 : decode b_Mo_isGame_c 135 = .ok (.getfield 37, 3) := by decide +kernel
theorem d_Mo_isGame_138 : decode b_Mo_isGame_c 138 = .ok (.iload 5, 2) := by decide +kernel
theorem d_Mo_isGame_140 : decode b_Mo_isGame_c 140 = .ok (.baload, 1) := by decide +kernel
theorem d_Mo_isGame_141 : decode b_Mo_isGame_c 141 = .ok (.ifCond .eq 40, 3) := by decide +kernel
theorem d_Mo_isGame_144 : decode b_Mo_isGame_c 144 = .ok (.aload_n 0, 1) := by decide +kernel
theorem d_Mo_isGame_145 : decode b_Mo_isGame_c 145 = .ok (.getfield 7, 3) := by decide +kernel
theorem d_Mo_isGame_148 : decode b_Mo_isGame_c 148 = .ok (.iload 5, 2) := by decide +kernel
theorem d_Mo_isGame_150 : decode b_Mo_isGame_c 150 = .ok (.iaload, 1) := by decide +kernel
theorem d_Mo_isGame_151 : decode b_Mo_isGame_c 151 = .ok (.iconst 2, 1) := by decide +kernel
theorem d_Mo_isGame_152 : decode b_Mo_isGame_c 152 = .ok (.if_icmp .ne 29, 3) := by decide +kernel
theorem d_Mo_isGame_155 : decode b_Mo_isGame_c 155 = .ok (.aload_n 0, 1) := by decide +kernel
theorem d_Mo_isGame_156 : decode b_Mo_isGame_c 156 = .ok (.getfield 13, 3) := by decide +kernel
theorem d_Mo_isGame_159 : decode b_Mo_isGame_c 159 = .ok (.iload 5, 2) := by decide +kernel
theorem d_Mo_isGame_161 : decode b_Mo_isGame_c 161 = .ok (.iaload, 1) := by decide +kernel
theorem d_Mo_isGame_162 : decode b_Mo_isGame_c 162 = .ok (.aload_n 0, 1) := by decide +kernel
theorem d_Mo_isGame_163 : decode b_Mo_isGame_c 163 = .ok (.getfield 13, 3) := by decide +kernel
theorem d_Mo_isGame_166 : decode b_Mo_isGame_c 166 = .ok (.iload_n 3, 1) := by decide +kernel
theorem d_Mo_isGame_167 : decode b_Mo_isGame_c 167 = .ok (.iaload, 1) := by decide +kernel
theorem d_Mo_isGame_168 : decode b_Mo_isGame_c 168 = .ok (.if_icmp .ne 13, 3) := by decide +kernel
theorem d_Mo_isGame_171 : decode b_Mo_isGame_c 171 = .ok (.aload_n 0, 1) := by decide +kernel
theorem d_Mo_isGame_172 : decode b_Mo_isGame_c 172 = .ok (.iload 5, 2) := by decide +kernel
theorem d_Mo_isGame_174 : decode b_Mo_isGame_c 174 = .ok (.iload_n 1, 1) := by decide +kernel
theorem d_Mo_isGame_175 : decode b_Mo_isGame_c 175 = .ok (.invokevirtual 152, 3) := by decide +kernel
theorem d_Mo_isGame_178 : decode b_Mo_isGame_c 178 = .ok (.ifCond .eq 7, 3) := by decide +kernel
theorem d_Mo_isGame_181 : decode b_Mo_isGame_c 181 = .ok (.iconst 1, 1) := by decide +kernel
theorem d_Mo_isGame_182 : decode b_Mo_isGame_c 182 = .ok (.goto 4, 3) := by decide +kernel
theorem d_Mo_isGame_185 : decode b_Mo_isGame_c 185 = .ok (.iconst 0, 1) := by decide +kernel
theorem d_Mo_isGame_186 : decode b_Mo_isGame_c 186 = .ok (.istore_n 2, 1) := by decide +kernel
theorem d_Mo_isGame_187 : decode b_Mo_isGame_c 187 = .ok (.iinc 5 1, 3) := by decide +kernel
theorem d_Mo_isGame_190 : decode b_Mo_isGame_c 190 = .ok (.goto (-83), 3) := by decide +kernel
theorem d_Mo_isGame_193 : decode b_Mo_isGame_c 193 = .ok (.iinc 3 1, 3) := by decide +kernel
theorem d_Mo_isGame_196 : decode b_Mo_isGame_c 196 = .ok (.goto (-161), 3) := by decide +kernel
theorem d_Mo_isGame_199 : decode b_Mo_isGame_c 199 = .ok (.iload_n 2, 1) := by decide +kernel
theorem d_Mo_isGame_200 : decode b_Mo_isGame_c 200 = .ok (.ireturn, 1) := by decide +kernel
/-! GameRowsModel.isGame(I)Z -/
set_option maxHeartbeats 4000000 in
set_option maxRecDepth 100000 in
theorem t_Mo_isGame_193 {X : gX} {r : Int32} {σ : gS} (C : gC X b_Mo_isGame_c R_Mo 6 1 23) (hR : ∀ pc lv, isB r = true → decode b_Mo_isGame_c pc = .ok (.ireturn, 1) → G X pc lv [.int r] σ) {k35 : Int32 × Int32 × Int32 → Option Int32}  (hk35 : ∀ x, k35 x = some r → G X 35 [(0, .ref (gA X 46)), (1, .int x.1), (2, .int x.2.1), (3, .int x.2.2)] [] σ) (x1 : Int32) (x2 : Int32) (x3 : Int32) (h : b_Mo_isGame_193 σ k35 x1 x2 x3 = some r) : G X 193 [(0, .ref (gA X 46)), (1, .int x1), (2, .int x2), (3, .int x3)] [] σ := by
  unfold b_Mo_isGame_193 at h
  obtain ⟨x3_1, ex3_1, h⟩ := bnd_some h
  refine r_iinc C 3 (lv' := [(3, .int x3_1), (0, .ref (gA X 46)), (1, .int x1), (2, .int x2)]) d_Mo_isGame_193 rfl (by rw [ex3_1]; rfl) (by decide) rfl ?_
  refine r_goto C (tgt := 35) d_Mo_isGame_196 (by decide) ?_
  refine r_sub [1, 2, 3, 0] (lv' := [(0, .ref (gA X 46)), (1, .int x1), (2, .int x2), (3, .int x3_1)]) rfl ?_
  exact hk35 _ h
set_option maxHeartbeats 4000000 in
set_option maxRecDepth 100000 in
theorem t_Mo_isGame_186 {X : gX} {r : Int32} {σ : gS} (C : gC X b_Mo_isGame_c R_Mo 6 1 23) (hR : ∀ pc lv, isB r = true → decode b_Mo_isGame_c pc = .ok (.ireturn, 1) → G X pc lv [.int r] σ) {k35 : Int32 × Int32 × Int32 → Option Int32}  {k107 : Int32 × Int32 × Int32 × Int32 × Int32 → Option Int32}  (hk35 : ∀ x, k35 x = some r → G X 35 [(0, .ref (gA X 46)), (1, .int x.1), (2, .int x.2.1), (3, .int x.2.2)] [] σ) (hk107 : ∀ x, k107 x = some r → G X 107 [(0, .ref (gA X 46)), (1, .int x.1), (2, .int x.2.1), (3, .int x.2.2.1), (4, .int x.2.2.2.1), (5, .int x.2.2.2.2)] [] σ) (x1 : Int32) (x3 : Int32) (x4 : Int32) (x5 : Int32) (y0 : Int32) (h : b_Mo_isGame_186 σ k35 k107 x1 x3 x4 x5 y0 = some r) : G X 186 [(0, .ref (gA X 46)), (1, .int x1), (3, .int x3), (4, .int x4), (5, .int x5)] [.int y0] σ := by
  unfold b_Mo_isGame_186 at h
  refine r_istore_n C (lv' := [(2, .int y0), (0, .ref (gA X 46)), (1, .int x1), (3, .int x3), (4, .int x4), (5, .int x5)]) d_Mo_isGame_186 rfl (by decide) rfl rfl ?_
  obtain ⟨x5_1, ex5_1, h⟩ := bnd_some h
  refine r_iinc C 5 (lv' := [(5, .int x5_1), (2, .int y0), (0, .ref (gA X 46)), (1, .int x1), (3, .int x3), (4, .int x4)]) d_Mo_isGame_187 rfl (by rw [ex5_1]; rfl) (by decide) rfl ?_
  refine r_goto C (tgt := 107) d_Mo_isGame_190 (by decide) ?_
  refine r_sub [2, 3, 1, 4, 5, 0] (lv' := [(0, .ref (gA X 46)), (1, .int x1), (2, .int y0), (3, .int x3), (4, .int x4), (5, .int x5_1)]) rfl ?_
  exact hk107 _ h
set_option maxHeartbeats 4000000 in
set_option maxRecDepth 100000 in
theorem t_Mo_isGame_185 {X : gX} {r : Int32} {σ : gS} (C : gC X b_Mo_isGame_c R_Mo 6 1 23) (hR : ∀ pc lv, isB r = true → decode b_Mo_isGame_c pc = .ok (.ireturn, 1) → G X pc lv [.int r] σ) {k35 : Int32 × Int32 × Int32 → Option Int32}  {k107 : Int32 × Int32 × Int32 × Int32 × Int32 → Option Int32}  (hk35 : ∀ x, k35 x = some r → G X 35 [(0, .ref (gA X 46)), (1, .int x.1), (2, .int x.2.1), (3, .int x.2.2)] [] σ) (hk107 : ∀ x, k107 x = some r → G X 107 [(0, .ref (gA X 46)), (1, .int x.1), (2, .int x.2.1), (3, .int x.2.2.1), (4, .int x.2.2.2.1), (5, .int x.2.2.2.2)] [] σ) (x1 : Int32) (x3 : Int32) (x4 : Int32) (x5 : Int32) (h : b_Mo_isGame_185 σ k35 k107 x1 x3 x4 x5 = some r) : G X 185 [(0, .ref (gA X 46)), (1, .int x1), (3, .int x3), (4, .int x4), (5, .int x5)] [] σ := by
  unfold b_Mo_isGame_185 at h
  refine r_iconst C (v := 0) d_Mo_isGame_185 (by decide) ?_
  exact t_Mo_isGame_186 C hR hk35 hk107 x1 x3 x4 x5 0 h
set_option maxHeartbeats 4000000 in
set_option maxRecDepth 100000 in
theorem t_Mo_isGame_181 {X : gX} {r : Int32} {σ : gS} (C : gC X b_Mo_isGame_c R_Mo 6 1 23) (hR : ∀ pc lv, isB r = true → decode b_Mo_isGame_c pc = .ok (.ireturn, 1) → G X pc lv [.int r] σ) {k35 : Int32 × Int32 × Int32 → Option Int32}  {k107 : Int32 × Int32 × Int32 × Int32 × Int32 → Option Int32}  (hk35 : ∀ x, k35 x = some r → G X 35 [(0, .ref (gA X 46)), (1, .int x.1), (2, .int x.2.1), (3, .int x.2.2)] [] σ) (hk107 : ∀ x, k107 x = some r → G X 107 [(0, .ref (gA X 46)), (1, .int x.1), (2, .int x.2.1), (3, .int x.2.2.1), (4, .int x.2.2.2.1), (5, .int x.2.2.2.2)] [] σ) (x1 : Int32) (x3 : Int32) (x4 : Int32) (x5 : Int32) (h : b_Mo_isGame_181 σ k35 k107 x1 x3 x4 x5 = some r) : G X 181 [(0, .ref (gA X 46)), (1, .int x1), (3, .int x3), (4, .int x4), (5, .int x5)] [] σ := by
  unfold b_Mo_isGame_181 at h
  refine r_iconst C (v := 1) d_Mo_isGame_181 (by decide) ?_
  refine r_goto C (tgt := 186) d_Mo_isGame_182 (by decide) ?_
  exact t_Mo_isGame_186 C hR hk35 hk107 x1 x3 x4 x5 1 h
set_option maxHeartbeats 4000000 in
set_option maxRecDepth 100000 in
theorem t_Mo_isGame_107 {X : gX} {r : Int32} {σ : gS} (C : gC X b_Mo_isGame_c R_Mo 6 1 23) (hR : ∀ pc lv, isB r = true → decode b_Mo_isGame_c pc = .ok (.ireturn, 1) → G X pc lv [.int r] σ) {k35 : Int32 × Int32 × Int32 → Option Int32}  {k107 : Int32 × Int32 × Int32 × Int32 × Int32 → Option Int32}  (hk35 : ∀ x, k35 x = some r → G X 35 [(0, .ref (gA X 46)), (1, .int x.1), (2, .int x.2.1), (3, .int x.2.2)] [] σ) (hk107 : ∀ x, k107 x = some r → G X 107 [(0, .ref (gA X 46)), (1, .int x.1), (2, .int x.2.1), (3, .int x.2.2.1), (4, .int x.2.2.2.1), (5, .int x.2.2.2.2)] [] σ) (x1 : Int32) (x2 : Int32) (x3 : Int32) (x4 : Int32) (x5 : Int32) (h : b_Mo_isGame_107 σ k35 k107 x1 x2 x3 x4 x5 = some r) : G X 107 [(0, .ref (gA X 46)), (1, .int x1), (2, .int x2), (3, .int x3), (4, .int x4), (5, .int x5)] [] σ := by
  unfold b_Mo_isGame_107 at h
  refine r_iload C 5 d_Mo_isGame_107 rfl ?_
  refine r_aload_n C 0 d_Mo_isGame_109 rfl rfl ?_
  refine q_Mo_71 C d_Mo_isGame_110 ?_
  refine r_icmp_ge C (tgt := 193) d_Mo_isGame_113 (by decide) (fun hc_1 => ?_) (fun hc_1 => ?_)
  · rw [if_pos hc_1] at h
    refine r_sub [0, 1, 2, 3] (lv' := [(0, .ref (gA X 46)), (1, .int x1), (2, .int x2), (3, .int x3)]) rfl ?_
    exact t_Mo_isGame_193 C hR hk35 x1 x2 x3 h
  · rw [if_neg hc_1] at h
    refine r_iload C 4 d_Mo_isGame_116 rfl ?_
    refine r_if_eq C (tgt := 193) d_Mo_isGame_118 (by decide) (fun hc_2 => ?_) (fun hc_2 => ?_)
    · rw [if_pos hc_2] at h
      refine r_sub [0, 1, 2, 3] (lv' := [(0, .ref (gA X 46)), (1, .int x1), (2, .int x2), (3, .int x3)]) rfl ?_
      exact t_Mo_isGame_193 C hR hk35 x1 x2 x3 h
    · rw [if_neg hc_2] at h
      refine r_aload_n C 0 d_Mo_isGame_121 rfl rfl ?_
      refine r_iload_n C 3 d_Mo_isGame_122 rfl rfl ?_
      refine r_iload_n C 1 d_Mo_isGame_123 rfl rfl ?_
      obtain ⟨r_3, er_3, h⟩ := bind_some h
      refine r_callV C (As := [.int x3, .int x1]) (rest := []) (st1 := [.int r_3]) (c_Mo_isBelow X.1.2.1 σ x3 x1 er_3) k_Mo_isBelow m_509 (by decide) cel_Mo rfl rfl rfl rfl (Nat.le_of_ble_eq_true rfl) ⟨Nat.le_of_ble_eq_true rfl, Nat.le_of_ble_eq_true rfl⟩ d_Mo_isGame_124 rfl ?_
      refine r_if_eq C (tgt := 193) d_Mo_isGame_127 (by decide) (fun hc_4 => ?_) (fun hc_4 => ?_)
      · rw [if_pos hc_4] at h
        refine r_sub [0, 1, 2, 3] (lv' := [(0, .ref (gA X 46)), (1, .int x1), (2, .int x2), (3, .int x3)]) rfl ?_
        exact t_Mo_isGame_193 C hR hk35 x1 x2 x3 h
      · rw [if_neg hc_4] at h
        refine r_iload_n C 2 d_Mo_isGame_130 rfl rfl ?_
        refine r_if_eq C (tgt := 185) d_Mo_isGame_131 (by decide) (fun hc_5 => ?_) (fun hc_5 => ?_)
        · rw [if_pos hc_5] at h
          refine r_sub [0, 1, 3, 4, 5] (lv' := [(0, .ref (gA X 46)), (1, .int x1), (3, .int x3), (4, .int x4), (5, .int x5)]) rfl ?_
          exact t_Mo_isGame_185 C hR hk35 hk107 x1 x3 x4 x5 h
        · rw [if_neg hc_5] at h
          refine r_aload_n C 0 d_Mo_isGame_134 rfl rfl ?_
          refine q_Mo_37 C d_Mo_isGame_135 ?_
          refine r_iload C 5 d_Mo_isGame_138 rfl ?_
          obtain ⟨hi_6, h⟩ := ck_some h
          refine r_zald C hi_6 d_Mo_isGame_140 ?_
          refine r_if_eq C (tgt := 181) d_Mo_isGame_141 (by decide) (fun hc_7 => ?_) (fun hc_7 => ?_)
          · rw [if_pos hc_7] at h
            refine r_sub [0, 1, 3, 4, 5] (lv' := [(0, .ref (gA X 46)), (1, .int x1), (3, .int x3), (4, .int x4), (5, .int x5)]) rfl ?_
            exact t_Mo_isGame_181 C hR hk35 hk107 x1 x3 x4 x5 h
          · rw [if_neg hc_7] at h
            refine r_aload_n C 0 d_Mo_isGame_144 rfl rfl ?_
            refine q_Mo_7 C d_Mo_isGame_145 ?_
            refine r_iload C 5 d_Mo_isGame_148 rfl ?_
            obtain ⟨hi_8, h⟩ := ck_some h
            refine r_iald C hi_8 d_Mo_isGame_150 ?_
            refine r_iconst C (v := 2) d_Mo_isGame_151 (by decide) ?_
            refine r_icmp_ne C (tgt := 181) d_Mo_isGame_152 (by decide) (fun hc_9 => ?_) (fun hc_9 => ?_)
            · rw [if_neg hc_9] at h
              refine r_sub [0, 1, 3, 4, 5] (lv' := [(0, .ref (gA X 46)), (1, .int x1), (3, .int x3), (4, .int x4), (5, .int x5)]) rfl ?_
              exact t_Mo_isGame_181 C hR hk35 hk107 x1 x3 x4 x5 h
            · rw [if_pos hc_9] at h
              refine r_aload_n C 0 d_Mo_isGame_155 rfl rfl ?_
              refine q_Mo_13 C d_Mo_isGame_156 ?_
              refine r_iload C 5 d_Mo_isGame_159 rfl ?_
              obtain ⟨hi_10, h⟩ := ck_some h
              refine r_iald C hi_10 d_Mo_isGame_161 ?_
              refine r_aload_n C 0 d_Mo_isGame_162 rfl rfl ?_
              refine q_Mo_13 C d_Mo_isGame_163 ?_
              refine r_iload_n C 3 d_Mo_isGame_166 rfl rfl ?_
              obtain ⟨hi_11, h⟩ := ck_some h
              refine r_iald C hi_11 d_Mo_isGame_167 ?_
              refine r_icmp_ne C (tgt := 181) d_Mo_isGame_168 (by decide) (fun hc_12 => ?_) (fun hc_12 => ?_)
              · rw [if_neg hc_12] at h
                refine r_sub [0, 1, 3, 4, 5] (lv' := [(0, .ref (gA X 46)), (1, .int x1), (3, .int x3), (4, .int x4), (5, .int x5)]) rfl ?_
                exact t_Mo_isGame_181 C hR hk35 hk107 x1 x3 x4 x5 h
              · rw [if_pos hc_12] at h
                refine r_aload_n C 0 d_Mo_isGame_171 rfl rfl ?_
                refine r_iload C 5 d_Mo_isGame_172 rfl ?_
                refine r_iload_n C 1 d_Mo_isGame_174 rfl rfl ?_
                obtain ⟨r_13, er_13, h⟩ := bind_some h
                refine r_callV C (As := [.int x5, .int x1]) (rest := []) (st1 := [.int r_13]) (c_Mo_isBelow X.1.2.1 σ x5 x1 er_13) k_Mo_isBelow m_509 (by decide) cel_Mo rfl rfl rfl rfl (Nat.le_of_ble_eq_true rfl) ⟨Nat.le_of_ble_eq_true rfl, Nat.le_of_ble_eq_true rfl⟩ d_Mo_isGame_175 rfl ?_
                refine r_if_eq C (tgt := 185) d_Mo_isGame_178 (by decide) (fun hc_14 => ?_) (fun hc_14 => ?_)
                · rw [if_pos hc_14] at h
                  refine r_sub [0, 1, 3, 4, 5] (lv' := [(0, .ref (gA X 46)), (1, .int x1), (3, .int x3), (4, .int x4), (5, .int x5)]) rfl ?_
                  exact t_Mo_isGame_185 C hR hk35 hk107 x1 x3 x4 x5 h
                · rw [if_neg hc_14] at h
                  refine r_sub [0, 1, 3, 4, 5] (lv' := [(0, .ref (gA X 46)), (1, .int x1), (3, .int x3), (4, .int x4), (5, .int x5)]) rfl ?_
                  exact t_Mo_isGame_181 C hR hk35 hk107 x1 x3 x4 x5 h
set_option maxHeartbeats 4000000 in
set_option maxRecDepth 100000 in
theorem u_Mo_isGame_107 {X : gX} {r : Int32} {σ : gS} (C : gC X b_Mo_isGame_c R_Mo 6 1 23) (hR : ∀ pc lv, isB r = true → decode b_Mo_isGame_c pc = .ok (.ireturn, 1) → G X pc lv [.int r] σ) {k35 : Int32 × Int32 × Int32 → Option Int32}  (hk35 : ∀ x, k35 x = some r → G X 35 [(0, .ref (gA X 46)), (1, .int x.1), (2, .int x.2.1), (3, .int x.2.2)] [] σ) (x : Int32 × Int32 × Int32 × Int32 × Int32) (h : l_Mo_isGame_107 σ k35 x = some r) : G X 107 [(0, .ref (gA X 46)), (1, .int x.1), (2, .int x.2.1), (3, .int x.2.2.1), (4, .int x.2.2.2.1), (5, .int x.2.2.2.2)] [] σ :=
  lpF_ind (P := fun x => G X 107 [(0, .ref (gA X 46)), (1, .int x.1), (2, .int x.2.1), (3, .int x.2.2.1), (4, .int x.2.2.2.1), (5, .int x.2.2.2.2)] [] σ) (fun k hk x h => t_Mo_isGame_107 C hR hk35 hk x.1 x.2.1 x.2.2.1 x.2.2.2.1 x.2.2.2.2 h) gF x h
set_option maxHeartbeats 4000000 in
set_option maxRecDepth 100000 in
theorem t_Mo_isGame_103 {X : gX} {r : Int32} {σ : gS} (C : gC X b_Mo_isGame_c R_Mo 6 1 23) (hR : ∀ pc lv, isB r = true → decode b_Mo_isGame_c pc = .ok (.ireturn, 1) → G X pc lv [.int r] σ) {k35 : Int32 × Int32 × Int32 → Option Int32}  (hk35 : ∀ x, k35 x = some r → G X 35 [(0, .ref (gA X 46)), (1, .int x.1), (2, .int x.2.1), (3, .int x.2.2)] [] σ) (x1 : Int32) (x3 : Int32) (x4 : Int32) (y0 : Int32) (h : b_Mo_isGame_103 σ k35 x1 x3 x4 y0 = some r) : G X 103 [(0, .ref (gA X 46)), (1, .int x1), (3, .int x3), (4, .int x4)] [.int y0] σ := by
  unfold b_Mo_isGame_103 at h
  refine r_istore_n C (lv' := [(2, .int y0), (0, .ref (gA X 46)), (1, .int x1), (3, .int x3), (4, .int x4)]) d_Mo_isGame_103 rfl (by decide) rfl rfl ?_
  refine r_iconst C (v := 0) d_Mo_isGame_104 (by decide) ?_
  refine r_istore C (lv' := [(5, .int 0), (2, .int y0), (0, .ref (gA X 46)), (1, .int x1), (3, .int x3), (4, .int x4)]) d_Mo_isGame_105 (by decide) rfl rfl ?_
  refine r_sub [2, 3, 1, 4, 5, 0] (lv' := [(0, .ref (gA X 46)), (1, .int x1), (2, .int y0), (3, .int x3), (4, .int x4), (5, .int 0)]) rfl ?_
  exact u_Mo_isGame_107 C hR hk35 (x1, y0, x3, x4, 0) h
set_option maxHeartbeats 4000000 in
set_option maxRecDepth 100000 in
theorem t_Mo_isGame_102 {X : gX} {r : Int32} {σ : gS} (C : gC X b_Mo_isGame_c R_Mo 6 1 23) (hR : ∀ pc lv, isB r = true → decode b_Mo_isGame_c pc = .ok (.ireturn, 1) → G X pc lv [.int r] σ) {k35 : Int32 × Int32 × Int32 → Option Int32}  (hk35 : ∀ x, k35 x = some r → G X 35 [(0, .ref (gA X 46)), (1, .int x.1), (2, .int x.2.1), (3, .int x.2.2)] [] σ) (x1 : Int32) (x3 : Int32) (x4 : Int32) (h : b_Mo_isGame_102 σ k35 x1 x3 x4 = some r) : G X 102 [(0, .ref (gA X 46)), (1, .int x1), (3, .int x3), (4, .int x4)] [] σ := by
  unfold b_Mo_isGame_102 at h
  refine r_iconst C (v := 0) d_Mo_isGame_102 (by decide) ?_
  exact t_Mo_isGame_103 C hR hk35 x1 x3 x4 0 h
set_option maxHeartbeats 4000000 in
set_option maxRecDepth 100000 in
theorem t_Mo_isGame_98 {X : gX} {r : Int32} {σ : gS} (C : gC X b_Mo_isGame_c R_Mo 6 1 23) (hR : ∀ pc lv, isB r = true → decode b_Mo_isGame_c pc = .ok (.ireturn, 1) → G X pc lv [.int r] σ) {k35 : Int32 × Int32 × Int32 → Option Int32}  (hk35 : ∀ x, k35 x = some r → G X 35 [(0, .ref (gA X 46)), (1, .int x.1), (2, .int x.2.1), (3, .int x.2.2)] [] σ) (x1 : Int32) (x3 : Int32) (x4 : Int32) (h : b_Mo_isGame_98 σ k35 x1 x3 x4 = some r) : G X 98 [(0, .ref (gA X 46)), (1, .int x1), (3, .int x3), (4, .int x4)] [] σ := by
  unfold b_Mo_isGame_98 at h
  refine r_iconst C (v := 1) d_Mo_isGame_98 (by decide) ?_
  refine r_goto C (tgt := 103) d_Mo_isGame_99 (by decide) ?_
  exact t_Mo_isGame_103 C hR hk35 x1 x3 x4 1 h
set_option maxHeartbeats 4000000 in
set_option maxRecDepth 100000 in
theorem t_Mo_isGame_72 {X : gX} {r : Int32} {σ : gS} (C : gC X b_Mo_isGame_c R_Mo 6 1 23) (hR : ∀ pc lv, isB r = true → decode b_Mo_isGame_c pc = .ok (.ireturn, 1) → G X pc lv [.int r] σ) {k35 : Int32 × Int32 × Int32 → Option Int32}  (hk35 : ∀ x, k35 x = some r → G X 35 [(0, .ref (gA X 46)), (1, .int x.1), (2, .int x.2.1), (3, .int x.2.2)] [] σ) (x1 : Int32) (x2 : Int32) (x3 : Int32) (y0 : Int32) (h : b_Mo_isGame_72 σ k35 x1 x2 x3 y0 = some r) : G X 72 [(0, .ref (gA X 46)), (1, .int x1), (2, .int x2), (3, .int x3)] [.int y0] σ := by
  unfold b_Mo_isGame_72 at h
  refine r_istore C (lv' := [(4, .int y0), (0, .ref (gA X 46)), (1, .int x1), (2, .int x2), (3, .int x3)]) d_Mo_isGame_72 (by decide) rfl rfl ?_
  refine r_iload_n C 3 d_Mo_isGame_74 rfl rfl ?_
  refine r_if_eq C (tgt := 102) d_Mo_isGame_75 (by decide) (fun hc_1 => ?_) (fun hc_1 => ?_)
  · rw [if_pos hc_1] at h
    refine r_sub [1, 2, 4, 0] (lv' := [(0, .ref (gA X 46)), (1, .int x1), (3, .int x3), (4, .int y0)]) rfl ?_
    exact t_Mo_isGame_102 C hR hk35 x1 x3 y0 h
  · rw [if_neg hc_1] at h
    refine r_iload C 0 d_Mo_isGame_78 rfl ?_
    refine r_if_eq C (tgt := 98) d_Mo_isGame_80 (by decide) (fun hc_2 => ?_) (fun hc_2 => ?_)
    · rw [if_pos hc_2] at h
      refine r_sub [1, 2, 4, 0] (lv' := [(0, .ref (gA X 46)), (1, .int x1), (3, .int x3), (4, .int y0)]) rfl ?_
      exact t_Mo_isGame_98 C hR hk35 x1 x3 y0 h
    · rw [if_neg hc_2] at h
      refine r_aload_n C 1 d_Mo_isGame_83 rfl rfl ?_
      refine q_Mo_13 C d_Mo_isGame_84 ?_
      refine r_iload_n C 4 d_Mo_isGame_87 rfl rfl ?_
      obtain ⟨hi_3, h⟩ := ck_some h
      refine r_iald C hi_3 d_Mo_isGame_88 ?_
      refine r_aload_n C 1 d_Mo_isGame_89 rfl rfl ?_
      refine q_Mo_13 C d_Mo_isGame_90 ?_
      refine r_iload_n C 2 d_Mo_isGame_93 rfl rfl ?_
      obtain ⟨hi_4, h⟩ := ck_some h
      refine r_iald C hi_4 d_Mo_isGame_94 ?_
      refine r_icmp_eq C (tgt := 102) d_Mo_isGame_95 (by decide) (fun hc_5 => ?_) (fun hc_5 => ?_)
      · rw [if_pos hc_5] at h
        refine r_sub [1, 2, 4, 0] (lv' := [(0, .ref (gA X 46)), (1, .int x1), (3, .int x3), (4, .int y0)]) rfl ?_
        exact t_Mo_isGame_102 C hR hk35 x1 x3 y0 h
      · rw [if_neg hc_5] at h
        refine r_sub [1, 2, 4, 0] (lv' := [(0, .ref (gA X 46)), (1, .int x1), (3, .int x3), (4, .int y0)]) rfl ?_
        exact t_Mo_isGame_98 C hR hk35 x1 x3 y0 h
set_option maxHeartbeats 4000000 in
set_option maxRecDepth 100000 in
theorem t_Mo_isGame_71 {X : gX} {r : Int32} {σ : gS} (C : gC X b_Mo_isGame_c R_Mo 6 1 23) (hR : ∀ pc lv, isB r = true → decode b_Mo_isGame_c pc = .ok (.ireturn, 1) → G X pc lv [.int r] σ) {k35 : Int32 × Int32 × Int32 → Option Int32}  (hk35 : ∀ x, k35 x = some r → G X 35 [(0, .ref (gA X 46)), (1, .int x.1), (2, .int x.2.1), (3, .int x.2.2)] [] σ) (x1 : Int32) (x2 : Int32) (x3 : Int32) (h : b_Mo_isGame_71 σ k35 x1 x2 x3 = some r) : G X 71 [(0, .ref (gA X 46)), (1, .int x1), (2, .int x2), (3, .int x3)] [] σ := by
  unfold b_Mo_isGame_71 at h
  refine r_iconst C (v := 0) d_Mo_isGame_71 (by decide) ?_
  exact t_Mo_isGame_72 C hR hk35 x1 x2 x3 0 h
set_option maxHeartbeats 4000000 in
set_option maxRecDepth 100000 in
theorem t_Mo_isGame_35 {X : gX} {r : Int32} {σ : gS} (C : gC X b_Mo_isGame_c R_Mo 6 1 23) (hR : ∀ pc lv, isB r = true → decode b_Mo_isGame_c pc = .ok (.ireturn, 1) → G X pc lv [.int r] σ) {k35 : Int32 × Int32 × Int32 → Option Int32}  (hk35 : ∀ x, k35 x = some r → G X 35 [(0, .ref (gA X 46)), (1, .int x.1), (2, .int x.2.1), (3, .int x.2.2)] [] σ) (x1 : Int32) (x2 : Int32) (x3 : Int32) (h : b_Mo_isGame_35 σ k35 x1 x2 x3 = some r) : G X 35 [(0, .ref (gA X 46)), (1, .int x1), (2, .int x2), (3, .int x3)] [] σ := by
  unfold b_Mo_isGame_35 at h
  refine r_iload_n C 3 d_Mo_isGame_35 rfl rfl ?_
  refine r_aload_n C 0 d_Mo_isGame_36 rfl rfl ?_
  refine q_Mo_71 C d_Mo_isGame_37 ?_
  refine r_icmp_ge C (tgt := 199) d_Mo_isGame_40 (by decide) (fun hc_1 => ?_) (fun hc_1 => ?_)
  · rw [if_pos hc_1] at h
    refine r_iload_n C 2 d_Mo_isGame_199 rfl rfl ?_
    obtain ⟨hB, h⟩ := ck_some h
    cases h
    exact hR _ _ hB d_Mo_isGame_200
  · rw [if_neg hc_1] at h
    refine r_aload_n C 0 d_Mo_isGame_43 rfl rfl ?_
    refine q_Mo_37 C d_Mo_isGame_44 ?_
    refine r_iload_n C 3 d_Mo_isGame_47 rfl rfl ?_
    obtain ⟨hi_2, h⟩ := ck_some h
    refine r_zald C hi_2 d_Mo_isGame_48 ?_
    refine r_if_eq C (tgt := 71) d_Mo_isGame_49 (by decide) (fun hc_3 => ?_) (fun hc_3 => ?_)
    · rw [if_pos hc_3] at h
      exact t_Mo_isGame_71 C hR hk35 x1 x2 x3 h
    · rw [if_neg hc_3] at h
      refine r_aload_n C 0 d_Mo_isGame_52 rfl rfl ?_
      refine q_Mo_7 C d_Mo_isGame_53 ?_
      refine r_iload_n C 3 d_Mo_isGame_56 rfl rfl ?_
      obtain ⟨hi_4, h⟩ := ck_some h
      refine r_iald C hi_4 d_Mo_isGame_57 ?_
      refine r_iconst C (v := 2) d_Mo_isGame_58 (by decide) ?_
      refine r_icmp_ne C (tgt := 71) d_Mo_isGame_59 (by decide) (fun hc_5 => ?_) (fun hc_5 => ?_)
      · rw [if_neg hc_5] at h
        exact t_Mo_isGame_71 C hR hk35 x1 x2 x3 h
      · rw [if_pos hc_5] at h
        refine r_iload_n C 3 d_Mo_isGame_62 rfl rfl ?_
        refine r_iload_n C 1 d_Mo_isGame_63 rfl rfl ?_
        refine r_icmp_eq C (tgt := 71) d_Mo_isGame_64 (by decide) (fun hc_6 => ?_) (fun hc_6 => ?_)
        · rw [if_pos hc_6] at h
          exact t_Mo_isGame_71 C hR hk35 x1 x2 x3 h
        · rw [if_neg hc_6] at h
          refine r_iconst C (v := 1) d_Mo_isGame_67 (by decide) ?_
          refine r_goto C (tgt := 72) d_Mo_isGame_68 (by decide) ?_
          exact t_Mo_isGame_72 C hR hk35 x1 x2 x3 1 h
set_option maxHeartbeats 4000000 in
set_option maxRecDepth 100000 in
theorem u_Mo_isGame_35 {X : gX} {r : Int32} {σ : gS} (C : gC X b_Mo_isGame_c R_Mo 6 1 23) (hR : ∀ pc lv, isB r = true → decode b_Mo_isGame_c pc = .ok (.ireturn, 1) → G X pc lv [.int r] σ)  (x : Int32 × Int32 × Int32) (h : l_Mo_isGame_35 σ x = some r) : G X 35 [(0, .ref (gA X 46)), (1, .int x.1), (2, .int x.2.1), (3, .int x.2.2)] [] σ :=
  lpF_ind (P := fun x => G X 35 [(0, .ref (gA X 46)), (1, .int x.1), (2, .int x.2.1), (3, .int x.2.2)] [] σ) (fun k hk x h => t_Mo_isGame_35 C hR hk x.1 x.2.1 x.2.2 h) gF x h
set_option maxHeartbeats 4000000 in
set_option maxRecDepth 100000 in
theorem t_Mo_isGame_0 {X : gX} {r : Int32} {σ : gS} (C : gC X b_Mo_isGame_c R_Mo 6 1 23) (hR : ∀ pc lv, isB r = true → decode b_Mo_isGame_c pc = .ok (.ireturn, 1) → G X pc lv [.int r] σ) (x1 : Int32) (h : b_Mo_isGame_0 σ x1 = some r) : G X 0 [(0, .ref (gA X 46)), (1, .int x1)] [] σ := by
  unfold b_Mo_isGame_0 at h
  refine r_iload_n C 1 d_Mo_isGame_0 rfl rfl ?_
  refine r_aload_n C 0 d_Mo_isGame_1 rfl rfl ?_
  obtain ⟨r_1, er_1, h⟩ := bind_some h
  refine r_callV C (As := []) (rest := [.int x1]) (st1 := [.int r_1, .int x1]) (c_Mo_root X.1.2.1 σ  er_1) k_Mo_root m_492 (by decide) cel_Mo rfl rfl rfl rfl (Nat.le_of_ble_eq_true rfl) ⟨Nat.le_of_ble_eq_true rfl, Nat.le_of_ble_eq_true rfl⟩ d_Mo_isGame_2 rfl ?_
  refine r_icmp_ne C (tgt := 10) d_Mo_isGame_5 (by decide) (fun hc_2 => ?_) (fun hc_2 => ?_)
  · rw [if_neg hc_2] at h
    refine r_aload_n C 0 d_Mo_isGame_10 rfl rfl ?_
    refine q_Mo_37 C d_Mo_isGame_11 ?_
    refine r_iload_n C 1 d_Mo_isGame_14 rfl rfl ?_
    obtain ⟨hi_3, h⟩ := ck_some h
    refine r_zald C hi_3 d_Mo_isGame_15 ?_
    refine r_if_eq C (tgt := 29) d_Mo_isGame_16 (by decide) (fun hc_4 => ?_) (fun hc_4 => ?_)
    · rw [if_pos hc_4] at h
      refine r_iconst C (v := 0) d_Mo_isGame_29 (by decide) ?_
      obtain ⟨hB, h⟩ := ck_some h
      cases h
      exact hR _ _ hB d_Mo_isGame_30
    · rw [if_neg hc_4] at h
      refine r_aload_n C 0 d_Mo_isGame_19 rfl rfl ?_
      refine q_Mo_7 C d_Mo_isGame_20 ?_
      refine r_iload_n C 1 d_Mo_isGame_23 rfl rfl ?_
      obtain ⟨hi_5, h⟩ := ck_some h
      refine r_iald C hi_5 d_Mo_isGame_24 ?_
      refine r_iconst C (v := 2) d_Mo_isGame_25 (by decide) ?_
      refine r_icmp_eq C (tgt := 31) d_Mo_isGame_26 (by decide) (fun hc_6 => ?_) (fun hc_6 => ?_)
      · rw [if_pos hc_6] at h
        refine r_iconst C (v := 1) d_Mo_isGame_31 (by decide) ?_
        refine r_istore_n C (lv' := [(2, .int 1), (0, .ref (gA X 46)), (1, .int x1)]) d_Mo_isGame_32 rfl (by decide) rfl rfl ?_
        refine r_iconst C (v := 0) d_Mo_isGame_33 (by decide) ?_
        refine r_istore_n C (lv' := [(3, .int 0), (2, .int 1), (0, .ref (gA X 46)), (1, .int x1)]) d_Mo_isGame_34 rfl (by decide) rfl rfl ?_
        refine r_sub [2, 3, 1, 0] (lv' := [(0, .ref (gA X 46)), (1, .int x1), (2, .int 1), (3, .int 0)]) rfl ?_
        exact u_Mo_isGame_35 C hR  (x1, 1, 0) h
      · rw [if_neg hc_6] at h
        refine r_iconst C (v := 0) d_Mo_isGame_29 (by decide) ?_
        obtain ⟨hB, h⟩ := ck_some h
        cases h
        exact hR _ _ hB d_Mo_isGame_30
  · rw [if_pos hc_2] at h
    refine r_iconst C (v := 1) d_Mo_isGame_8 (by decide) ?_
    obtain ⟨hB, h⟩ := ck_some h
    cases h
    exact hR _ _ hB d_Mo_isGame_9
set_option maxHeartbeats 4000000 in
set_option maxRecDepth 100000 in
theorem c_Mo_isGame (l : Launch) (σ : gS) (x1 : Int32) {r : Int32} (h : f_Mo_isGame σ x1 = some r) : gMet l y_Mo_isGame b_Mo_isGame_c 6 (some .boolean) 1 23 (fun a => [.ref (a 46), .int x1]) σ (some (.int r)) σ := by
  refine gMet_z (by decide +kernel) (fun a => Nat.le_of_ble_eq_true rfl) (fun X _ C hR => ?_)
  refine r_sub [0, 1] (lv' := [(0, .ref (gA X 46)), (1, .int x1)]) rfl ?_
  exact t_Mo_isGame_0 C hR x1 h
theorem d_Mo_findPoints_0 : decode b_Mo_findPoints_c 0 = .ok (.iconst 0, 1) := by decide +kernel
theorem d_Mo_findPoints_1 : decode b_Mo_findPoints_c 1 = .ok (.istore_n 2, 1) := by decide +kernel
theorem d_Mo_findPoints_2 : decode b_Mo_findPoints_c 2 = .ok (.iload_n 2, 1) := by decide +kernel
theorem d_Mo_findPoints_3 : decode b_Mo_findPoints_c 3 = .ok (.sipush 4096, 3) := by decide +kernel
theorem d_Mo_findPoints_6 : decode b_Mo_findPoints_c 6 = .ok (.if_icmp .ge 16, 3) := by decide +kernel
theorem d_Mo_findPoints_9 : decode b_Mo_findPoints_c 9 = .ok (.aload_n 0, 1) := by decide +kernel
theorem d_Mo_findPoints_10 : decode b_Mo_findPoints_c 10 = .ok (.getfield 53, 3) := by decide +kernel
theorem d_Mo_findPoints_13 : decode b_Mo_findPoints_c 13 = .ok (.iload_n 2, 1) := by decide +kernel
theorem d_Mo_findPoints_14 : decode b_Mo_findPoints_c 14 = .ok (.iconst 1, 1) := by decide +kernel
theorem d_Mo_findPoints_15 : decode b_Mo_findPoints_c 15 = .ok (.bastore, 1) := by decide +kernel
theorem d_Mo_findPoints_16 : decode b_Mo_findPoints_c 16 = .ok (.iinc 2 1, 3) := by decide +kernel
theorem d_Mo_findPoints_19 : decode b_Mo_findPoints_c 19 = .ok (.goto (-17), 3) := by decide +kernel
theorem d_Mo_findPoints_22 : decode b_Mo_findPoints_c 22 = .ok (.aload_n 0, 1) := by decide +kernel
theorem d_Mo_findPoints_23 : decode b_Mo_findPoints_c 23 = .ok (.aload_n 0, 1) := by decide +kernel
theorem d_Mo_findPoints_24 : decode b_Mo_findPoints_c 24 = .ok (.invokevirtual 135, 3) := by decide +kernel
theorem d_Mo_findPoints_27 : decode b_Mo_findPoints_c 27 = .ok (.invokevirtual 139, 3) := by decide +kernel
theorem d_Mo_findPoints_30 : decode b_Mo_findPoints_c 30 = .ok (.aload_n 0, 1) := by decide +kernel
theorem d_Mo_findPoints_31 : decode b_Mo_findPoints_c 31 = .ok (.invokevirtual 156, 3) := by decide +kernel
theorem d_Mo_findPoints_34 : decode b_Mo_findPoints_c 34 = .ok (.iconst 0, 1) := by decide +kernel
theorem d_Mo_findPoints_35 : decode b_Mo_findPoints_c 35 = .ok (.istore_n 2, 1) := by decide +kernel
theorem d_Mo_findPoints_36 : decode b_Mo_findPoints_c 36 = .ok (.iload_n 2, 1) := by decide +kernel
theorem d_Mo_findPoints_37 : decode b_Mo_findPoints_c 37 = .ok (.aload_n 0, 1) := by decide +kernel
theorem d_Mo_findPoints_38 : decode b_Mo_findPoints_c 38 = .ok (.invokevirtual 135, 3) := by decide +kernel
theorem d_Mo_findPoints_41 : decode b_Mo_findPoints_c 41 = .ok (.if_icmp .ge 30, 3) := by decide +kernel
theorem d_Mo_findPoints_44 : decode b_Mo_findPoints_c 44 = .ok (.iload_n 1, 1) := by decide +kernel
theorem d_Mo_findPoints_45 : decode b_Mo_findPoints_c 45 = .ok (.ifCond .eq 26, 3) := by decide +kernel
theorem d_Mo_findPoints_48 : decode b_Mo_findPoints_c 48 = .ok (.aload_n 0, 1) := by decide +kernel
theorem d_Mo_findPoints_49 : decode b_Mo_findPoints_c 49 = .ok (.iload_n 2, 1) := by decide +kernel
theorem d_Mo_findPoints_50 : decode b_Mo_findPoints_c 50 = .ok (.invokevirtual 159, 3) := by decide +kernel
theorem d_Mo_findPoints_53 : decode b_Mo_findPoints_c 53 = .ok (.ifCond .eq 12, 3) := by decide +kernel
theorem d_Mo_findPoints_56 : decode b_Mo_findPoints_c 56 = .ok (.aload_n 0, 1) := by decide +kernel
theorem d_Mo_findPoints_57 : decode b_Mo_findPoints_c 57 = .ok (.iload_n 2, 1) := by decide +kernel
theorem d_Mo_findPoints_58 : decode b_Mo_findPoints_c 58 = .ok (.invokevirtual 139, 3) := by decide +kernel
theorem d_Mo_findPoints_61 : decode b_Mo_findPoints_c 61 = .ok (.aload_n 0, 1) := by decide +kernel
theorem d_Mo_findPoints_62 : decode b_Mo_findPoints_c 62 = .ok (.invokevirtual 156, 3) := by decide +kernel
theorem d_Mo_findPoints_65 : decode b_Mo_findPoints_c 65 = .ok (.iinc 2 1, 3) := by decide +kernel
theorem d_Mo_findPoints_68 : decode b_Mo_findPoints_c 68 = .ok (.goto (-32), 3) := by decide +kernel
theorem d_Mo_findPoints_71 : decode b_Mo_findPoints_c 71 = .ok (.return_, 1) := by decide +kernel
/-! GameRowsModel.findPoints(Z)V -/
set_option maxHeartbeats 4000000 in
set_option maxRecDepth 100000 in
theorem t_Mo_findPoints_65 {X : gX} {r : gS} (C : gC X b_Mo_findPoints_c R_Mo 3 3 73) (hR : ∀ pc lv, decode b_Mo_findPoints_c pc = .ok (.return_, 1) → G X pc lv [] r) {k36 : Int32 × Int32 × gS → Option gS}  (hk36 : ∀ x, k36 x = some r → G X 36 [(0, .ref (gA X 46)), (1, .int x.1), (2, .int x.2.1)] [] x.2.2) (x1 : Int32) (x2 : Int32) (σ : gS) (h : b_Mo_findPoints_65 k36 x1 x2 σ = some r) : G X 65 [(0, .ref (gA X 46)), (1, .int x1), (2, .int x2)] [] σ := by
  unfold b_Mo_findPoints_65 at h
  obtain ⟨x2_1, ex2_1, h⟩ := bnd_some h
  refine r_iinc C 2 (lv' := [(2, .int x2_1), (0, .ref (gA X 46)), (1, .int x1)]) d_Mo_findPoints_65 rfl (by rw [ex2_1]; rfl) (by decide) rfl ?_
  refine r_goto C (tgt := 36) d_Mo_findPoints_68 (by decide) ?_
  refine r_sub [1, 2, 0] (lv' := [(0, .ref (gA X 46)), (1, .int x1), (2, .int x2_1)]) rfl ?_
  exact hk36 _ h
set_option maxHeartbeats 4000000 in
set_option maxRecDepth 100000 in
theorem t_Mo_findPoints_36 {X : gX} {r : gS} (C : gC X b_Mo_findPoints_c R_Mo 3 3 73) (hR : ∀ pc lv, decode b_Mo_findPoints_c pc = .ok (.return_, 1) → G X pc lv [] r) {k36 : Int32 × Int32 × gS → Option gS}  (hk36 : ∀ x, k36 x = some r → G X 36 [(0, .ref (gA X 46)), (1, .int x.1), (2, .int x.2.1)] [] x.2.2) (x1 : Int32) (x2 : Int32) (σ : gS) (h : b_Mo_findPoints_36 k36 x1 x2 σ = some r) : G X 36 [(0, .ref (gA X 46)), (1, .int x1), (2, .int x2)] [] σ := by
  unfold b_Mo_findPoints_36 at h
  refine r_iload_n C 2 d_Mo_findPoints_36 rfl rfl ?_
  refine r_aload_n C 0 d_Mo_findPoints_37 rfl rfl ?_
  obtain ⟨r_1, er_1, h⟩ := bind_some h
  refine r_callV C (As := []) (rest := [.int x2]) (st1 := [.int r_1, .int x2]) (c_Mo_root X.1.2.1 σ  er_1) k_Mo_root m_492 (by decide) cel_Mo rfl rfl rfl rfl (Nat.le_of_ble_eq_true rfl) ⟨Nat.le_of_ble_eq_true rfl, Nat.le_of_ble_eq_true rfl⟩ d_Mo_findPoints_38 rfl ?_
  refine r_icmp_ge C (tgt := 71) d_Mo_findPoints_41 (by decide) (fun hc_2 => ?_) (fun hc_2 => ?_)
  · rw [if_pos hc_2] at h
    cases h
    exact hR _ _ d_Mo_findPoints_71
  · rw [if_neg hc_2] at h
    refine r_iload_n C 1 d_Mo_findPoints_44 rfl rfl ?_
    refine r_if_eq C (tgt := 71) d_Mo_findPoints_45 (by decide) (fun hc_3 => ?_) (fun hc_3 => ?_)
    · rw [if_pos hc_3] at h
      cases h
      exact hR _ _ d_Mo_findPoints_71
    · rw [if_neg hc_3] at h
      refine r_aload_n C 0 d_Mo_findPoints_48 rfl rfl ?_
      refine r_iload_n C 2 d_Mo_findPoints_49 rfl rfl ?_
      obtain ⟨r_4, er_4, h⟩ := bind_some h
      refine r_callV C (As := [.int x2]) (rest := []) (st1 := [.int r_4]) (c_Mo_isGame X.1.2.1 σ x2 er_4) k_Mo_isGame m_513 (by decide) cel_Mo rfl rfl rfl rfl (Nat.le_of_ble_eq_true rfl) ⟨Nat.le_of_ble_eq_true rfl, Nat.le_of_ble_eq_true rfl⟩ d_Mo_findPoints_50 rfl ?_
      refine r_if_eq C (tgt := 65) d_Mo_findPoints_53 (by decide) (fun hc_5 => ?_) (fun hc_5 => ?_)
      · rw [if_pos hc_5] at h
        exact t_Mo_findPoints_65 C hR hk36 x1 x2 σ h
      · rw [if_neg hc_5] at h
        refine r_aload_n C 0 d_Mo_findPoints_56 rfl rfl ?_
        refine r_iload_n C 2 d_Mo_findPoints_57 rfl rfl ?_
        obtain ⟨r_6, er_6, h⟩ := bind_some h
        refine r_callV C (As := [.int x2]) (rest := []) (st1 := []) (c_Mo_workAll X.1.2.1 σ x2 er_6) k_Mo_workAll m_496 (by decide) cel_Mo rfl rfl rfl rfl (Nat.le_of_ble_eq_true rfl) ⟨Nat.le_of_ble_eq_true rfl, Nat.le_of_ble_eq_true rfl⟩ d_Mo_findPoints_58 rfl ?_
        refine r_aload_n C 0 d_Mo_findPoints_61 rfl rfl ?_
        obtain ⟨r_7, er_7, h⟩ := bind_some h
        refine r_callV C (As := []) (rest := []) (st1 := []) (c_Mo_sift X.1.2.1 r_6  er_7) k_Mo_sift m_517 (by decide) cel_Mo rfl rfl rfl rfl (Nat.le_of_ble_eq_true rfl) ⟨Nat.le_of_ble_eq_true rfl, Nat.le_of_ble_eq_true rfl⟩ d_Mo_findPoints_62 rfl ?_
        exact t_Mo_findPoints_65 C hR hk36 x1 x2 r_7 h
set_option maxHeartbeats 4000000 in
set_option maxRecDepth 100000 in
theorem u_Mo_findPoints_36 {X : gX} {r : gS} (C : gC X b_Mo_findPoints_c R_Mo 3 3 73) (hR : ∀ pc lv, decode b_Mo_findPoints_c pc = .ok (.return_, 1) → G X pc lv [] r)  (x : Int32 × Int32 × gS) (h : l_Mo_findPoints_36 x = some r) : G X 36 [(0, .ref (gA X 46)), (1, .int x.1), (2, .int x.2.1)] [] x.2.2 :=
  lpF_ind (P := fun x => G X 36 [(0, .ref (gA X 46)), (1, .int x.1), (2, .int x.2.1)] [] x.2.2) (fun k hk x h => t_Mo_findPoints_36 C hR hk x.1 x.2.1 x.2.2 h) gF x h
set_option maxHeartbeats 4000000 in
set_option maxRecDepth 100000 in
theorem t_Mo_findPoints_2 {X : gX} {r : gS} (C : gC X b_Mo_findPoints_c R_Mo 3 3 73) (hR : ∀ pc lv, decode b_Mo_findPoints_c pc = .ok (.return_, 1) → G X pc lv [] r) {k2 : Int32 × Int32 × gS → Option gS}  (hk2 : ∀ x, k2 x = some r → G X 2 [(0, .ref (gA X 46)), (1, .int x.1), (2, .int x.2.1)] [] x.2.2) (x1 : Int32) (x2 : Int32) (σ : gS) (h : b_Mo_findPoints_2 k2 x1 x2 σ = some r) : G X 2 [(0, .ref (gA X 46)), (1, .int x1), (2, .int x2)] [] σ := by
  unfold b_Mo_findPoints_2 at h
  refine r_iload_n C 2 d_Mo_findPoints_2 rfl rfl ?_
  refine r_sipush C (v := 4096) d_Mo_findPoints_3 (by decide) ?_
  refine r_icmp_ge C (tgt := 22) d_Mo_findPoints_6 (by decide) (fun hc_1 => ?_) (fun hc_1 => ?_)
  · rw [if_pos hc_1] at h
    refine r_aload_n C 0 d_Mo_findPoints_22 rfl rfl ?_
    refine r_aload_n C 0 d_Mo_findPoints_23 rfl rfl ?_
    obtain ⟨r_2, er_2, h⟩ := bind_some h
    refine r_callV C (As := []) (rest := [.ref (gA X 46)]) (st1 := [.int r_2, .ref (gA X 46)]) (c_Mo_root X.1.2.1 σ  er_2) k_Mo_root m_492 (by decide) cel_Mo rfl rfl rfl rfl (Nat.le_of_ble_eq_true rfl) ⟨Nat.le_of_ble_eq_true rfl, Nat.le_of_ble_eq_true rfl⟩ d_Mo_findPoints_24 rfl ?_
    obtain ⟨r_3, er_3, h⟩ := bind_some h
    refine r_callV C (As := [.int r_2]) (rest := []) (st1 := []) (c_Mo_workAll X.1.2.1 σ r_2 er_3) k_Mo_workAll m_496 (by decide) cel_Mo rfl rfl rfl rfl (Nat.le_of_ble_eq_true rfl) ⟨Nat.le_of_ble_eq_true rfl, Nat.le_of_ble_eq_true rfl⟩ d_Mo_findPoints_27 rfl ?_
    refine r_aload_n C 0 d_Mo_findPoints_30 rfl rfl ?_
    obtain ⟨r_4, er_4, h⟩ := bind_some h
    refine r_callV C (As := []) (rest := []) (st1 := []) (c_Mo_sift X.1.2.1 r_3  er_4) k_Mo_sift m_517 (by decide) cel_Mo rfl rfl rfl rfl (Nat.le_of_ble_eq_true rfl) ⟨Nat.le_of_ble_eq_true rfl, Nat.le_of_ble_eq_true rfl⟩ d_Mo_findPoints_31 rfl ?_
    refine r_iconst C (v := 0) d_Mo_findPoints_34 (by decide) ?_
    refine r_istore_n C (lv' := [(2, .int 0), (0, .ref (gA X 46)), (1, .int x1)]) d_Mo_findPoints_35 rfl (by decide) rfl rfl ?_
    refine r_sub [1, 2, 0] (lv' := [(0, .ref (gA X 46)), (1, .int x1), (2, .int 0)]) rfl ?_
    exact u_Mo_findPoints_36 C hR  (x1, 0, r_4) h
  · rw [if_neg hc_1] at h
    refine r_aload_n C 0 d_Mo_findPoints_9 rfl rfl ?_
    refine q_Mo_53 C d_Mo_findPoints_10 ?_
    refine r_iload_n C 2 d_Mo_findPoints_13 rfl rfl ?_
    refine r_iconst C (v := 1) d_Mo_findPoints_14 (by decide) ?_
    obtain ⟨hi_5, h⟩ := ck_some h
    obtain ⟨hb_7, h⟩ := ck_some h
    obtain ⟨σ_6, eσ_6, h⟩ := bnd_some h
    refine r_zast C hi_5 hb_7 eσ_6 d_Mo_findPoints_15 ?_
    obtain ⟨x2_8, ex2_8, h⟩ := bnd_some h
    refine r_iinc C 2 (lv' := [(2, .int x2_8), (0, .ref (gA X 46)), (1, .int x1)]) d_Mo_findPoints_16 rfl (by rw [ex2_8]; rfl) (by decide) rfl ?_
    refine r_goto C (tgt := 2) d_Mo_findPoints_19 (by decide) ?_
    refine r_sub [1, 2, 0] (lv' := [(0, .ref (gA X 46)), (1, .int x1), (2, .int x2_8)]) rfl ?_
    exact hk2 _ h
set_option maxHeartbeats 4000000 in
set_option maxRecDepth 100000 in
theorem u_Mo_findPoints_2 {X : gX} {r : gS} (C : gC X b_Mo_findPoints_c R_Mo 3 3 73) (hR : ∀ pc lv, decode b_Mo_findPoints_c pc = .ok (.return_, 1) → G X pc lv [] r)  (x : Int32 × Int32 × gS) (h : l_Mo_findPoints_2 x = some r) : G X 2 [(0, .ref (gA X 46)), (1, .int x.1), (2, .int x.2.1)] [] x.2.2 :=
  lpF_ind (P := fun x => G X 2 [(0, .ref (gA X 46)), (1, .int x.1), (2, .int x.2.1)] [] x.2.2) (fun k hk x h => t_Mo_findPoints_2 C hR hk x.1 x.2.1 x.2.2 h) gF x h
set_option maxHeartbeats 4000000 in
set_option maxRecDepth 100000 in
theorem t_Mo_findPoints_0 {X : gX} {r : gS} (C : gC X b_Mo_findPoints_c R_Mo 3 3 73) (hR : ∀ pc lv, decode b_Mo_findPoints_c pc = .ok (.return_, 1) → G X pc lv [] r) (x1 : Int32) (σ : gS) (h : b_Mo_findPoints_0 x1 σ = some r) : G X 0 [(0, .ref (gA X 46)), (1, .int x1)] [] σ := by
  unfold b_Mo_findPoints_0 at h
  refine r_iconst C (v := 0) d_Mo_findPoints_0 (by decide) ?_
  refine r_istore_n C (lv' := [(2, .int 0), (0, .ref (gA X 46)), (1, .int x1)]) d_Mo_findPoints_1 rfl (by decide) rfl rfl ?_
  refine r_sub [1, 2, 0] (lv' := [(0, .ref (gA X 46)), (1, .int x1), (2, .int 0)]) rfl ?_
  exact u_Mo_findPoints_2 C hR  (x1, 0, σ) h
set_option maxHeartbeats 4000000 in
set_option maxRecDepth 100000 in
theorem c_Mo_findPoints (l : Launch) (σ : gS) (x1 : Int32) {r : gS} (h : f_Mo_findPoints σ x1 = some r) : gMet l y_Mo_findPoints b_Mo_findPoints_c 3 (none) 3 73 (fun a => [.ref (a 46), .int x1]) σ (none) r := by
  refine gMet_v (by decide +kernel) (fun a => Nat.le_of_ble_eq_true rfl) (fun X _ C hR => ?_)
  refine r_sub [0, 1] (lv' := [(0, .ref (gA X 46)), (1, .int x1)]) rfl ?_
  exact t_Mo_findPoints_0 C hR x1 σ h
theorem d_Mo_countPoints_0 : decode b_Mo_countPoints_c 0 = .ok (.aload_n 0, 1) := by decide +kernel
theorem d_Mo_countPoints_1 : decode b_Mo_countPoints_c 1 = .ok (.iload_n 1, 1) := by decide +kernel
theorem d_Mo_countPoints_2 : decode b_Mo_countPoints_c 2 = .ok (.invokevirtual 162, 3) := by decide +kernel
theorem d_Mo_countPoints_5 : decode b_Mo_countPoints_c 5 = .ok (.iconst 0, 1) := by decide +kernel
theorem d_Mo_countPoints_6 : decode b_Mo_countPoints_c 6 = .ok (.istore_n 3, 1) := by decide +kernel
theorem d_Mo_countPoints_7 : decode b_Mo_countPoints_c 7 = .ok (.aload_n 0, 1) := by decide +kernel
theorem d_Mo_countPoints_8 : decode b_Mo_countPoints_c 8 = .ok (.iconst (-1), 1) := by decide +kernel
theorem d_Mo_countPoints_9 : decode b_Mo_countPoints_c 9 = .ok (.putfield 166, 3) := by decide +kernel
theorem d_Mo_countPoints_12 : decode b_Mo_countPoints_c 12 = .ok (.iconst 0, 1) := by decide +kernel
theorem d_Mo_countPoints_13 : decode b_Mo_countPoints_c 13 = .ok (.istore 4, 2) := by decide +kernel
theorem d_Mo_countPoints_15 : decode b_Mo_countPoints_c 15 = .ok (.iload 4, 2) := by decide +kernel
theorem d_Mo_countPoints_17 : decode b_Mo_countPoints_c 17 = .ok (.aload_n 0, 1) := by decide +kernel
theorem d_Mo_countPoints_18 : decode b_Mo_countPoints_c 18 = .ok (.getfield 124, 3) := by decide +kernel
theorem d_Mo_countPoints_21 : decode b_Mo_countPoints_c 21 = .ok (.if_icmp .ge 70, 3) := by decide +kernel
theorem d_Mo_countPoints_24 : decode b_Mo_countPoints_c 24 = .ok (.iconst 0, 1) := by decide +kernel
theorem d_Mo_countPoints_25 : decode b_Mo_countPoints_c 25 = .ok (.istore 5, 2) := by decide +kernel
theorem d_Mo_countPoints_27 : decode b_Mo_countPoints_c 27 = .ok (.iload 5, 2) := by decide +kernel
theorem d_Mo_countPoints_29 : decode b_Mo_countPoints_c 29 = .ok (.aload_n 0, 1) := by decide +kernel
theorem d_Mo_countPoints_30 : decode b_Mo_countPoints_c 30 = .ok (.getfield 127, 3) := by decide +kernel
theorem d_Mo_countPoints_33 : decode b_Mo_countPoints_c 33 = .ok (.if_icmp .ge 52, 3) := by decide +kernel
theorem d_Mo_countPoints_36 : decode b_Mo_countPoints_c 36 = .ok (.aload_n 0, 1) := by decide +kernel
theorem d_Mo_countPoints_37 : decode b_Mo_countPoints_c 37 = .ok (.getfield 53, 3) := by decide +kernel
theorem d_Mo_countPoints_40 : decode b_Mo_countPoints_c 40 = .ok (.bipush 64, 2) := by decide +kernel
theorem d_Mo_countPoints_42 : decode b_Mo_countPoints_c 42 = .ok (.iload 4, 2) := by decide +kernel
theorem d_Mo_countPoints_44 : decode b_Mo_countPoints_c 44 = .ok (.imul, 1) := by decide +kernel
theorem d_Mo_countPoints_45 : decode b_Mo_countPoints_c 45 = .ok (.iload 5, 2) := by decide +kernel
theorem d_Mo_countPoints_47 : decode b_Mo_countPoints_c 47 = .ok (.iadd, 1) := by decide +kernel
theorem d_Mo_countPoints_48 : decode b_Mo_countPoints_c 48 = .ok (.baload, 1) := by decide +kernel
theorem d_Mo_countPoints_49 : decode b_Mo_countPoints_c 49 = .ok (.ifCond .eq 30, 3) := by decide +kernel
theorem d_Mo_countPoints_52 : decode b_Mo_countPoints_c 52 = .ok (.aload_n 0, 1) := by decide +kernel
theorem d_Mo_countPoints_53 : decode b_Mo_countPoints_c 53 = .ok (.iload_n 3, 1) := by decide +kernel
theorem d_Mo_countPoints_54 : decode b_Mo_countPoints_c 54 = .ok (.iload_n 2, 1) := by decide +kernel
theorem d_Mo_countPoints_55 : decode b_Mo_countPoints_c 55 = .ok (.if_icmp .ne 14, 3) := by decide +kernel
theorem d_Mo_countPoints_58 : decode b_Mo_countPoints_c 58 = .ok (.bipush 64, 2) := by decide +kernel
theorem d_Mo_countPoints_60 : decode b_Mo_countPoints_c 60 = .ok (.iload 4, 2) := by decide +kernel
theorem d_Mo_countPoints_62 : decode b_Mo_countPoints_c 62 = .ok (.imul, 1) := by decide +kernel
theorem d_Mo_countPoints_63 : decode b_Mo_countPoints_c 63 = .ok (.iload 5, 2) := by decide +kernel
theorem d_Mo_countPoints_65 : decode b_Mo_countPoints_c 65 = .ok (.iadd, 1) := by decide +kernel
theorem d_Mo_countPoints_66 : decode b_Mo_countPoints_c 66 = .ok (.goto 7, 3) := by decide +kernel
theorem d_Mo_countPoints_69 : decode b_Mo_countPoints_c 69 = .ok (.aload_n 0, 1) := by decide +kernel
theorem d_Mo_countPoints_70 : decode b_Mo_countPoints_c 70 = .ok (.getfield 166, 3) := by decide +kernel
theorem d_Mo_countPoints_73 : decode b_Mo_countPoints_c 73 = .ok (.putfield 166, 3) := by decide +kernel
theorem d_Mo_countPoints_76 : decode b_Mo_countPoints_c 76 = .ok (.iinc 3 1, 3) := by decide +kernel
theorem d_Mo_countPoints_79 : decode b_Mo_countPoints_c 79 = .ok (.iinc 5 1, 3) := by decide +kernel
theorem d_Mo_countPoints_82 : decode b_Mo_countPoints_c 82 = .ok (.goto (-55), 3) := by decide +kernel
theorem d_Mo_countPoints_85 : decode b_Mo_countPoints_c 85 = .ok (.iinc 4 1, 3) := by decide +kernel
theorem d_Mo_countPoints_88 : decode b_Mo_countPoints_c 88 = .ok (.goto (-73), 3) := by decide +kernel
theorem d_Mo_countPoints_91 : decode b_Mo_countPoints_c 91 = .ok (.iload_n 3, 1) := by decide +kernel
theorem d_Mo_countPoints_92 : decode b_Mo_countPoints_c 92 = .ok (.ireturn, 1) := by decide +kernel
/-! GameRowsModel.countPoints(ZI)I -/
set_option maxHeartbeats 4000000 in
set_option maxRecDepth 100000 in
theorem t_Mo_countPoints_79 {X : gX} {r : (Int32 × gS)} (C : gC X b_Mo_countPoints_c R_Mo 6 4 95) (hR : ∀ pc lv, decode b_Mo_countPoints_c pc = .ok (.ireturn, 1) → G X pc lv [.int r.1] r.2) {k15 : Int32 × Int32 × Int32 × gS → Option (Int32 × gS)}  {k27 : Int32 × Int32 × Int32 × Int32 × gS → Option (Int32 × gS)}  (hk15 : ∀ x, k15 x = some r → G X 15 [(0, .ref (gA X 46)), (2, .int x.1), (3, .int x.2.1), (4, .int x.2.2.1)] [] x.2.2.2) (hk27 : ∀ x, k27 x = some r → G X 27 [(0, .ref (gA X 46)), (2, .int x.1), (3, .int x.2.1), (4, .int x.2.2.1), (5, .int x.2.2.2.1)] [] x.2.2.2.2) (x2 : Int32) (x3 : Int32) (x4 : Int32) (x5 : Int32) (σ : gS) (h : b_Mo_countPoints_79 k15 k27 x2 x3 x4 x5 σ = some r) : G X 79 [(0, .ref (gA X 46)), (2, .int x2), (3, .int x3), (4, .int x4), (5, .int x5)] [] σ := by
  unfold b_Mo_countPoints_79 at h
  obtain ⟨x5_1, ex5_1, h⟩ := bnd_some h
  refine r_iinc C 4 (lv' := [(5, .int x5_1), (0, .ref (gA X 46)), (2, .int x2), (3, .int x3), (4, .int x4)]) d_Mo_countPoints_79 rfl (by rw [ex5_1]; rfl) (by decide) rfl ?_
  refine r_goto C (tgt := 27) d_Mo_countPoints_82 (by decide) ?_
  refine r_sub [1, 2, 3, 4, 0] (lv' := [(0, .ref (gA X 46)), (2, .int x2), (3, .int x3), (4, .int x4), (5, .int x5_1)]) rfl ?_
  exact hk27 _ h
set_option maxHeartbeats 4000000 in
set_option maxRecDepth 100000 in
theorem t_Mo_countPoints_73 {X : gX} {r : (Int32 × gS)} (C : gC X b_Mo_countPoints_c R_Mo 6 4 95) (hR : ∀ pc lv, decode b_Mo_countPoints_c pc = .ok (.ireturn, 1) → G X pc lv [.int r.1] r.2) {k15 : Int32 × Int32 × Int32 × gS → Option (Int32 × gS)}  {k27 : Int32 × Int32 × Int32 × Int32 × gS → Option (Int32 × gS)}  (hk15 : ∀ x, k15 x = some r → G X 15 [(0, .ref (gA X 46)), (2, .int x.1), (3, .int x.2.1), (4, .int x.2.2.1)] [] x.2.2.2) (hk27 : ∀ x, k27 x = some r → G X 27 [(0, .ref (gA X 46)), (2, .int x.1), (3, .int x.2.1), (4, .int x.2.2.1), (5, .int x.2.2.2.1)] [] x.2.2.2.2) (x2 : Int32) (x3 : Int32) (x4 : Int32) (x5 : Int32) (y1 : Int32) (σ : gS) (h : b_Mo_countPoints_73 k15 k27 x2 x3 x4 x5 y1 σ = some r) : G X 73 [(0, .ref (gA X 46)), (2, .int x2), (3, .int x3), (4, .int x4), (5, .int x5)] [.int y1, .ref (gA X 46)] σ := by
  unfold b_Mo_countPoints_73 at h
  obtain ⟨σ_1, eσ_1, h⟩ := bnd_some h
  refine p_Mo_166 C eσ_1 d_Mo_countPoints_73 ?_
  obtain ⟨x3_2, ex3_2, h⟩ := bnd_some h
  refine r_iinc C 2 (lv' := [(3, .int x3_2), (0, .ref (gA X 46)), (2, .int x2), (4, .int x4), (5, .int x5)]) d_Mo_countPoints_76 rfl (by rw [ex3_2]; rfl) (by decide) rfl ?_
  refine r_sub [1, 2, 0, 3, 4] (lv' := [(0, .ref (gA X 46)), (2, .int x2), (3, .int x3_2), (4, .int x4), (5, .int x5)]) rfl ?_
  exact t_Mo_countPoints_79 C hR hk15 hk27 x2 x3_2 x4 x5 σ_1 h
set_option maxHeartbeats 4000000 in
set_option maxRecDepth 100000 in
theorem t_Mo_countPoints_27 {X : gX} {r : (Int32 × gS)} (C : gC X b_Mo_countPoints_c R_Mo 6 4 95) (hR : ∀ pc lv, decode b_Mo_countPoints_c pc = .ok (.ireturn, 1) → G X pc lv [.int r.1] r.2) {k15 : Int32 × Int32 × Int32 × gS → Option (Int32 × gS)}  {k27 : Int32 × Int32 × Int32 × Int32 × gS → Option (Int32 × gS)}  (hk15 : ∀ x, k15 x = some r → G X 15 [(0, .ref (gA X 46)), (2, .int x.1), (3, .int x.2.1), (4, .int x.2.2.1)] [] x.2.2.2) (hk27 : ∀ x, k27 x = some r → G X 27 [(0, .ref (gA X 46)), (2, .int x.1), (3, .int x.2.1), (4, .int x.2.2.1), (5, .int x.2.2.2.1)] [] x.2.2.2.2) (x2 : Int32) (x3 : Int32) (x4 : Int32) (x5 : Int32) (σ : gS) (h : b_Mo_countPoints_27 k15 k27 x2 x3 x4 x5 σ = some r) : G X 27 [(0, .ref (gA X 46)), (2, .int x2), (3, .int x3), (4, .int x4), (5, .int x5)] [] σ := by
  unfold b_Mo_countPoints_27 at h
  refine r_iload C 4 d_Mo_countPoints_27 rfl ?_
  refine r_aload_n C 0 d_Mo_countPoints_29 rfl rfl ?_
  refine q_Mo_127 C d_Mo_countPoints_30 ?_
  refine r_icmp_ge C (tgt := 85) d_Mo_countPoints_33 (by decide) (fun hc_1 => ?_) (fun hc_1 => ?_)
  · rw [if_pos hc_1] at h
    obtain ⟨x4_2, ex4_2, h⟩ := bnd_some h
    refine r_iinc C 3 (lv' := [(4, .int x4_2), (0, .ref (gA X 46)), (2, .int x2), (3, .int x3), (5, .int x5)]) d_Mo_countPoints_85 rfl (by rw [ex4_2]; rfl) (by decide) rfl ?_
    refine r_goto C (tgt := 15) d_Mo_countPoints_88 (by decide) ?_
    refine r_sub [1, 2, 3, 0] (lv' := [(0, .ref (gA X 46)), (2, .int x2), (3, .int x3), (4, .int x4_2)]) rfl ?_
    exact hk15 _ h
  · rw [if_neg hc_1] at h
    refine r_aload_n C 0 d_Mo_countPoints_36 rfl rfl ?_
    refine q_Mo_53 C d_Mo_countPoints_37 ?_
    refine r_bipush C (v := 64) d_Mo_countPoints_40 (by decide) ?_
    refine r_iload C 3 d_Mo_countPoints_42 rfl ?_
    refine r_imul C d_Mo_countPoints_44 ?_
    refine r_iload C 4 d_Mo_countPoints_45 rfl ?_
    refine r_iadd C d_Mo_countPoints_47 ?_
    obtain ⟨hi_3, h⟩ := ck_some h
    refine r_zald C hi_3 d_Mo_countPoints_48 ?_
    refine r_if_eq C (tgt := 79) d_Mo_countPoints_49 (by decide) (fun hc_4 => ?_) (fun hc_4 => ?_)
    · rw [if_pos hc_4] at h
      exact t_Mo_countPoints_79 C hR hk15 hk27 x2 x3 x4 x5 σ h
    · rw [if_neg hc_4] at h
      refine r_aload_n C 0 d_Mo_countPoints_52 rfl rfl ?_
      refine r_iload_n C 2 d_Mo_countPoints_53 rfl rfl ?_
      refine r_iload_n C 1 d_Mo_countPoints_54 rfl rfl ?_
      refine r_icmp_ne C (tgt := 69) d_Mo_countPoints_55 (by decide) (fun hc_5 => ?_) (fun hc_5 => ?_)
      · rw [if_neg hc_5] at h
        refine r_aload_n C 0 d_Mo_countPoints_69 rfl rfl ?_
        refine q_Mo_166 C d_Mo_countPoints_70 ?_
        exact t_Mo_countPoints_73 C hR hk15 hk27 x2 x3 x4 x5 (gI σ 46 19) σ h
      · rw [if_pos hc_5] at h
        refine r_bipush C (v := 64) d_Mo_countPoints_58 (by decide) ?_
        refine r_iload C 3 d_Mo_countPoints_60 rfl ?_
        refine r_imul C d_Mo_countPoints_62 ?_
        refine r_iload C 4 d_Mo_countPoints_63 rfl ?_
        refine r_iadd C d_Mo_countPoints_65 ?_
        refine r_goto C (tgt := 73) d_Mo_countPoints_66 (by decide) ?_
        exact t_Mo_countPoints_73 C hR hk15 hk27 x2 x3 x4 x5 ((64 * x4) + x5) σ h
set_option maxHeartbeats 4000000 in
set_option maxRecDepth 100000 in
theorem u_Mo_countPoints_27 {X : gX} {r : (Int32 × gS)} (C : gC X b_Mo_countPoints_c R_Mo 6 4 95) (hR : ∀ pc lv, decode b_Mo_countPoints_c pc = .ok (.ireturn, 1) → G X pc lv [.int r.1] r.2) {k15 : Int32 × Int32 × Int32 × gS → Option (Int32 × gS)}  (hk15 : ∀ x, k15 x = some r → G X 15 [(0, .ref (gA X 46)), (2, .int x.1), (3, .int x.2.1), (4, .int x.2.2.1)] [] x.2.2.2) (x : Int32 × Int32 × Int32 × Int32 × gS) (h : l_Mo_countPoints_27 k15 x = some r) : G X 27 [(0, .ref (gA X 46)), (2, .int x.1), (3, .int x.2.1), (4, .int x.2.2.1), (5, .int x.2.2.2.1)] [] x.2.2.2.2 :=
  lpF_ind (P := fun x => G X 27 [(0, .ref (gA X 46)), (2, .int x.1), (3, .int x.2.1), (4, .int x.2.2.1), (5, .int x.2.2.2.1)] [] x.2.2.2.2) (fun k hk x h => t_Mo_countPoints_27 C hR hk15 hk x.1 x.2.1 x.2.2.1 x.2.2.2.1 x.2.2.2.2 h) gF x h
set_option maxHeartbeats 4000000 in
set_option maxRecDepth 100000 in
theorem t_Mo_countPoints_15 {X : gX} {r : (Int32 × gS)} (C : gC X b_Mo_countPoints_c R_Mo 6 4 95) (hR : ∀ pc lv, decode b_Mo_countPoints_c pc = .ok (.ireturn, 1) → G X pc lv [.int r.1] r.2) {k15 : Int32 × Int32 × Int32 × gS → Option (Int32 × gS)}  (hk15 : ∀ x, k15 x = some r → G X 15 [(0, .ref (gA X 46)), (2, .int x.1), (3, .int x.2.1), (4, .int x.2.2.1)] [] x.2.2.2) (x2 : Int32) (x3 : Int32) (x4 : Int32) (σ : gS) (h : b_Mo_countPoints_15 k15 x2 x3 x4 σ = some r) : G X 15 [(0, .ref (gA X 46)), (2, .int x2), (3, .int x3), (4, .int x4)] [] σ := by
  unfold b_Mo_countPoints_15 at h
  refine r_iload C 3 d_Mo_countPoints_15 rfl ?_
  refine r_aload_n C 0 d_Mo_countPoints_17 rfl rfl ?_
  refine q_Mo_124 C d_Mo_countPoints_18 ?_
  refine r_icmp_ge C (tgt := 91) d_Mo_countPoints_21 (by decide) (fun hc_1 => ?_) (fun hc_1 => ?_)
  · rw [if_pos hc_1] at h
    refine r_iload_n C 2 d_Mo_countPoints_91 rfl rfl ?_
    cases h
    exact hR _ _ d_Mo_countPoints_92
  · rw [if_neg hc_1] at h
    refine r_iconst C (v := 0) d_Mo_countPoints_24 (by decide) ?_
    refine r_istore C (lv' := [(5, .int 0), (0, .ref (gA X 46)), (2, .int x2), (3, .int x3), (4, .int x4)]) d_Mo_countPoints_25 (by decide) rfl rfl ?_
    refine r_sub [1, 2, 3, 4, 0] (lv' := [(0, .ref (gA X 46)), (2, .int x2), (3, .int x3), (4, .int x4), (5, .int 0)]) rfl ?_
    exact u_Mo_countPoints_27 C hR hk15 (x2, x3, x4, 0, σ) h
set_option maxHeartbeats 4000000 in
set_option maxRecDepth 100000 in
theorem u_Mo_countPoints_15 {X : gX} {r : (Int32 × gS)} (C : gC X b_Mo_countPoints_c R_Mo 6 4 95) (hR : ∀ pc lv, decode b_Mo_countPoints_c pc = .ok (.ireturn, 1) → G X pc lv [.int r.1] r.2)  (x : Int32 × Int32 × Int32 × gS) (h : l_Mo_countPoints_15 x = some r) : G X 15 [(0, .ref (gA X 46)), (2, .int x.1), (3, .int x.2.1), (4, .int x.2.2.1)] [] x.2.2.2 :=
  lpF_ind (P := fun x => G X 15 [(0, .ref (gA X 46)), (2, .int x.1), (3, .int x.2.1), (4, .int x.2.2.1)] [] x.2.2.2) (fun k hk x h => t_Mo_countPoints_15 C hR hk x.1 x.2.1 x.2.2.1 x.2.2.2 h) gF x h
set_option maxHeartbeats 4000000 in
set_option maxRecDepth 100000 in
theorem t_Mo_countPoints_0 {X : gX} {r : (Int32 × gS)} (C : gC X b_Mo_countPoints_c R_Mo 6 4 95) (hR : ∀ pc lv, decode b_Mo_countPoints_c pc = .ok (.ireturn, 1) → G X pc lv [.int r.1] r.2) (x1 : Int32) (x2 : Int32) (σ : gS) (h : b_Mo_countPoints_0 x1 x2 σ = some r) : G X 0 [(0, .ref (gA X 46)), (1, .int x1), (2, .int x2)] [] σ := by
  unfold b_Mo_countPoints_0 at h
  refine r_aload_n C 0 d_Mo_countPoints_0 rfl rfl ?_
  refine r_iload_n C 1 d_Mo_countPoints_1 rfl rfl ?_
  obtain ⟨r_1, er_1, h⟩ := bind_some h
  refine r_callV C (As := [.int x1]) (rest := []) (st1 := []) (c_Mo_findPoints X.1.2.1 σ x1 er_1) k_Mo_findPoints m_522 (by decide) cel_Mo rfl rfl rfl rfl (Nat.le_of_ble_eq_true rfl) ⟨Nat.le_of_ble_eq_true rfl, Nat.le_of_ble_eq_true rfl⟩ d_Mo_countPoints_2 rfl ?_
  refine r_iconst C (v := 0) d_Mo_countPoints_5 (by decide) ?_
  refine r_istore_n C (lv' := [(3, .int 0), (0, .ref (gA X 46)), (1, .int x1), (2, .int x2)]) d_Mo_countPoints_6 rfl (by decide) rfl rfl ?_
  refine r_aload_n C 1 d_Mo_countPoints_7 rfl rfl ?_
  refine r_iconst C (v := (-1)) d_Mo_countPoints_8 (by decide) ?_
  obtain ⟨σ_2, eσ_2, h⟩ := bnd_some h
  refine p_Mo_166 C eσ_2 d_Mo_countPoints_9 ?_
  refine r_iconst C (v := 0) d_Mo_countPoints_12 (by decide) ?_
  refine r_istore C (lv' := [(4, .int 0), (3, .int 0), (0, .ref (gA X 46)), (1, .int x1), (2, .int x2)]) d_Mo_countPoints_13 (by decide) rfl rfl ?_
  refine r_sub [2, 4, 1, 0] (lv' := [(0, .ref (gA X 46)), (2, .int x2), (3, .int 0), (4, .int 0)]) rfl ?_
  exact u_Mo_countPoints_15 C hR  (x2, 0, 0, σ_2) h
set_option maxHeartbeats 4000000 in
set_option maxRecDepth 100000 in
theorem c_Mo_countPoints (l : Launch) (σ : gS) (x1 : Int32) (x2 : Int32) {r : (Int32 × gS)} (h : f_Mo_countPoints σ x1 x2 = some r) : gMet l y_Mo_countPoints b_Mo_countPoints_c 6 (some .int) 4 95 (fun a => [.ref (a 46), .int x1, .int x2]) σ (some (.int r.1)) r.2 := by
  refine gMet_i (by decide +kernel) (fun a => Nat.le_of_ble_eq_true rfl) (fun X _ C hR => ?_)
  refine r_sub [0, 1, 2] (lv' := [(0, .ref (gA X 46)), (1, .int x1), (2, .int x2)]) rfl ?_
  exact t_Mo_countPoints_0 C hR x1 x2 σ h
theorem d_Mo_point_0 : decode b_Mo_point_c 0 = .ok (.aload_n 0, 1) := by decide +kernel
theorem d_Mo_point_1 : decode b_Mo_point_c 1 = .ok (.getfield 71, 3) := by decide +kernel
theorem d_Mo_point_4 : decode b_Mo_point_c 4 = .ok (.ifCond .ne 6, 3) := by decide +kernel
theorem d_Mo_point_7 : decode b_Mo_point_c 7 = .ok (.ldc 134, 2) := by decide +kernel
theorem d_Mo_point_9 : decode b_Mo_point_c 9 = .ok (.ireturn, 1) := by decide +kernel
theorem d_Mo_point_10 : decode b_Mo_point_c 10 = .ok (.aload_n 0, 1) := by decide +kernel
theorem d_Mo_point_11 : decode b_Mo_point_c 11 = .ok (.iload_n 1, 1) := by decide +kernel
theorem d_Mo_point_12 : decode b_Mo_point_c 12 = .ok (.iload_n 2, 1) := by decide +kernel
theorem d_Mo_point_13 : decode b_Mo_point_c 13 = .ok (.invokevirtual 169, 3) := by decide +kernel
theorem d_Mo_point_16 : decode b_Mo_point_c 16 = .ok (.pop, 1) := by decide +kernel
theorem d_Mo_point_17 : decode b_Mo_point_c 17 = .ok (.aload_n 0, 1) := by decide +kernel
theorem d_Mo_point_18 : decode b_Mo_point_c 18 = .ok (.getfield 166, 3) := by decide +kernel
theorem d_Mo_point_21 : decode b_Mo_point_c 21 = .ok (.ireturn, 1) := by decide +kernel
/-! GameRowsModel.point(ZI)I -/
set_option maxHeartbeats 4000000 in
set_option maxRecDepth 100000 in
theorem t_Mo_point_0 {X : gX} {r : (Int32 × gS)} (C : gC X b_Mo_point_c R_Mo 3 5 120) (hR : ∀ pc lv, decode b_Mo_point_c pc = .ok (.ireturn, 1) → G X pc lv [.int r.1] r.2) (x1 : Int32) (x2 : Int32) (σ : gS) (h : b_Mo_point_0 x1 x2 σ = some r) : G X 0 [(0, .ref (gA X 46)), (1, .int x1), (2, .int x2)] [] σ := by
  unfold b_Mo_point_0 at h
  refine r_aload_n C 0 d_Mo_point_0 rfl rfl ?_
  refine q_Mo_71 C d_Mo_point_1 ?_
  refine r_if_ne C (tgt := 10) d_Mo_point_4 (by decide) (fun hc_1 => ?_) (fun hc_1 => ?_)
  · rw [if_neg hc_1] at h
    refine r_aload_n C 0 d_Mo_point_10 rfl rfl ?_
    refine r_iload_n C 1 d_Mo_point_11 rfl rfl ?_
    refine r_iload_n C 2 d_Mo_point_12 rfl rfl ?_
    obtain ⟨r_2, er_2, h⟩ := bind_some h
    refine r_callV C (As := [.int x1, .int x2]) (rest := []) (st1 := [.int r_2.1]) (c_Mo_countPoints X.1.2.1 σ x1 x2 er_2) k_Mo_countPoints m_526 (by decide) cel_Mo rfl rfl rfl rfl (Nat.le_of_ble_eq_true rfl) ⟨Nat.le_of_ble_eq_true rfl, Nat.le_of_ble_eq_true rfl⟩ d_Mo_point_13 rfl ?_
    refine r_pop C d_Mo_point_16 rfl ?_
    refine r_aload_n C 0 d_Mo_point_17 rfl rfl ?_
    refine q_Mo_166 C d_Mo_point_18 ?_
    cases h
    exact hR _ _ d_Mo_point_21
  · rw [if_pos hc_1] at h
    refine r_ldc C (v := (-1000000)) m_491 d_Mo_point_7 ?_
    cases h
    exact hR _ _ d_Mo_point_9
set_option maxHeartbeats 4000000 in
set_option maxRecDepth 100000 in
theorem c_Mo_point (l : Launch) (σ : gS) (x1 : Int32) (x2 : Int32) {r : (Int32 × gS)} (h : f_Mo_point σ x1 x2 = some r) : gMet l y_Mo_point b_Mo_point_c 3 (some .int) 5 120 (fun a => [.ref (a 46), .int x1, .int x2]) σ (some (.int r.1)) r.2 := by
  refine gMet_i (by decide +kernel) (fun a => Nat.le_of_ble_eq_true rfl) (fun X _ C hR => ?_)
  refine r_sub [0, 1, 2] (lv' := [(0, .ref (gA X 46)), (1, .int x1), (2, .int x2)]) rfl ?_
  exact t_Mo_point_0 C hR x1 x2 σ h
theorem d_Mo_games_0 : decode b_Mo_games_c 0 = .ok (.aload_n 0, 1) := by decide +kernel
theorem d_Mo_games_1 : decode b_Mo_games_c 1 = .ok (.invokevirtual 110, 3) := by decide +kernel
theorem d_Mo_games_4 : decode b_Mo_games_c 4 = .ok (.iconst 0, 1) := by decide +kernel
theorem d_Mo_games_5 : decode b_Mo_games_c 5 = .ok (.istore_n 2, 1) := by decide +kernel
theorem d_Mo_games_6 : decode b_Mo_games_c 6 = .ok (.aload_n 0, 1) := by decide +kernel
theorem d_Mo_games_7 : decode b_Mo_games_c 7 = .ok (.iconst (-1), 1) := by decide +kernel
theorem d_Mo_games_8 : decode b_Mo_games_c 8 = .ok (.putfield 173, 3) := by decide +kernel
theorem d_Mo_games_11 : decode b_Mo_games_c 11 = .ok (.iconst 0, 1) := by decide +kernel
theorem d_Mo_games_12 : decode b_Mo_games_c 12 = .ok (.istore_n 3, 1) := by decide +kernel
theorem d_Mo_games_13 : decode b_Mo_games_c 13 = .ok (.iload_n 3, 1) := by decide +kernel
theorem d_Mo_games_14 : decode b_Mo_games_c 14 = .ok (.aload_n 0, 1) := by decide +kernel
theorem d_Mo_games_15 : decode b_Mo_games_c 15 = .ok (.getfield 71, 3) := by decide +kernel
theorem d_Mo_games_18 : decode b_Mo_games_c 18 = .ok (.if_icmp .ge 37, 3) := by decide +kernel
theorem d_Mo_games_21 : decode b_Mo_games_c 21 = .ok (.aload_n 0, 1) := by decide +kernel
theorem d_Mo_games_22 : decode b_Mo_games_c 22 = .ok (.iload_n 3, 1) := by decide +kernel
theorem d_Mo_games_23 : decode b_Mo_games_c 23 = .ok (.invokevirtual 159, 3) := by decide +kernel
theorem d_Mo_games_26 : decode b_Mo_games_c 26 = .ok (.ifCond .eq 23, 3) := by decide +kernel
theorem d_Mo_games_29 : decode b_Mo_games_c 29 = .ok (.aload_n 0, 1) := by decide +kernel
theorem d_Mo_games_30 : decode b_Mo_games_c 30 = .ok (.iload_n 2, 1) := by decide +kernel
theorem d_Mo_games_31 : decode b_Mo_games_c 31 = .ok (.iload_n 1, 1) := by decide +kernel
theorem d_Mo_games_32 : decode b_Mo_games_c 32 = .ok (.if_icmp .ne 7, 3) := by decide +kernel
theorem d_Mo_games_35 : decode b_Mo_games_c 35 = .ok (.iload_n 3, 1) := by decide +kernel
theorem d_Mo_games_36 : decode b_Mo_games_c 36 = .ok (.goto 7, 3) := by decide +kernel
theorem d_Mo_games_39 : decode b_Mo_games_c 39 = .ok (.aload_n 0, 1) := by decide +kernel
theorem d_Mo_games_40 : decode b_Mo_games_c 40 = .ok (.getfield 173, 3) := by decide +kernel
theorem d_Mo_games_43 : decode b_Mo_games_c 43 = .ok (.putfield 173, 3) := by decide +kernel
theorem d_Mo_games_46 : decode b_Mo_games_c 46 = .ok (.iinc 2 1, 3) := by decide +kernel
theorem d_Mo_games_49 : decode b_Mo_games_c 49 = .ok (.iinc 3 1, 3) := by decide +kernel
theorem d_Mo_games_52 : decode b_Mo_games_c 52 = .ok (.goto (-39), 3) := by decide +kernel
theorem d_Mo_games_55 : decode b_Mo_games_c 55 = .ok (.iload_n 2, 1) := by decide +kernel
theorem d_Mo_games_56 : decode b_Mo_games_c 56 = .ok (.ireturn, 1) := by decide +kernel
/-! GameRowsModel.games(I)I -/
set_option maxHeartbeats 4000000 in
set_option maxRecDepth 100000 in
theorem t_Mo_games_49 {X : gX} {r : (Int32 × gS)} (C : gC X b_Mo_games_c R_Mo 4 2 48) (hR : ∀ pc lv, decode b_Mo_games_c pc = .ok (.ireturn, 1) → G X pc lv [.int r.1] r.2) {k13 : Int32 × Int32 × Int32 × gS → Option (Int32 × gS)}  (hk13 : ∀ x, k13 x = some r → G X 13 [(0, .ref (gA X 46)), (1, .int x.1), (2, .int x.2.1), (3, .int x.2.2.1)] [] x.2.2.2) (x1 : Int32) (x2 : Int32) (x3 : Int32) (σ : gS) (h : b_Mo_games_49 k13 x1 x2 x3 σ = some r) : G X 49 [(0, .ref (gA X 46)), (1, .int x1), (2, .int x2), (3, .int x3)] [] σ := by
  unfold b_Mo_games_49 at h
  obtain ⟨x3_1, ex3_1, h⟩ := bnd_some h
  refine r_iinc C 3 (lv' := [(3, .int x3_1), (0, .ref (gA X 46)), (1, .int x1), (2, .int x2)]) d_Mo_games_49 rfl (by rw [ex3_1]; rfl) (by decide) rfl ?_
  refine r_goto C (tgt := 13) d_Mo_games_52 (by decide) ?_
  refine r_sub [1, 2, 3, 0] (lv' := [(0, .ref (gA X 46)), (1, .int x1), (2, .int x2), (3, .int x3_1)]) rfl ?_
  exact hk13 _ h
set_option maxHeartbeats 4000000 in
set_option maxRecDepth 100000 in
theorem t_Mo_games_43 {X : gX} {r : (Int32 × gS)} (C : gC X b_Mo_games_c R_Mo 4 2 48) (hR : ∀ pc lv, decode b_Mo_games_c pc = .ok (.ireturn, 1) → G X pc lv [.int r.1] r.2) {k13 : Int32 × Int32 × Int32 × gS → Option (Int32 × gS)}  (hk13 : ∀ x, k13 x = some r → G X 13 [(0, .ref (gA X 46)), (1, .int x.1), (2, .int x.2.1), (3, .int x.2.2.1)] [] x.2.2.2) (x1 : Int32) (x2 : Int32) (x3 : Int32) (y1 : Int32) (σ : gS) (h : b_Mo_games_43 k13 x1 x2 x3 y1 σ = some r) : G X 43 [(0, .ref (gA X 46)), (1, .int x1), (2, .int x2), (3, .int x3)] [.int y1, .ref (gA X 46)] σ := by
  unfold b_Mo_games_43 at h
  obtain ⟨σ_1, eσ_1, h⟩ := bnd_some h
  refine p_Mo_173 C eσ_1 d_Mo_games_43 ?_
  obtain ⟨x2_2, ex2_2, h⟩ := bnd_some h
  refine r_iinc C 2 (lv' := [(2, .int x2_2), (0, .ref (gA X 46)), (1, .int x1), (3, .int x3)]) d_Mo_games_46 rfl (by rw [ex2_2]; rfl) (by decide) rfl ?_
  refine r_sub [1, 2, 0, 3] (lv' := [(0, .ref (gA X 46)), (1, .int x1), (2, .int x2_2), (3, .int x3)]) rfl ?_
  exact t_Mo_games_49 C hR hk13 x1 x2_2 x3 σ_1 h
set_option maxHeartbeats 4000000 in
set_option maxRecDepth 100000 in
theorem t_Mo_games_13 {X : gX} {r : (Int32 × gS)} (C : gC X b_Mo_games_c R_Mo 4 2 48) (hR : ∀ pc lv, decode b_Mo_games_c pc = .ok (.ireturn, 1) → G X pc lv [.int r.1] r.2) {k13 : Int32 × Int32 × Int32 × gS → Option (Int32 × gS)}  (hk13 : ∀ x, k13 x = some r → G X 13 [(0, .ref (gA X 46)), (1, .int x.1), (2, .int x.2.1), (3, .int x.2.2.1)] [] x.2.2.2) (x1 : Int32) (x2 : Int32) (x3 : Int32) (σ : gS) (h : b_Mo_games_13 k13 x1 x2 x3 σ = some r) : G X 13 [(0, .ref (gA X 46)), (1, .int x1), (2, .int x2), (3, .int x3)] [] σ := by
  unfold b_Mo_games_13 at h
  refine r_iload_n C 3 d_Mo_games_13 rfl rfl ?_
  refine r_aload_n C 0 d_Mo_games_14 rfl rfl ?_
  refine q_Mo_71 C d_Mo_games_15 ?_
  refine r_icmp_ge C (tgt := 55) d_Mo_games_18 (by decide) (fun hc_1 => ?_) (fun hc_1 => ?_)
  · rw [if_pos hc_1] at h
    refine r_iload_n C 2 d_Mo_games_55 rfl rfl ?_
    cases h
    exact hR _ _ d_Mo_games_56
  · rw [if_neg hc_1] at h
    refine r_aload_n C 0 d_Mo_games_21 rfl rfl ?_
    refine r_iload_n C 3 d_Mo_games_22 rfl rfl ?_
    obtain ⟨r_2, er_2, h⟩ := bind_some h
    refine r_callV C (As := [.int x3]) (rest := []) (st1 := [.int r_2]) (c_Mo_isGame X.1.2.1 σ x3 er_2) k_Mo_isGame m_513 (by decide) cel_Mo rfl rfl rfl rfl (Nat.le_of_ble_eq_true rfl) ⟨Nat.le_of_ble_eq_true rfl, Nat.le_of_ble_eq_true rfl⟩ d_Mo_games_23 rfl ?_
    refine r_if_eq C (tgt := 49) d_Mo_games_26 (by decide) (fun hc_3 => ?_) (fun hc_3 => ?_)
    · rw [if_pos hc_3] at h
      exact t_Mo_games_49 C hR hk13 x1 x2 x3 σ h
    · rw [if_neg hc_3] at h
      refine r_aload_n C 0 d_Mo_games_29 rfl rfl ?_
      refine r_iload_n C 2 d_Mo_games_30 rfl rfl ?_
      refine r_iload_n C 1 d_Mo_games_31 rfl rfl ?_
      refine r_icmp_ne C (tgt := 39) d_Mo_games_32 (by decide) (fun hc_4 => ?_) (fun hc_4 => ?_)
      · rw [if_neg hc_4] at h
        refine r_aload_n C 0 d_Mo_games_39 rfl rfl ?_
        refine q_Mo_173 C d_Mo_games_40 ?_
        exact t_Mo_games_43 C hR hk13 x1 x2 x3 (gI σ 46 20) σ h
      · rw [if_pos hc_4] at h
        refine r_iload_n C 3 d_Mo_games_35 rfl rfl ?_
        refine r_goto C (tgt := 43) d_Mo_games_36 (by decide) ?_
        exact t_Mo_games_43 C hR hk13 x1 x2 x3 x3 σ h
set_option maxHeartbeats 4000000 in
set_option maxRecDepth 100000 in
theorem u_Mo_games_13 {X : gX} {r : (Int32 × gS)} (C : gC X b_Mo_games_c R_Mo 4 2 48) (hR : ∀ pc lv, decode b_Mo_games_c pc = .ok (.ireturn, 1) → G X pc lv [.int r.1] r.2)  (x : Int32 × Int32 × Int32 × gS) (h : l_Mo_games_13 x = some r) : G X 13 [(0, .ref (gA X 46)), (1, .int x.1), (2, .int x.2.1), (3, .int x.2.2.1)] [] x.2.2.2 :=
  lpF_ind (P := fun x => G X 13 [(0, .ref (gA X 46)), (1, .int x.1), (2, .int x.2.1), (3, .int x.2.2.1)] [] x.2.2.2) (fun k hk x h => t_Mo_games_13 C hR hk x.1 x.2.1 x.2.2.1 x.2.2.2 h) gF x h
set_option maxHeartbeats 4000000 in
set_option maxRecDepth 100000 in
theorem t_Mo_games_0 {X : gX} {r : (Int32 × gS)} (C : gC X b_Mo_games_c R_Mo 4 2 48) (hR : ∀ pc lv, decode b_Mo_games_c pc = .ok (.ireturn, 1) → G X pc lv [.int r.1] r.2) (x1 : Int32) (σ : gS) (h : b_Mo_games_0 x1 σ = some r) : G X 0 [(0, .ref (gA X 46)), (1, .int x1)] [] σ := by
  unfold b_Mo_games_0 at h
  refine r_aload_n C 0 d_Mo_games_0 rfl rfl ?_
  obtain ⟨r_1, er_1, h⟩ := bind_some h
  refine r_callV C (As := []) (rest := []) (st1 := []) (c_Mo_findTree X.1.2.1 σ  er_1) k_Mo_findTree m_442 (by decide) cel_Mo rfl rfl rfl rfl (Nat.le_of_ble_eq_true rfl) ⟨Nat.le_of_ble_eq_true rfl, Nat.le_of_ble_eq_true rfl⟩ d_Mo_games_1 rfl ?_
  refine r_iconst C (v := 0) d_Mo_games_4 (by decide) ?_
  refine r_istore_n C (lv' := [(2, .int 0), (0, .ref (gA X 46)), (1, .int x1)]) d_Mo_games_5 rfl (by decide) rfl rfl ?_
  refine r_aload_n C 1 d_Mo_games_6 rfl rfl ?_
  refine r_iconst C (v := (-1)) d_Mo_games_7 (by decide) ?_
  obtain ⟨σ_2, eσ_2, h⟩ := bnd_some h
  refine p_Mo_173 C eσ_2 d_Mo_games_8 ?_
  refine r_iconst C (v := 0) d_Mo_games_11 (by decide) ?_
  refine r_istore_n C (lv' := [(3, .int 0), (2, .int 0), (0, .ref (gA X 46)), (1, .int x1)]) d_Mo_games_12 rfl (by decide) rfl rfl ?_
  refine r_sub [2, 3, 1, 0] (lv' := [(0, .ref (gA X 46)), (1, .int x1), (2, .int 0), (3, .int 0)]) rfl ?_
  exact u_Mo_games_13 C hR  (x1, 0, 0, σ_2) h
set_option maxHeartbeats 4000000 in
set_option maxRecDepth 100000 in
theorem c_Mo_games (l : Launch) (σ : gS) (x1 : Int32) {r : (Int32 × gS)} (h : f_Mo_games σ x1 = some r) : gMet l y_Mo_games b_Mo_games_c 4 (some .int) 2 48 (fun a => [.ref (a 46), .int x1]) σ (some (.int r.1)) r.2 := by
  refine gMet_i (by decide +kernel) (fun a => Nat.le_of_ble_eq_true rfl) (fun X _ C hR => ?_)
  refine r_sub [0, 1] (lv' := [(0, .ref (gA X 46)), (1, .int x1)]) rfl ?_
  exact t_Mo_games_0 C hR x1 σ h
theorem d_Mo_within_0 : decode b_Mo_within_c 0 = .ok (.aload_n 0, 1) := by decide +kernel
theorem d_Mo_within_1 : decode b_Mo_within_c 1 = .ok (.getfield 71, 3) := by decide +kernel
theorem d_Mo_within_4 : decode b_Mo_within_c 4 = .ok (.ifCond .ne 6, 3) := by decide +kernel
theorem d_Mo_within_7 : decode b_Mo_within_c 7 = .ok (.ldc 134, 2) := by decide +kernel
theorem d_Mo_within_9 : decode b_Mo_within_c 9 = .ok (.ireturn, 1) := by decide +kernel
theorem d_Mo_within_10 : decode b_Mo_within_c 10 = .ok (.aload_n 0, 1) := by decide +kernel
theorem d_Mo_within_11 : decode b_Mo_within_c 11 = .ok (.iload_n 1, 1) := by decide +kernel
theorem d_Mo_within_12 : decode b_Mo_within_c 12 = .ok (.invokevirtual 176, 3) := by decide +kernel
theorem d_Mo_within_15 : decode b_Mo_within_c 15 = .ok (.pop, 1) := by decide +kernel
theorem d_Mo_within_16 : decode b_Mo_within_c 16 = .ok (.aload_n 0, 1) := by decide +kernel
theorem d_Mo_within_17 : decode b_Mo_within_c 17 = .ok (.getfield 173, 3) := by decide +kernel
theorem d_Mo_within_20 : decode b_Mo_within_c 20 = .ok (.ireturn, 1) := by decide +kernel
/-! GameRowsModel.within(I)I -/
set_option maxHeartbeats 4000000 in
set_option maxRecDepth 100000 in
theorem t_Mo_within_0 {X : gX} {r : (Int32 × gS)} (C : gC X b_Mo_within_c R_Mo 2 3 71) (hR : ∀ pc lv, decode b_Mo_within_c pc = .ok (.ireturn, 1) → G X pc lv [.int r.1] r.2) (x1 : Int32) (σ : gS) (h : b_Mo_within_0 x1 σ = some r) : G X 0 [(0, .ref (gA X 46)), (1, .int x1)] [] σ := by
  unfold b_Mo_within_0 at h
  refine r_aload_n C 0 d_Mo_within_0 rfl rfl ?_
  refine q_Mo_71 C d_Mo_within_1 ?_
  refine r_if_ne C (tgt := 10) d_Mo_within_4 (by decide) (fun hc_1 => ?_) (fun hc_1 => ?_)
  · rw [if_neg hc_1] at h
    refine r_aload_n C 0 d_Mo_within_10 rfl rfl ?_
    refine r_iload_n C 1 d_Mo_within_11 rfl rfl ?_
    obtain ⟨r_2, er_2, h⟩ := bind_some h
    refine r_callV C (As := [.int x1]) (rest := []) (st1 := [.int r_2.1]) (c_Mo_games X.1.2.1 σ x1 er_2) k_Mo_games m_531 (by decide) cel_Mo rfl rfl rfl rfl (Nat.le_of_ble_eq_true rfl) ⟨Nat.le_of_ble_eq_true rfl, Nat.le_of_ble_eq_true rfl⟩ d_Mo_within_12 rfl ?_
    refine r_pop C d_Mo_within_15 rfl ?_
    refine r_aload_n C 0 d_Mo_within_16 rfl rfl ?_
    refine q_Mo_173 C d_Mo_within_17 ?_
    cases h
    exact hR _ _ d_Mo_within_20
  · rw [if_pos hc_1] at h
    refine r_ldc C (v := (-1000000)) m_491 d_Mo_within_7 ?_
    cases h
    exact hR _ _ d_Mo_within_9
set_option maxHeartbeats 4000000 in
set_option maxRecDepth 100000 in
theorem c_Mo_within (l : Launch) (σ : gS) (x1 : Int32) {r : (Int32 × gS)} (h : f_Mo_within σ x1 = some r) : gMet l y_Mo_within b_Mo_within_c 2 (some .int) 3 71 (fun a => [.ref (a 46), .int x1]) σ (some (.int r.1)) r.2 := by
  refine gMet_i (by decide +kernel) (fun a => Nat.le_of_ble_eq_true rfl) (fun X _ C hR => ?_)
  refine r_sub [0, 1] (lv' := [(0, .ref (gA X 46)), (1, .int x1)]) rfl ?_
  exact t_Mo_within_0 C hR x1 σ h
theorem d_Mo_allLeft_0 : decode b_Mo_allLeft_c 0 = .ok (.iconst 0, 1) := by decide +kernel
theorem d_Mo_allLeft_1 : decode b_Mo_allLeft_c 1 = .ok (.istore_n 1, 1) := by decide +kernel
theorem d_Mo_allLeft_2 : decode b_Mo_allLeft_c 2 = .ok (.iload_n 1, 1) := by decide +kernel
theorem d_Mo_allLeft_3 : decode b_Mo_allLeft_c 3 = .ok (.sipush 128, 3) := by decide +kernel
theorem d_Mo_allLeft_6 : decode b_Mo_allLeft_c 6 = .ok (.if_icmp .ge 23, 3) := by decide +kernel
theorem d_Mo_allLeft_9 : decode b_Mo_allLeft_c 9 = .ok (.aload_n 0, 1) := by decide +kernel
theorem d_Mo_allLeft_10 : decode b_Mo_allLeft_c 10 = .ok (.getfield 56, 3) := by decide +kernel
theorem d_Mo_allLeft_13 : decode b_Mo_allLeft_c 13 = .ok (.iload_n 1, 1) := by decide +kernel
theorem d_Mo_allLeft_14 : decode b_Mo_allLeft_c 14 = .ok (.iconst 1, 1) := by decide +kernel
theorem d_Mo_allLeft_15 : decode b_Mo_allLeft_c 15 = .ok (.bastore, 1) := by decide +kernel
theorem d_Mo_allLeft_16 : decode b_Mo_allLeft_c 16 = .ok (.aload_n 0, 1) := by decide +kernel
theorem d_Mo_allLeft_17 : decode b_Mo_allLeft_c 17 = .ok (.getfield 59, 3) := by decide +kernel
theorem d_Mo_allLeft_20 : decode b_Mo_allLeft_c 20 = .ok (.iload_n 1, 1) := by decide +kernel
theorem d_Mo_allLeft_21 : decode b_Mo_allLeft_c 21 = .ok (.iconst (-1), 1) := by decide +kernel
theorem d_Mo_allLeft_22 : decode b_Mo_allLeft_c 22 = .ok (.iastore, 1) := by decide +kernel
theorem d_Mo_allLeft_23 : decode b_Mo_allLeft_c 23 = .ok (.iinc 1 1, 3) := by decide +kernel
theorem d_Mo_allLeft_26 : decode b_Mo_allLeft_c 26 = .ok (.goto (-24), 3) := by decide +kernel
theorem d_Mo_allLeft_29 : decode b_Mo_allLeft_c 29 = .ok (.return_, 1) := by decide +kernel
/-! GameRowsModel.allLeft()V -/
set_option maxHeartbeats 4000000 in
set_option maxRecDepth 100000 in
theorem t_Mo_allLeft_2 {X : gX} {r : gS} (C : gC X b_Mo_allLeft_c R_Mo 2 0 0) (hR : ∀ pc lv, decode b_Mo_allLeft_c pc = .ok (.return_, 1) → G X pc lv [] r) {k2 : Int32 × gS → Option gS}  (hk2 : ∀ x, k2 x = some r → G X 2 [(0, .ref (gA X 46)), (1, .int x.1)] [] x.2) (x1 : Int32) (σ : gS) (h : b_Mo_allLeft_2 k2 x1 σ = some r) : G X 2 [(0, .ref (gA X 46)), (1, .int x1)] [] σ := by
  unfold b_Mo_allLeft_2 at h
  refine r_iload_n C 1 d_Mo_allLeft_2 rfl rfl ?_
  refine r_sipush C (v := 128) d_Mo_allLeft_3 (by decide) ?_
  refine r_icmp_ge C (tgt := 29) d_Mo_allLeft_6 (by decide) (fun hc_1 => ?_) (fun hc_1 => ?_)
  · rw [if_pos hc_1] at h
    cases h
    exact hR _ _ d_Mo_allLeft_29
  · rw [if_neg hc_1] at h
    refine r_aload_n C 0 d_Mo_allLeft_9 rfl rfl ?_
    refine q_Mo_56 C d_Mo_allLeft_10 ?_
    refine r_iload_n C 1 d_Mo_allLeft_13 rfl rfl ?_
    refine r_iconst C (v := 1) d_Mo_allLeft_14 (by decide) ?_
    obtain ⟨hi_2, h⟩ := ck_some h
    obtain ⟨hb_4, h⟩ := ck_some h
    obtain ⟨σ_3, eσ_3, h⟩ := bnd_some h
    refine r_zast C hi_2 hb_4 eσ_3 d_Mo_allLeft_15 ?_
    refine r_aload_n C 0 d_Mo_allLeft_16 rfl rfl ?_
    refine q_Mo_59 C d_Mo_allLeft_17 ?_
    refine r_iload_n C 1 d_Mo_allLeft_20 rfl rfl ?_
    refine r_iconst C (v := (-1)) d_Mo_allLeft_21 (by decide) ?_
    obtain ⟨hi_5, h⟩ := ck_some h
    obtain ⟨σ_6, eσ_6, h⟩ := bnd_some h
    refine r_iast C hi_5 eσ_6 d_Mo_allLeft_22 ?_
    obtain ⟨x1_7, ex1_7, h⟩ := bnd_some h
    refine r_iinc C 1 (lv' := [(1, .int x1_7), (0, .ref (gA X 46))]) d_Mo_allLeft_23 rfl (by rw [ex1_7]; rfl) (by decide) rfl ?_
    refine r_goto C (tgt := 2) d_Mo_allLeft_26 (by decide) ?_
    refine r_sub [1, 0] (lv' := [(0, .ref (gA X 46)), (1, .int x1_7)]) rfl ?_
    exact hk2 _ h
set_option maxHeartbeats 4000000 in
set_option maxRecDepth 100000 in
theorem u_Mo_allLeft_2 {X : gX} {r : gS} (C : gC X b_Mo_allLeft_c R_Mo 2 0 0) (hR : ∀ pc lv, decode b_Mo_allLeft_c pc = .ok (.return_, 1) → G X pc lv [] r)  (x : Int32 × gS) (h : l_Mo_allLeft_2 x = some r) : G X 2 [(0, .ref (gA X 46)), (1, .int x.1)] [] x.2 :=
  lpF_ind (P := fun x => G X 2 [(0, .ref (gA X 46)), (1, .int x.1)] [] x.2) (fun k hk x h => t_Mo_allLeft_2 C hR hk x.1 x.2 h) gF x h
set_option maxHeartbeats 4000000 in
set_option maxRecDepth 100000 in
theorem t_Mo_allLeft_0 {X : gX} {r : gS} (C : gC X b_Mo_allLeft_c R_Mo 2 0 0) (hR : ∀ pc lv, decode b_Mo_allLeft_c pc = .ok (.return_, 1) → G X pc lv [] r) (σ : gS) (h : b_Mo_allLeft_0 σ = some r) : G X 0 [(0, .ref (gA X 46))] [] σ := by
  unfold b_Mo_allLeft_0 at h
  refine r_iconst C (v := 0) d_Mo_allLeft_0 (by decide) ?_
  refine r_istore_n C (lv' := [(1, .int 0), (0, .ref (gA X 46))]) d_Mo_allLeft_1 rfl (by decide) rfl rfl ?_
  refine r_sub [1, 0] (lv' := [(0, .ref (gA X 46)), (1, .int 0)]) rfl ?_
  exact u_Mo_allLeft_2 C hR  (0, σ) h
set_option maxHeartbeats 4000000 in
set_option maxRecDepth 100000 in
theorem c_Mo_allLeft (l : Launch) (σ : gS)  {r : gS} (h : f_Mo_allLeft σ = some r) : gMet l y_Mo_allLeft b_Mo_allLeft_c 2 (none) 0 0 (fun a => [.ref (a 46)]) σ (none) r := by
  refine gMet_v (by decide +kernel) (fun a => Nat.le_of_ble_eq_true rfl) (fun X _ C hR => ?_)
  refine r_sub [0] (lv' := [(0, .ref (gA X 46))]) rfl ?_
  exact t_Mo_allLeft_0 C hR σ h
theorem d_Mo_isLeft_0 : decode b_Mo_isLeft_c 0 = .ok (.aload_n 0, 1) := by decide +kernel
theorem d_Mo_isLeft_1 : decode b_Mo_isLeft_c 1 = .ok (.getfield 56, 3) := by decide +kernel
theorem d_Mo_isLeft_4 : decode b_Mo_isLeft_c 4 = .ok (.bipush 64, 2) := by decide +kernel
theorem d_Mo_isLeft_6 : decode b_Mo_isLeft_c 6 = .ok (.iload_n 1, 1) := by decide +kernel
theorem d_Mo_isLeft_7 : decode b_Mo_isLeft_c 7 = .ok (.imul, 1) := by decide +kernel
theorem d_Mo_isLeft_8 : decode b_Mo_isLeft_c 8 = .ok (.iload_n 2, 1) := by decide +kernel
theorem d_Mo_isLeft_9 : decode b_Mo_isLeft_c 9 = .ok (.iadd, 1) := by decide +kernel
theorem d_Mo_isLeft_10 : decode b_Mo_isLeft_c 10 = .ok (.baload, 1) := by decide +kernel
theorem d_Mo_isLeft_11 : decode b_Mo_isLeft_c 11 = .ok (.ireturn, 1) := by decide +kernel
/-! GameRowsModel.isLeft(II)Z -/
set_option maxHeartbeats 4000000 in
set_option maxRecDepth 100000 in
theorem t_Mo_isLeft_0 {X : gX} {r : Int32} {σ : gS} (C : gC X b_Mo_isLeft_c R_Mo 3 0 0) (hR : ∀ pc lv, isB r = true → decode b_Mo_isLeft_c pc = .ok (.ireturn, 1) → G X pc lv [.int r] σ) (x1 : Int32) (x2 : Int32) (h : b_Mo_isLeft_0 σ x1 x2 = some r) : G X 0 [(0, .ref (gA X 46)), (1, .int x1), (2, .int x2)] [] σ := by
  unfold b_Mo_isLeft_0 at h
  refine r_aload_n C 0 d_Mo_isLeft_0 rfl rfl ?_
  refine q_Mo_56 C d_Mo_isLeft_1 ?_
  refine r_bipush C (v := 64) d_Mo_isLeft_4 (by decide) ?_
  refine r_iload_n C 1 d_Mo_isLeft_6 rfl rfl ?_
  refine r_imul C d_Mo_isLeft_7 ?_
  refine r_iload_n C 2 d_Mo_isLeft_8 rfl rfl ?_
  refine r_iadd C d_Mo_isLeft_9 ?_
  obtain ⟨hi_1, h⟩ := ck_some h
  refine r_zald C hi_1 d_Mo_isLeft_10 ?_
  obtain ⟨hB, h⟩ := ck_some h
  cases h
  exact hR _ _ hB d_Mo_isLeft_11
set_option maxHeartbeats 4000000 in
set_option maxRecDepth 100000 in
theorem c_Mo_isLeft (l : Launch) (σ : gS) (x1 : Int32) (x2 : Int32) {r : Int32} (h : f_Mo_isLeft σ x1 x2 = some r) : gMet l y_Mo_isLeft b_Mo_isLeft_c 3 (some .boolean) 0 0 (fun a => [.ref (a 46), .int x1, .int x2]) σ (some (.int r)) σ := by
  refine gMet_z (by decide +kernel) (fun a => Nat.le_of_ble_eq_true rfl) (fun X _ C hR => ?_)
  refine r_sub [0, 1, 2] (lv' := [(0, .ref (gA X 46)), (1, .int x1), (2, .int x2)]) rfl ?_
  exact t_Mo_isLeft_0 C hR x1 x2 h
theorem d_Mo_isWorse_0 : decode b_Mo_isWorse_c 0 = .ok (.iconst 1, 1) := by decide +kernel
theorem d_Mo_isWorse_1 : decode b_Mo_isWorse_c 1 = .ok (.istore 4, 2) := by decide +kernel
theorem d_Mo_isWorse_3 : decode b_Mo_isWorse_c 3 = .ok (.iconst 0, 1) := by decide +kernel
theorem d_Mo_isWorse_4 : decode b_Mo_isWorse_c 4 = .ok (.istore 5, 2) := by decide +kernel
theorem d_Mo_isWorse_6 : decode b_Mo_isWorse_c 6 = .ok (.iload 5, 2) := by decide +kernel
theorem d_Mo_isWorse_8 : decode b_Mo_isWorse_c 8 = .ok (.aload_n 0, 1) := by decide +kernel
theorem d_Mo_isWorse_9 : decode b_Mo_isWorse_c 9 = .ok (.iconst 1, 1) := by decide +kernel
theorem d_Mo_isWorse_10 : decode b_Mo_isWorse_c 10 = .ok (.iload_n 1, 1) := by decide +kernel
theorem d_Mo_isWorse_11 : decode b_Mo_isWorse_c 11 = .ok (.isub, 1) := by decide +kernel
theorem d_Mo_isWorse_12 : decode b_Mo_isWorse_c 12 = .ok (.invokevirtual 146, 3) := by decide +kernel
theorem d_Mo_isWorse_15 : decode b_Mo_isWorse_c 15 = .ok (.if_icmp .ge 52, 3) := by decide +kernel
theorem d_Mo_isWorse_18 : decode b_Mo_isWorse_c 18 = .ok (.iload 4, 2) := by decide +kernel
theorem d_Mo_isWorse_20 : decode b_Mo_isWorse_c 20 = .ok (.ifCond .eq 47, 3) := by decide +kernel
theorem d_Mo_isWorse_23 : decode b_Mo_isWorse_c 23 = .ok (.aload_n 0, 1) := by decide +kernel
theorem d_Mo_isWorse_24 : decode b_Mo_isWorse_c 24 = .ok (.iconst 1, 1) := by decide +kernel
theorem d_Mo_isWorse_25 : decode b_Mo_isWorse_c 25 = .ok (.iload_n 1, 1) := by decide +kernel
theorem d_Mo_isWorse_26 : decode b_Mo_isWorse_c 26 = .ok (.isub, 1) := by decide +kernel
theorem d_Mo_isWorse_27 : decode b_Mo_isWorse_c 27 = .ok (.iload 5, 2) := by decide +kernel
theorem d_Mo_isWorse_29 : decode b_Mo_isWorse_c 29 = .ok (.invokevirtual 179, 3) := by decide +kernel
theorem d_Mo_isWorse_32 : decode b_Mo_isWorse_c 32 = .ok (.ifCond .eq 22, 3) := by decide +kernel
theorem d_Mo_isWorse_35 : decode b_Mo_isWorse_c 35 = .ok (.aload_n 0, 1) := by decide +kernel
theorem d_Mo_isWorse_36 : decode b_Mo_isWorse_c 36 = .ok (.iload_n 1, 1) := by decide +kernel
theorem d_Mo_isWorse_37 : decode b_Mo_isWorse_c 37 = .ok (.iload_n 2, 1) := by decide +kernel
theorem d_Mo_isWorse_38 : decode b_Mo_isWorse_c 38 = .ok (.iload 5, 2) := by decide +kernel
theorem d_Mo_isWorse_40 : decode b_Mo_isWorse_c 40 = .ok (.invokevirtual 143, 3) := by decide +kernel
theorem d_Mo_isWorse_43 : decode b_Mo_isWorse_c 43 = .ok (.aload_n 0, 1) := by decide +kernel
theorem d_Mo_isWorse_44 : decode b_Mo_isWorse_c 44 = .ok (.iload_n 1, 1) := by decide +kernel
theorem d_Mo_isWorse_45 : decode b_Mo_isWorse_c 45 = .ok (.iload_n 3, 1) := by decide +kernel
theorem d_Mo_isWorse_46 : decode b_Mo_isWorse_c 46 = .ok (.iload 5, 2) := by decide +kernel
theorem d_Mo_isWorse_48 : decode b_Mo_isWorse_c 48 = .ok (.invokevirtual 143, 3) := by decide +kernel
theorem d_Mo_isWorse_51 : decode b_Mo_isWorse_c 51 = .ok (.if_icmp .ge 7, 3) := by decide +kernel
theorem d_Mo_isWorse_54 : decode b_Mo_isWorse_c 54 = .ok (.iconst 1, 1) := by decide +kernel
theorem d_Mo_isWorse_55 : decode b_Mo_isWorse_c 55 = .ok (.goto 4, 3) := by decide +kernel
theorem d_Mo_isWorse_58 : decode b_Mo_isWorse_c 58 = .ok (.iconst 0, 1) := by decide +kernel
theorem d_Mo_isWorse_59 : decode b_Mo_isWorse_c 59 = .ok (.istore 4, 2) := by decide +kernel
theorem d_Mo_isWorse_61 : decode b_Mo_isWorse_c 61 = .ok (.iinc 5 1, 3) := by decide +kernel
theorem d_Mo_isWorse_64 : decode b_Mo_isWorse_c 64 = .ok (.goto (-58), 3) := by decide +kernel
theorem d_Mo_isWorse_67 : decode b_Mo_isWorse_c 67 = .ok (.iload 4, 2) := by decide +kernel
theorem d_Mo_isWorse_69 : decode b_Mo_isWorse_c 69 = .ok (.ireturn, 1) := by decide +kernel
/-! GameRowsModel.isWorse(III)Z -/
set_option maxHeartbeats 4000000 in
set_option maxRecDepth 100000 in
theorem t_Mo_isWorse_59 {X : gX} {r : Int32} {σ : gS} (C : gC X b_Mo_isWorse_c R_Mo 6 1 23) (hR : ∀ pc lv, isB r = true → decode b_Mo_isWorse_c pc = .ok (.ireturn, 1) → G X pc lv [.int r] σ) {k6 : Int32 × Int32 × Int32 × Int32 × Int32 → Option Int32}  (hk6 : ∀ x, k6 x = some r → G X 6 [(0, .ref (gA X 46)), (1, .int x.1), (2, .int x.2.1), (3, .int x.2.2.1), (4, .int x.2.2.2.1), (5, .int x.2.2.2.2)] [] σ) (x1 : Int32) (x2 : Int32) (x3 : Int32) (x5 : Int32) (y0 : Int32) (h : b_Mo_isWorse_59 σ k6 x1 x2 x3 x5 y0 = some r) : G X 59 [(0, .ref (gA X 46)), (1, .int x1), (2, .int x2), (3, .int x3), (5, .int x5)] [.int y0] σ := by
  unfold b_Mo_isWorse_59 at h
  refine r_istore C (lv' := [(4, .int y0), (0, .ref (gA X 46)), (1, .int x1), (2, .int x2), (3, .int x3), (5, .int x5)]) d_Mo_isWorse_59 (by decide) rfl rfl ?_
  obtain ⟨x5_1, ex5_1, h⟩ := bnd_some h
  refine r_iinc C 5 (lv' := [(5, .int x5_1), (4, .int y0), (0, .ref (gA X 46)), (1, .int x1), (2, .int x2), (3, .int x3)]) d_Mo_isWorse_61 rfl (by rw [ex5_1]; rfl) (by decide) rfl ?_
  refine r_goto C (tgt := 6) d_Mo_isWorse_64 (by decide) ?_
  refine r_sub [2, 3, 4, 5, 1, 0] (lv' := [(0, .ref (gA X 46)), (1, .int x1), (2, .int x2), (3, .int x3), (4, .int y0), (5, .int x5_1)]) rfl ?_
  exact hk6 _ h
set_option maxHeartbeats 4000000 in
set_option maxRecDepth 100000 in
theorem t_Mo_isWorse_54 {X : gX} {r : Int32} {σ : gS} (C : gC X b_Mo_isWorse_c R_Mo 6 1 23) (hR : ∀ pc lv, isB r = true → decode b_Mo_isWorse_c pc = .ok (.ireturn, 1) → G X pc lv [.int r] σ) {k6 : Int32 × Int32 × Int32 × Int32 × Int32 → Option Int32}  (hk6 : ∀ x, k6 x = some r → G X 6 [(0, .ref (gA X 46)), (1, .int x.1), (2, .int x.2.1), (3, .int x.2.2.1), (4, .int x.2.2.2.1), (5, .int x.2.2.2.2)] [] σ) (x1 : Int32) (x2 : Int32) (x3 : Int32) (x5 : Int32) (h : b_Mo_isWorse_54 σ k6 x1 x2 x3 x5 = some r) : G X 54 [(0, .ref (gA X 46)), (1, .int x1), (2, .int x2), (3, .int x3), (5, .int x5)] [] σ := by
  unfold b_Mo_isWorse_54 at h
  refine r_iconst C (v := 1) d_Mo_isWorse_54 (by decide) ?_
  refine r_goto C (tgt := 59) d_Mo_isWorse_55 (by decide) ?_
  exact t_Mo_isWorse_59 C hR hk6 x1 x2 x3 x5 1 h
set_option maxHeartbeats 4000000 in
set_option maxRecDepth 100000 in
theorem t_Mo_isWorse_6 {X : gX} {r : Int32} {σ : gS} (C : gC X b_Mo_isWorse_c R_Mo 6 1 23) (hR : ∀ pc lv, isB r = true → decode b_Mo_isWorse_c pc = .ok (.ireturn, 1) → G X pc lv [.int r] σ) {k6 : Int32 × Int32 × Int32 × Int32 × Int32 → Option Int32}  (hk6 : ∀ x, k6 x = some r → G X 6 [(0, .ref (gA X 46)), (1, .int x.1), (2, .int x.2.1), (3, .int x.2.2.1), (4, .int x.2.2.2.1), (5, .int x.2.2.2.2)] [] σ) (x1 : Int32) (x2 : Int32) (x3 : Int32) (x4 : Int32) (x5 : Int32) (h : b_Mo_isWorse_6 σ k6 x1 x2 x3 x4 x5 = some r) : G X 6 [(0, .ref (gA X 46)), (1, .int x1), (2, .int x2), (3, .int x3), (4, .int x4), (5, .int x5)] [] σ := by
  unfold b_Mo_isWorse_6 at h
  refine r_iload C 5 d_Mo_isWorse_6 rfl ?_
  refine r_aload_n C 0 d_Mo_isWorse_8 rfl rfl ?_
  refine r_iconst C (v := 1) d_Mo_isWorse_9 (by decide) ?_
  refine r_iload_n C 1 d_Mo_isWorse_10 rfl rfl ?_
  refine r_isub C d_Mo_isWorse_11 ?_
  obtain ⟨r_1, er_1, h⟩ := bind_some h
  refine r_callV C (As := [.int (1 - x1)]) (rest := [.int x5]) (st1 := [.int r_1, .int x5]) (c_Mo_many X.1.2.1 σ (1 - x1) er_1) k_Mo_many m_500 (by decide) cel_Mo rfl rfl rfl rfl (Nat.le_of_ble_eq_true rfl) ⟨Nat.le_of_ble_eq_true rfl, Nat.le_of_ble_eq_true rfl⟩ d_Mo_isWorse_12 rfl ?_
  refine r_icmp_ge C (tgt := 67) d_Mo_isWorse_15 (by decide) (fun hc_2 => ?_) (fun hc_2 => ?_)
  · rw [if_pos hc_2] at h
    refine r_iload C 4 d_Mo_isWorse_67 rfl ?_
    obtain ⟨hB, h⟩ := ck_some h
    cases h
    exact hR _ _ hB d_Mo_isWorse_69
  · rw [if_neg hc_2] at h
    refine r_iload C 4 d_Mo_isWorse_18 rfl ?_
    refine r_if_eq C (tgt := 67) d_Mo_isWorse_20 (by decide) (fun hc_3 => ?_) (fun hc_3 => ?_)
    · rw [if_pos hc_3] at h
      refine r_iload C 4 d_Mo_isWorse_67 rfl ?_
      obtain ⟨hB, h⟩ := ck_some h
      cases h
      exact hR _ _ hB d_Mo_isWorse_69
    · rw [if_neg hc_3] at h
      refine r_aload_n C 0 d_Mo_isWorse_23 rfl rfl ?_
      refine r_iconst C (v := 1) d_Mo_isWorse_24 (by decide) ?_
      refine r_iload_n C 1 d_Mo_isWorse_25 rfl rfl ?_
      refine r_isub C d_Mo_isWorse_26 ?_
      refine r_iload C 5 d_Mo_isWorse_27 rfl ?_
      obtain ⟨r_4, er_4, h⟩ := bind_some h
      refine r_callV C (As := [.int (1 - x1), .int x5]) (rest := []) (st1 := [.int r_4]) (c_Mo_isLeft X.1.2.1 σ (1 - x1) x5 er_4) k_Mo_isLeft m_537 (by decide) cel_Mo rfl rfl rfl rfl (Nat.le_of_ble_eq_true rfl) ⟨Nat.le_of_ble_eq_true rfl, Nat.le_of_ble_eq_true rfl⟩ d_Mo_isWorse_29 rfl ?_
      refine r_if_eq C (tgt := 54) d_Mo_isWorse_32 (by decide) (fun hc_5 => ?_) (fun hc_5 => ?_)
      · rw [if_pos hc_5] at h
        refine r_sub [0, 1, 2, 3, 5] (lv' := [(0, .ref (gA X 46)), (1, .int x1), (2, .int x2), (3, .int x3), (5, .int x5)]) rfl ?_
        exact t_Mo_isWorse_54 C hR hk6 x1 x2 x3 x5 h
      · rw [if_neg hc_5] at h
        refine r_aload_n C 0 d_Mo_isWorse_35 rfl rfl ?_
        refine r_iload_n C 1 d_Mo_isWorse_36 rfl rfl ?_
        refine r_iload_n C 2 d_Mo_isWorse_37 rfl rfl ?_
        refine r_iload C 5 d_Mo_isWorse_38 rfl ?_
        obtain ⟨r_6, er_6, h⟩ := bind_some h
        refine r_callV C (As := [.int x1, .int x2, .int x5]) (rest := []) (st1 := [.int r_6]) (c_Mo_worthTo X.1.2.1 σ x1 x2 x5 er_6) k_Mo_worthTo m_487 (by decide) cel_Mo rfl rfl rfl rfl (Nat.le_of_ble_eq_true rfl) ⟨Nat.le_of_ble_eq_true rfl, Nat.le_of_ble_eq_true rfl⟩ d_Mo_isWorse_40 rfl ?_
        refine r_aload_n C 0 d_Mo_isWorse_43 rfl rfl ?_
        refine r_iload_n C 1 d_Mo_isWorse_44 rfl rfl ?_
        refine r_iload_n C 3 d_Mo_isWorse_45 rfl rfl ?_
        refine r_iload C 5 d_Mo_isWorse_46 rfl ?_
        obtain ⟨r_7, er_7, h⟩ := bind_some h
        refine r_callV C (As := [.int x1, .int x3, .int x5]) (rest := [.int r_6]) (st1 := [.int r_7, .int r_6]) (c_Mo_worthTo X.1.2.1 σ x1 x3 x5 er_7) k_Mo_worthTo m_487 (by decide) cel_Mo rfl rfl rfl rfl (Nat.le_of_ble_eq_true rfl) ⟨Nat.le_of_ble_eq_true rfl, Nat.le_of_ble_eq_true rfl⟩ d_Mo_isWorse_48 rfl ?_
        refine r_icmp_ge C (tgt := 58) d_Mo_isWorse_51 (by decide) (fun hc_8 => ?_) (fun hc_8 => ?_)
        · rw [if_pos hc_8] at h
          refine r_iconst C (v := 0) d_Mo_isWorse_58 (by decide) ?_
          refine r_sub [0, 1, 2, 3, 5] (lv' := [(0, .ref (gA X 46)), (1, .int x1), (2, .int x2), (3, .int x3), (5, .int x5)]) rfl ?_
          exact t_Mo_isWorse_59 C hR hk6 x1 x2 x3 x5 0 h
        · rw [if_neg hc_8] at h
          refine r_sub [0, 1, 2, 3, 5] (lv' := [(0, .ref (gA X 46)), (1, .int x1), (2, .int x2), (3, .int x3), (5, .int x5)]) rfl ?_
          exact t_Mo_isWorse_54 C hR hk6 x1 x2 x3 x5 h
set_option maxHeartbeats 4000000 in
set_option maxRecDepth 100000 in
theorem u_Mo_isWorse_6 {X : gX} {r : Int32} {σ : gS} (C : gC X b_Mo_isWorse_c R_Mo 6 1 23) (hR : ∀ pc lv, isB r = true → decode b_Mo_isWorse_c pc = .ok (.ireturn, 1) → G X pc lv [.int r] σ)  (x : Int32 × Int32 × Int32 × Int32 × Int32) (h : l_Mo_isWorse_6 σ x = some r) : G X 6 [(0, .ref (gA X 46)), (1, .int x.1), (2, .int x.2.1), (3, .int x.2.2.1), (4, .int x.2.2.2.1), (5, .int x.2.2.2.2)] [] σ :=
  lpF_ind (P := fun x => G X 6 [(0, .ref (gA X 46)), (1, .int x.1), (2, .int x.2.1), (3, .int x.2.2.1), (4, .int x.2.2.2.1), (5, .int x.2.2.2.2)] [] σ) (fun k hk x h => t_Mo_isWorse_6 C hR hk x.1 x.2.1 x.2.2.1 x.2.2.2.1 x.2.2.2.2 h) gF x h
set_option maxHeartbeats 4000000 in
set_option maxRecDepth 100000 in
theorem t_Mo_isWorse_0 {X : gX} {r : Int32} {σ : gS} (C : gC X b_Mo_isWorse_c R_Mo 6 1 23) (hR : ∀ pc lv, isB r = true → decode b_Mo_isWorse_c pc = .ok (.ireturn, 1) → G X pc lv [.int r] σ) (x1 : Int32) (x2 : Int32) (x3 : Int32) (h : b_Mo_isWorse_0 σ x1 x2 x3 = some r) : G X 0 [(0, .ref (gA X 46)), (1, .int x1), (2, .int x2), (3, .int x3)] [] σ := by
  unfold b_Mo_isWorse_0 at h
  refine r_iconst C (v := 1) d_Mo_isWorse_0 (by decide) ?_
  refine r_istore C (lv' := [(4, .int 1), (0, .ref (gA X 46)), (1, .int x1), (2, .int x2), (3, .int x3)]) d_Mo_isWorse_1 (by decide) rfl rfl ?_
  refine r_iconst C (v := 0) d_Mo_isWorse_3 (by decide) ?_
  refine r_istore C (lv' := [(5, .int 0), (4, .int 1), (0, .ref (gA X 46)), (1, .int x1), (2, .int x2), (3, .int x3)]) d_Mo_isWorse_4 (by decide) rfl rfl ?_
  refine r_sub [2, 3, 4, 5, 1, 0] (lv' := [(0, .ref (gA X 46)), (1, .int x1), (2, .int x2), (3, .int x3), (4, .int 1), (5, .int 0)]) rfl ?_
  exact u_Mo_isWorse_6 C hR  (x1, x2, x3, 1, 0) h
set_option maxHeartbeats 4000000 in
set_option maxRecDepth 100000 in
theorem c_Mo_isWorse (l : Launch) (σ : gS) (x1 : Int32) (x2 : Int32) (x3 : Int32) {r : Int32} (h : f_Mo_isWorse σ x1 x2 x3 = some r) : gMet l y_Mo_isWorse b_Mo_isWorse_c 6 (some .boolean) 1 23 (fun a => [.ref (a 46), .int x1, .int x2, .int x3]) σ (some (.int r)) σ := by
  refine gMet_z (by decide +kernel) (fun a => Nat.le_of_ble_eq_true rfl) (fun X _ C hR => ?_)
  refine r_sub [0, 1, 2, 3] (lv' := [(0, .ref (gA X 46)), (1, .int x1), (2, .int x2), (3, .int x3)]) rfl ?_
  exact t_Mo_isWorse_0 C hR x1 x2 x3 h
theorem d_Mo_isWeaker_0 : decode b_Mo_isWeaker_c 0 = .ok (.iconst 1, 1) := by decide +kernel
theorem d_Mo_isWeaker_1 : decode b_Mo_isWeaker_c 1 = .ok (.istore 4, 2) := by decide +kernel
theorem d_Mo_isWeaker_3 : decode b_Mo_isWeaker_c 3 = .ok (.iconst 0, 1) := by decide +kernel
theorem d_Mo_isWeaker_4 : decode b_Mo_isWeaker_c 4 = .ok (.istore 5, 2) := by decide +kernel
theorem d_Mo_isWeaker_6 : decode b_Mo_isWeaker_c 6 = .ok (.iconst 0, 1) := by decide +kernel
theorem d_Mo_isWeaker_7 : decode b_Mo_isWeaker_c 7 = .ok (.istore 6, 2) := by decide +kernel
theorem d_Mo_isWeaker_9 : decode b_Mo_isWeaker_c 9 = .ok (.iload 6, 2) := by decide +kernel
theorem d_Mo_isWeaker_11 : decode b_Mo_isWeaker_c 11 = .ok (.aload_n 0, 1) := by decide +kernel
theorem d_Mo_isWeaker_12 : decode b_Mo_isWeaker_c 12 = .ok (.iconst 1, 1) := by decide +kernel
theorem d_Mo_isWeaker_13 : decode b_Mo_isWeaker_c 13 = .ok (.iload_n 1, 1) := by decide +kernel
theorem d_Mo_isWeaker_14 : decode b_Mo_isWeaker_c 14 = .ok (.isub, 1) := by decide +kernel
theorem d_Mo_isWeaker_15 : decode b_Mo_isWeaker_c 15 = .ok (.invokevirtual 146, 3) := by decide +kernel
theorem d_Mo_isWeaker_18 : decode b_Mo_isWeaker_c 18 = .ok (.if_icmp .ge 71, 3) := by decide +kernel
theorem d_Mo_isWeaker_21 : decode b_Mo_isWeaker_c 21 = .ok (.iload 4, 2) := by decide +kernel
theorem d_Mo_isWeaker_23 : decode b_Mo_isWeaker_c 23 = .ok (.ifCond .eq 26, 3) := by decide +kernel
theorem d_Mo_isWeaker_26 : decode b_Mo_isWeaker_c 26 = .ok (.aload_n 0, 1) := by decide +kernel
theorem d_Mo_isWeaker_27 : decode b_Mo_isWeaker_c 27 = .ok (.iload_n 1, 1) := by decide +kernel
theorem d_Mo_isWeaker_28 : decode b_Mo_isWeaker_c 28 = .ok (.iload_n 2, 1) := by decide +kernel
theorem d_Mo_isWeaker_29 : decode b_Mo_isWeaker_c 29 = .ok (.iload 6, 2) := by decide +kernel
theorem d_Mo_isWeaker_31 : decode b_Mo_isWeaker_c 31 = .ok (.invokevirtual 143, 3) := by decide +kernel
theorem d_Mo_isWeaker_34 : decode b_Mo_isWeaker_c 34 = .ok (.aload_n 0, 1) := by decide +kernel
theorem d_Mo_isWeaker_35 : decode b_Mo_isWeaker_c 35 = .ok (.iload_n 1, 1) := by decide +kernel
theorem d_Mo_isWeaker_36 : decode b_Mo_isWeaker_c 36 = .ok (.iload_n 3, 1) := by decide +kernel
theorem d_Mo_isWeaker_37 : decode b_Mo_isWeaker_c 37 = .ok (.iload 6, 2) := by decide +kernel
theorem d_Mo_isWeaker_39 : decode b_Mo_isWeaker_c 39 = .ok (.invokevirtual 143, 3) := by decide +kernel
theorem d_Mo_isWeaker_42 : decode b_Mo_isWeaker_c 42 = .ok (.if_icmp .gt 7, 3) := by decide +kernel
theorem d_Mo_isWeaker_45 : decode b_Mo_isWeaker_c 45 = .ok (.iconst 1, 1) := by decide +kernel
theorem d_Mo_isWeaker_46 : decode b_Mo_isWeaker_c 46 = .ok (.goto 4, 3) := by decide +kernel
theorem d_Mo_isWeaker_49 : decode b_Mo_isWeaker_c 49 = .ok (.iconst 0, 1) := by decide +kernel
theorem d_Mo_isWeaker_50 : decode b_Mo_isWeaker_c 50 = .ok (.istore 4, 2) := by decide +kernel
theorem d_Mo_isWeaker_52 : decode b_Mo_isWeaker_c 52 = .ok (.iload 5, 2) := by decide +kernel
theorem d_Mo_isWeaker_54 : decode b_Mo_isWeaker_c 54 = .ok (.ifCond .ne 22, 3) := by decide +kernel
theorem d_Mo_isWeaker_57 : decode b_Mo_isWeaker_c 57 = .ok (.aload_n 0, 1) := by decide +kernel
theorem d_Mo_isWeaker_58 : decode b_Mo_isWeaker_c 58 = .ok (.iload_n 1, 1) := by decide +kernel
theorem d_Mo_isWeaker_59 : decode b_Mo_isWeaker_c 59 = .ok (.iload_n 2, 1) := by decide +kernel
theorem d_Mo_isWeaker_60 : decode b_Mo_isWeaker_c 60 = .ok (.iload 6, 2) := by decide +kernel
theorem d_Mo_isWeaker_62 : decode b_Mo_isWeaker_c 62 = .ok (.invokevirtual 143, 3) := by decide +kernel
theorem d_Mo_isWeaker_65 : decode b_Mo_isWeaker_c 65 = .ok (.aload_n 0, 1) := by decide +kernel
theorem d_Mo_isWeaker_66 : decode b_Mo_isWeaker_c 66 = .ok (.iload_n 1, 1) := by decide +kernel
theorem d_Mo_isWeaker_67 : decode b_Mo_isWeaker_c 67 = .ok (.iload_n 3, 1) := by decide +kernel
theorem d_Mo_isWeaker_68 : decode b_Mo_isWeaker_c 68 = .ok (.iload 6, 2) := by decide +kernel
theorem d_Mo_isWeaker_70 : decode b_Mo_isWeaker_c 70 = .ok (.invokevirtual 143, 3) := by decide +kernel
theorem d_Mo_isWeaker_73 : decode b_Mo_isWeaker_c 73 = .ok (.if_icmp .ge 7, 3) := by decide +kernel
theorem d_Mo_isWeaker_76 : decode b_Mo_isWeaker_c 76 = .ok (.iconst 1, 1) := by decide +kernel
theorem d_Mo_isWeaker_77 : decode b_Mo_isWeaker_c 77 = .ok (.goto 4, 3) := by decide +kernel
theorem d_Mo_isWeaker_80 : decode b_Mo_isWeaker_c 80 = .ok (.iconst 0, 1) := by decide +kernel
theorem d_Mo_isWeaker_81 : decode b_Mo_isWeaker_c 81 = .ok (.istore 5, 2) := by decide +kernel
theorem d_Mo_isWeaker_83 : decode b_Mo_isWeaker_c 83 = .ok (.iinc 6 1, 3) := by decide +kernel
theorem d_Mo_isWeaker_86 : decode b_Mo_isWeaker_c 86 = .ok (.goto (-77), 3) := by decide +kernel
theorem d_Mo_isWeaker_89 : decode b_Mo_isWeaker_c 89 = .ok (.iload 4, 2) := by decide +kernel
theorem d_Mo_isWeaker_91 : decode b_Mo_isWeaker_c 91 = .ok (.ifCond .eq 12, 3) := by decide +kernel
theorem d_Mo_isWeaker_94 : decode b_Mo_isWeaker_c 94 = .ok (.iload 5, 2) := by decide +kernel
theorem d_Mo_isWeaker_96 : decode b_Mo_isWeaker_c 96 = .ok (.ifCond .eq 7, 3) := by decide +kernel
theorem d_Mo_isWeaker_99 : decode b_Mo_isWeaker_c 99 = .ok (.iconst 1, 1) := by decide +kernel
theorem d_Mo_isWeaker_100 : decode b_Mo_isWeaker_c 100 = .ok (.goto 4, 3) := by decide +kernel
theorem d_Mo_isWeaker_103 : decode b_Mo_isWeaker_c 103 = .ok (.iconst 0, 1) := by decide +kernel
theorem d_Mo_isWeaker_104 : decode b_Mo_isWeaker_c 104 = .ok (.ireturn, 1) := by decide +kernel
/-! GameRowsModel.isWeaker(III)Z -/
set_option maxHeartbeats 4000000 in
set_option maxRecDepth 100000 in
theorem t_Mo_isWeaker_81 {X : gX} {r : Int32} {σ : gS} (C : gC X b_Mo_isWeaker_c R_Mo 7 1 23) (hR : ∀ pc lv, isB r = true → decode b_Mo_isWeaker_c pc = .ok (.ireturn, 1) → G X pc lv [.int r] σ) {k9 : Int32 × Int32 × Int32 × Int32 × Int32 × Int32 → Option Int32}  (hk9 : ∀ x, k9 x = some r → G X 9 [(0, .ref (gA X 46)), (1, .int x.1), (2, .int x.2.1), (3, .int x.2.2.1), (4, .int x.2.2.2.1), (5, .int x.2.2.2.2.1), (6, .int x.2.2.2.2.2)] [] σ) (x1 : Int32) (x2 : Int32) (x3 : Int32) (x4 : Int32) (x6 : Int32) (y0 : Int32) (h : b_Mo_isWeaker_81 σ k9 x1 x2 x3 x4 x6 y0 = some r) : G X 81 [(0, .ref (gA X 46)), (1, .int x1), (2, .int x2), (3, .int x3), (4, .int x4), (6, .int x6)] [.int y0] σ := by
  unfold b_Mo_isWeaker_81 at h
  refine r_istore C (lv' := [(5, .int y0), (0, .ref (gA X 46)), (1, .int x1), (2, .int x2), (3, .int x3), (4, .int x4), (6, .int x6)]) d_Mo_isWeaker_81 (by decide) rfl rfl ?_
  obtain ⟨x6_1, ex6_1, h⟩ := bnd_some h
  refine r_iinc C 6 (lv' := [(6, .int x6_1), (5, .int y0), (0, .ref (gA X 46)), (1, .int x1), (2, .int x2), (3, .int x3), (4, .int x4)]) d_Mo_isWeaker_83 rfl (by rw [ex6_1]; rfl) (by decide) rfl ?_
  refine r_goto C (tgt := 9) d_Mo_isWeaker_86 (by decide) ?_
  refine r_sub [2, 3, 4, 5, 6, 1, 0] (lv' := [(0, .ref (gA X 46)), (1, .int x1), (2, .int x2), (3, .int x3), (4, .int x4), (5, .int y0), (6, .int x6_1)]) rfl ?_
  exact hk9 _ h
set_option maxHeartbeats 4000000 in
set_option maxRecDepth 100000 in
theorem t_Mo_isWeaker_76 {X : gX} {r : Int32} {σ : gS} (C : gC X b_Mo_isWeaker_c R_Mo 7 1 23) (hR : ∀ pc lv, isB r = true → decode b_Mo_isWeaker_c pc = .ok (.ireturn, 1) → G X pc lv [.int r] σ) {k9 : Int32 × Int32 × Int32 × Int32 × Int32 × Int32 → Option Int32}  (hk9 : ∀ x, k9 x = some r → G X 9 [(0, .ref (gA X 46)), (1, .int x.1), (2, .int x.2.1), (3, .int x.2.2.1), (4, .int x.2.2.2.1), (5, .int x.2.2.2.2.1), (6, .int x.2.2.2.2.2)] [] σ) (x1 : Int32) (x2 : Int32) (x3 : Int32) (x4 : Int32) (x6 : Int32) (h : b_Mo_isWeaker_76 σ k9 x1 x2 x3 x4 x6 = some r) : G X 76 [(0, .ref (gA X 46)), (1, .int x1), (2, .int x2), (3, .int x3), (4, .int x4), (6, .int x6)] [] σ := by
  unfold b_Mo_isWeaker_76 at h
  refine r_iconst C (v := 1) d_Mo_isWeaker_76 (by decide) ?_
  refine r_goto C (tgt := 81) d_Mo_isWeaker_77 (by decide) ?_
  exact t_Mo_isWeaker_81 C hR hk9 x1 x2 x3 x4 x6 1 h
set_option maxHeartbeats 4000000 in
set_option maxRecDepth 100000 in
theorem t_Mo_isWeaker_50 {X : gX} {r : Int32} {σ : gS} (C : gC X b_Mo_isWeaker_c R_Mo 7 1 23) (hR : ∀ pc lv, isB r = true → decode b_Mo_isWeaker_c pc = .ok (.ireturn, 1) → G X pc lv [.int r] σ) {k9 : Int32 × Int32 × Int32 × Int32 × Int32 × Int32 → Option Int32}  (hk9 : ∀ x, k9 x = some r → G X 9 [(0, .ref (gA X 46)), (1, .int x.1), (2, .int x.2.1), (3, .int x.2.2.1), (4, .int x.2.2.2.1), (5, .int x.2.2.2.2.1), (6, .int x.2.2.2.2.2)] [] σ) (x1 : Int32) (x2 : Int32) (x3 : Int32) (x5 : Int32) (x6 : Int32) (y0 : Int32) (h : b_Mo_isWeaker_50 σ k9 x1 x2 x3 x5 x6 y0 = some r) : G X 50 [(0, .ref (gA X 46)), (1, .int x1), (2, .int x2), (3, .int x3), (5, .int x5), (6, .int x6)] [.int y0] σ := by
  unfold b_Mo_isWeaker_50 at h
  refine r_istore C (lv' := [(4, .int y0), (0, .ref (gA X 46)), (1, .int x1), (2, .int x2), (3, .int x3), (5, .int x5), (6, .int x6)]) d_Mo_isWeaker_50 (by decide) rfl rfl ?_
  refine r_iload C 5 d_Mo_isWeaker_52 rfl ?_
  refine r_if_ne C (tgt := 76) d_Mo_isWeaker_54 (by decide) (fun hc_1 => ?_) (fun hc_1 => ?_)
  · rw [if_neg hc_1] at h
    refine r_sub [1, 2, 3, 4, 0, 6] (lv' := [(0, .ref (gA X 46)), (1, .int x1), (2, .int x2), (3, .int x3), (4, .int y0), (6, .int x6)]) rfl ?_
    exact t_Mo_isWeaker_76 C hR hk9 x1 x2 x3 y0 x6 h
  · rw [if_pos hc_1] at h
    refine r_aload_n C 1 d_Mo_isWeaker_57 rfl rfl ?_
    refine r_iload_n C 2 d_Mo_isWeaker_58 rfl rfl ?_
    refine r_iload_n C 3 d_Mo_isWeaker_59 rfl rfl ?_
    refine r_iload C 6 d_Mo_isWeaker_60 rfl ?_
    obtain ⟨r_2, er_2, h⟩ := bind_some h
    refine r_callV C (As := [.int x1, .int x2, .int x6]) (rest := []) (st1 := [.int r_2]) (c_Mo_worthTo X.1.2.1 σ x1 x2 x6 er_2) k_Mo_worthTo m_487 (by decide) cel_Mo rfl rfl rfl rfl (Nat.le_of_ble_eq_true rfl) ⟨Nat.le_of_ble_eq_true rfl, Nat.le_of_ble_eq_true rfl⟩ d_Mo_isWeaker_62 rfl ?_
    refine r_aload_n C 1 d_Mo_isWeaker_65 rfl rfl ?_
    refine r_iload_n C 2 d_Mo_isWeaker_66 rfl rfl ?_
    refine r_iload_n C 4 d_Mo_isWeaker_67 rfl rfl ?_
    refine r_iload C 6 d_Mo_isWeaker_68 rfl ?_
    obtain ⟨r_3, er_3, h⟩ := bind_some h
    refine r_callV C (As := [.int x1, .int x3, .int x6]) (rest := [.int r_2]) (st1 := [.int r_3, .int r_2]) (c_Mo_worthTo X.1.2.1 σ x1 x3 x6 er_3) k_Mo_worthTo m_487 (by decide) cel_Mo rfl rfl rfl rfl (Nat.le_of_ble_eq_true rfl) ⟨Nat.le_of_ble_eq_true rfl, Nat.le_of_ble_eq_true rfl⟩ d_Mo_isWeaker_70 rfl ?_
    refine r_icmp_ge C (tgt := 80) d_Mo_isWeaker_73 (by decide) (fun hc_4 => ?_) (fun hc_4 => ?_)
    · rw [if_pos hc_4] at h
      refine r_iconst C (v := 0) d_Mo_isWeaker_80 (by decide) ?_
      refine r_sub [1, 2, 3, 4, 0, 6] (lv' := [(0, .ref (gA X 46)), (1, .int x1), (2, .int x2), (3, .int x3), (4, .int y0), (6, .int x6)]) rfl ?_
      exact t_Mo_isWeaker_81 C hR hk9 x1 x2 x3 y0 x6 0 h
    · rw [if_neg hc_4] at h
      refine r_sub [1, 2, 3, 4, 0, 6] (lv' := [(0, .ref (gA X 46)), (1, .int x1), (2, .int x2), (3, .int x3), (4, .int y0), (6, .int x6)]) rfl ?_
      exact t_Mo_isWeaker_76 C hR hk9 x1 x2 x3 y0 x6 h
set_option maxHeartbeats 4000000 in
set_option maxRecDepth 100000 in
theorem t_Mo_isWeaker_49 {X : gX} {r : Int32} {σ : gS} (C : gC X b_Mo_isWeaker_c R_Mo 7 1 23) (hR : ∀ pc lv, isB r = true → decode b_Mo_isWeaker_c pc = .ok (.ireturn, 1) → G X pc lv [.int r] σ) {k9 : Int32 × Int32 × Int32 × Int32 × Int32 × Int32 → Option Int32}  (hk9 : ∀ x, k9 x = some r → G X 9 [(0, .ref (gA X 46)), (1, .int x.1), (2, .int x.2.1), (3, .int x.2.2.1), (4, .int x.2.2.2.1), (5, .int x.2.2.2.2.1), (6, .int x.2.2.2.2.2)] [] σ) (x1 : Int32) (x2 : Int32) (x3 : Int32) (x5 : Int32) (x6 : Int32) (h : b_Mo_isWeaker_49 σ k9 x1 x2 x3 x5 x6 = some r) : G X 49 [(0, .ref (gA X 46)), (1, .int x1), (2, .int x2), (3, .int x3), (5, .int x5), (6, .int x6)] [] σ := by
  unfold b_Mo_isWeaker_49 at h
  refine r_iconst C (v := 0) d_Mo_isWeaker_49 (by decide) ?_
  exact t_Mo_isWeaker_50 C hR hk9 x1 x2 x3 x5 x6 0 h
set_option maxHeartbeats 4000000 in
set_option maxRecDepth 100000 in
theorem t_Mo_isWeaker_9 {X : gX} {r : Int32} {σ : gS} (C : gC X b_Mo_isWeaker_c R_Mo 7 1 23) (hR : ∀ pc lv, isB r = true → decode b_Mo_isWeaker_c pc = .ok (.ireturn, 1) → G X pc lv [.int r] σ) {k9 : Int32 × Int32 × Int32 × Int32 × Int32 × Int32 → Option Int32}  (hk9 : ∀ x, k9 x = some r → G X 9 [(0, .ref (gA X 46)), (1, .int x.1), (2, .int x.2.1), (3, .int x.2.2.1), (4, .int x.2.2.2.1), (5, .int x.2.2.2.2.1), (6, .int x.2.2.2.2.2)] [] σ) (x1 : Int32) (x2 : Int32) (x3 : Int32) (x4 : Int32) (x5 : Int32) (x6 : Int32) (h : b_Mo_isWeaker_9 σ k9 x1 x2 x3 x4 x5 x6 = some r) : G X 9 [(0, .ref (gA X 46)), (1, .int x1), (2, .int x2), (3, .int x3), (4, .int x4), (5, .int x5), (6, .int x6)] [] σ := by
  unfold b_Mo_isWeaker_9 at h
  refine r_iload C 6 d_Mo_isWeaker_9 rfl ?_
  refine r_aload_n C 0 d_Mo_isWeaker_11 rfl rfl ?_
  refine r_iconst C (v := 1) d_Mo_isWeaker_12 (by decide) ?_
  refine r_iload_n C 1 d_Mo_isWeaker_13 rfl rfl ?_
  refine r_isub C d_Mo_isWeaker_14 ?_
  obtain ⟨r_1, er_1, h⟩ := bind_some h
  refine r_callV C (As := [.int (1 - x1)]) (rest := [.int x6]) (st1 := [.int r_1, .int x6]) (c_Mo_many X.1.2.1 σ (1 - x1) er_1) k_Mo_many m_500 (by decide) cel_Mo rfl rfl rfl rfl (Nat.le_of_ble_eq_true rfl) ⟨Nat.le_of_ble_eq_true rfl, Nat.le_of_ble_eq_true rfl⟩ d_Mo_isWeaker_15 rfl ?_
  refine r_icmp_ge C (tgt := 89) d_Mo_isWeaker_18 (by decide) (fun hc_2 => ?_) (fun hc_2 => ?_)
  · rw [if_pos hc_2] at h
    refine r_iload C 4 d_Mo_isWeaker_89 rfl ?_
    refine r_if_eq C (tgt := 103) d_Mo_isWeaker_91 (by decide) (fun hc_3 => ?_) (fun hc_3 => ?_)
    · rw [if_pos hc_3] at h
      refine r_iconst C (v := 0) d_Mo_isWeaker_103 (by decide) ?_
      obtain ⟨hB, h⟩ := ck_some h
      cases h
      exact hR _ _ hB d_Mo_isWeaker_104
    · rw [if_neg hc_3] at h
      refine r_iload C 5 d_Mo_isWeaker_94 rfl ?_
      refine r_if_eq C (tgt := 103) d_Mo_isWeaker_96 (by decide) (fun hc_4 => ?_) (fun hc_4 => ?_)
      · rw [if_pos hc_4] at h
        refine r_iconst C (v := 0) d_Mo_isWeaker_103 (by decide) ?_
        obtain ⟨hB, h⟩ := ck_some h
        cases h
        exact hR _ _ hB d_Mo_isWeaker_104
      · rw [if_neg hc_4] at h
        refine r_iconst C (v := 1) d_Mo_isWeaker_99 (by decide) ?_
        refine r_goto C (tgt := 104) d_Mo_isWeaker_100 (by decide) ?_
        obtain ⟨hB, h⟩ := ck_some h
        cases h
        exact hR _ _ hB d_Mo_isWeaker_104
  · rw [if_neg hc_2] at h
    refine r_iload C 4 d_Mo_isWeaker_21 rfl ?_
    refine r_if_eq C (tgt := 49) d_Mo_isWeaker_23 (by decide) (fun hc_5 => ?_) (fun hc_5 => ?_)
    · rw [if_pos hc_5] at h
      refine r_sub [0, 1, 2, 3, 5, 6] (lv' := [(0, .ref (gA X 46)), (1, .int x1), (2, .int x2), (3, .int x3), (5, .int x5), (6, .int x6)]) rfl ?_
      exact t_Mo_isWeaker_49 C hR hk9 x1 x2 x3 x5 x6 h
    · rw [if_neg hc_5] at h
      refine r_aload_n C 0 d_Mo_isWeaker_26 rfl rfl ?_
      refine r_iload_n C 1 d_Mo_isWeaker_27 rfl rfl ?_
      refine r_iload_n C 2 d_Mo_isWeaker_28 rfl rfl ?_
      refine r_iload C 6 d_Mo_isWeaker_29 rfl ?_
      obtain ⟨r_6, er_6, h⟩ := bind_some h
      refine r_callV C (As := [.int x1, .int x2, .int x6]) (rest := []) (st1 := [.int r_6]) (c_Mo_worthTo X.1.2.1 σ x1 x2 x6 er_6) k_Mo_worthTo m_487 (by decide) cel_Mo rfl rfl rfl rfl (Nat.le_of_ble_eq_true rfl) ⟨Nat.le_of_ble_eq_true rfl, Nat.le_of_ble_eq_true rfl⟩ d_Mo_isWeaker_31 rfl ?_
      refine r_aload_n C 0 d_Mo_isWeaker_34 rfl rfl ?_
      refine r_iload_n C 1 d_Mo_isWeaker_35 rfl rfl ?_
      refine r_iload_n C 3 d_Mo_isWeaker_36 rfl rfl ?_
      refine r_iload C 6 d_Mo_isWeaker_37 rfl ?_
      obtain ⟨r_7, er_7, h⟩ := bind_some h
      refine r_callV C (As := [.int x1, .int x3, .int x6]) (rest := [.int r_6]) (st1 := [.int r_7, .int r_6]) (c_Mo_worthTo X.1.2.1 σ x1 x3 x6 er_7) k_Mo_worthTo m_487 (by decide) cel_Mo rfl rfl rfl rfl (Nat.le_of_ble_eq_true rfl) ⟨Nat.le_of_ble_eq_true rfl, Nat.le_of_ble_eq_true rfl⟩ d_Mo_isWeaker_39 rfl ?_
      refine r_icmp_gt C (tgt := 49) d_Mo_isWeaker_42 (by decide) (fun hc_8 => ?_) (fun hc_8 => ?_)
      · rw [if_pos hc_8] at h
        refine r_sub [0, 1, 2, 3, 5, 6] (lv' := [(0, .ref (gA X 46)), (1, .int x1), (2, .int x2), (3, .int x3), (5, .int x5), (6, .int x6)]) rfl ?_
        exact t_Mo_isWeaker_49 C hR hk9 x1 x2 x3 x5 x6 h
      · rw [if_neg hc_8] at h
        refine r_iconst C (v := 1) d_Mo_isWeaker_45 (by decide) ?_
        refine r_goto C (tgt := 50) d_Mo_isWeaker_46 (by decide) ?_
        refine r_sub [0, 1, 2, 3, 5, 6] (lv' := [(0, .ref (gA X 46)), (1, .int x1), (2, .int x2), (3, .int x3), (5, .int x5), (6, .int x6)]) rfl ?_
        exact t_Mo_isWeaker_50 C hR hk9 x1 x2 x3 x5 x6 1 h
set_option maxHeartbeats 4000000 in
set_option maxRecDepth 100000 in
theorem u_Mo_isWeaker_9 {X : gX} {r : Int32} {σ : gS} (C : gC X b_Mo_isWeaker_c R_Mo 7 1 23) (hR : ∀ pc lv, isB r = true → decode b_Mo_isWeaker_c pc = .ok (.ireturn, 1) → G X pc lv [.int r] σ)  (x : Int32 × Int32 × Int32 × Int32 × Int32 × Int32) (h : l_Mo_isWeaker_9 σ x = some r) : G X 9 [(0, .ref (gA X 46)), (1, .int x.1), (2, .int x.2.1), (3, .int x.2.2.1), (4, .int x.2.2.2.1), (5, .int x.2.2.2.2.1), (6, .int x.2.2.2.2.2)] [] σ :=
  lpF_ind (P := fun x => G X 9 [(0, .ref (gA X 46)), (1, .int x.1), (2, .int x.2.1), (3, .int x.2.2.1), (4, .int x.2.2.2.1), (5, .int x.2.2.2.2.1), (6, .int x.2.2.2.2.2)] [] σ) (fun k hk x h => t_Mo_isWeaker_9 C hR hk x.1 x.2.1 x.2.2.1 x.2.2.2.1 x.2.2.2.2.1 x.2.2.2.2.2 h) gF x h
set_option maxHeartbeats 4000000 in
set_option maxRecDepth 100000 in
theorem t_Mo_isWeaker_0 {X : gX} {r : Int32} {σ : gS} (C : gC X b_Mo_isWeaker_c R_Mo 7 1 23) (hR : ∀ pc lv, isB r = true → decode b_Mo_isWeaker_c pc = .ok (.ireturn, 1) → G X pc lv [.int r] σ) (x1 : Int32) (x2 : Int32) (x3 : Int32) (h : b_Mo_isWeaker_0 σ x1 x2 x3 = some r) : G X 0 [(0, .ref (gA X 46)), (1, .int x1), (2, .int x2), (3, .int x3)] [] σ := by
  unfold b_Mo_isWeaker_0 at h
  refine r_iconst C (v := 1) d_Mo_isWeaker_0 (by decide) ?_
  refine r_istore C (lv' := [(4, .int 1), (0, .ref (gA X 46)), (1, .int x1), (2, .int x2), (3, .int x3)]) d_Mo_isWeaker_1 (by decide) rfl rfl ?_
  refine r_iconst C (v := 0) d_Mo_isWeaker_3 (by decide) ?_
  refine r_istore C (lv' := [(5, .int 0), (4, .int 1), (0, .ref (gA X 46)), (1, .int x1), (2, .int x2), (3, .int x3)]) d_Mo_isWeaker_4 (by decide) rfl rfl ?_
  refine r_iconst C (v := 0) d_Mo_isWeaker_6 (by decide) ?_
  refine r_istore C (lv' := [(6, .int 0), (5, .int 0), (4, .int 1), (0, .ref (gA X 46)), (1, .int x1), (2, .int x2), (3, .int x3)]) d_Mo_isWeaker_7 (by decide) rfl rfl ?_
  refine r_sub [3, 4, 5, 6, 2, 1, 0] (lv' := [(0, .ref (gA X 46)), (1, .int x1), (2, .int x2), (3, .int x3), (4, .int 1), (5, .int 0), (6, .int 0)]) rfl ?_
  exact u_Mo_isWeaker_9 C hR  (x1, x2, x3, 1, 0, 0) h
set_option maxHeartbeats 4000000 in
set_option maxRecDepth 100000 in
theorem c_Mo_isWeaker (l : Launch) (σ : gS) (x1 : Int32) (x2 : Int32) (x3 : Int32) {r : Int32} (h : f_Mo_isWeaker σ x1 x2 x3 = some r) : gMet l y_Mo_isWeaker b_Mo_isWeaker_c 7 (some .boolean) 1 23 (fun a => [.ref (a 46), .int x1, .int x2, .int x3]) σ (some (.int r)) σ := by
  refine gMet_z (by decide +kernel) (fun a => Nat.le_of_ble_eq_true rfl) (fun X _ C hR => ?_)
  refine r_sub [0, 1, 2, 3] (lv' := [(0, .ref (gA X 46)), (1, .int x1), (2, .int x2), (3, .int x3)]) rfl ?_
  exact t_Mo_isWeaker_0 C hR x1 x2 x3 h
theorem d_Mo_isOne_0 : decode b_Mo_isOne_c 0 = .ok (.iconst 1, 1) := by decide +kernel
theorem d_Mo_isOne_1 : decode b_Mo_isOne_c 1 = .ok (.istore 4, 2) := by decide +kernel
theorem d_Mo_isOne_3 : decode b_Mo_isOne_c 3 = .ok (.iconst 0, 1) := by decide +kernel
theorem d_Mo_isOne_4 : decode b_Mo_isOne_c 4 = .ok (.istore 5, 2) := by decide +kernel
theorem d_Mo_isOne_6 : decode b_Mo_isOne_c 6 = .ok (.iload 5, 2) := by decide +kernel
theorem d_Mo_isOne_8 : decode b_Mo_isOne_c 8 = .ok (.aload_n 0, 1) := by decide +kernel
theorem d_Mo_isOne_9 : decode b_Mo_isOne_c 9 = .ok (.iconst 1, 1) := by decide +kernel
theorem d_Mo_isOne_10 : decode b_Mo_isOne_c 10 = .ok (.iload_n 1, 1) := by decide +kernel
theorem d_Mo_isOne_11 : decode b_Mo_isOne_c 11 = .ok (.isub, 1) := by decide +kernel
theorem d_Mo_isOne_12 : decode b_Mo_isOne_c 12 = .ok (.invokevirtual 146, 3) := by decide +kernel
theorem d_Mo_isOne_15 : decode b_Mo_isOne_c 15 = .ok (.if_icmp .ge 109, 3) := by decide +kernel
theorem d_Mo_isOne_18 : decode b_Mo_isOne_c 18 = .ok (.iload_n 1, 1) := by decide +kernel
theorem d_Mo_isOne_19 : decode b_Mo_isOne_c 19 = .ok (.ifCond .ne 13, 3) := by decide +kernel
theorem d_Mo_isOne_22 : decode b_Mo_isOne_c 22 = .ok (.bipush 64, 2) := by decide +kernel
theorem d_Mo_isOne_24 : decode b_Mo_isOne_c 24 = .ok (.iload_n 2, 1) := by decide +kernel
theorem d_Mo_isOne_25 : decode b_Mo_isOne_c 25 = .ok (.imul, 1) := by decide +kernel
theorem d_Mo_isOne_26 : decode b_Mo_isOne_c 26 = .ok (.iload 5, 2) := by decide +kernel
theorem d_Mo_isOne_28 : decode b_Mo_isOne_c 28 = .ok (.iadd, 1) := by decide +kernel
theorem d_Mo_isOne_29 : decode b_Mo_isOne_c 29 = .ok (.goto 10, 3) := by decide +kernel
theorem d_Mo_isOne_32 : decode b_Mo_isOne_c 32 = .ok (.bipush 64, 2) := by decide +kernel
theorem d_Mo_isOne_34 : decode b_Mo_isOne_c 34 = .ok (.iload 5, 2) := by decide +kernel
theorem d_Mo_isOne_36 : decode b_Mo_isOne_c 36 = .ok (.imul, 1) := by decide +kernel
theorem d_Mo_isOne_37 : decode b_Mo_isOne_c 37 = .ok (.iload_n 2, 1) := by decide +kernel
theorem d_Mo_isOne_38 : decode b_Mo_isOne_c 38 = .ok (.iadd, 1) := by decide +kernel
theorem d_Mo_isOne_39 : decode b_Mo_isOne_c 39 = .ok (.istore 6, 2) := by decide +kernel
theorem d_Mo_isOne_41 : decode b_Mo_isOne_c 41 = .ok (.iload_n 1, 1) := by decide +kernel
theorem d_Mo_isOne_42 : decode b_Mo_isOne_c 42 = .ok (.ifCond .ne 13, 3) := by decide +kernel
theorem d_Mo_isOne_45 : decode b_Mo_isOne_c 45 = .ok (.bipush 64, 2) := by decide +kernel
theorem d_Mo_isOne_47 : decode b_Mo_isOne_c 47 = .ok (.iload_n 3, 1) := by decide +kernel
theorem d_Mo_isOne_48 : decode b_Mo_isOne_c 48 = .ok (.imul, 1) := by decide +kernel
theorem d_Mo_isOne_49 : decode b_Mo_isOne_c 49 = .ok (.iload 5, 2) := by decide +kernel
theorem d_Mo_isOne_51 : decode b_Mo_isOne_c 51 = .ok (.iadd, 1) := by decide +kernel
theorem d_Mo_isOne_52 : decode b_Mo_isOne_c 52 = .ok (.goto 10, 3) := by decide +kernel
theorem d_Mo_isOne_55 : decode b_Mo_isOne_c 55 = .ok (.bipush 64, 2) := by decide +kernel
theorem d_Mo_isOne_57 : decode b_Mo_isOne_c 57 = .ok (.iload 5, 2) := by decide +kernel
theorem d_Mo_isOne_59 : decode b_Mo_isOne_c 59 = .ok (.imul, 1) := by decide +kernel
theorem d_Mo_isOne_60 : decode b_Mo_isOne_c 60 = .ok (.iload_n 3, 1) := by decide +kernel
theorem d_Mo_isOne_61 : decode b_Mo_isOne_c 61 = .ok (.iadd, 1) := by decide +kernel
theorem d_Mo_isOne_62 : decode b_Mo_isOne_c 62 = .ok (.istore 7, 2) := by decide +kernel
theorem d_Mo_isOne_64 : decode b_Mo_isOne_c 64 = .ok (.iload 4, 2) := by decide +kernel
theorem d_Mo_isOne_66 : decode b_Mo_isOne_c 66 = .ok (.ifCond .eq 49, 3) := by decide +kernel
theorem d_Mo_isOne_69 : decode b_Mo_isOne_c 69 = .ok (.aload_n 0, 1) := by decide +kernel
theorem d_Mo_isOne_70 : decode b_Mo_isOne_c 70 = .ok (.getfield 47, 3) := by decide +kernel
theorem d_Mo_isOne_73 : decode b_Mo_isOne_c 73 = .ok (.iload 6, 2) := by decide +kernel
theorem d_Mo_isOne_75 : decode b_Mo_isOne_c 75 = .ok (.iaload, 1) := by decide +kernel
theorem d_Mo_isOne_76 : decode b_Mo_isOne_c 76 = .ok (.aload_n 0, 1) := by decide +kernel
theorem d_Mo_isOne_77 : decode b_Mo_isOne_c 77 = .ok (.getfield 47, 3) := by decide +kernel
theorem d_Mo_isOne_80 : decode b_Mo_isOne_c 80 = .ok (.iload 7, 2) := by decide +kernel
theorem d_Mo_isOne_82 : decode b_Mo_isOne_c 82 = .ok (.iaload, 1) := by decide +kernel
theorem d_Mo_isOne_83 : decode b_Mo_isOne_c 83 = .ok (.if_icmp .ne 32, 3) := by decide +kernel
theorem d_Mo_isOne_86 : decode b_Mo_isOne_c 86 = .ok (.aload_n 0, 1) := by decide +kernel
theorem d_Mo_isOne_87 : decode b_Mo_isOne_c 87 = .ok (.getfield 47, 3) := by decide +kernel
theorem d_Mo_isOne_90 : decode b_Mo_isOne_c 90 = .ok (.sipush 4096, 3) := by decide +kernel
theorem d_Mo_isOne_93 : decode b_Mo_isOne_c 93 = .ok (.iload 6, 2) := by decide +kernel
theorem d_Mo_isOne_95 : decode b_Mo_isOne_c 95 = .ok (.iadd, 1) := by decide +kernel
theorem d_Mo_isOne_96 : decode b_Mo_isOne_c 96 = .ok (.iaload, 1) := by decide +kernel
theorem d_Mo_isOne_97 : decode b_Mo_isOne_c 97 = .ok (.aload_n 0, 1) := by decide +kernel
theorem d_Mo_isOne_98 : decode b_Mo_isOne_c 98 = .ok (.getfield 47, 3) := by decide +kernel
theorem d_Mo_isOne_101 : decode b_Mo_isOne_c 101 = .ok (.sipush 4096, 3) := by decide +kernel
theorem d_Mo_isOne_104 : decode b_Mo_isOne_c 104 = .ok (.iload 7, 2) := by decide +kernel
theorem d_Mo_isOne_106 : decode b_Mo_isOne_c 106 = .ok (.iadd, 1) := by decide +kernel
theorem d_Mo_isOne_107 : decode b_Mo_isOne_c 107 = .ok (.iaload, 1) := by decide +kernel
theorem d_Mo_isOne_108 : decode b_Mo_isOne_c 108 = .ok (.if_icmp .ne 7, 3) := by decide +kernel
theorem d_Mo_isOne_111 : decode b_Mo_isOne_c 111 = .ok (.iconst 1, 1) := by decide +kernel
theorem d_Mo_isOne_112 : decode b_Mo_isOne_c 112 = .ok (.goto 4, 3) := by decide +kernel
theorem d_Mo_isOne_115 : decode b_Mo_isOne_c 115 = .ok (.iconst 0, 1) := by decide +kernel
theorem d_Mo_isOne_116 : decode b_Mo_isOne_c 116 = .ok (.istore 4, 2) := by decide +kernel
theorem d_Mo_isOne_118 : decode b_Mo_isOne_c 118 = .ok (.iinc 5 1, 3) := by decide +kernel
theorem d_Mo_isOne_121 : decode b_Mo_isOne_c 121 = .ok (.goto (-115), 3) := by decide +kernel
theorem d_Mo_isOne_124 : decode b_Mo_isOne_c 124 = .ok (.iload 4, 2) := by decide +kernel
theorem d_Mo_isOne_126 : decode b_Mo_isOne_c 126 = .ok (.ireturn, 1) := by decide +kernel
/-! GameRowsModel.isOne(III)Z -/
set_option maxHeartbeats 4000000 in
set_option maxRecDepth 100000 in
theorem t_Mo_isOne_116 {X : gX} {r : Int32} {σ : gS} (C : gC X b_Mo_isOne_c R_Mo 8 1 21) (hR : ∀ pc lv, isB r = true → decode b_Mo_isOne_c pc = .ok (.ireturn, 1) → G X pc lv [.int r] σ) {k6 : Int32 × Int32 × Int32 × Int32 × Int32 → Option Int32}  (hk6 : ∀ x, k6 x = some r → G X 6 [(0, .ref (gA X 46)), (1, .int x.1), (2, .int x.2.1), (3, .int x.2.2.1), (4, .int x.2.2.2.1), (5, .int x.2.2.2.2)] [] σ) (x1 : Int32) (x2 : Int32) (x3 : Int32) (x5 : Int32) (y0 : Int32) (h : b_Mo_isOne_116 σ k6 x1 x2 x3 x5 y0 = some r) : G X 116 [(0, .ref (gA X 46)), (1, .int x1), (2, .int x2), (3, .int x3), (5, .int x5)] [.int y0] σ := by
  unfold b_Mo_isOne_116 at h
  refine r_istore C (lv' := [(4, .int y0), (0, .ref (gA X 46)), (1, .int x1), (2, .int x2), (3, .int x3), (5, .int x5)]) d_Mo_isOne_116 (by decide) rfl rfl ?_
  obtain ⟨x5_1, ex5_1, h⟩ := bnd_some h
  refine r_iinc C 5 (lv' := [(5, .int x5_1), (4, .int y0), (0, .ref (gA X 46)), (1, .int x1), (2, .int x2), (3, .int x3)]) d_Mo_isOne_118 rfl (by rw [ex5_1]; rfl) (by decide) rfl ?_
  refine r_goto C (tgt := 6) d_Mo_isOne_121 (by decide) ?_
  refine r_sub [2, 3, 4, 5, 1, 0] (lv' := [(0, .ref (gA X 46)), (1, .int x1), (2, .int x2), (3, .int x3), (4, .int y0), (5, .int x5_1)]) rfl ?_
  exact hk6 _ h
set_option maxHeartbeats 4000000 in
set_option maxRecDepth 100000 in
theorem t_Mo_isOne_115 {X : gX} {r : Int32} {σ : gS} (C : gC X b_Mo_isOne_c R_Mo 8 1 21) (hR : ∀ pc lv, isB r = true → decode b_Mo_isOne_c pc = .ok (.ireturn, 1) → G X pc lv [.int r] σ) {k6 : Int32 × Int32 × Int32 × Int32 × Int32 → Option Int32}  (hk6 : ∀ x, k6 x = some r → G X 6 [(0, .ref (gA X 46)), (1, .int x.1), (2, .int x.2.1), (3, .int x.2.2.1), (4, .int x.2.2.2.1), (5, .int x.2.2.2.2)] [] σ) (x1 : Int32) (x2 : Int32) (x3 : Int32) (x5 : Int32) (h : b_Mo_isOne_115 σ k6 x1 x2 x3 x5 = some r) : G X 115 [(0, .ref (gA X 46)), (1, .int x1), (2, .int x2), (3, .int x3), (5, .int x5)] [] σ := by
  unfold b_Mo_isOne_115 at h
  refine r_iconst C (v := 0) d_Mo_isOne_115 (by decide) ?_
  exact t_Mo_isOne_116 C hR hk6 x1 x2 x3 x5 0 h
set_option maxHeartbeats 4000000 in
set_option maxRecDepth 100000 in
theorem t_Mo_isOne_62 {X : gX} {r : Int32} {σ : gS} (C : gC X b_Mo_isOne_c R_Mo 8 1 21) (hR : ∀ pc lv, isB r = true → decode b_Mo_isOne_c pc = .ok (.ireturn, 1) → G X pc lv [.int r] σ) {k6 : Int32 × Int32 × Int32 × Int32 × Int32 → Option Int32}  (hk6 : ∀ x, k6 x = some r → G X 6 [(0, .ref (gA X 46)), (1, .int x.1), (2, .int x.2.1), (3, .int x.2.2.1), (4, .int x.2.2.2.1), (5, .int x.2.2.2.2)] [] σ) (x1 : Int32) (x2 : Int32) (x3 : Int32) (x4 : Int32) (x5 : Int32) (x6 : Int32) (y0 : Int32) (h : b_Mo_isOne_62 σ k6 x1 x2 x3 x4 x5 x6 y0 = some r) : G X 62 [(0, .ref (gA X 46)), (1, .int x1), (2, .int x2), (3, .int x3), (4, .int x4), (5, .int x5), (6, .int x6)] [.int y0] σ := by
  unfold b_Mo_isOne_62 at h
  refine r_istore C (lv' := [(7, .int y0), (0, .ref (gA X 46)), (1, .int x1), (2, .int x2), (3, .int x3), (4, .int x4), (5, .int x5), (6, .int x6)]) d_Mo_isOne_62 (by decide) rfl rfl ?_
  refine r_iload C 5 d_Mo_isOne_64 rfl ?_
  refine r_if_eq C (tgt := 115) d_Mo_isOne_66 (by decide) (fun hc_1 => ?_) (fun hc_1 => ?_)
  · rw [if_pos hc_1] at h
    refine r_sub [1, 2, 3, 4, 6] (lv' := [(0, .ref (gA X 46)), (1, .int x1), (2, .int x2), (3, .int x3), (5, .int x5)]) rfl ?_
    exact t_Mo_isOne_115 C hR hk6 x1 x2 x3 x5 h
  · rw [if_neg hc_1] at h
    refine r_aload_n C 1 d_Mo_isOne_69 rfl rfl ?_
    refine q_Mo_47 C d_Mo_isOne_70 ?_
    refine r_iload C 7 d_Mo_isOne_73 rfl ?_
    obtain ⟨hi_2, h⟩ := ck_some h
    refine r_iald C hi_2 d_Mo_isOne_75 ?_
    refine r_aload_n C 1 d_Mo_isOne_76 rfl rfl ?_
    refine q_Mo_47 C d_Mo_isOne_77 ?_
    refine r_iload C 0 d_Mo_isOne_80 rfl ?_
    obtain ⟨hi_3, h⟩ := ck_some h
    refine r_iald C hi_3 d_Mo_isOne_82 ?_
    refine r_icmp_ne C (tgt := 115) d_Mo_isOne_83 (by decide) (fun hc_4 => ?_) (fun hc_4 => ?_)
    · rw [if_neg hc_4] at h
      refine r_sub [1, 2, 3, 4, 6] (lv' := [(0, .ref (gA X 46)), (1, .int x1), (2, .int x2), (3, .int x3), (5, .int x5)]) rfl ?_
      exact t_Mo_isOne_115 C hR hk6 x1 x2 x3 x5 h
    · rw [if_pos hc_4] at h
      refine r_aload_n C 1 d_Mo_isOne_86 rfl rfl ?_
      refine q_Mo_47 C d_Mo_isOne_87 ?_
      refine r_sipush C (v := 4096) d_Mo_isOne_90 (by decide) ?_
      refine r_iload C 7 d_Mo_isOne_93 rfl ?_
      refine r_iadd C d_Mo_isOne_95 ?_
      obtain ⟨hi_5, h⟩ := ck_some h
      refine r_iald C hi_5 d_Mo_isOne_96 ?_
      refine r_aload_n C 1 d_Mo_isOne_97 rfl rfl ?_
      refine q_Mo_47 C d_Mo_isOne_98 ?_
      refine r_sipush C (v := 4096) d_Mo_isOne_101 (by decide) ?_
      refine r_iload C 0 d_Mo_isOne_104 rfl ?_
      refine r_iadd C d_Mo_isOne_106 ?_
      obtain ⟨hi_6, h⟩ := ck_some h
      refine r_iald C hi_6 d_Mo_isOne_107 ?_
      refine r_icmp_ne C (tgt := 115) d_Mo_isOne_108 (by decide) (fun hc_7 => ?_) (fun hc_7 => ?_)
      · rw [if_neg hc_7] at h
        refine r_sub [1, 2, 3, 4, 6] (lv' := [(0, .ref (gA X 46)), (1, .int x1), (2, .int x2), (3, .int x3), (5, .int x5)]) rfl ?_
        exact t_Mo_isOne_115 C hR hk6 x1 x2 x3 x5 h
      · rw [if_pos hc_7] at h
        refine r_iconst C (v := 1) d_Mo_isOne_111 (by decide) ?_
        refine r_goto C (tgt := 116) d_Mo_isOne_112 (by decide) ?_
        refine r_sub [1, 2, 3, 4, 6] (lv' := [(0, .ref (gA X 46)), (1, .int x1), (2, .int x2), (3, .int x3), (5, .int x5)]) rfl ?_
        exact t_Mo_isOne_116 C hR hk6 x1 x2 x3 x5 1 h
set_option maxHeartbeats 4000000 in
set_option maxRecDepth 100000 in
theorem t_Mo_isOne_39 {X : gX} {r : Int32} {σ : gS} (C : gC X b_Mo_isOne_c R_Mo 8 1 21) (hR : ∀ pc lv, isB r = true → decode b_Mo_isOne_c pc = .ok (.ireturn, 1) → G X pc lv [.int r] σ) {k6 : Int32 × Int32 × Int32 × Int32 × Int32 → Option Int32}  (hk6 : ∀ x, k6 x = some r → G X 6 [(0, .ref (gA X 46)), (1, .int x.1), (2, .int x.2.1), (3, .int x.2.2.1), (4, .int x.2.2.2.1), (5, .int x.2.2.2.2)] [] σ) (x1 : Int32) (x2 : Int32) (x3 : Int32) (x4 : Int32) (x5 : Int32) (y0 : Int32) (h : b_Mo_isOne_39 σ k6 x1 x2 x3 x4 x5 y0 = some r) : G X 39 [(0, .ref (gA X 46)), (1, .int x1), (2, .int x2), (3, .int x3), (4, .int x4), (5, .int x5)] [.int y0] σ := by
  unfold b_Mo_isOne_39 at h
  refine r_istore C (lv' := [(6, .int y0), (0, .ref (gA X 46)), (1, .int x1), (2, .int x2), (3, .int x3), (4, .int x4), (5, .int x5)]) d_Mo_isOne_39 (by decide) rfl rfl ?_
  refine r_iload_n C 2 d_Mo_isOne_41 rfl rfl ?_
  refine r_if_ne C (tgt := 55) d_Mo_isOne_42 (by decide) (fun hc_1 => ?_) (fun hc_1 => ?_)
  · rw [if_neg hc_1] at h
    refine r_bipush C (v := 64) d_Mo_isOne_55 (by decide) ?_
    refine r_iload C 6 d_Mo_isOne_57 rfl ?_
    refine r_imul C d_Mo_isOne_59 ?_
    refine r_iload_n C 4 d_Mo_isOne_60 rfl rfl ?_
    refine r_iadd C d_Mo_isOne_61 ?_
    refine r_sub [1, 2, 3, 4, 5, 6, 0] (lv' := [(0, .ref (gA X 46)), (1, .int x1), (2, .int x2), (3, .int x3), (4, .int x4), (5, .int x5), (6, .int y0)]) rfl ?_
    exact t_Mo_isOne_62 C hR hk6 x1 x2 x3 x4 x5 y0 ((64 * x5) + x3) h
  · rw [if_pos hc_1] at h
    refine r_bipush C (v := 64) d_Mo_isOne_45 (by decide) ?_
    refine r_iload_n C 4 d_Mo_isOne_47 rfl rfl ?_
    refine r_imul C d_Mo_isOne_48 ?_
    refine r_iload C 6 d_Mo_isOne_49 rfl ?_
    refine r_iadd C d_Mo_isOne_51 ?_
    refine r_goto C (tgt := 62) d_Mo_isOne_52 (by decide) ?_
    refine r_sub [1, 2, 3, 4, 5, 6, 0] (lv' := [(0, .ref (gA X 46)), (1, .int x1), (2, .int x2), (3, .int x3), (4, .int x4), (5, .int x5), (6, .int y0)]) rfl ?_
    exact t_Mo_isOne_62 C hR hk6 x1 x2 x3 x4 x5 y0 ((64 * x3) + x5) h
set_option maxHeartbeats 4000000 in
set_option maxRecDepth 100000 in
theorem t_Mo_isOne_6 {X : gX} {r : Int32} {σ : gS} (C : gC X b_Mo_isOne_c R_Mo 8 1 21) (hR : ∀ pc lv, isB r = true → decode b_Mo_isOne_c pc = .ok (.ireturn, 1) → G X pc lv [.int r] σ) {k6 : Int32 × Int32 × Int32 × Int32 × Int32 → Option Int32}  (hk6 : ∀ x, k6 x = some r → G X 6 [(0, .ref (gA X 46)), (1, .int x.1), (2, .int x.2.1), (3, .int x.2.2.1), (4, .int x.2.2.2.1), (5, .int x.2.2.2.2)] [] σ) (x1 : Int32) (x2 : Int32) (x3 : Int32) (x4 : Int32) (x5 : Int32) (h : b_Mo_isOne_6 σ k6 x1 x2 x3 x4 x5 = some r) : G X 6 [(0, .ref (gA X 46)), (1, .int x1), (2, .int x2), (3, .int x3), (4, .int x4), (5, .int x5)] [] σ := by
  unfold b_Mo_isOne_6 at h
  refine r_iload C 5 d_Mo_isOne_6 rfl ?_
  refine r_aload_n C 0 d_Mo_isOne_8 rfl rfl ?_
  refine r_iconst C (v := 1) d_Mo_isOne_9 (by decide) ?_
  refine r_iload_n C 1 d_Mo_isOne_10 rfl rfl ?_
  refine r_isub C d_Mo_isOne_11 ?_
  obtain ⟨r_1, er_1, h⟩ := bind_some h
  refine r_callV C (As := [.int (1 - x1)]) (rest := [.int x5]) (st1 := [.int r_1, .int x5]) (c_Mo_many X.1.2.1 σ (1 - x1) er_1) k_Mo_many m_500 (by decide) cel_Mo rfl rfl rfl rfl (Nat.le_of_ble_eq_true rfl) ⟨Nat.le_of_ble_eq_true rfl, Nat.le_of_ble_eq_true rfl⟩ d_Mo_isOne_12 rfl ?_
  refine r_icmp_ge C (tgt := 124) d_Mo_isOne_15 (by decide) (fun hc_2 => ?_) (fun hc_2 => ?_)
  · rw [if_pos hc_2] at h
    refine r_iload C 4 d_Mo_isOne_124 rfl ?_
    obtain ⟨hB, h⟩ := ck_some h
    cases h
    exact hR _ _ hB d_Mo_isOne_126
  · rw [if_neg hc_2] at h
    refine r_iload_n C 1 d_Mo_isOne_18 rfl rfl ?_
    refine r_if_ne C (tgt := 32) d_Mo_isOne_19 (by decide) (fun hc_3 => ?_) (fun hc_3 => ?_)
    · rw [if_neg hc_3] at h
      refine r_bipush C (v := 64) d_Mo_isOne_32 (by decide) ?_
      refine r_iload C 5 d_Mo_isOne_34 rfl ?_
      refine r_imul C d_Mo_isOne_36 ?_
      refine r_iload_n C 2 d_Mo_isOne_37 rfl rfl ?_
      refine r_iadd C d_Mo_isOne_38 ?_
      exact t_Mo_isOne_39 C hR hk6 x1 x2 x3 x4 x5 ((64 * x5) + x2) h
    · rw [if_pos hc_3] at h
      refine r_bipush C (v := 64) d_Mo_isOne_22 (by decide) ?_
      refine r_iload_n C 2 d_Mo_isOne_24 rfl rfl ?_
      refine r_imul C d_Mo_isOne_25 ?_
      refine r_iload C 5 d_Mo_isOne_26 rfl ?_
      refine r_iadd C d_Mo_isOne_28 ?_
      refine r_goto C (tgt := 39) d_Mo_isOne_29 (by decide) ?_
      exact t_Mo_isOne_39 C hR hk6 x1 x2 x3 x4 x5 ((64 * x2) + x5) h
set_option maxHeartbeats 4000000 in
set_option maxRecDepth 100000 in
theorem u_Mo_isOne_6 {X : gX} {r : Int32} {σ : gS} (C : gC X b_Mo_isOne_c R_Mo 8 1 21) (hR : ∀ pc lv, isB r = true → decode b_Mo_isOne_c pc = .ok (.ireturn, 1) → G X pc lv [.int r] σ)  (x : Int32 × Int32 × Int32 × Int32 × Int32) (h : l_Mo_isOne_6 σ x = some r) : G X 6 [(0, .ref (gA X 46)), (1, .int x.1), (2, .int x.2.1), (3, .int x.2.2.1), (4, .int x.2.2.2.1), (5, .int x.2.2.2.2)] [] σ :=
  lpF_ind (P := fun x => G X 6 [(0, .ref (gA X 46)), (1, .int x.1), (2, .int x.2.1), (3, .int x.2.2.1), (4, .int x.2.2.2.1), (5, .int x.2.2.2.2)] [] σ) (fun k hk x h => t_Mo_isOne_6 C hR hk x.1 x.2.1 x.2.2.1 x.2.2.2.1 x.2.2.2.2 h) gF x h
set_option maxHeartbeats 4000000 in
set_option maxRecDepth 100000 in
theorem t_Mo_isOne_0 {X : gX} {r : Int32} {σ : gS} (C : gC X b_Mo_isOne_c R_Mo 8 1 21) (hR : ∀ pc lv, isB r = true → decode b_Mo_isOne_c pc = .ok (.ireturn, 1) → G X pc lv [.int r] σ) (x1 : Int32) (x2 : Int32) (x3 : Int32) (h : b_Mo_isOne_0 σ x1 x2 x3 = some r) : G X 0 [(0, .ref (gA X 46)), (1, .int x1), (2, .int x2), (3, .int x3)] [] σ := by
  unfold b_Mo_isOne_0 at h
  refine r_iconst C (v := 1) d_Mo_isOne_0 (by decide) ?_
  refine r_istore C (lv' := [(4, .int 1), (0, .ref (gA X 46)), (1, .int x1), (2, .int x2), (3, .int x3)]) d_Mo_isOne_1 (by decide) rfl rfl ?_
  refine r_iconst C (v := 0) d_Mo_isOne_3 (by decide) ?_
  refine r_istore C (lv' := [(5, .int 0), (4, .int 1), (0, .ref (gA X 46)), (1, .int x1), (2, .int x2), (3, .int x3)]) d_Mo_isOne_4 (by decide) rfl rfl ?_
  refine r_sub [2, 3, 4, 5, 1, 0] (lv' := [(0, .ref (gA X 46)), (1, .int x1), (2, .int x2), (3, .int x3), (4, .int 1), (5, .int 0)]) rfl ?_
  exact u_Mo_isOne_6 C hR  (x1, x2, x3, 1, 0) h
set_option maxHeartbeats 4000000 in
set_option maxRecDepth 100000 in
theorem c_Mo_isOne (l : Launch) (σ : gS) (x1 : Int32) (x2 : Int32) (x3 : Int32) {r : Int32} (h : f_Mo_isOne σ x1 x2 x3 = some r) : gMet l y_Mo_isOne b_Mo_isOne_c 8 (some .boolean) 1 21 (fun a => [.ref (a 46), .int x1, .int x2, .int x3]) σ (some (.int r)) σ := by
  refine gMet_z (by decide +kernel) (fun a => Nat.le_of_ble_eq_true rfl) (fun X _ C hR => ?_)
  refine r_sub [0, 1, 2, 3] (lv' := [(0, .ref (gA X 46)), (1, .int x1), (2, .int x2), (3, .int x3)]) rfl ?_
  exact t_Mo_isOne_0 C hR x1 x2 x3 h
theorem d_Mo_than_0 : decode b_Mo_than_c 0 = .ok (.aload_n 0, 1) := by decide +kernel
theorem d_Mo_than_1 : decode b_Mo_than_c 1 = .ok (.getfield 71, 3) := by decide +kernel
theorem d_Mo_than_4 : decode b_Mo_than_c 4 = .ok (.ifCond .ne 6, 3) := by decide +kernel
theorem d_Mo_than_7 : decode b_Mo_than_c 7 = .ok (.ldc 134, 2) := by decide +kernel
theorem d_Mo_than_9 : decode b_Mo_than_c 9 = .ok (.ireturn, 1) := by decide +kernel
theorem d_Mo_than_10 : decode b_Mo_than_c 10 = .ok (.iload_n 1, 1) := by decide +kernel
theorem d_Mo_than_11 : decode b_Mo_than_c 11 = .ok (.iconst 0, 1) := by decide +kernel
theorem d_Mo_than_12 : decode b_Mo_than_c 12 = .ok (.iconst 1, 1) := by decide +kernel
theorem d_Mo_than_13 : decode b_Mo_than_c 13 = .ok (.invokestatic 78, 3) := by decide +kernel
theorem d_Mo_than_16 : decode b_Mo_than_c 16 = .ok (.ifCond .eq 12, 3) := by decide +kernel
theorem d_Mo_than_19 : decode b_Mo_than_c 19 = .ok (.iload_n 3, 1) := by decide +kernel
theorem d_Mo_than_20 : decode b_Mo_than_c 20 = .ok (.iconst 0, 1) := by decide +kernel
theorem d_Mo_than_21 : decode b_Mo_than_c 21 = .ok (.iconst 2, 1) := by decide +kernel
theorem d_Mo_than_22 : decode b_Mo_than_c 22 = .ok (.invokestatic 78, 3) := by decide +kernel
theorem d_Mo_than_25 : decode b_Mo_than_c 25 = .ok (.ifCond .ne 6, 3) := by decide +kernel
theorem d_Mo_than_28 : decode b_Mo_than_c 28 = .ok (.bipush (-2), 2) := by decide +kernel
theorem d_Mo_than_30 : decode b_Mo_than_c 30 = .ok (.ireturn, 1) := by decide +kernel
theorem d_Mo_than_31 : decode b_Mo_than_c 31 = .ok (.aload_n 0, 1) := by decide +kernel
theorem d_Mo_than_32 : decode b_Mo_than_c 32 = .ok (.aload_n 0, 1) := by decide +kernel
theorem d_Mo_than_33 : decode b_Mo_than_c 33 = .ok (.invokevirtual 135, 3) := by decide +kernel
theorem d_Mo_than_36 : decode b_Mo_than_c 36 = .ok (.invokevirtual 139, 3) := by decide +kernel
theorem d_Mo_than_39 : decode b_Mo_than_c 39 = .ok (.iload_n 2, 1) := by decide +kernel
theorem d_Mo_than_40 : decode b_Mo_than_c 40 = .ok (.iconst 0, 1) := by decide +kernel
theorem d_Mo_than_41 : decode b_Mo_than_c 41 = .ok (.aload_n 0, 1) := by decide +kernel
theorem d_Mo_than_42 : decode b_Mo_than_c 42 = .ok (.iload_n 1, 1) := by decide +kernel
theorem d_Mo_than_43 : decode b_Mo_than_c 43 = .ok (.invokevirtual 146, 3) := by decide +kernel
theorem d_Mo_than_46 : decode b_Mo_than_c 46 = .ok (.iconst 1, 1) := by decide +kernel
theorem d_Mo_than_47 : decode b_Mo_than_c 47 = .ok (.isub, 1) := by decide +kernel
theorem d_Mo_than_48 : decode b_Mo_than_c 48 = .ok (.invokestatic 78, 3) := by decide +kernel
theorem d_Mo_than_51 : decode b_Mo_than_c 51 = .ok (.ifCond .ne 6, 3) := by decide +kernel
theorem d_Mo_than_54 : decode b_Mo_than_c 54 = .ok (.bipush (-2), 2) := by decide +kernel
theorem d_Mo_than_56 : decode b_Mo_than_c 56 = .ok (.ireturn, 1) := by decide +kernel
theorem d_Mo_than_57 : decode b_Mo_than_c 57 = .ok (.aload_n 0, 1) := by decide +kernel
theorem d_Mo_than_58 : decode b_Mo_than_c 58 = .ok (.invokevirtual 182, 3) := by decide +kernel
theorem d_Mo_than_61 : decode b_Mo_than_c 61 = .ok (.iconst (-1), 1) := by decide +kernel
theorem d_Mo_than_62 : decode b_Mo_than_c 62 = .ok (.istore 4, 2) := by decide +kernel
theorem d_Mo_than_64 : decode b_Mo_than_c 64 = .ok (.iconst 0, 1) := by decide +kernel
theorem d_Mo_than_65 : decode b_Mo_than_c 65 = .ok (.istore 5, 2) := by decide +kernel
theorem d_Mo_than_67 : decode b_Mo_than_c 67 = .ok (.iload 5, 2) := by decide +kernel
theorem d_Mo_than_69 : decode b_Mo_than_c 69 = .ok (.aload_n 0, 1) := by decide +kernel
theorem d_Mo_than_70 : decode b_Mo_than_c 70 = .ok (.iload_n 1, 1) := by decide +kernel
theorem d_Mo_than_71 : decode b_Mo_than_c 71 = .ok (.invokevirtual 146, 3) := by decide +kernel
theorem d_Mo_than_74 : decode b_Mo_than_c 74 = .ok (.if_icmp .ge 70, 3) := by decide +kernel
theorem d_Mo_than_77 : decode b_Mo_than_c 77 = .ok (.iload 4, 2) := by decide +kernel
theorem d_Mo_than_79 : decode b_Mo_than_c 79 = .ok (.iconst (-1), 1) := by decide +kernel
theorem d_Mo_than_80 : decode b_Mo_than_c 80 = .ok (.if_icmp .ne 64, 3) := by decide +kernel
theorem d_Mo_than_83 : decode b_Mo_than_c 83 = .ok (.iload_n 3, 1) := by decide +kernel
theorem d_Mo_than_84 : decode b_Mo_than_c 84 = .ok (.ifCond .ne 14, 3) := by decide +kernel
theorem d_Mo_than_87 : decode b_Mo_than_c 87 = .ok (.aload_n 0, 1) := by decide +kernel
theorem d_Mo_than_88 : decode b_Mo_than_c 88 = .ok (.iload_n 1, 1) := by decide +kernel
theorem d_Mo_than_89 : decode b_Mo_than_c 89 = .ok (.iload_n 2, 1) := by decide +kernel
theorem d_Mo_than_90 : decode b_Mo_than_c 90 = .ok (.iload 5, 2) := by decide +kernel
theorem d_Mo_than_92 : decode b_Mo_than_c 92 = .ok (.invokevirtual 185, 3) := by decide +kernel
theorem d_Mo_than_95 : decode b_Mo_than_c 95 = .ok (.goto 27, 3) := by decide +kernel
theorem d_Mo_than_98 : decode b_Mo_than_c 98 = .ok (.iload_n 3, 1) := by decide +kernel
theorem d_Mo_than_99 : decode b_Mo_than_c 99 = .ok (.iconst 1, 1) := by decide +kernel
theorem d_Mo_than_100 : decode b_Mo_than_c 100 = .ok (.if_icmp .ne 14, 3) := by decide +kernel
theorem d_Mo_than_103 : decode b_Mo_than_c 103 = .ok (.aload_n 0, 1) := by decide +kernel
theorem d_Mo_than_104 : decode b_Mo_than_c 104 = .ok (.iload_n 1, 1) := by decide +kernel
theorem d_Mo_than_105 : decode b_Mo_than_c 105 = .ok (.iload_n 2, 1) := by decide +kernel
theorem d_Mo_than_106 : decode b_Mo_than_c 106 = .ok (.iload 5, 2) := by decide +kernel
theorem d_Mo_than_108 : decode b_Mo_than_c 108 = .ok (.invokevirtual 188, 3) := by decide +kernel
theorem d_Mo_than_111 : decode b_Mo_than_c 111 = .ok (.goto 11, 3) := by decide +kernel
theorem d_Mo_than_114 : decode b_Mo_than_c 114 = .ok (.aload_n 0, 1) := by decide +kernel
theorem d_Mo_than_115 : decode b_Mo_than_c 115 = .ok (.iload_n 1, 1) := by decide +kernel
theorem d_Mo_than_116 : decode b_Mo_than_c 116 = .ok (.iload_n 2, 1) := by decide +kernel
theorem d_Mo_than_117 : decode b_Mo_than_c 117 = .ok (.iload 5, 2) := by decide +kernel
theorem d_Mo_than_119 : decode b_Mo_than_c 119 = .ok (.invokevirtual 191, 3) := by decide +kernel
theorem d_Mo_than_122 : decode b_Mo_than_c 122 = .ok (.istore 6, 2) := by decide +kernel
theorem d_Mo_than_124 : decode b_Mo_than_c 124 = .ok (.iload 6, 2) := by decide +kernel
theorem d_Mo_than_126 : decode b_Mo_than_c 126 = .ok (.ifCond .eq 8, 3) := by decide +kernel
theorem d_Mo_than_129 : decode b_Mo_than_c 129 = .ok (.iload 5, 2) := by decide +kernel
theorem d_Mo_than_131 : decode b_Mo_than_c 131 = .ok (.goto 5, 3) := by decide +kernel
theorem d_Mo_than_134 : decode b_Mo_than_c 134 = .ok (.iload 4, 2) := by decide +kernel
theorem d_Mo_than_136 : decode b_Mo_than_c 136 = .ok (.istore 4, 2) := by decide +kernel
theorem d_Mo_than_138 : decode b_Mo_than_c 138 = .ok (.iinc 5 1, 3) := by decide +kernel
theorem d_Mo_than_141 : decode b_Mo_than_c 141 = .ok (.goto (-74), 3) := by decide +kernel
theorem d_Mo_than_144 : decode b_Mo_than_c 144 = .ok (.iload 4, 2) := by decide +kernel
theorem d_Mo_than_146 : decode b_Mo_than_c 146 = .ok (.ireturn, 1) := by decide +kernel
/-! GameRowsModel.than(III)I -/
set_option maxHeartbeats 4000000 in
set_option maxRecDepth 100000 in
theorem t_Mo_than_136 {X : gX} {r : (Int32 × gS)} (C : gC X b_Mo_than_c R_Mo 7 3 73) (hR : ∀ pc lv, decode b_Mo_than_c pc = .ok (.ireturn, 1) → G X pc lv [.int r.1] r.2) {k67 : Int32 × Int32 × Int32 × Int32 × Int32 × gS → Option (Int32 × gS)}  (hk67 : ∀ x, k67 x = some r → G X 67 [(0, .ref (gA X 46)), (1, .int x.1), (2, .int x.2.1), (3, .int x.2.2.1), (4, .int x.2.2.2.1), (5, .int x.2.2.2.2.1)] [] x.2.2.2.2.2) (x1 : Int32) (x2 : Int32) (x3 : Int32) (x5 : Int32) (y0 : Int32) (σ : gS) (h : b_Mo_than_136 k67 x1 x2 x3 x5 y0 σ = some r) : G X 136 [(0, .ref (gA X 46)), (1, .int x1), (2, .int x2), (3, .int x3), (5, .int x5)] [.int y0] σ := by
  unfold b_Mo_than_136 at h
  refine r_istore C (lv' := [(4, .int y0), (0, .ref (gA X 46)), (1, .int x1), (2, .int x2), (3, .int x3), (5, .int x5)]) d_Mo_than_136 (by decide) rfl rfl ?_
  obtain ⟨x5_1, ex5_1, h⟩ := bnd_some h
  refine r_iinc C 5 (lv' := [(5, .int x5_1), (4, .int y0), (0, .ref (gA X 46)), (1, .int x1), (2, .int x2), (3, .int x3)]) d_Mo_than_138 rfl (by rw [ex5_1]; rfl) (by decide) rfl ?_
  refine r_goto C (tgt := 67) d_Mo_than_141 (by decide) ?_
  refine r_sub [2, 3, 4, 5, 1, 0] (lv' := [(0, .ref (gA X 46)), (1, .int x1), (2, .int x2), (3, .int x3), (4, .int y0), (5, .int x5_1)]) rfl ?_
  exact hk67 _ h
set_option maxHeartbeats 4000000 in
set_option maxRecDepth 100000 in
theorem t_Mo_than_122 {X : gX} {r : (Int32 × gS)} (C : gC X b_Mo_than_c R_Mo 7 3 73) (hR : ∀ pc lv, decode b_Mo_than_c pc = .ok (.ireturn, 1) → G X pc lv [.int r.1] r.2) {k67 : Int32 × Int32 × Int32 × Int32 × Int32 × gS → Option (Int32 × gS)}  (hk67 : ∀ x, k67 x = some r → G X 67 [(0, .ref (gA X 46)), (1, .int x.1), (2, .int x.2.1), (3, .int x.2.2.1), (4, .int x.2.2.2.1), (5, .int x.2.2.2.2.1)] [] x.2.2.2.2.2) (x1 : Int32) (x2 : Int32) (x3 : Int32) (x4 : Int32) (x5 : Int32) (y0 : Int32) (σ : gS) (h : b_Mo_than_122 k67 x1 x2 x3 x4 x5 y0 σ = some r) : G X 122 [(0, .ref (gA X 46)), (1, .int x1), (2, .int x2), (3, .int x3), (4, .int x4), (5, .int x5)] [.int y0] σ := by
  unfold b_Mo_than_122 at h
  refine r_istore C (lv' := [(6, .int y0), (0, .ref (gA X 46)), (1, .int x1), (2, .int x2), (3, .int x3), (4, .int x4), (5, .int x5)]) d_Mo_than_122 (by decide) rfl rfl ?_
  refine r_iload C 0 d_Mo_than_124 rfl ?_
  refine r_if_eq C (tgt := 134) d_Mo_than_126 (by decide) (fun hc_1 => ?_) (fun hc_1 => ?_)
  · rw [if_pos hc_1] at h
    refine r_iload C 5 d_Mo_than_134 rfl ?_
    refine r_sub [1, 2, 3, 4, 6] (lv' := [(0, .ref (gA X 46)), (1, .int x1), (2, .int x2), (3, .int x3), (5, .int x5)]) rfl ?_
    exact t_Mo_than_136 C hR hk67 x1 x2 x3 x5 x4 σ h
  · rw [if_neg hc_1] at h
    refine r_iload C 6 d_Mo_than_129 rfl ?_
    refine r_goto C (tgt := 136) d_Mo_than_131 (by decide) ?_
    refine r_sub [1, 2, 3, 4, 6] (lv' := [(0, .ref (gA X 46)), (1, .int x1), (2, .int x2), (3, .int x3), (5, .int x5)]) rfl ?_
    exact t_Mo_than_136 C hR hk67 x1 x2 x3 x5 x5 σ h
set_option maxHeartbeats 4000000 in
set_option maxRecDepth 100000 in
theorem t_Mo_than_67 {X : gX} {r : (Int32 × gS)} (C : gC X b_Mo_than_c R_Mo 7 3 73) (hR : ∀ pc lv, decode b_Mo_than_c pc = .ok (.ireturn, 1) → G X pc lv [.int r.1] r.2) {k67 : Int32 × Int32 × Int32 × Int32 × Int32 × gS → Option (Int32 × gS)}  (hk67 : ∀ x, k67 x = some r → G X 67 [(0, .ref (gA X 46)), (1, .int x.1), (2, .int x.2.1), (3, .int x.2.2.1), (4, .int x.2.2.2.1), (5, .int x.2.2.2.2.1)] [] x.2.2.2.2.2) (x1 : Int32) (x2 : Int32) (x3 : Int32) (x4 : Int32) (x5 : Int32) (σ : gS) (h : b_Mo_than_67 k67 x1 x2 x3 x4 x5 σ = some r) : G X 67 [(0, .ref (gA X 46)), (1, .int x1), (2, .int x2), (3, .int x3), (4, .int x4), (5, .int x5)] [] σ := by
  unfold b_Mo_than_67 at h
  refine r_iload C 5 d_Mo_than_67 rfl ?_
  refine r_aload_n C 0 d_Mo_than_69 rfl rfl ?_
  refine r_iload_n C 1 d_Mo_than_70 rfl rfl ?_
  obtain ⟨r_1, er_1, h⟩ := bind_some h
  refine r_callV C (As := [.int x1]) (rest := [.int x5]) (st1 := [.int r_1, .int x5]) (c_Mo_many X.1.2.1 σ x1 er_1) k_Mo_many m_500 (by decide) cel_Mo rfl rfl rfl rfl (Nat.le_of_ble_eq_true rfl) ⟨Nat.le_of_ble_eq_true rfl, Nat.le_of_ble_eq_true rfl⟩ d_Mo_than_71 rfl ?_
  refine r_icmp_ge C (tgt := 144) d_Mo_than_74 (by decide) (fun hc_2 => ?_) (fun hc_2 => ?_)
  · rw [if_pos hc_2] at h
    refine r_iload C 4 d_Mo_than_144 rfl ?_
    cases h
    exact hR _ _ d_Mo_than_146
  · rw [if_neg hc_2] at h
    refine r_iload C 4 d_Mo_than_77 rfl ?_
    refine r_iconst C (v := (-1)) d_Mo_than_79 (by decide) ?_
    refine r_icmp_ne C (tgt := 144) d_Mo_than_80 (by decide) (fun hc_3 => ?_) (fun hc_3 => ?_)
    · rw [if_neg hc_3] at h
      refine r_iload C 4 d_Mo_than_144 rfl ?_
      cases h
      exact hR _ _ d_Mo_than_146
    · rw [if_pos hc_3] at h
      refine r_iload_n C 3 d_Mo_than_83 rfl rfl ?_
      refine r_if_ne C (tgt := 98) d_Mo_than_84 (by decide) (fun hc_4 => ?_) (fun hc_4 => ?_)
      · rw [if_neg hc_4] at h
        refine r_iload_n C 3 d_Mo_than_98 rfl rfl ?_
        refine r_iconst C (v := 1) d_Mo_than_99 (by decide) ?_
        refine r_icmp_ne C (tgt := 114) d_Mo_than_100 (by decide) (fun hc_5 => ?_) (fun hc_5 => ?_)
        · rw [if_neg hc_5] at h
          refine r_aload_n C 0 d_Mo_than_114 rfl rfl ?_
          refine r_iload_n C 1 d_Mo_than_115 rfl rfl ?_
          refine r_iload_n C 2 d_Mo_than_116 rfl rfl ?_
          refine r_iload C 5 d_Mo_than_117 rfl ?_
          obtain ⟨r_6, er_6, h⟩ := bind_some h
          refine r_callV C (As := [.int x1, .int x2, .int x5]) (rest := []) (st1 := [.int r_6]) (c_Mo_isOne X.1.2.1 σ x1 x2 x5 er_6) k_Mo_isOne m_541 (by decide) cel_Mo rfl rfl rfl rfl (Nat.le_of_ble_eq_true rfl) ⟨Nat.le_of_ble_eq_true rfl, Nat.le_of_ble_eq_true rfl⟩ d_Mo_than_119 rfl ?_
          exact t_Mo_than_122 C hR hk67 x1 x2 x3 x4 x5 r_6 σ h
        · rw [if_pos hc_5] at h
          refine r_aload_n C 0 d_Mo_than_103 rfl rfl ?_
          refine r_iload_n C 1 d_Mo_than_104 rfl rfl ?_
          refine r_iload_n C 2 d_Mo_than_105 rfl rfl ?_
          refine r_iload C 5 d_Mo_than_106 rfl ?_
          obtain ⟨r_7, er_7, h⟩ := bind_some h
          refine r_callV C (As := [.int x1, .int x2, .int x5]) (rest := []) (st1 := [.int r_7]) (c_Mo_isWeaker X.1.2.1 σ x1 x2 x5 er_7) k_Mo_isWeaker m_545 (by decide) cel_Mo rfl rfl rfl rfl (Nat.le_of_ble_eq_true rfl) ⟨Nat.le_of_ble_eq_true rfl, Nat.le_of_ble_eq_true rfl⟩ d_Mo_than_108 rfl ?_
          refine r_goto C (tgt := 122) d_Mo_than_111 (by decide) ?_
          exact t_Mo_than_122 C hR hk67 x1 x2 x3 x4 x5 r_7 σ h
      · rw [if_pos hc_4] at h
        refine r_aload_n C 0 d_Mo_than_87 rfl rfl ?_
        refine r_iload_n C 1 d_Mo_than_88 rfl rfl ?_
        refine r_iload_n C 2 d_Mo_than_89 rfl rfl ?_
        refine r_iload C 5 d_Mo_than_90 rfl ?_
        obtain ⟨r_8, er_8, h⟩ := bind_some h
        refine r_callV C (As := [.int x1, .int x2, .int x5]) (rest := []) (st1 := [.int r_8]) (c_Mo_isWorse X.1.2.1 σ x1 x2 x5 er_8) k_Mo_isWorse m_549 (by decide) cel_Mo rfl rfl rfl rfl (Nat.le_of_ble_eq_true rfl) ⟨Nat.le_of_ble_eq_true rfl, Nat.le_of_ble_eq_true rfl⟩ d_Mo_than_92 rfl ?_
        refine r_goto C (tgt := 122) d_Mo_than_95 (by decide) ?_
        exact t_Mo_than_122 C hR hk67 x1 x2 x3 x4 x5 r_8 σ h
set_option maxHeartbeats 4000000 in
set_option maxRecDepth 100000 in
theorem u_Mo_than_67 {X : gX} {r : (Int32 × gS)} (C : gC X b_Mo_than_c R_Mo 7 3 73) (hR : ∀ pc lv, decode b_Mo_than_c pc = .ok (.ireturn, 1) → G X pc lv [.int r.1] r.2)  (x : Int32 × Int32 × Int32 × Int32 × Int32 × gS) (h : l_Mo_than_67 x = some r) : G X 67 [(0, .ref (gA X 46)), (1, .int x.1), (2, .int x.2.1), (3, .int x.2.2.1), (4, .int x.2.2.2.1), (5, .int x.2.2.2.2.1)] [] x.2.2.2.2.2 :=
  lpF_ind (P := fun x => G X 67 [(0, .ref (gA X 46)), (1, .int x.1), (2, .int x.2.1), (3, .int x.2.2.1), (4, .int x.2.2.2.1), (5, .int x.2.2.2.2.1)] [] x.2.2.2.2.2) (fun k hk x h => t_Mo_than_67 C hR hk x.1 x.2.1 x.2.2.1 x.2.2.2.1 x.2.2.2.2.1 x.2.2.2.2.2 h) gF x h
set_option maxHeartbeats 4000000 in
set_option maxRecDepth 100000 in
theorem t_Mo_than_0 {X : gX} {r : (Int32 × gS)} (C : gC X b_Mo_than_c R_Mo 7 3 73) (hR : ∀ pc lv, decode b_Mo_than_c pc = .ok (.ireturn, 1) → G X pc lv [.int r.1] r.2) (x1 : Int32) (x2 : Int32) (x3 : Int32) (σ : gS) (h : b_Mo_than_0 x1 x2 x3 σ = some r) : G X 0 [(0, .ref (gA X 46)), (1, .int x1), (2, .int x2), (3, .int x3)] [] σ := by
  unfold b_Mo_than_0 at h
  refine r_aload_n C 0 d_Mo_than_0 rfl rfl ?_
  refine q_Mo_71 C d_Mo_than_1 ?_
  refine r_if_ne C (tgt := 10) d_Mo_than_4 (by decide) (fun hc_1 => ?_) (fun hc_1 => ?_)
  · rw [if_neg hc_1] at h
    refine r_iload_n C 1 d_Mo_than_10 rfl rfl ?_
    refine r_iconst C (v := 0) d_Mo_than_11 (by decide) ?_
    refine r_iconst C (v := 1) d_Mo_than_12 (by decide) ?_
    obtain ⟨r_2, er_2, h⟩ := bind_some h
    refine r_callS C (As := [.int x1, .int 0, .int 1]) (rest := []) (st1 := [.int r_2]) (c_Mo_isFrom X.1.2.1 σ x1 0 1 er_2) k_Mo_isFrom m_420 rfl rfl rfl (Nat.le_of_ble_eq_true rfl) ⟨Nat.le_of_ble_eq_true rfl, Nat.le_of_ble_eq_true rfl⟩ d_Mo_than_13 rfl ?_
    refine r_if_eq C (tgt := 28) d_Mo_than_16 (by decide) (fun hc_3 => ?_) (fun hc_3 => ?_)
    · rw [if_pos hc_3] at h
      refine r_bipush C (v := (-2)) d_Mo_than_28 (by decide) ?_
      cases h
      exact hR _ _ d_Mo_than_30
    · rw [if_neg hc_3] at h
      refine r_iload_n C 3 d_Mo_than_19 rfl rfl ?_
      refine r_iconst C (v := 0) d_Mo_than_20 (by decide) ?_
      refine r_iconst C (v := 2) d_Mo_than_21 (by decide) ?_
      obtain ⟨r_4, er_4, h⟩ := bind_some h
      refine r_callS C (As := [.int x3, .int 0, .int 2]) (rest := []) (st1 := [.int r_4]) (c_Mo_isFrom X.1.2.1 σ x3 0 2 er_4) k_Mo_isFrom m_420 rfl rfl rfl (Nat.le_of_ble_eq_true rfl) ⟨Nat.le_of_ble_eq_true rfl, Nat.le_of_ble_eq_true rfl⟩ d_Mo_than_22 rfl ?_
      refine r_if_ne C (tgt := 31) d_Mo_than_25 (by decide) (fun hc_5 => ?_) (fun hc_5 => ?_)
      · rw [if_neg hc_5] at h
        refine r_aload_n C 0 d_Mo_than_31 rfl rfl ?_
        refine r_aload_n C 0 d_Mo_than_32 rfl rfl ?_
        obtain ⟨r_6, er_6, h⟩ := bind_some h
        refine r_callV C (As := []) (rest := [.ref (gA X 46)]) (st1 := [.int r_6, .ref (gA X 46)]) (c_Mo_root X.1.2.1 σ  er_6) k_Mo_root m_492 (by decide) cel_Mo rfl rfl rfl rfl (Nat.le_of_ble_eq_true rfl) ⟨Nat.le_of_ble_eq_true rfl, Nat.le_of_ble_eq_true rfl⟩ d_Mo_than_33 rfl ?_
        obtain ⟨r_7, er_7, h⟩ := bind_some h
        refine r_callV C (As := [.int r_6]) (rest := []) (st1 := []) (c_Mo_workAll X.1.2.1 σ r_6 er_7) k_Mo_workAll m_496 (by decide) cel_Mo rfl rfl rfl rfl (Nat.le_of_ble_eq_true rfl) ⟨Nat.le_of_ble_eq_true rfl, Nat.le_of_ble_eq_true rfl⟩ d_Mo_than_36 rfl ?_
        refine r_iload_n C 2 d_Mo_than_39 rfl rfl ?_
        refine r_iconst C (v := 0) d_Mo_than_40 (by decide) ?_
        refine r_aload_n C 0 d_Mo_than_41 rfl rfl ?_
        refine r_iload_n C 1 d_Mo_than_42 rfl rfl ?_
        obtain ⟨r_8, er_8, h⟩ := bind_some h
        refine r_callV C (As := [.int x1]) (rest := [.int 0, .int x2]) (st1 := [.int r_8, .int 0, .int x2]) (c_Mo_many X.1.2.1 r_7 x1 er_8) k_Mo_many m_500 (by decide) cel_Mo rfl rfl rfl rfl (Nat.le_of_ble_eq_true rfl) ⟨Nat.le_of_ble_eq_true rfl, Nat.le_of_ble_eq_true rfl⟩ d_Mo_than_43 rfl ?_
        refine r_iconst C (v := 1) d_Mo_than_46 (by decide) ?_
        refine r_isub C d_Mo_than_47 ?_
        obtain ⟨r_9, er_9, h⟩ := bind_some h
        refine r_callS C (As := [.int x2, .int 0, .int (r_8 - 1)]) (rest := []) (st1 := [.int r_9]) (c_Mo_isFrom X.1.2.1 r_7 x2 0 (r_8 - 1) er_9) k_Mo_isFrom m_420 rfl rfl rfl (Nat.le_of_ble_eq_true rfl) ⟨Nat.le_of_ble_eq_true rfl, Nat.le_of_ble_eq_true rfl⟩ d_Mo_than_48 rfl ?_
        refine r_if_ne C (tgt := 57) d_Mo_than_51 (by decide) (fun hc_10 => ?_) (fun hc_10 => ?_)
        · rw [if_neg hc_10] at h
          refine r_aload_n C 0 d_Mo_than_57 rfl rfl ?_
          obtain ⟨r_11, er_11, h⟩ := bind_some h
          refine r_callV C (As := []) (rest := []) (st1 := []) (c_Mo_allLeft X.1.2.1 r_7  er_11) k_Mo_allLeft m_553 (by decide) cel_Mo rfl rfl rfl rfl (Nat.le_of_ble_eq_true rfl) ⟨Nat.le_of_ble_eq_true rfl, Nat.le_of_ble_eq_true rfl⟩ d_Mo_than_58 rfl ?_
          refine r_iconst C (v := (-1)) d_Mo_than_61 (by decide) ?_
          refine r_istore C (lv' := [(4, .int (-1)), (0, .ref (gA X 46)), (1, .int x1), (2, .int x2), (3, .int x3)]) d_Mo_than_62 (by decide) rfl rfl ?_
          refine r_iconst C (v := 0) d_Mo_than_64 (by decide) ?_
          refine r_istore C (lv' := [(5, .int 0), (4, .int (-1)), (0, .ref (gA X 46)), (1, .int x1), (2, .int x2), (3, .int x3)]) d_Mo_than_65 (by decide) rfl rfl ?_
          refine r_sub [2, 3, 4, 5, 1, 0] (lv' := [(0, .ref (gA X 46)), (1, .int x1), (2, .int x2), (3, .int x3), (4, .int (-1)), (5, .int 0)]) rfl ?_
          exact u_Mo_than_67 C hR  (x1, x2, x3, (-1), 0, r_11) h
        · rw [if_pos hc_10] at h
          refine r_bipush C (v := (-2)) d_Mo_than_54 (by decide) ?_
          cases h
          exact hR _ _ d_Mo_than_56
      · rw [if_pos hc_5] at h
        refine r_bipush C (v := (-2)) d_Mo_than_28 (by decide) ?_
        cases h
        exact hR _ _ d_Mo_than_30
  · rw [if_pos hc_1] at h
    refine r_ldc C (v := (-1000000)) m_491 d_Mo_than_7 ?_
    cases h
    exact hR _ _ d_Mo_than_9
set_option maxHeartbeats 4000000 in
set_option maxRecDepth 100000 in
theorem c_Mo_than (l : Launch) (σ : gS) (x1 : Int32) (x2 : Int32) (x3 : Int32) {r : (Int32 × gS)} (h : f_Mo_than σ x1 x2 x3 = some r) : gMet l y_Mo_than b_Mo_than_c 7 (some .int) 3 73 (fun a => [.ref (a 46), .int x1, .int x2, .int x3]) σ (some (.int r.1)) r.2 := by
  refine gMet_i (by decide +kernel) (fun a => Nat.le_of_ble_eq_true rfl) (fun X _ C hR => ?_)
  refine r_sub [0, 1, 2, 3] (lv' := [(0, .ref (gA X 46)), (1, .int x1), (2, .int x2), (3, .int x3)]) rfl ?_
  exact t_Mo_than_0 C hR x1 x2 x3 σ h
theorem d_Mo_isWorst_0 : decode b_Mo_isWorst_c 0 = .ok (.iconst 0, 1) := by decide +kernel
theorem d_Mo_isWorst_1 : decode b_Mo_isWorst_c 1 = .ok (.istore_n 3, 1) := by decide +kernel
theorem d_Mo_isWorst_2 : decode b_Mo_isWorst_c 2 = .ok (.iconst 0, 1) := by decide +kernel
theorem d_Mo_isWorst_3 : decode b_Mo_isWorst_c 3 = .ok (.istore 4, 2) := by decide +kernel
theorem d_Mo_isWorst_5 : decode b_Mo_isWorst_c 5 = .ok (.iload 4, 2) := by decide +kernel
theorem d_Mo_isWorst_7 : decode b_Mo_isWorst_c 7 = .ok (.aload_n 0, 1) := by decide +kernel
theorem d_Mo_isWorst_8 : decode b_Mo_isWorst_c 8 = .ok (.iload_n 1, 1) := by decide +kernel
theorem d_Mo_isWorst_9 : decode b_Mo_isWorst_c 9 = .ok (.invokevirtual 146, 3) := by decide +kernel
theorem d_Mo_isWorst_12 : decode b_Mo_isWorst_c 12 = .ok (.if_icmp .ge 40, 3) := by decide +kernel
theorem d_Mo_isWorst_15 : decode b_Mo_isWorst_c 15 = .ok (.iload_n 3, 1) := by decide +kernel
theorem d_Mo_isWorst_16 : decode b_Mo_isWorst_c 16 = .ok (.ifCond .ne 36, 3) := by decide +kernel
theorem d_Mo_isWorst_19 : decode b_Mo_isWorst_c 19 = .ok (.aload_n 0, 1) := by decide +kernel
theorem d_Mo_isWorst_20 : decode b_Mo_isWorst_c 20 = .ok (.iload_n 1, 1) := by decide +kernel
theorem d_Mo_isWorst_21 : decode b_Mo_isWorst_c 21 = .ok (.iload 4, 2) := by decide +kernel
theorem d_Mo_isWorst_23 : decode b_Mo_isWorst_c 23 = .ok (.invokevirtual 179, 3) := by decide +kernel
theorem d_Mo_isWorst_26 : decode b_Mo_isWorst_c 26 = .ok (.ifCond .eq 18, 3) := by decide +kernel
theorem d_Mo_isWorst_29 : decode b_Mo_isWorst_c 29 = .ok (.aload_n 0, 1) := by decide +kernel
theorem d_Mo_isWorst_30 : decode b_Mo_isWorst_c 30 = .ok (.iload_n 1, 1) := by decide +kernel
theorem d_Mo_isWorst_31 : decode b_Mo_isWorst_c 31 = .ok (.iload_n 2, 1) := by decide +kernel
theorem d_Mo_isWorst_32 : decode b_Mo_isWorst_c 32 = .ok (.iload 4, 2) := by decide +kernel
theorem d_Mo_isWorst_34 : decode b_Mo_isWorst_c 34 = .ok (.invokevirtual 185, 3) := by decide +kernel
theorem d_Mo_isWorst_37 : decode b_Mo_isWorst_c 37 = .ok (.ifCond .eq 7, 3) := by decide +kernel
theorem d_Mo_isWorst_40 : decode b_Mo_isWorst_c 40 = .ok (.iconst 1, 1) := by decide +kernel
theorem d_Mo_isWorst_41 : decode b_Mo_isWorst_c 41 = .ok (.goto 4, 3) := by decide +kernel
theorem d_Mo_isWorst_44 : decode b_Mo_isWorst_c 44 = .ok (.iconst 0, 1) := by decide +kernel
theorem d_Mo_isWorst_45 : decode b_Mo_isWorst_c 45 = .ok (.istore_n 3, 1) := by decide +kernel
theorem d_Mo_isWorst_46 : decode b_Mo_isWorst_c 46 = .ok (.iinc 4 1, 3) := by decide +kernel
theorem d_Mo_isWorst_49 : decode b_Mo_isWorst_c 49 = .ok (.goto (-44), 3) := by decide +kernel
theorem d_Mo_isWorst_52 : decode b_Mo_isWorst_c 52 = .ok (.iload_n 3, 1) := by decide +kernel
theorem d_Mo_isWorst_53 : decode b_Mo_isWorst_c 53 = .ok (.ireturn, 1) := by decide +kernel
/-! GameRowsModel.isWorst(II)Z -/
set_option maxHeartbeats 4000000 in
set_option maxRecDepth 100000 in
theorem t_Mo_isWorst_45 {X : gX} {r : Int32} {σ : gS} (C : gC X b_Mo_isWorst_c R_Mo 5 2 48) (hR : ∀ pc lv, isB r = true → decode b_Mo_isWorst_c pc = .ok (.ireturn, 1) → G X pc lv [.int r] σ) {k5 : Int32 × Int32 × Int32 × Int32 → Option Int32}  (hk5 : ∀ x, k5 x = some r → G X 5 [(0, .ref (gA X 46)), (1, .int x.1), (2, .int x.2.1), (3, .int x.2.2.1), (4, .int x.2.2.2)] [] σ) (x1 : Int32) (x2 : Int32) (x4 : Int32) (y0 : Int32) (h : b_Mo_isWorst_45 σ k5 x1 x2 x4 y0 = some r) : G X 45 [(0, .ref (gA X 46)), (1, .int x1), (2, .int x2), (4, .int x4)] [.int y0] σ := by
  unfold b_Mo_isWorst_45 at h
  refine r_istore_n C (lv' := [(3, .int y0), (0, .ref (gA X 46)), (1, .int x1), (2, .int x2), (4, .int x4)]) d_Mo_isWorst_45 rfl (by decide) rfl rfl ?_
  obtain ⟨x4_1, ex4_1, h⟩ := bnd_some h
  refine r_iinc C 4 (lv' := [(4, .int x4_1), (3, .int y0), (0, .ref (gA X 46)), (1, .int x1), (2, .int x2)]) d_Mo_isWorst_46 rfl (by rw [ex4_1]; rfl) (by decide) rfl ?_
  refine r_goto C (tgt := 5) d_Mo_isWorst_49 (by decide) ?_
  refine r_sub [2, 3, 4, 1, 0] (lv' := [(0, .ref (gA X 46)), (1, .int x1), (2, .int x2), (3, .int y0), (4, .int x4_1)]) rfl ?_
  exact hk5 _ h
set_option maxHeartbeats 4000000 in
set_option maxRecDepth 100000 in
theorem t_Mo_isWorst_44 {X : gX} {r : Int32} {σ : gS} (C : gC X b_Mo_isWorst_c R_Mo 5 2 48) (hR : ∀ pc lv, isB r = true → decode b_Mo_isWorst_c pc = .ok (.ireturn, 1) → G X pc lv [.int r] σ) {k5 : Int32 × Int32 × Int32 × Int32 → Option Int32}  (hk5 : ∀ x, k5 x = some r → G X 5 [(0, .ref (gA X 46)), (1, .int x.1), (2, .int x.2.1), (3, .int x.2.2.1), (4, .int x.2.2.2)] [] σ) (x1 : Int32) (x2 : Int32) (x4 : Int32) (h : b_Mo_isWorst_44 σ k5 x1 x2 x4 = some r) : G X 44 [(0, .ref (gA X 46)), (1, .int x1), (2, .int x2), (4, .int x4)] [] σ := by
  unfold b_Mo_isWorst_44 at h
  refine r_iconst C (v := 0) d_Mo_isWorst_44 (by decide) ?_
  exact t_Mo_isWorst_45 C hR hk5 x1 x2 x4 0 h
set_option maxHeartbeats 4000000 in
set_option maxRecDepth 100000 in
theorem t_Mo_isWorst_5 {X : gX} {r : Int32} {σ : gS} (C : gC X b_Mo_isWorst_c R_Mo 5 2 48) (hR : ∀ pc lv, isB r = true → decode b_Mo_isWorst_c pc = .ok (.ireturn, 1) → G X pc lv [.int r] σ) {k5 : Int32 × Int32 × Int32 × Int32 → Option Int32}  (hk5 : ∀ x, k5 x = some r → G X 5 [(0, .ref (gA X 46)), (1, .int x.1), (2, .int x.2.1), (3, .int x.2.2.1), (4, .int x.2.2.2)] [] σ) (x1 : Int32) (x2 : Int32) (x3 : Int32) (x4 : Int32) (h : b_Mo_isWorst_5 σ k5 x1 x2 x3 x4 = some r) : G X 5 [(0, .ref (gA X 46)), (1, .int x1), (2, .int x2), (3, .int x3), (4, .int x4)] [] σ := by
  unfold b_Mo_isWorst_5 at h
  refine r_iload C 4 d_Mo_isWorst_5 rfl ?_
  refine r_aload_n C 0 d_Mo_isWorst_7 rfl rfl ?_
  refine r_iload_n C 1 d_Mo_isWorst_8 rfl rfl ?_
  obtain ⟨r_1, er_1, h⟩ := bind_some h
  refine r_callV C (As := [.int x1]) (rest := [.int x4]) (st1 := [.int r_1, .int x4]) (c_Mo_many X.1.2.1 σ x1 er_1) k_Mo_many m_500 (by decide) cel_Mo rfl rfl rfl rfl (Nat.le_of_ble_eq_true rfl) ⟨Nat.le_of_ble_eq_true rfl, Nat.le_of_ble_eq_true rfl⟩ d_Mo_isWorst_9 rfl ?_
  refine r_icmp_ge C (tgt := 52) d_Mo_isWorst_12 (by decide) (fun hc_2 => ?_) (fun hc_2 => ?_)
  · rw [if_pos hc_2] at h
    refine r_iload_n C 3 d_Mo_isWorst_52 rfl rfl ?_
    obtain ⟨hB, h⟩ := ck_some h
    cases h
    exact hR _ _ hB d_Mo_isWorst_53
  · rw [if_neg hc_2] at h
    refine r_iload_n C 3 d_Mo_isWorst_15 rfl rfl ?_
    refine r_if_ne C (tgt := 52) d_Mo_isWorst_16 (by decide) (fun hc_3 => ?_) (fun hc_3 => ?_)
    · rw [if_neg hc_3] at h
      refine r_iload_n C 3 d_Mo_isWorst_52 rfl rfl ?_
      obtain ⟨hB, h⟩ := ck_some h
      cases h
      exact hR _ _ hB d_Mo_isWorst_53
    · rw [if_pos hc_3] at h
      refine r_aload_n C 0 d_Mo_isWorst_19 rfl rfl ?_
      refine r_iload_n C 1 d_Mo_isWorst_20 rfl rfl ?_
      refine r_iload C 4 d_Mo_isWorst_21 rfl ?_
      obtain ⟨r_4, er_4, h⟩ := bind_some h
      refine r_callV C (As := [.int x1, .int x4]) (rest := []) (st1 := [.int r_4]) (c_Mo_isLeft X.1.2.1 σ x1 x4 er_4) k_Mo_isLeft m_537 (by decide) cel_Mo rfl rfl rfl rfl (Nat.le_of_ble_eq_true rfl) ⟨Nat.le_of_ble_eq_true rfl, Nat.le_of_ble_eq_true rfl⟩ d_Mo_isWorst_23 rfl ?_
      refine r_if_eq C (tgt := 44) d_Mo_isWorst_26 (by decide) (fun hc_5 => ?_) (fun hc_5 => ?_)
      · rw [if_pos hc_5] at h
        refine r_sub [0, 1, 2, 4] (lv' := [(0, .ref (gA X 46)), (1, .int x1), (2, .int x2), (4, .int x4)]) rfl ?_
        exact t_Mo_isWorst_44 C hR hk5 x1 x2 x4 h
      · rw [if_neg hc_5] at h
        refine r_aload_n C 0 d_Mo_isWorst_29 rfl rfl ?_
        refine r_iload_n C 1 d_Mo_isWorst_30 rfl rfl ?_
        refine r_iload_n C 2 d_Mo_isWorst_31 rfl rfl ?_
        refine r_iload C 4 d_Mo_isWorst_32 rfl ?_
        obtain ⟨r_6, er_6, h⟩ := bind_some h
        refine r_callV C (As := [.int x1, .int x2, .int x4]) (rest := []) (st1 := [.int r_6]) (c_Mo_isWorse X.1.2.1 σ x1 x2 x4 er_6) k_Mo_isWorse m_549 (by decide) cel_Mo rfl rfl rfl rfl (Nat.le_of_ble_eq_true rfl) ⟨Nat.le_of_ble_eq_true rfl, Nat.le_of_ble_eq_true rfl⟩ d_Mo_isWorst_34 rfl ?_
        refine r_if_eq C (tgt := 44) d_Mo_isWorst_37 (by decide) (fun hc_7 => ?_) (fun hc_7 => ?_)
        · rw [if_pos hc_7] at h
          refine r_sub [0, 1, 2, 4] (lv' := [(0, .ref (gA X 46)), (1, .int x1), (2, .int x2), (4, .int x4)]) rfl ?_
          exact t_Mo_isWorst_44 C hR hk5 x1 x2 x4 h
        · rw [if_neg hc_7] at h
          refine r_iconst C (v := 1) d_Mo_isWorst_40 (by decide) ?_
          refine r_goto C (tgt := 45) d_Mo_isWorst_41 (by decide) ?_
          refine r_sub [0, 1, 2, 4] (lv' := [(0, .ref (gA X 46)), (1, .int x1), (2, .int x2), (4, .int x4)]) rfl ?_
          exact t_Mo_isWorst_45 C hR hk5 x1 x2 x4 1 h
set_option maxHeartbeats 4000000 in
set_option maxRecDepth 100000 in
theorem u_Mo_isWorst_5 {X : gX} {r : Int32} {σ : gS} (C : gC X b_Mo_isWorst_c R_Mo 5 2 48) (hR : ∀ pc lv, isB r = true → decode b_Mo_isWorst_c pc = .ok (.ireturn, 1) → G X pc lv [.int r] σ)  (x : Int32 × Int32 × Int32 × Int32) (h : l_Mo_isWorst_5 σ x = some r) : G X 5 [(0, .ref (gA X 46)), (1, .int x.1), (2, .int x.2.1), (3, .int x.2.2.1), (4, .int x.2.2.2)] [] σ :=
  lpF_ind (P := fun x => G X 5 [(0, .ref (gA X 46)), (1, .int x.1), (2, .int x.2.1), (3, .int x.2.2.1), (4, .int x.2.2.2)] [] σ) (fun k hk x h => t_Mo_isWorst_5 C hR hk x.1 x.2.1 x.2.2.1 x.2.2.2 h) gF x h
set_option maxHeartbeats 4000000 in
set_option maxRecDepth 100000 in
theorem t_Mo_isWorst_0 {X : gX} {r : Int32} {σ : gS} (C : gC X b_Mo_isWorst_c R_Mo 5 2 48) (hR : ∀ pc lv, isB r = true → decode b_Mo_isWorst_c pc = .ok (.ireturn, 1) → G X pc lv [.int r] σ) (x1 : Int32) (x2 : Int32) (h : b_Mo_isWorst_0 σ x1 x2 = some r) : G X 0 [(0, .ref (gA X 46)), (1, .int x1), (2, .int x2)] [] σ := by
  unfold b_Mo_isWorst_0 at h
  refine r_iconst C (v := 0) d_Mo_isWorst_0 (by decide) ?_
  refine r_istore_n C (lv' := [(3, .int 0), (0, .ref (gA X 46)), (1, .int x1), (2, .int x2)]) d_Mo_isWorst_1 rfl (by decide) rfl rfl ?_
  refine r_iconst C (v := 0) d_Mo_isWorst_2 (by decide) ?_
  refine r_istore C (lv' := [(4, .int 0), (3, .int 0), (0, .ref (gA X 46)), (1, .int x1), (2, .int x2)]) d_Mo_isWorst_3 (by decide) rfl rfl ?_
  refine r_sub [2, 3, 4, 1, 0] (lv' := [(0, .ref (gA X 46)), (1, .int x1), (2, .int x2), (3, .int 0), (4, .int 0)]) rfl ?_
  exact u_Mo_isWorst_5 C hR  (x1, x2, 0, 0) h
set_option maxHeartbeats 4000000 in
set_option maxRecDepth 100000 in
theorem c_Mo_isWorst (l : Launch) (σ : gS) (x1 : Int32) (x2 : Int32) {r : Int32} (h : f_Mo_isWorst σ x1 x2 = some r) : gMet l y_Mo_isWorst b_Mo_isWorst_c 5 (some .boolean) 2 48 (fun a => [.ref (a 46), .int x1, .int x2]) σ (some (.int r)) σ := by
  refine gMet_z (by decide +kernel) (fun a => Nat.le_of_ble_eq_true rfl) (fun X _ C hR => ?_)
  refine r_sub [0, 1, 2] (lv' := [(0, .ref (gA X 46)), (1, .int x1), (2, .int x2)]) rfl ?_
  exact t_Mo_isWorst_0 C hR x1 x2 h
theorem d_Mo_leftOf_0 : decode b_Mo_leftOf_c 0 = .ok (.iconst 0, 1) := by decide +kernel
theorem d_Mo_leftOf_1 : decode b_Mo_leftOf_c 1 = .ok (.istore_n 2, 1) := by decide +kernel
theorem d_Mo_leftOf_2 : decode b_Mo_leftOf_c 2 = .ok (.iconst 0, 1) := by decide +kernel
theorem d_Mo_leftOf_3 : decode b_Mo_leftOf_c 3 = .ok (.istore_n 3, 1) := by decide +kernel
theorem d_Mo_leftOf_4 : decode b_Mo_leftOf_c 4 = .ok (.iload_n 3, 1) := by decide +kernel
theorem d_Mo_leftOf_5 : decode b_Mo_leftOf_c 5 = .ok (.aload_n 0, 1) := by decide +kernel
theorem d_Mo_leftOf_6 : decode b_Mo_leftOf_c 6 = .ok (.iload_n 1, 1) := by decide +kernel
theorem d_Mo_leftOf_7 : decode b_Mo_leftOf_c 7 = .ok (.invokevirtual 146, 3) := by decide +kernel
theorem d_Mo_leftOf_10 : decode b_Mo_leftOf_c 10 = .ok (.if_icmp .ge 26, 3) := by decide +kernel
theorem d_Mo_leftOf_13 : decode b_Mo_leftOf_c 13 = .ok (.aload_n 0, 1) := by decide +kernel
theorem d_Mo_leftOf_14 : decode b_Mo_leftOf_c 14 = .ok (.iload_n 1, 1) := by decide +kernel
theorem d_Mo_leftOf_15 : decode b_Mo_leftOf_c 15 = .ok (.iload_n 3, 1) := by decide +kernel
theorem d_Mo_leftOf_16 : decode b_Mo_leftOf_c 16 = .ok (.invokevirtual 179, 3) := by decide +kernel
theorem d_Mo_leftOf_19 : decode b_Mo_leftOf_c 19 = .ok (.ifCond .eq 9, 3) := by decide +kernel
theorem d_Mo_leftOf_22 : decode b_Mo_leftOf_c 22 = .ok (.iload_n 2, 1) := by decide +kernel
theorem d_Mo_leftOf_23 : decode b_Mo_leftOf_c 23 = .ok (.iconst 1, 1) := by decide +kernel
theorem d_Mo_leftOf_24 : decode b_Mo_leftOf_c 24 = .ok (.iadd, 1) := by decide +kernel
theorem d_Mo_leftOf_25 : decode b_Mo_leftOf_c 25 = .ok (.goto 4, 3) := by decide +kernel
theorem d_Mo_leftOf_28 : decode b_Mo_leftOf_c 28 = .ok (.iload_n 2, 1) := by decide +kernel
theorem d_Mo_leftOf_29 : decode b_Mo_leftOf_c 29 = .ok (.istore_n 2, 1) := by decide +kernel
theorem d_Mo_leftOf_30 : decode b_Mo_leftOf_c 30 = .ok (.iinc 3 1, 3) := by decide +kernel
theorem d_Mo_leftOf_33 : decode b_Mo_leftOf_c 33 = .ok (.goto (-29), 3) := by decide +kernel
theorem d_Mo_leftOf_36 : decode b_Mo_leftOf_c 36 = .ok (.iload_n 2, 1) := by decide +kernel
theorem d_Mo_leftOf_37 : decode b_Mo_leftOf_c 37 = .ok (.ireturn, 1) := by decide +kernel
/-! GameRowsModel.leftOf(I)I -/
set_option maxHeartbeats 4000000 in
set_option maxRecDepth 100000 in
theorem t_Mo_leftOf_29 {X : gX} {r : Int32} {σ : gS} (C : gC X b_Mo_leftOf_c R_Mo 4 1 22) (hR : ∀ pc lv, decode b_Mo_leftOf_c pc = .ok (.ireturn, 1) → G X pc lv [.int r] σ) {k4 : Int32 × Int32 × Int32 → Option Int32}  (hk4 : ∀ x, k4 x = some r → G X 4 [(0, .ref (gA X 46)), (1, .int x.1), (2, .int x.2.1), (3, .int x.2.2)] [] σ) (x1 : Int32) (x3 : Int32) (y0 : Int32) (h : b_Mo_leftOf_29 σ k4 x1 x3 y0 = some r) : G X 29 [(0, .ref (gA X 46)), (1, .int x1), (3, .int x3)] [.int y0] σ := by
  unfold b_Mo_leftOf_29 at h
  refine r_istore_n C (lv' := [(2, .int y0), (0, .ref (gA X 46)), (1, .int x1), (3, .int x3)]) d_Mo_leftOf_29 rfl (by decide) rfl rfl ?_
  obtain ⟨x3_1, ex3_1, h⟩ := bnd_some h
  refine r_iinc C 3 (lv' := [(3, .int x3_1), (2, .int y0), (0, .ref (gA X 46)), (1, .int x1)]) d_Mo_leftOf_30 rfl (by rw [ex3_1]; rfl) (by decide) rfl ?_
  refine r_goto C (tgt := 4) d_Mo_leftOf_33 (by decide) ?_
  refine r_sub [2, 3, 1, 0] (lv' := [(0, .ref (gA X 46)), (1, .int x1), (2, .int y0), (3, .int x3_1)]) rfl ?_
  exact hk4 _ h
set_option maxHeartbeats 4000000 in
set_option maxRecDepth 100000 in
theorem t_Mo_leftOf_4 {X : gX} {r : Int32} {σ : gS} (C : gC X b_Mo_leftOf_c R_Mo 4 1 22) (hR : ∀ pc lv, decode b_Mo_leftOf_c pc = .ok (.ireturn, 1) → G X pc lv [.int r] σ) {k4 : Int32 × Int32 × Int32 → Option Int32}  (hk4 : ∀ x, k4 x = some r → G X 4 [(0, .ref (gA X 46)), (1, .int x.1), (2, .int x.2.1), (3, .int x.2.2)] [] σ) (x1 : Int32) (x2 : Int32) (x3 : Int32) (h : b_Mo_leftOf_4 σ k4 x1 x2 x3 = some r) : G X 4 [(0, .ref (gA X 46)), (1, .int x1), (2, .int x2), (3, .int x3)] [] σ := by
  unfold b_Mo_leftOf_4 at h
  refine r_iload_n C 3 d_Mo_leftOf_4 rfl rfl ?_
  refine r_aload_n C 0 d_Mo_leftOf_5 rfl rfl ?_
  refine r_iload_n C 1 d_Mo_leftOf_6 rfl rfl ?_
  obtain ⟨r_1, er_1, h⟩ := bind_some h
  refine r_callV C (As := [.int x1]) (rest := [.int x3]) (st1 := [.int r_1, .int x3]) (c_Mo_many X.1.2.1 σ x1 er_1) k_Mo_many m_500 (by decide) cel_Mo rfl rfl rfl rfl (Nat.le_of_ble_eq_true rfl) ⟨Nat.le_of_ble_eq_true rfl, Nat.le_of_ble_eq_true rfl⟩ d_Mo_leftOf_7 rfl ?_
  refine r_icmp_ge C (tgt := 36) d_Mo_leftOf_10 (by decide) (fun hc_2 => ?_) (fun hc_2 => ?_)
  · rw [if_pos hc_2] at h
    refine r_iload_n C 2 d_Mo_leftOf_36 rfl rfl ?_
    cases h
    exact hR _ _ d_Mo_leftOf_37
  · rw [if_neg hc_2] at h
    refine r_aload_n C 0 d_Mo_leftOf_13 rfl rfl ?_
    refine r_iload_n C 1 d_Mo_leftOf_14 rfl rfl ?_
    refine r_iload_n C 3 d_Mo_leftOf_15 rfl rfl ?_
    obtain ⟨r_3, er_3, h⟩ := bind_some h
    refine r_callV C (As := [.int x1, .int x3]) (rest := []) (st1 := [.int r_3]) (c_Mo_isLeft X.1.2.1 σ x1 x3 er_3) k_Mo_isLeft m_537 (by decide) cel_Mo rfl rfl rfl rfl (Nat.le_of_ble_eq_true rfl) ⟨Nat.le_of_ble_eq_true rfl, Nat.le_of_ble_eq_true rfl⟩ d_Mo_leftOf_16 rfl ?_
    refine r_if_eq C (tgt := 28) d_Mo_leftOf_19 (by decide) (fun hc_4 => ?_) (fun hc_4 => ?_)
    · rw [if_pos hc_4] at h
      refine r_iload_n C 2 d_Mo_leftOf_28 rfl rfl ?_
      refine r_sub [0, 1, 3] (lv' := [(0, .ref (gA X 46)), (1, .int x1), (3, .int x3)]) rfl ?_
      exact t_Mo_leftOf_29 C hR hk4 x1 x3 x2 h
    · rw [if_neg hc_4] at h
      refine r_iload_n C 2 d_Mo_leftOf_22 rfl rfl ?_
      refine r_iconst C (v := 1) d_Mo_leftOf_23 (by decide) ?_
      refine r_iadd C d_Mo_leftOf_24 ?_
      refine r_goto C (tgt := 29) d_Mo_leftOf_25 (by decide) ?_
      refine r_sub [0, 1, 3] (lv' := [(0, .ref (gA X 46)), (1, .int x1), (3, .int x3)]) rfl ?_
      exact t_Mo_leftOf_29 C hR hk4 x1 x3 (x2 + 1) h
set_option maxHeartbeats 4000000 in
set_option maxRecDepth 100000 in
theorem u_Mo_leftOf_4 {X : gX} {r : Int32} {σ : gS} (C : gC X b_Mo_leftOf_c R_Mo 4 1 22) (hR : ∀ pc lv, decode b_Mo_leftOf_c pc = .ok (.ireturn, 1) → G X pc lv [.int r] σ)  (x : Int32 × Int32 × Int32) (h : l_Mo_leftOf_4 σ x = some r) : G X 4 [(0, .ref (gA X 46)), (1, .int x.1), (2, .int x.2.1), (3, .int x.2.2)] [] σ :=
  lpF_ind (P := fun x => G X 4 [(0, .ref (gA X 46)), (1, .int x.1), (2, .int x.2.1), (3, .int x.2.2)] [] σ) (fun k hk x h => t_Mo_leftOf_4 C hR hk x.1 x.2.1 x.2.2 h) gF x h
set_option maxHeartbeats 4000000 in
set_option maxRecDepth 100000 in
theorem t_Mo_leftOf_0 {X : gX} {r : Int32} {σ : gS} (C : gC X b_Mo_leftOf_c R_Mo 4 1 22) (hR : ∀ pc lv, decode b_Mo_leftOf_c pc = .ok (.ireturn, 1) → G X pc lv [.int r] σ) (x1 : Int32) (h : b_Mo_leftOf_0 σ x1 = some r) : G X 0 [(0, .ref (gA X 46)), (1, .int x1)] [] σ := by
  unfold b_Mo_leftOf_0 at h
  refine r_iconst C (v := 0) d_Mo_leftOf_0 (by decide) ?_
  refine r_istore_n C (lv' := [(2, .int 0), (0, .ref (gA X 46)), (1, .int x1)]) d_Mo_leftOf_1 rfl (by decide) rfl rfl ?_
  refine r_iconst C (v := 0) d_Mo_leftOf_2 (by decide) ?_
  refine r_istore_n C (lv' := [(3, .int 0), (2, .int 0), (0, .ref (gA X 46)), (1, .int x1)]) d_Mo_leftOf_3 rfl (by decide) rfl rfl ?_
  refine r_sub [2, 3, 1, 0] (lv' := [(0, .ref (gA X 46)), (1, .int x1), (2, .int 0), (3, .int 0)]) rfl ?_
  exact u_Mo_leftOf_4 C hR  (x1, 0, 0) h
set_option maxHeartbeats 4000000 in
set_option maxRecDepth 100000 in
theorem c_Mo_leftOf (l : Launch) (σ : gS) (x1 : Int32) {r : Int32} (h : f_Mo_leftOf σ x1 = some r) : gMet l y_Mo_leftOf b_Mo_leftOf_c 4 (some .int) 1 22 (fun a => [.ref (a 46), .int x1]) σ (some (.int r)) σ := by
  refine gMet_i (by decide +kernel) (fun a => Nat.le_of_ble_eq_true rfl) (fun X _ C hR => ?_)
  refine r_sub [0, 1] (lv' := [(0, .ref (gA X 46)), (1, .int x1)]) rfl ?_
  exact t_Mo_leftOf_0 C hR x1 h
theorem d_Mo_doRounds_0 : decode b_Mo_doRounds_c 0 = .ok (.aload_n 0, 1) := by decide +kernel
theorem d_Mo_doRounds_1 : decode b_Mo_doRounds_c 1 = .ok (.aload_n 0, 1) := by decide +kernel
theorem d_Mo_doRounds_2 : decode b_Mo_doRounds_c 2 = .ok (.invokevirtual 135, 3) := by decide +kernel
theorem d_Mo_doRounds_5 : decode b_Mo_doRounds_c 5 = .ok (.invokevirtual 139, 3) := by decide +kernel
theorem d_Mo_doRounds_8 : decode b_Mo_doRounds_c 8 = .ok (.aload_n 0, 1) := by decide +kernel
theorem d_Mo_doRounds_9 : decode b_Mo_doRounds_c 9 = .ok (.invokevirtual 182, 3) := by decide +kernel
theorem d_Mo_doRounds_12 : decode b_Mo_doRounds_c 12 = .ok (.iconst 1, 1) := by decide +kernel
theorem d_Mo_doRounds_13 : decode b_Mo_doRounds_c 13 = .ok (.istore_n 1, 1) := by decide +kernel
theorem d_Mo_doRounds_14 : decode b_Mo_doRounds_c 14 = .ok (.iconst 1, 1) := by decide +kernel
theorem d_Mo_doRounds_15 : decode b_Mo_doRounds_c 15 = .ok (.istore_n 2, 1) := by decide +kernel
theorem d_Mo_doRounds_16 : decode b_Mo_doRounds_c 16 = .ok (.iload_n 1, 1) := by decide +kernel
theorem d_Mo_doRounds_17 : decode b_Mo_doRounds_c 17 = .ok (.ifCond .eq 164, 3) := by decide +kernel
theorem d_Mo_doRounds_20 : decode b_Mo_doRounds_c 20 = .ok (.iconst 0, 1) := by decide +kernel
theorem d_Mo_doRounds_21 : decode b_Mo_doRounds_c 21 = .ok (.istore_n 1, 1) := by decide +kernel
theorem d_Mo_doRounds_22 : decode b_Mo_doRounds_c 22 = .ok (.iconst 0, 1) := by decide +kernel
theorem d_Mo_doRounds_23 : decode b_Mo_doRounds_c 23 = .ok (.istore_n 3, 1) := by decide +kernel
theorem d_Mo_doRounds_24 : decode b_Mo_doRounds_c 24 = .ok (.iload_n 3, 1) := by decide +kernel
theorem d_Mo_doRounds_25 : decode b_Mo_doRounds_c 25 = .ok (.sipush 128, 3) := by decide +kernel
theorem d_Mo_doRounds_28 : decode b_Mo_doRounds_c 28 = .ok (.if_icmp .ge 78, 3) := by decide +kernel
theorem d_Mo_doRounds_31 : decode b_Mo_doRounds_c 31 = .ok (.aload_n 0, 1) := by decide +kernel
theorem d_Mo_doRounds_32 : decode b_Mo_doRounds_c 32 = .ok (.getfield 62, 3) := by decide +kernel
theorem d_Mo_doRounds_35 : decode b_Mo_doRounds_c 35 = .ok (.iload_n 3, 1) := by decide +kernel
theorem d_Mo_doRounds_36 : decode b_Mo_doRounds_c 36 = .ok (.iload_n 3, 1) := by decide +kernel
theorem d_Mo_doRounds_37 : decode b_Mo_doRounds_c 37 = .ok (.bipush 64, 2) := by decide +kernel
theorem d_Mo_doRounds_39 : decode b_Mo_doRounds_c 39 = .ok (.irem, 1) := by decide +kernel
theorem d_Mo_doRounds_40 : decode b_Mo_doRounds_c 40 = .ok (.aload_n 0, 1) := by decide +kernel
theorem d_Mo_doRounds_41 : decode b_Mo_doRounds_c 41 = .ok (.iload_n 3, 1) := by decide +kernel
theorem d_Mo_doRounds_42 : decode b_Mo_doRounds_c 42 = .ok (.bipush 64, 2) := by decide +kernel
theorem d_Mo_doRounds_44 : decode b_Mo_doRounds_c 44 = .ok (.idiv, 1) := by decide +kernel
theorem d_Mo_doRounds_45 : decode b_Mo_doRounds_c 45 = .ok (.invokevirtual 146, 3) := by decide +kernel
theorem d_Mo_doRounds_48 : decode b_Mo_doRounds_c 48 = .ok (.if_icmp .ge 31, 3) := by decide +kernel
theorem d_Mo_doRounds_51 : decode b_Mo_doRounds_c 51 = .ok (.aload_n 0, 1) := by decide +kernel
theorem d_Mo_doRounds_52 : decode b_Mo_doRounds_c 52 = .ok (.getfield 56, 3) := by decide +kernel
theorem d_Mo_doRounds_55 : decode b_Mo_doRounds_c 55 = .ok (.iload_n 3, 1) := by decide +kernel
theorem d_Mo_doRounds_56 : decode b_Mo_doRounds_c 56 = .ok (.baload, 1) := by decide +kernel
theorem d_Mo_doRounds_57 : decode b_Mo_doRounds_c 57 = .ok (.ifCond .eq 22, 3) := by decide +kernel
theorem d_Mo_doRounds_60 : decode b_Mo_doRounds_c 60 = .ok (.aload_n 0, 1) := by decide +kernel
theorem d_Mo_doRounds_61 : decode b_Mo_doRounds_c 61 = .ok (.iload_n 3, 1) := by decide +kernel
theorem d_Mo_doRounds_62 : decode b_Mo_doRounds_c 62 = .ok (.bipush 64, 2) := by decide +kernel
theorem d_Mo_doRounds_64 : decode b_Mo_doRounds_c 64 = .ok (.idiv, 1) := by decide +kernel
theorem d_Mo_doRounds_65 : decode b_Mo_doRounds_c 65 = .ok (.iload_n 3, 1) := by decide +kernel
theorem d_Mo_doRounds_66 : decode b_Mo_doRounds_c 66 = .ok (.bipush 64, 2) := by decide +kernel
theorem d_Mo_doRounds_68 : decode b_Mo_doRounds_c 68 = .ok (.irem, 1) := by decide +kernel
theorem d_Mo_doRounds_69 : decode b_Mo_doRounds_c 69 = .ok (.invokevirtual 194, 3) := by decide +kernel
theorem d_Mo_doRounds_72 : decode b_Mo_doRounds_c 72 = .ok (.ifCond .eq 7, 3) := by decide +kernel
theorem d_Mo_doRounds_75 : decode b_Mo_doRounds_c 75 = .ok (.iconst 1, 1) := by decide +kernel
theorem d_Mo_doRounds_76 : decode b_Mo_doRounds_c 76 = .ok (.goto 4, 3) := by decide +kernel
theorem d_Mo_doRounds_79 : decode b_Mo_doRounds_c 79 = .ok (.iconst 0, 1) := by decide +kernel
theorem d_Mo_doRounds_80 : decode b_Mo_doRounds_c 80 = .ok (.bastore, 1) := by decide +kernel
theorem d_Mo_doRounds_81 : decode b_Mo_doRounds_c 81 = .ok (.iload_n 1, 1) := by decide +kernel
theorem d_Mo_doRounds_82 : decode b_Mo_doRounds_c 82 = .ok (.ifCond .ne 12, 3) := by decide +kernel
theorem d_Mo_doRounds_85 : decode b_Mo_doRounds_c 85 = .ok (.aload_n 0, 1) := by decide +kernel
theorem d_Mo_doRounds_86 : decode b_Mo_doRounds_c 86 = .ok (.getfield 62, 3) := by decide +kernel
theorem d_Mo_doRounds_89 : decode b_Mo_doRounds_c 89 = .ok (.iload_n 3, 1) := by decide +kernel
theorem d_Mo_doRounds_90 : decode b_Mo_doRounds_c 90 = .ok (.baload, 1) := by decide +kernel
theorem d_Mo_doRounds_91 : decode b_Mo_doRounds_c 91 = .ok (.ifCond .eq 7, 3) := by decide +kernel
theorem d_Mo_doRounds_94 : decode b_Mo_doRounds_c 94 = .ok (.iconst 1, 1) := by decide +kernel
theorem d_Mo_doRounds_95 : decode b_Mo_doRounds_c 95 = .ok (.goto 4, 3) := by decide +kernel
theorem d_Mo_doRounds_98 : decode b_Mo_doRounds_c 98 = .ok (.iconst 0, 1) := by decide +kernel
theorem d_Mo_doRounds_99 : decode b_Mo_doRounds_c 99 = .ok (.istore_n 1, 1) := by decide +kernel
theorem d_Mo_doRounds_100 : decode b_Mo_doRounds_c 100 = .ok (.iinc 3 1, 3) := by decide +kernel
theorem d_Mo_doRounds_103 : decode b_Mo_doRounds_c 103 = .ok (.goto (-79), 3) := by decide +kernel
theorem d_Mo_doRounds_106 : decode b_Mo_doRounds_c 106 = .ok (.iconst 0, 1) := by decide +kernel
theorem d_Mo_doRounds_107 : decode b_Mo_doRounds_c 107 = .ok (.istore_n 3, 1) := by decide +kernel
theorem d_Mo_doRounds_108 : decode b_Mo_doRounds_c 108 = .ok (.iload_n 3, 1) := by decide +kernel
theorem d_Mo_doRounds_109 : decode b_Mo_doRounds_c 109 = .ok (.sipush 128, 3) := by decide +kernel
theorem d_Mo_doRounds_112 : decode b_Mo_doRounds_c 112 = .ok (.if_icmp .ge 63, 3) := by decide +kernel
theorem d_Mo_doRounds_115 : decode b_Mo_doRounds_c 115 = .ok (.aload_n 0, 1) := by decide +kernel
theorem d_Mo_doRounds_116 : decode b_Mo_doRounds_c 116 = .ok (.getfield 56, 3) := by decide +kernel
theorem d_Mo_doRounds_119 : decode b_Mo_doRounds_c 119 = .ok (.iload_n 3, 1) := by decide +kernel
theorem d_Mo_doRounds_120 : decode b_Mo_doRounds_c 120 = .ok (.aload_n 0, 1) := by decide +kernel
theorem d_Mo_doRounds_121 : decode b_Mo_doRounds_c 121 = .ok (.getfield 56, 3) := by decide +kernel
theorem d_Mo_doRounds_124 : decode b_Mo_doRounds_c 124 = .ok (.iload_n 3, 1) := by decide +kernel
theorem d_Mo_doRounds_125 : decode b_Mo_doRounds_c 125 = .ok (.baload, 1) := by decide +kernel
theorem d_Mo_doRounds_126 : decode b_Mo_doRounds_c 126 = .ok (.ifCond .eq 16, 3) := by decide +kernel
theorem d_Mo_doRounds_129 : decode b_Mo_doRounds_c 129 = .ok (.aload_n 0, 1) := by decide +kernel
theorem d_Mo_doRounds_130 : decode b_Mo_doRounds_c 130 = .ok (.getfield 62, 3) := by decide +kernel
theorem d_Mo_doRounds_133 : decode b_Mo_doRounds_c 133 = .ok (.iload_n 3, 1) := by decide +kernel
theorem d_Mo_doRounds_134 : decode b_Mo_doRounds_c 134 = .ok (.baload, 1) := by decide +kernel
theorem d_Mo_doRounds_135 : decode b_Mo_doRounds_c 135 = .ok (.ifCond .ne 7, 3) := by decide +kernel
theorem d_Mo_doRounds_138 : decode b_Mo_doRounds_c 138 = .ok (.iconst 1, 1) := by decide +kernel
theorem d_Mo_doRounds_139 : decode b_Mo_doRounds_c 139 = .ok (.goto 4, 3) := by decide +kernel
theorem d_Mo_doRounds_142 : decode b_Mo_doRounds_c 142 = .ok (.iconst 0, 1) := by decide +kernel
theorem d_Mo_doRounds_143 : decode b_Mo_doRounds_c 143 = .ok (.bastore, 1) := by decide +kernel
theorem d_Mo_doRounds_144 : decode b_Mo_doRounds_c 144 = .ok (.aload_n 0, 1) := by decide +kernel
theorem d_Mo_doRounds_145 : decode b_Mo_doRounds_c 145 = .ok (.getfield 59, 3) := by decide +kernel
theorem d_Mo_doRounds_148 : decode b_Mo_doRounds_c 148 = .ok (.iload_n 3, 1) := by decide +kernel
theorem d_Mo_doRounds_149 : decode b_Mo_doRounds_c 149 = .ok (.aload_n 0, 1) := by decide +kernel
theorem d_Mo_doRounds_150 : decode b_Mo_doRounds_c 150 = .ok (.getfield 62, 3) := by decide +kernel
theorem d_Mo_doRounds_153 : decode b_Mo_doRounds_c 153 = .ok (.iload_n 3, 1) := by decide +kernel
theorem d_Mo_doRounds_154 : decode b_Mo_doRounds_c 154 = .ok (.baload, 1) := by decide +kernel
theorem d_Mo_doRounds_155 : decode b_Mo_doRounds_c 155 = .ok (.ifCond .eq 7, 3) := by decide +kernel
theorem d_Mo_doRounds_158 : decode b_Mo_doRounds_c 158 = .ok (.iload_n 2, 1) := by decide +kernel
theorem d_Mo_doRounds_159 : decode b_Mo_doRounds_c 159 = .ok (.goto 9, 3) := by decide +kernel
theorem d_Mo_doRounds_162 : decode b_Mo_doRounds_c 162 = .ok (.aload_n 0, 1) := by decide +kernel
theorem d_Mo_doRounds_163 : decode b_Mo_doRounds_c 163 = .ok (.getfield 59, 3) := by decide +kernel
theorem d_Mo_doRounds_166 : decode b_Mo_doRounds_c 166 = .ok (.iload_n 3, 1) := by decide +kernel
theorem d_Mo_doRounds_167 : decode b_Mo_doRounds_c 167 = .ok (.iaload, 1) := by decide +kernel
theorem d_Mo_doRounds_168 : decode b_Mo_doRounds_c 168 = .ok (.iastore, 1) := by decide +kernel
theorem d_Mo_doRounds_169 : decode b_Mo_doRounds_c 169 = .ok (.iinc 3 1, 3) := by decide +kernel
theorem d_Mo_doRounds_172 : decode b_Mo_doRounds_c 172 = .ok (.goto (-64), 3) := by decide +kernel
theorem d_Mo_doRounds_175 : decode b_Mo_doRounds_c 175 = .ok (.iinc 2 1, 3) := by decide +kernel
theorem d_Mo_doRounds_178 : decode b_Mo_doRounds_c 178 = .ok (.goto (-162), 3) := by decide +kernel
theorem d_Mo_doRounds_181 : decode b_Mo_doRounds_c 181 = .ok (.aload_n 0, 1) := by decide +kernel
theorem d_Mo_doRounds_182 : decode b_Mo_doRounds_c 182 = .ok (.iconst 0, 1) := by decide +kernel
theorem d_Mo_doRounds_183 : decode b_Mo_doRounds_c 183 = .ok (.invokevirtual 197, 3) := by decide +kernel
theorem d_Mo_doRounds_186 : decode b_Mo_doRounds_c 186 = .ok (.aload_n 0, 1) := by decide +kernel
theorem d_Mo_doRounds_187 : decode b_Mo_doRounds_c 187 = .ok (.iconst 1, 1) := by decide +kernel
theorem d_Mo_doRounds_188 : decode b_Mo_doRounds_c 188 = .ok (.invokevirtual 197, 3) := by decide +kernel
theorem d_Mo_doRounds_191 : decode b_Mo_doRounds_c 191 = .ok (.imul, 1) := by decide +kernel
theorem d_Mo_doRounds_192 : decode b_Mo_doRounds_c 192 = .ok (.ireturn, 1) := by decide +kernel
/-! GameRowsModel.doRounds()I -/
set_option maxHeartbeats 4000000 in
set_option maxRecDepth 100000 in
theorem t_Mo_doRounds_168 {X : gX} {r : (Int32 × gS)} (C : gC X b_Mo_doRounds_c R_Mo 4 3 73) (hR : ∀ pc lv, decode b_Mo_doRounds_c pc = .ok (.ireturn, 1) → G X pc lv [.int r.1] r.2) {k16 : Int32 × Int32 × gS → Option (Int32 × gS)}  {k108 : Int32 × Int32 × Int32 × gS → Option (Int32 × gS)}  (hk16 : ∀ x, k16 x = some r → G X 16 [(0, .ref (gA X 46)), (1, .int x.1), (2, .int x.2.1)] [] x.2.2) (hk108 : ∀ x, k108 x = some r → G X 108 [(0, .ref (gA X 46)), (1, .int x.1), (2, .int x.2.1), (3, .int x.2.2.1)] [] x.2.2.2) (x1 : Int32) (x2 : Int32) (x3 : Int32) (y1 : Int32) (y2 : Int32) (σ : gS) (h : b_Mo_doRounds_168 k16 k108 x1 x2 x3 y1 y2 σ = some r) : G X 168 [(0, .ref (gA X 46)), (1, .int x1), (2, .int x2), (3, .int x3)] [.int y2, .int y1, .ref (gA X 63)] σ := by
  unfold b_Mo_doRounds_168 at h
  obtain ⟨hi_1, h⟩ := ck_some h
  obtain ⟨σ_2, eσ_2, h⟩ := bnd_some h
  refine r_iast C hi_1 eσ_2 d_Mo_doRounds_168 ?_
  obtain ⟨x3_3, ex3_3, h⟩ := bnd_some h
  refine r_iinc C 3 (lv' := [(3, .int x3_3), (0, .ref (gA X 46)), (1, .int x1), (2, .int x2)]) d_Mo_doRounds_169 rfl (by rw [ex3_3]; rfl) (by decide) rfl ?_
  refine r_goto C (tgt := 108) d_Mo_doRounds_172 (by decide) ?_
  refine r_sub [1, 2, 3, 0] (lv' := [(0, .ref (gA X 46)), (1, .int x1), (2, .int x2), (3, .int x3_3)]) rfl ?_
  exact hk108 _ h
set_option maxHeartbeats 4000000 in
set_option maxRecDepth 100000 in
theorem t_Mo_doRounds_143 {X : gX} {r : (Int32 × gS)} (C : gC X b_Mo_doRounds_c R_Mo 4 3 73) (hR : ∀ pc lv, decode b_Mo_doRounds_c pc = .ok (.ireturn, 1) → G X pc lv [.int r.1] r.2) {k16 : Int32 × Int32 × gS → Option (Int32 × gS)}  {k108 : Int32 × Int32 × Int32 × gS → Option (Int32 × gS)}  (hk16 : ∀ x, k16 x = some r → G X 16 [(0, .ref (gA X 46)), (1, .int x.1), (2, .int x.2.1)] [] x.2.2) (hk108 : ∀ x, k108 x = some r → G X 108 [(0, .ref (gA X 46)), (1, .int x.1), (2, .int x.2.1), (3, .int x.2.2.1)] [] x.2.2.2) (x1 : Int32) (x2 : Int32) (x3 : Int32) (y1 : Int32) (y2 : Int32) (σ : gS) (h : b_Mo_doRounds_143 k16 k108 x1 x2 x3 y1 y2 σ = some r) : G X 143 [(0, .ref (gA X 46)), (1, .int x1), (2, .int x2), (3, .int x3)] [.int y2, .int y1, .ref (gA X 62)] σ := by
  unfold b_Mo_doRounds_143 at h
  obtain ⟨hi_1, h⟩ := ck_some h
  obtain ⟨hb_3, h⟩ := ck_some h
  obtain ⟨σ_2, eσ_2, h⟩ := bnd_some h
  refine r_zast C hi_1 hb_3 eσ_2 d_Mo_doRounds_143 ?_
  refine r_aload_n C 0 d_Mo_doRounds_144 rfl rfl ?_
  refine q_Mo_59 C d_Mo_doRounds_145 ?_
  refine r_iload_n C 3 d_Mo_doRounds_148 rfl rfl ?_
  refine r_aload_n C 0 d_Mo_doRounds_149 rfl rfl ?_
  refine q_Mo_62 C d_Mo_doRounds_150 ?_
  refine r_iload_n C 3 d_Mo_doRounds_153 rfl rfl ?_
  obtain ⟨hi_4, h⟩ := ck_some h
  refine r_zald C hi_4 d_Mo_doRounds_154 ?_
  refine r_if_eq C (tgt := 162) d_Mo_doRounds_155 (by decide) (fun hc_5 => ?_) (fun hc_5 => ?_)
  · rw [if_pos hc_5] at h
    refine r_aload_n C 0 d_Mo_doRounds_162 rfl rfl ?_
    refine q_Mo_59 C d_Mo_doRounds_163 ?_
    refine r_iload_n C 3 d_Mo_doRounds_166 rfl rfl ?_
    obtain ⟨hi_6, h⟩ := ck_some h
    refine r_iald C hi_6 d_Mo_doRounds_167 ?_
    exact t_Mo_doRounds_168 C hR hk16 hk108 x1 x2 x3 x3 (gI σ_2 63 x3.toNatClampNeg) σ_2 h
  · rw [if_neg hc_5] at h
    refine r_iload_n C 2 d_Mo_doRounds_158 rfl rfl ?_
    refine r_goto C (tgt := 168) d_Mo_doRounds_159 (by decide) ?_
    exact t_Mo_doRounds_168 C hR hk16 hk108 x1 x2 x3 x3 x2 σ_2 h
set_option maxHeartbeats 4000000 in
set_option maxRecDepth 100000 in
theorem t_Mo_doRounds_142 {X : gX} {r : (Int32 × gS)} (C : gC X b_Mo_doRounds_c R_Mo 4 3 73) (hR : ∀ pc lv, decode b_Mo_doRounds_c pc = .ok (.ireturn, 1) → G X pc lv [.int r.1] r.2) {k16 : Int32 × Int32 × gS → Option (Int32 × gS)}  {k108 : Int32 × Int32 × Int32 × gS → Option (Int32 × gS)}  (hk16 : ∀ x, k16 x = some r → G X 16 [(0, .ref (gA X 46)), (1, .int x.1), (2, .int x.2.1)] [] x.2.2) (hk108 : ∀ x, k108 x = some r → G X 108 [(0, .ref (gA X 46)), (1, .int x.1), (2, .int x.2.1), (3, .int x.2.2.1)] [] x.2.2.2) (x1 : Int32) (x2 : Int32) (x3 : Int32) (y1 : Int32) (σ : gS) (h : b_Mo_doRounds_142 k16 k108 x1 x2 x3 y1 σ = some r) : G X 142 [(0, .ref (gA X 46)), (1, .int x1), (2, .int x2), (3, .int x3)] [.int y1, .ref (gA X 62)] σ := by
  unfold b_Mo_doRounds_142 at h
  refine r_iconst C (v := 0) d_Mo_doRounds_142 (by decide) ?_
  exact t_Mo_doRounds_143 C hR hk16 hk108 x1 x2 x3 y1 0 σ h
set_option maxHeartbeats 4000000 in
set_option maxRecDepth 100000 in
theorem t_Mo_doRounds_108 {X : gX} {r : (Int32 × gS)} (C : gC X b_Mo_doRounds_c R_Mo 4 3 73) (hR : ∀ pc lv, decode b_Mo_doRounds_c pc = .ok (.ireturn, 1) → G X pc lv [.int r.1] r.2) {k16 : Int32 × Int32 × gS → Option (Int32 × gS)}  {k108 : Int32 × Int32 × Int32 × gS → Option (Int32 × gS)}  (hk16 : ∀ x, k16 x = some r → G X 16 [(0, .ref (gA X 46)), (1, .int x.1), (2, .int x.2.1)] [] x.2.2) (hk108 : ∀ x, k108 x = some r → G X 108 [(0, .ref (gA X 46)), (1, .int x.1), (2, .int x.2.1), (3, .int x.2.2.1)] [] x.2.2.2) (x1 : Int32) (x2 : Int32) (x3 : Int32) (σ : gS) (h : b_Mo_doRounds_108 k16 k108 x1 x2 x3 σ = some r) : G X 108 [(0, .ref (gA X 46)), (1, .int x1), (2, .int x2), (3, .int x3)] [] σ := by
  unfold b_Mo_doRounds_108 at h
  refine r_iload_n C 3 d_Mo_doRounds_108 rfl rfl ?_
  refine r_sipush C (v := 128) d_Mo_doRounds_109 (by decide) ?_
  refine r_icmp_ge C (tgt := 175) d_Mo_doRounds_112 (by decide) (fun hc_1 => ?_) (fun hc_1 => ?_)
  · rw [if_pos hc_1] at h
    obtain ⟨x2_2, ex2_2, h⟩ := bnd_some h
    refine r_iinc C 2 (lv' := [(2, .int x2_2), (0, .ref (gA X 46)), (1, .int x1), (3, .int x3)]) d_Mo_doRounds_175 rfl (by rw [ex2_2]; rfl) (by decide) rfl ?_
    refine r_goto C (tgt := 16) d_Mo_doRounds_178 (by decide) ?_
    refine r_sub [1, 2, 0] (lv' := [(0, .ref (gA X 46)), (1, .int x1), (2, .int x2_2)]) rfl ?_
    exact hk16 _ h
  · rw [if_neg hc_1] at h
    refine r_aload_n C 0 d_Mo_doRounds_115 rfl rfl ?_
    refine q_Mo_56 C d_Mo_doRounds_116 ?_
    refine r_iload_n C 3 d_Mo_doRounds_119 rfl rfl ?_
    refine r_aload_n C 0 d_Mo_doRounds_120 rfl rfl ?_
    refine q_Mo_56 C d_Mo_doRounds_121 ?_
    refine r_iload_n C 3 d_Mo_doRounds_124 rfl rfl ?_
    obtain ⟨hi_3, h⟩ := ck_some h
    refine r_zald C hi_3 d_Mo_doRounds_125 ?_
    refine r_if_eq C (tgt := 142) d_Mo_doRounds_126 (by decide) (fun hc_4 => ?_) (fun hc_4 => ?_)
    · rw [if_pos hc_4] at h
      exact t_Mo_doRounds_142 C hR hk16 hk108 x1 x2 x3 x3 σ h
    · rw [if_neg hc_4] at h
      refine r_aload_n C 0 d_Mo_doRounds_129 rfl rfl ?_
      refine q_Mo_62 C d_Mo_doRounds_130 ?_
      refine r_iload_n C 3 d_Mo_doRounds_133 rfl rfl ?_
      obtain ⟨hi_5, h⟩ := ck_some h
      refine r_zald C hi_5 d_Mo_doRounds_134 ?_
      refine r_if_ne C (tgt := 142) d_Mo_doRounds_135 (by decide) (fun hc_6 => ?_) (fun hc_6 => ?_)
      · rw [if_neg hc_6] at h
        exact t_Mo_doRounds_142 C hR hk16 hk108 x1 x2 x3 x3 σ h
      · rw [if_pos hc_6] at h
        refine r_iconst C (v := 1) d_Mo_doRounds_138 (by decide) ?_
        refine r_goto C (tgt := 143) d_Mo_doRounds_139 (by decide) ?_
        exact t_Mo_doRounds_143 C hR hk16 hk108 x1 x2 x3 x3 1 σ h
set_option maxHeartbeats 4000000 in
set_option maxRecDepth 100000 in
theorem u_Mo_doRounds_108 {X : gX} {r : (Int32 × gS)} (C : gC X b_Mo_doRounds_c R_Mo 4 3 73) (hR : ∀ pc lv, decode b_Mo_doRounds_c pc = .ok (.ireturn, 1) → G X pc lv [.int r.1] r.2) {k16 : Int32 × Int32 × gS → Option (Int32 × gS)}  (hk16 : ∀ x, k16 x = some r → G X 16 [(0, .ref (gA X 46)), (1, .int x.1), (2, .int x.2.1)] [] x.2.2) (x : Int32 × Int32 × Int32 × gS) (h : l_Mo_doRounds_108 k16 x = some r) : G X 108 [(0, .ref (gA X 46)), (1, .int x.1), (2, .int x.2.1), (3, .int x.2.2.1)] [] x.2.2.2 :=
  lpF_ind (P := fun x => G X 108 [(0, .ref (gA X 46)), (1, .int x.1), (2, .int x.2.1), (3, .int x.2.2.1)] [] x.2.2.2) (fun k hk x h => t_Mo_doRounds_108 C hR hk16 hk x.1 x.2.1 x.2.2.1 x.2.2.2 h) gF x h
set_option maxHeartbeats 4000000 in
set_option maxRecDepth 100000 in
theorem t_Mo_doRounds_99 {X : gX} {r : (Int32 × gS)} (C : gC X b_Mo_doRounds_c R_Mo 4 3 73) (hR : ∀ pc lv, decode b_Mo_doRounds_c pc = .ok (.ireturn, 1) → G X pc lv [.int r.1] r.2) {k16 : Int32 × Int32 × gS → Option (Int32 × gS)}  {k24 : Int32 × Int32 × Int32 × gS → Option (Int32 × gS)}  (hk16 : ∀ x, k16 x = some r → G X 16 [(0, .ref (gA X 46)), (1, .int x.1), (2, .int x.2.1)] [] x.2.2) (hk24 : ∀ x, k24 x = some r → G X 24 [(0, .ref (gA X 46)), (1, .int x.1), (2, .int x.2.1), (3, .int x.2.2.1)] [] x.2.2.2) (x2 : Int32) (x3 : Int32) (y0 : Int32) (σ : gS) (h : b_Mo_doRounds_99 k16 k24 x2 x3 y0 σ = some r) : G X 99 [(0, .ref (gA X 46)), (2, .int x2), (3, .int x3)] [.int y0] σ := by
  unfold b_Mo_doRounds_99 at h
  refine r_istore_n C (lv' := [(1, .int y0), (0, .ref (gA X 46)), (2, .int x2), (3, .int x3)]) d_Mo_doRounds_99 rfl (by decide) rfl rfl ?_
  obtain ⟨x3_1, ex3_1, h⟩ := bnd_some h
  refine r_iinc C 3 (lv' := [(3, .int x3_1), (1, .int y0), (0, .ref (gA X 46)), (2, .int x2)]) d_Mo_doRounds_100 rfl (by rw [ex3_1]; rfl) (by decide) rfl ?_
  refine r_goto C (tgt := 24) d_Mo_doRounds_103 (by decide) ?_
  refine r_sub [2, 1, 3, 0] (lv' := [(0, .ref (gA X 46)), (1, .int y0), (2, .int x2), (3, .int x3_1)]) rfl ?_
  exact hk24 _ h
set_option maxHeartbeats 4000000 in
set_option maxRecDepth 100000 in
theorem t_Mo_doRounds_94 {X : gX} {r : (Int32 × gS)} (C : gC X b_Mo_doRounds_c R_Mo 4 3 73) (hR : ∀ pc lv, decode b_Mo_doRounds_c pc = .ok (.ireturn, 1) → G X pc lv [.int r.1] r.2) {k16 : Int32 × Int32 × gS → Option (Int32 × gS)}  {k24 : Int32 × Int32 × Int32 × gS → Option (Int32 × gS)}  (hk16 : ∀ x, k16 x = some r → G X 16 [(0, .ref (gA X 46)), (1, .int x.1), (2, .int x.2.1)] [] x.2.2) (hk24 : ∀ x, k24 x = some r → G X 24 [(0, .ref (gA X 46)), (1, .int x.1), (2, .int x.2.1), (3, .int x.2.2.1)] [] x.2.2.2) (x2 : Int32) (x3 : Int32) (σ : gS) (h : b_Mo_doRounds_94 k16 k24 x2 x3 σ = some r) : G X 94 [(0, .ref (gA X 46)), (2, .int x2), (3, .int x3)] [] σ := by
  unfold b_Mo_doRounds_94 at h
  refine r_iconst C (v := 1) d_Mo_doRounds_94 (by decide) ?_
  refine r_goto C (tgt := 99) d_Mo_doRounds_95 (by decide) ?_
  exact t_Mo_doRounds_99 C hR hk16 hk24 x2 x3 1 σ h
set_option maxHeartbeats 4000000 in
set_option maxRecDepth 100000 in
theorem t_Mo_doRounds_80 {X : gX} {r : (Int32 × gS)} (C : gC X b_Mo_doRounds_c R_Mo 4 3 73) (hR : ∀ pc lv, decode b_Mo_doRounds_c pc = .ok (.ireturn, 1) → G X pc lv [.int r.1] r.2) {k16 : Int32 × Int32 × gS → Option (Int32 × gS)}  {k24 : Int32 × Int32 × Int32 × gS → Option (Int32 × gS)}  (hk16 : ∀ x, k16 x = some r → G X 16 [(0, .ref (gA X 46)), (1, .int x.1), (2, .int x.2.1)] [] x.2.2) (hk24 : ∀ x, k24 x = some r → G X 24 [(0, .ref (gA X 46)), (1, .int x.1), (2, .int x.2.1), (3, .int x.2.2.1)] [] x.2.2.2) (x1 : Int32) (x2 : Int32) (x3 : Int32) (y1 : Int32) (y2 : Int32) (σ : gS) (h : b_Mo_doRounds_80 k16 k24 x1 x2 x3 y1 y2 σ = some r) : G X 80 [(0, .ref (gA X 46)), (1, .int x1), (2, .int x2), (3, .int x3)] [.int y2, .int y1, .ref (gA X 64)] σ := by
  unfold b_Mo_doRounds_80 at h
  obtain ⟨hi_1, h⟩ := ck_some h
  obtain ⟨hb_3, h⟩ := ck_some h
  obtain ⟨σ_2, eσ_2, h⟩ := bnd_some h
  refine r_zast C hi_1 hb_3 eσ_2 d_Mo_doRounds_80 ?_
  refine r_iload_n C 1 d_Mo_doRounds_81 rfl rfl ?_
  refine r_if_ne C (tgt := 94) d_Mo_doRounds_82 (by decide) (fun hc_4 => ?_) (fun hc_4 => ?_)
  · rw [if_neg hc_4] at h
    refine r_sub [0, 2, 3] (lv' := [(0, .ref (gA X 46)), (2, .int x2), (3, .int x3)]) rfl ?_
    exact t_Mo_doRounds_94 C hR hk16 hk24 x2 x3 σ_2 h
  · rw [if_pos hc_4] at h
    refine r_aload_n C 0 d_Mo_doRounds_85 rfl rfl ?_
    refine q_Mo_62 C d_Mo_doRounds_86 ?_
    refine r_iload_n C 3 d_Mo_doRounds_89 rfl rfl ?_
    obtain ⟨hi_5, h⟩ := ck_some h
    refine r_zald C hi_5 d_Mo_doRounds_90 ?_
    refine r_if_eq C (tgt := 98) d_Mo_doRounds_91 (by decide) (fun hc_6 => ?_) (fun hc_6 => ?_)
    · rw [if_pos hc_6] at h
      refine r_iconst C (v := 0) d_Mo_doRounds_98 (by decide) ?_
      refine r_sub [0, 2, 3] (lv' := [(0, .ref (gA X 46)), (2, .int x2), (3, .int x3)]) rfl ?_
      exact t_Mo_doRounds_99 C hR hk16 hk24 x2 x3 0 σ_2 h
    · rw [if_neg hc_6] at h
      refine r_sub [0, 2, 3] (lv' := [(0, .ref (gA X 46)), (2, .int x2), (3, .int x3)]) rfl ?_
      exact t_Mo_doRounds_94 C hR hk16 hk24 x2 x3 σ_2 h
set_option maxHeartbeats 4000000 in
set_option maxRecDepth 100000 in
theorem t_Mo_doRounds_79 {X : gX} {r : (Int32 × gS)} (C : gC X b_Mo_doRounds_c R_Mo 4 3 73) (hR : ∀ pc lv, decode b_Mo_doRounds_c pc = .ok (.ireturn, 1) → G X pc lv [.int r.1] r.2) {k16 : Int32 × Int32 × gS → Option (Int32 × gS)}  {k24 : Int32 × Int32 × Int32 × gS → Option (Int32 × gS)}  (hk16 : ∀ x, k16 x = some r → G X 16 [(0, .ref (gA X 46)), (1, .int x.1), (2, .int x.2.1)] [] x.2.2) (hk24 : ∀ x, k24 x = some r → G X 24 [(0, .ref (gA X 46)), (1, .int x.1), (2, .int x.2.1), (3, .int x.2.2.1)] [] x.2.2.2) (x1 : Int32) (x2 : Int32) (x3 : Int32) (y1 : Int32) (σ : gS) (h : b_Mo_doRounds_79 k16 k24 x1 x2 x3 y1 σ = some r) : G X 79 [(0, .ref (gA X 46)), (1, .int x1), (2, .int x2), (3, .int x3)] [.int y1, .ref (gA X 64)] σ := by
  unfold b_Mo_doRounds_79 at h
  refine r_iconst C (v := 0) d_Mo_doRounds_79 (by decide) ?_
  exact t_Mo_doRounds_80 C hR hk16 hk24 x1 x2 x3 y1 0 σ h
set_option maxHeartbeats 4000000 in
set_option maxRecDepth 100000 in
theorem t_Mo_doRounds_24 {X : gX} {r : (Int32 × gS)} (C : gC X b_Mo_doRounds_c R_Mo 4 3 73) (hR : ∀ pc lv, decode b_Mo_doRounds_c pc = .ok (.ireturn, 1) → G X pc lv [.int r.1] r.2) {k16 : Int32 × Int32 × gS → Option (Int32 × gS)}  {k24 : Int32 × Int32 × Int32 × gS → Option (Int32 × gS)}  (hk16 : ∀ x, k16 x = some r → G X 16 [(0, .ref (gA X 46)), (1, .int x.1), (2, .int x.2.1)] [] x.2.2) (hk24 : ∀ x, k24 x = some r → G X 24 [(0, .ref (gA X 46)), (1, .int x.1), (2, .int x.2.1), (3, .int x.2.2.1)] [] x.2.2.2) (x1 : Int32) (x2 : Int32) (x3 : Int32) (σ : gS) (h : b_Mo_doRounds_24 k16 k24 x1 x2 x3 σ = some r) : G X 24 [(0, .ref (gA X 46)), (1, .int x1), (2, .int x2), (3, .int x3)] [] σ := by
  unfold b_Mo_doRounds_24 at h
  refine r_iload_n C 3 d_Mo_doRounds_24 rfl rfl ?_
  refine r_sipush C (v := 128) d_Mo_doRounds_25 (by decide) ?_
  refine r_icmp_ge C (tgt := 106) d_Mo_doRounds_28 (by decide) (fun hc_1 => ?_) (fun hc_1 => ?_)
  · rw [if_pos hc_1] at h
    refine r_iconst C (v := 0) d_Mo_doRounds_106 (by decide) ?_
    refine r_istore_n C (lv' := [(3, .int 0), (0, .ref (gA X 46)), (1, .int x1), (2, .int x2)]) d_Mo_doRounds_107 rfl (by decide) rfl rfl ?_
    refine r_sub [1, 2, 3, 0] (lv' := [(0, .ref (gA X 46)), (1, .int x1), (2, .int x2), (3, .int 0)]) rfl ?_
    exact u_Mo_doRounds_108 C hR hk16 (x1, x2, 0, σ) h
  · rw [if_neg hc_1] at h
    refine r_aload_n C 0 d_Mo_doRounds_31 rfl rfl ?_
    refine q_Mo_62 C d_Mo_doRounds_32 ?_
    refine r_iload_n C 3 d_Mo_doRounds_35 rfl rfl ?_
    refine r_iload_n C 3 d_Mo_doRounds_36 rfl rfl ?_
    refine r_bipush C (v := 64) d_Mo_doRounds_37 (by decide) ?_
    obtain ⟨hz_2, h⟩ := ck_some h
    refine r_irem C d_Mo_doRounds_39 hz_2 ?_
    refine r_aload_n C 0 d_Mo_doRounds_40 rfl rfl ?_
    refine r_iload_n C 3 d_Mo_doRounds_41 rfl rfl ?_
    refine r_bipush C (v := 64) d_Mo_doRounds_42 (by decide) ?_
    obtain ⟨hz_3, h⟩ := ck_some h
    refine r_idiv C d_Mo_doRounds_44 hz_3 ?_
    obtain ⟨r_4, er_4, h⟩ := bind_some h
    refine r_callV C (As := [.int (x3 / 64)]) (rest := [.int (x3 - x3 / 64 * 64), .int x3, .ref (gA X 64)]) (st1 := [.int r_4, .int (x3 - x3 / 64 * 64), .int x3, .ref (gA X 64)]) (c_Mo_many X.1.2.1 σ (x3 / 64) er_4) k_Mo_many m_500 (by decide) cel_Mo rfl rfl rfl rfl (Nat.le_of_ble_eq_true rfl) ⟨Nat.le_of_ble_eq_true rfl, Nat.le_of_ble_eq_true rfl⟩ d_Mo_doRounds_45 rfl ?_
    refine r_icmp_ge C (tgt := 79) d_Mo_doRounds_48 (by decide) (fun hc_5 => ?_) (fun hc_5 => ?_)
    · rw [if_pos hc_5] at h
      exact t_Mo_doRounds_79 C hR hk16 hk24 x1 x2 x3 x3 σ h
    · rw [if_neg hc_5] at h
      refine r_aload_n C 0 d_Mo_doRounds_51 rfl rfl ?_
      refine q_Mo_56 C d_Mo_doRounds_52 ?_
      refine r_iload_n C 3 d_Mo_doRounds_55 rfl rfl ?_
      obtain ⟨hi_6, h⟩ := ck_some h
      refine r_zald C hi_6 d_Mo_doRounds_56 ?_
      refine r_if_eq C (tgt := 79) d_Mo_doRounds_57 (by decide) (fun hc_7 => ?_) (fun hc_7 => ?_)
      · rw [if_pos hc_7] at h
        exact t_Mo_doRounds_79 C hR hk16 hk24 x1 x2 x3 x3 σ h
      · rw [if_neg hc_7] at h
        refine r_aload_n C 0 d_Mo_doRounds_60 rfl rfl ?_
        refine r_iload_n C 3 d_Mo_doRounds_61 rfl rfl ?_
        refine r_bipush C (v := 64) d_Mo_doRounds_62 (by decide) ?_
        obtain ⟨hz_8, h⟩ := ck_some h
        refine r_idiv C d_Mo_doRounds_64 hz_8 ?_
        refine r_iload_n C 3 d_Mo_doRounds_65 rfl rfl ?_
        refine r_bipush C (v := 64) d_Mo_doRounds_66 (by decide) ?_
        obtain ⟨hz_9, h⟩ := ck_some h
        refine r_irem C d_Mo_doRounds_68 hz_9 ?_
        obtain ⟨r_10, er_10, h⟩ := bind_some h
        refine r_callV C (As := [.int (x3 / 64), .int (x3 - x3 / 64 * 64)]) (rest := [.int x3, .ref (gA X 64)]) (st1 := [.int r_10, .int x3, .ref (gA X 64)]) (c_Mo_isWorst X.1.2.1 σ (x3 / 64) (x3 - x3 / 64 * 64) er_10) k_Mo_isWorst m_558 (by decide) cel_Mo rfl rfl rfl rfl (Nat.le_of_ble_eq_true rfl) ⟨Nat.le_of_ble_eq_true rfl, Nat.le_of_ble_eq_true rfl⟩ d_Mo_doRounds_69 rfl ?_
        refine r_if_eq C (tgt := 79) d_Mo_doRounds_72 (by decide) (fun hc_11 => ?_) (fun hc_11 => ?_)
        · rw [if_pos hc_11] at h
          exact t_Mo_doRounds_79 C hR hk16 hk24 x1 x2 x3 x3 σ h
        · rw [if_neg hc_11] at h
          refine r_iconst C (v := 1) d_Mo_doRounds_75 (by decide) ?_
          refine r_goto C (tgt := 80) d_Mo_doRounds_76 (by decide) ?_
          exact t_Mo_doRounds_80 C hR hk16 hk24 x1 x2 x3 x3 1 σ h
set_option maxHeartbeats 4000000 in
set_option maxRecDepth 100000 in
theorem u_Mo_doRounds_24 {X : gX} {r : (Int32 × gS)} (C : gC X b_Mo_doRounds_c R_Mo 4 3 73) (hR : ∀ pc lv, decode b_Mo_doRounds_c pc = .ok (.ireturn, 1) → G X pc lv [.int r.1] r.2) {k16 : Int32 × Int32 × gS → Option (Int32 × gS)}  (hk16 : ∀ x, k16 x = some r → G X 16 [(0, .ref (gA X 46)), (1, .int x.1), (2, .int x.2.1)] [] x.2.2) (x : Int32 × Int32 × Int32 × gS) (h : l_Mo_doRounds_24 k16 x = some r) : G X 24 [(0, .ref (gA X 46)), (1, .int x.1), (2, .int x.2.1), (3, .int x.2.2.1)] [] x.2.2.2 :=
  lpF_ind (P := fun x => G X 24 [(0, .ref (gA X 46)), (1, .int x.1), (2, .int x.2.1), (3, .int x.2.2.1)] [] x.2.2.2) (fun k hk x h => t_Mo_doRounds_24 C hR hk16 hk x.1 x.2.1 x.2.2.1 x.2.2.2 h) gF x h
set_option maxHeartbeats 4000000 in
set_option maxRecDepth 100000 in
theorem t_Mo_doRounds_16 {X : gX} {r : (Int32 × gS)} (C : gC X b_Mo_doRounds_c R_Mo 4 3 73) (hR : ∀ pc lv, decode b_Mo_doRounds_c pc = .ok (.ireturn, 1) → G X pc lv [.int r.1] r.2) {k16 : Int32 × Int32 × gS → Option (Int32 × gS)}  (hk16 : ∀ x, k16 x = some r → G X 16 [(0, .ref (gA X 46)), (1, .int x.1), (2, .int x.2.1)] [] x.2.2) (x1 : Int32) (x2 : Int32) (σ : gS) (h : b_Mo_doRounds_16 k16 x1 x2 σ = some r) : G X 16 [(0, .ref (gA X 46)), (1, .int x1), (2, .int x2)] [] σ := by
  unfold b_Mo_doRounds_16 at h
  refine r_iload_n C 1 d_Mo_doRounds_16 rfl rfl ?_
  refine r_if_eq C (tgt := 181) d_Mo_doRounds_17 (by decide) (fun hc_1 => ?_) (fun hc_1 => ?_)
  · rw [if_pos hc_1] at h
    refine r_aload_n C 0 d_Mo_doRounds_181 rfl rfl ?_
    refine r_iconst C (v := 0) d_Mo_doRounds_182 (by decide) ?_
    obtain ⟨r_2, er_2, h⟩ := bind_some h
    refine r_callV C (As := [.int 0]) (rest := []) (st1 := [.int r_2]) (c_Mo_leftOf X.1.2.1 σ 0 er_2) k_Mo_leftOf m_562 (by decide) cel_Mo rfl rfl rfl rfl (Nat.le_of_ble_eq_true rfl) ⟨Nat.le_of_ble_eq_true rfl, Nat.le_of_ble_eq_true rfl⟩ d_Mo_doRounds_183 rfl ?_
    refine r_aload_n C 0 d_Mo_doRounds_186 rfl rfl ?_
    refine r_iconst C (v := 1) d_Mo_doRounds_187 (by decide) ?_
    obtain ⟨r_3, er_3, h⟩ := bind_some h
    refine r_callV C (As := [.int 1]) (rest := [.int r_2]) (st1 := [.int r_3, .int r_2]) (c_Mo_leftOf X.1.2.1 σ 1 er_3) k_Mo_leftOf m_562 (by decide) cel_Mo rfl rfl rfl rfl (Nat.le_of_ble_eq_true rfl) ⟨Nat.le_of_ble_eq_true rfl, Nat.le_of_ble_eq_true rfl⟩ d_Mo_doRounds_188 rfl ?_
    refine r_imul C d_Mo_doRounds_191 ?_
    cases h
    exact hR _ _ d_Mo_doRounds_192
  · rw [if_neg hc_1] at h
    refine r_iconst C (v := 0) d_Mo_doRounds_20 (by decide) ?_
    refine r_istore_n C (lv' := [(1, .int 0), (0, .ref (gA X 46)), (2, .int x2)]) d_Mo_doRounds_21 rfl (by decide) rfl rfl ?_
    refine r_iconst C (v := 0) d_Mo_doRounds_22 (by decide) ?_
    refine r_istore_n C (lv' := [(3, .int 0), (1, .int 0), (0, .ref (gA X 46)), (2, .int x2)]) d_Mo_doRounds_23 rfl (by decide) rfl rfl ?_
    refine r_sub [2, 1, 3, 0] (lv' := [(0, .ref (gA X 46)), (1, .int 0), (2, .int x2), (3, .int 0)]) rfl ?_
    exact u_Mo_doRounds_24 C hR hk16 (0, x2, 0, σ) h
set_option maxHeartbeats 4000000 in
set_option maxRecDepth 100000 in
theorem u_Mo_doRounds_16 {X : gX} {r : (Int32 × gS)} (C : gC X b_Mo_doRounds_c R_Mo 4 3 73) (hR : ∀ pc lv, decode b_Mo_doRounds_c pc = .ok (.ireturn, 1) → G X pc lv [.int r.1] r.2)  (x : Int32 × Int32 × gS) (h : l_Mo_doRounds_16 x = some r) : G X 16 [(0, .ref (gA X 46)), (1, .int x.1), (2, .int x.2.1)] [] x.2.2 :=
  lpF_ind (P := fun x => G X 16 [(0, .ref (gA X 46)), (1, .int x.1), (2, .int x.2.1)] [] x.2.2) (fun k hk x h => t_Mo_doRounds_16 C hR hk x.1 x.2.1 x.2.2 h) gF x h
set_option maxHeartbeats 4000000 in
set_option maxRecDepth 100000 in
theorem t_Mo_doRounds_0 {X : gX} {r : (Int32 × gS)} (C : gC X b_Mo_doRounds_c R_Mo 4 3 73) (hR : ∀ pc lv, decode b_Mo_doRounds_c pc = .ok (.ireturn, 1) → G X pc lv [.int r.1] r.2) (σ : gS) (h : b_Mo_doRounds_0 σ = some r) : G X 0 [(0, .ref (gA X 46))] [] σ := by
  unfold b_Mo_doRounds_0 at h
  refine r_aload_n C 0 d_Mo_doRounds_0 rfl rfl ?_
  refine r_aload_n C 0 d_Mo_doRounds_1 rfl rfl ?_
  obtain ⟨r_1, er_1, h⟩ := bind_some h
  refine r_callV C (As := []) (rest := [.ref (gA X 46)]) (st1 := [.int r_1, .ref (gA X 46)]) (c_Mo_root X.1.2.1 σ  er_1) k_Mo_root m_492 (by decide) cel_Mo rfl rfl rfl rfl (Nat.le_of_ble_eq_true rfl) ⟨Nat.le_of_ble_eq_true rfl, Nat.le_of_ble_eq_true rfl⟩ d_Mo_doRounds_2 rfl ?_
  obtain ⟨r_2, er_2, h⟩ := bind_some h
  refine r_callV C (As := [.int r_1]) (rest := []) (st1 := []) (c_Mo_workAll X.1.2.1 σ r_1 er_2) k_Mo_workAll m_496 (by decide) cel_Mo rfl rfl rfl rfl (Nat.le_of_ble_eq_true rfl) ⟨Nat.le_of_ble_eq_true rfl, Nat.le_of_ble_eq_true rfl⟩ d_Mo_doRounds_5 rfl ?_
  refine r_aload_n C 0 d_Mo_doRounds_8 rfl rfl ?_
  obtain ⟨r_3, er_3, h⟩ := bind_some h
  refine r_callV C (As := []) (rest := []) (st1 := []) (c_Mo_allLeft X.1.2.1 r_2  er_3) k_Mo_allLeft m_553 (by decide) cel_Mo rfl rfl rfl rfl (Nat.le_of_ble_eq_true rfl) ⟨Nat.le_of_ble_eq_true rfl, Nat.le_of_ble_eq_true rfl⟩ d_Mo_doRounds_9 rfl ?_
  refine r_iconst C (v := 1) d_Mo_doRounds_12 (by decide) ?_
  refine r_istore_n C (lv' := [(1, .int 1), (0, .ref (gA X 46))]) d_Mo_doRounds_13 rfl (by decide) rfl rfl ?_
  refine r_iconst C (v := 1) d_Mo_doRounds_14 (by decide) ?_
  refine r_istore_n C (lv' := [(2, .int 1), (1, .int 1), (0, .ref (gA X 46))]) d_Mo_doRounds_15 rfl (by decide) rfl rfl ?_
  refine r_sub [2, 1, 0] (lv' := [(0, .ref (gA X 46)), (1, .int 1), (2, .int 1)]) rfl ?_
  exact u_Mo_doRounds_16 C hR  (1, 1, r_3) h
set_option maxHeartbeats 4000000 in
set_option maxRecDepth 100000 in
theorem c_Mo_doRounds (l : Launch) (σ : gS)  {r : (Int32 × gS)} (h : f_Mo_doRounds σ = some r) : gMet l y_Mo_doRounds b_Mo_doRounds_c 4 (some .int) 3 73 (fun a => [.ref (a 46)]) σ (some (.int r.1)) r.2 := by
  refine gMet_i (by decide +kernel) (fun a => Nat.le_of_ble_eq_true rfl) (fun X _ C hR => ?_)
  refine r_sub [0] (lv' := [(0, .ref (gA X 46))]) rfl ?_
  exact t_Mo_doRounds_0 C hR σ h
