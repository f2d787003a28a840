theorem d_Fo_dropAll_0 : decode b_Fo_dropAll_c 0 = .ok (.aload_n 0, 1) := by decide +kernel
theorem d_Fo_dropAll_1 : decode b_Fo_dropAll_c 1 = .ok (.getfield 9, 3) := by decide +kernel
theorem d_Fo_dropAll_4 : decode b_Fo_dropAll_c 4 = .ok (.istore_n 1, 1) := by decide +kernel
theorem d_Fo_dropAll_5 : decode b_Fo_dropAll_c 5 = .ok (.aload_n 0, 1) := by decide +kernel
theorem d_Fo_dropAll_6 : decode b_Fo_dropAll_c 6 = .ok (.iconst 0, 1) := by decide +kernel
theorem d_Fo_dropAll_7 : decode b_Fo_dropAll_c 7 = .ok (.putfield 9, 3) := by decide +kernel
theorem d_Fo_dropAll_10 : decode b_Fo_dropAll_c 10 = .ok (.aload_n 0, 1) := by decide +kernel
theorem d_Fo_dropAll_11 : decode b_Fo_dropAll_c 11 = .ok (.iconst 0, 1) := by decide +kernel
theorem d_Fo_dropAll_12 : decode b_Fo_dropAll_c 12 = .ok (.putfield 15, 3) := by decide +kernel
theorem d_Fo_dropAll_15 : decode b_Fo_dropAll_c 15 = .ok (.aload_n 0, 1) := by decide +kernel
theorem d_Fo_dropAll_16 : decode b_Fo_dropAll_c 16 = .ok (.dup, 1) := by decide +kernel
theorem d_Fo_dropAll_17 : decode b_Fo_dropAll_c 17 = .ok (.getfield 18, 3) := by decide +kernel
theorem d_Fo_dropAll_20 : decode b_Fo_dropAll_c 20 = .ok (.iconst 1, 1) := by decide +kernel
theorem d_Fo_dropAll_21 : decode b_Fo_dropAll_c 21 = .ok (.iadd, 1) := by decide +kernel
theorem d_Fo_dropAll_22 : decode b_Fo_dropAll_c 22 = .ok (.putfield 18, 3) := by decide +kernel
theorem d_Fo_dropAll_25 : decode b_Fo_dropAll_c 25 = .ok (.iload_n 1, 1) := by decide +kernel
theorem d_Fo_dropAll_26 : decode b_Fo_dropAll_c 26 = .ok (.ireturn, 1) := by decide +kernel
/-! GameRows$Forest.dropAll()I -/
set_option maxHeartbeats 4000000 in
set_option maxRecDepth 100000 in
theorem t_Fo_dropAll_0 {X : gX} {r : (Int32 × gS)} (C : gC X b_Fo_dropAll_c R_Fo 2 0 0) (hR : ∀ pc lv, decode b_Fo_dropAll_c pc = .ok (.ireturn, 1) → G X pc lv [.int r.1] r.2) (σ : gS) (h : b_Fo_dropAll_0 σ = some r) : G X 0 [(0, .ref (gA X 1))] [] σ := by
  unfold b_Fo_dropAll_0 at h
  refine r_aload_n C 0 d_Fo_dropAll_0 rfl rfl ?_
  refine q_Fo_9 C d_Fo_dropAll_1 ?_
  obtain ⟨x1_1, ex1_1, h⟩ := bnd_some h
  refine r_istore_n C (lv' := [(1, .int x1_1), (0, .ref (gA X 1))]) d_Fo_dropAll_4 rfl (by decide) ex1_1 rfl ?_
  refine r_aload_n C 1 d_Fo_dropAll_5 rfl rfl ?_
  refine r_iconst C (v := 0) d_Fo_dropAll_6 (by decide) ?_
  obtain ⟨σ_2, eσ_2, h⟩ := bnd_some h
  refine p_Fo_9 C eσ_2 d_Fo_dropAll_7 ?_
  refine r_aload_n C 1 d_Fo_dropAll_10 rfl rfl ?_
  refine r_iconst C (v := 0) d_Fo_dropAll_11 (by decide) ?_
  obtain ⟨σ_3, eσ_3, h⟩ := bnd_some h
  refine p_Fo_15 C eσ_3 d_Fo_dropAll_12 ?_
  refine r_aload_n C 1 d_Fo_dropAll_15 rfl rfl ?_
  refine r_dup C d_Fo_dropAll_16 rfl ?_
  refine q_Fo_18 C d_Fo_dropAll_17 ?_
  refine r_iconst C (v := 1) d_Fo_dropAll_20 (by decide) ?_
  refine r_iadd C d_Fo_dropAll_21 ?_
  obtain ⟨σ_4, eσ_4, h⟩ := bnd_some h
  refine p_Fo_18 C eσ_4 d_Fo_dropAll_22 ?_
  refine r_iload_n C 0 d_Fo_dropAll_25 rfl rfl ?_
  cases h
  exact hR _ _ d_Fo_dropAll_26
set_option maxHeartbeats 4000000 in
set_option maxRecDepth 100000 in
theorem c_Fo_dropAll (l : Launch) (σ : gS)  {r : (Int32 × gS)} (h : f_Fo_dropAll σ = some r) : gMet l y_Fo_dropAll b_Fo_dropAll_c 2 (some .int) 0 0 (fun a => [.ref (a 1)]) σ (some (.int r.1)) r.2 := by
  refine gMet_i (by decide +kernel) (fun a => Nat.le_of_ble_eq_true rfl) (fun X _ C hR => ?_)
  refine r_sub [0] (lv' := [(0, .ref (gA X 1))]) rfl ?_
  exact t_Fo_dropAll_0 C hR σ h
theorem d_Ga_clear_0 : decode b_Ga_clear_c 0 = .ok (.aload_n 0, 1) := by decide +kernel
theorem d_Ga_clear_1 : decode b_Ga_clear_c 1 = .ok (.getfield 10, 3) := by decide +kernel
theorem d_Ga_clear_4 : decode b_Ga_clear_c 4 = .ok (.invokevirtual 48, 3) := by decide +kernel
theorem d_Ga_clear_7 : decode b_Ga_clear_c 7 = .ok (.ireturn, 1) := by decide +kernel
/-! GameRows.clear()I -/
set_option maxHeartbeats 4000000 in
set_option maxRecDepth 100000 in
theorem t_Ga_clear_0 {X : gX} {r : (Int32 × gS)} (C : gC X b_Ga_clear_c R_Ga 1 1 21) (hR : ∀ pc lv, decode b_Ga_clear_c pc = .ok (.ireturn, 1) → G X pc lv [.int r.1] r.2) (σ : gS) (h : b_Ga_clear_0 σ = some r) : G X 0 [(0, .ref (gA X 0))] [] σ := by
  unfold b_Ga_clear_0 at h
  refine r_aload_n C 0 d_Ga_clear_0 rfl rfl ?_
  refine q_Ga_10 C d_Ga_clear_1 ?_
  obtain ⟨r_1, er_1, h⟩ := bind_some h
  refine r_callV C (As := []) (rest := []) (st1 := [.int r_1.1]) (c_Fo_dropAll X.1.2.1 σ  er_1) k_Fo_dropAll m_4 (by decide) cel_Fo rfl rfl rfl rfl (Nat.le_of_ble_eq_true rfl) ⟨Nat.le_of_ble_eq_true rfl, Nat.le_of_ble_eq_true rfl⟩ d_Ga_clear_4 rfl ?_
  cases h
  exact hR _ _ d_Ga_clear_7
set_option maxHeartbeats 4000000 in
set_option maxRecDepth 100000 in
theorem c_Ga_clear (l : Launch) (σ : gS)  {r : (Int32 × gS)} (h : f_Ga_clear σ = some r) : gMet l y_Ga_clear b_Ga_clear_c 1 (some .int) 1 21 (fun a => [.ref (a 0)]) σ (some (.int r.1)) r.2 := by
  refine gMet_i (by decide +kernel) (fun a => Nat.le_of_ble_eq_true rfl) (fun X _ C hR => ?_)
  refine r_sub [0] (lv' := [(0, .ref (gA X 0))]) rfl ?_
  exact t_Ga_clear_0 C hR σ h
theorem d_Ga_isPlayer_0 : decode b_Ga_isPlayer_c 0 = .ok (.iload_n 0, 1) := by decide +kernel
theorem d_Ga_isPlayer_1 : decode b_Ga_isPlayer_c 1 = .ok (.ifCond .eq 8, 3) := by decide +kernel
theorem d_Ga_isPlayer_4 : decode b_Ga_isPlayer_c 4 = .ok (.iload_n 0, 1) := by decide +kernel
theorem d_Ga_isPlayer_5 : decode b_Ga_isPlayer_c 5 = .ok (.iconst 1, 1) := by decide +kernel
theorem d_Ga_isPlayer_6 : decode b_Ga_isPlayer_c 6 = .ok (.if_icmp .ne 7, 3) := by decide +kernel
theorem d_Ga_isPlayer_9 : decode b_Ga_isPlayer_c 9 = .ok (.iconst 1, 1) := by decide +kernel
theorem d_Ga_isPlayer_10 : decode b_Ga_isPlayer_c 10 = .ok (.goto 4, 3) := by decide +kernel
theorem d_Ga_isPlayer_13 : decode b_Ga_isPlayer_c 13 = .ok (.iconst 0, 1) := by decide +kernel
theorem d_Ga_isPlayer_14 : decode b_Ga_isPlayer_c 14 = .ok (.ireturn, 1) := by decide +kernel
/-! GameRows.isPlayer(I)Z -/
set_option maxHeartbeats 4000000 in
set_option maxRecDepth 100000 in
theorem t_Ga_isPlayer_0 {X : gX} {r : Int32} {σ : gS} (C : gC X b_Ga_isPlayer_c R_Ga 1 0 0) (hR : ∀ pc lv, isB r = true → decode b_Ga_isPlayer_c pc = .ok (.ireturn, 1) → G X pc lv [.int r] σ) (x0 : Int32) (h : b_Ga_isPlayer_0 x0 = some r) : G X 0 [(0, .int x0)] [] σ := by
  unfold b_Ga_isPlayer_0 at h
  refine r_iload_n C 0 d_Ga_isPlayer_0 rfl rfl ?_
  refine r_if_eq C (tgt := 9) d_Ga_isPlayer_1 (by decide) (fun hc_1 => ?_) (fun hc_1 => ?_)
  · rw [if_pos hc_1] at h
    refine r_iconst C (v := 1) d_Ga_isPlayer_9 (by decide) ?_
    refine r_goto C (tgt := 14) d_Ga_isPlayer_10 (by decide) ?_
    obtain ⟨hB, h⟩ := ck_some h
    cases h
    exact hR _ _ hB d_Ga_isPlayer_14
  · rw [if_neg hc_1] at h
    refine r_iload_n C 0 d_Ga_isPlayer_4 rfl rfl ?_
    refine r_iconst C (v := 1) d_Ga_isPlayer_5 (by decide) ?_
    refine r_icmp_ne C (tgt := 13) d_Ga_isPlayer_6 (by decide) (fun hc_2 => ?_) (fun hc_2 => ?_)
    · rw [if_neg hc_2] at h
      refine r_iconst C (v := 0) d_Ga_isPlayer_13 (by decide) ?_
      obtain ⟨hB, h⟩ := ck_some h
      cases h
      exact hR _ _ hB d_Ga_isPlayer_14
    · rw [if_pos hc_2] at h
      refine r_iconst C (v := 1) d_Ga_isPlayer_9 (by decide) ?_
      refine r_goto C (tgt := 14) d_Ga_isPlayer_10 (by decide) ?_
      obtain ⟨hB, h⟩ := ck_some h
      cases h
      exact hR _ _ hB d_Ga_isPlayer_14
set_option maxHeartbeats 4000000 in
set_option maxRecDepth 100000 in
theorem c_Ga_isPlayer (l : Launch) (σ : gS) (x0 : Int32) {r : Int32} (h : f_Ga_isPlayer x0 = some r) : gMet l y_Ga_isPlayer b_Ga_isPlayer_c 1 (some .boolean) 0 0 (fun a => [.int x0]) σ (some (.int r)) σ := by
  refine gMet_z (by decide +kernel) (fun a => Nat.le_of_ble_eq_true rfl) (fun X _ C hR => ?_)
  refine r_sub [0] (lv' := [(0, .int x0)]) rfl ?_
  exact t_Ga_isPlayer_0 C hR x0 h
theorem d_Ga_isAmong_0 : decode b_Ga_isAmong_c 0 = .ok (.iload_n 0, 1) := by decide +kernel
theorem d_Ga_isAmong_1 : decode b_Ga_isAmong_c 1 = .ok (.iload_n 1, 1) := by decide +kernel
theorem d_Ga_isAmong_2 : decode b_Ga_isAmong_c 2 = .ok (.if_icmp .lt 12, 3) := by decide +kernel
theorem d_Ga_isAmong_5 : decode b_Ga_isAmong_c 5 = .ok (.iload_n 0, 1) := by decide +kernel
theorem d_Ga_isAmong_6 : decode b_Ga_isAmong_c 6 = .ok (.iload_n 2, 1) := by decide +kernel
theorem d_Ga_isAmong_7 : decode b_Ga_isAmong_c 7 = .ok (.if_icmp .gt 7, 3) := by decide +kernel
theorem d_Ga_isAmong_10 : decode b_Ga_isAmong_c 10 = .ok (.iconst 1, 1) := by decide +kernel
theorem d_Ga_isAmong_11 : decode b_Ga_isAmong_c 11 = .ok (.goto 4, 3) := by decide +kernel
theorem d_Ga_isAmong_14 : decode b_Ga_isAmong_c 14 = .ok (.iconst 0, 1) := by decide +kernel
theorem d_Ga_isAmong_15 : decode b_Ga_isAmong_c 15 = .ok (.ireturn, 1) := by decide +kernel
/-! GameRows.isAmong(III)Z -/
set_option maxHeartbeats 4000000 in
set_option maxRecDepth 100000 in
theorem t_Ga_isAmong_0 {X : gX} {r : Int32} {σ : gS} (C : gC X b_Ga_isAmong_c R_Ga 3 0 0) (hR : ∀ pc lv, isB r = true → decode b_Ga_isAmong_c pc = .ok (.ireturn, 1) → G X pc lv [.int r] σ) (x0 : Int32) (x1 : Int32) (x2 : Int32) (h : b_Ga_isAmong_0 x0 x1 x2 = some r) : G X 0 [(0, .int x0), (1, .int x1), (2, .int x2)] [] σ := by
  unfold b_Ga_isAmong_0 at h
  refine r_iload_n C 0 d_Ga_isAmong_0 rfl rfl ?_
  refine r_iload_n C 1 d_Ga_isAmong_1 rfl rfl ?_
  refine r_icmp_lt C (tgt := 14) d_Ga_isAmong_2 (by decide) (fun hc_1 => ?_) (fun hc_1 => ?_)
  · rw [if_pos hc_1] at h
    refine r_iconst C (v := 0) d_Ga_isAmong_14 (by decide) ?_
    obtain ⟨hB, h⟩ := ck_some h
    cases h
    exact hR _ _ hB d_Ga_isAmong_15
  · rw [if_neg hc_1] at h
    refine r_iload_n C 0 d_Ga_isAmong_5 rfl rfl ?_
    refine r_iload_n C 2 d_Ga_isAmong_6 rfl rfl ?_
    refine r_icmp_gt C (tgt := 14) d_Ga_isAmong_7 (by decide) (fun hc_2 => ?_) (fun hc_2 => ?_)
    · rw [if_pos hc_2] at h
      refine r_iconst C (v := 0) d_Ga_isAmong_14 (by decide) ?_
      obtain ⟨hB, h⟩ := ck_some h
      cases h
      exact hR _ _ hB d_Ga_isAmong_15
    · rw [if_neg hc_2] at h
      refine r_iconst C (v := 1) d_Ga_isAmong_10 (by decide) ?_
      refine r_goto C (tgt := 15) d_Ga_isAmong_11 (by decide) ?_
      obtain ⟨hB, h⟩ := ck_some h
      cases h
      exact hR _ _ hB d_Ga_isAmong_15
set_option maxHeartbeats 4000000 in
set_option maxRecDepth 100000 in
theorem c_Ga_isAmong (l : Launch) (σ : gS) (x0 : Int32) (x1 : Int32) (x2 : Int32) {r : Int32} (h : f_Ga_isAmong x0 x1 x2 = some r) : gMet l y_Ga_isAmong b_Ga_isAmong_c 3 (some .boolean) 0 0 (fun a => [.int x0, .int x1, .int x2]) σ (some (.int r)) σ := by
  refine gMet_z (by decide +kernel) (fun a => Nat.le_of_ble_eq_true rfl) (fun X _ C hR => ?_)
  refine r_sub [0, 1, 2] (lv' := [(0, .int x0), (1, .int x1), (2, .int x2)]) rfl ?_
  exact t_Ga_isAmong_0 C hR x0 x1 x2 h
theorem d_Fo_addSet_0 : decode b_Fo_addSet_c 0 = .ok (.aload_n 0, 1) := by decide +kernel
theorem d_Fo_addSet_1 : decode b_Fo_addSet_c 1 = .ok (.getfield 15, 3) := by decide +kernel
theorem d_Fo_addSet_4 : decode b_Fo_addSet_c 4 = .ok (.bipush 10, 2) := by decide +kernel
theorem d_Fo_addSet_6 : decode b_Fo_addSet_c 6 = .ok (.if_icmp .lt 6, 3) := by decide +kernel
theorem d_Fo_addSet_9 : decode b_Fo_addSet_c 9 = .ok (.bipush (-3), 2) := by decide +kernel
theorem d_Fo_addSet_11 : decode b_Fo_addSet_c 11 = .ok (.ireturn, 1) := by decide +kernel
theorem d_Fo_addSet_12 : decode b_Fo_addSet_c 12 = .ok (.aload_n 0, 1) := by decide +kernel
theorem d_Fo_addSet_13 : decode b_Fo_addSet_c 13 = .ok (.getfield 56, 3) := by decide +kernel
theorem d_Fo_addSet_16 : decode b_Fo_addSet_c 16 = .ok (.aload_n 0, 1) := by decide +kernel
theorem d_Fo_addSet_17 : decode b_Fo_addSet_c 17 = .ok (.getfield 15, 3) := by decide +kernel
theorem d_Fo_addSet_20 : decode b_Fo_addSet_c 20 = .ok (.iload_n 1, 1) := by decide +kernel
theorem d_Fo_addSet_21 : decode b_Fo_addSet_c 21 = .ok (.iastore, 1) := by decide +kernel
theorem d_Fo_addSet_22 : decode b_Fo_addSet_c 22 = .ok (.aload_n 0, 1) := by decide +kernel
theorem d_Fo_addSet_23 : decode b_Fo_addSet_c 23 = .ok (.getfield 31, 3) := by decide +kernel
theorem d_Fo_addSet_26 : decode b_Fo_addSet_c 26 = .ok (.aload_n 0, 1) := by decide +kernel
theorem d_Fo_addSet_27 : decode b_Fo_addSet_c 27 = .ok (.getfield 15, 3) := by decide +kernel
theorem d_Fo_addSet_30 : decode b_Fo_addSet_c 30 = .ok (.iload_n 2, 1) := by decide +kernel
theorem d_Fo_addSet_31 : decode b_Fo_addSet_c 31 = .ok (.iastore, 1) := by decide +kernel
theorem d_Fo_addSet_32 : decode b_Fo_addSet_c 32 = .ok (.aload_n 0, 1) := by decide +kernel
theorem d_Fo_addSet_33 : decode b_Fo_addSet_c 33 = .ok (.getfield 59, 3) := by decide +kernel
theorem d_Fo_addSet_36 : decode b_Fo_addSet_c 36 = .ok (.aload_n 0, 1) := by decide +kernel
theorem d_Fo_addSet_37 : decode b_Fo_addSet_c 37 = .ok (.getfield 15, 3) := by decide +kernel
theorem d_Fo_addSet_40 : decode b_Fo_addSet_c 40 = .ok (.lconst 0, 1) := by decide +kernel
theorem d_Fo_addSet_41 : decode b_Fo_addSet_c 41 = .ok (.lastore, 1) := by decide +kernel
theorem d_Fo_addSet_42 : decode b_Fo_addSet_c 42 = .ok (.aload_n 0, 1) := by decide +kernel
theorem d_Fo_addSet_43 : decode b_Fo_addSet_c 43 = .ok (.dup, 1) := by decide +kernel
theorem d_Fo_addSet_44 : decode b_Fo_addSet_c 44 = .ok (.getfield 15, 3) := by decide +kernel
theorem d_Fo_addSet_47 : decode b_Fo_addSet_c 47 = .ok (.dup_x1, 1) := by decide +kernel
theorem d_Fo_addSet_48 : decode b_Fo_addSet_c 48 = .ok (.iconst 1, 1) := by decide +kernel
theorem d_Fo_addSet_49 : decode b_Fo_addSet_c 49 = .ok (.iadd, 1) := by decide +kernel
theorem d_Fo_addSet_50 : decode b_Fo_addSet_c 50 = .ok (.putfield 15, 3) := by decide +kernel
theorem d_Fo_addSet_53 : decode b_Fo_addSet_c 53 = .ok (.ireturn, 1) := by decide +kernel
/-! GameRows$Forest.addSet(II)I -/
set_option maxHeartbeats 4000000 in
set_option maxRecDepth 100000 in
theorem t_Fo_addSet_0 {X : gX} {r : (Int32 × gS)} (C : gC X b_Fo_addSet_c R_Fo 3 0 0) (hR : ∀ pc lv, decode b_Fo_addSet_c pc = .ok (.ireturn, 1) → G X pc lv [.int r.1] r.2) (x1 : Int32) (x2 : Int32) (σ : gS) (h : b_Fo_addSet_0 x1 x2 σ = some r) : G X 0 [(0, .ref (gA X 1)), (1, .int x1), (2, .int x2)] [] σ := by
  unfold b_Fo_addSet_0 at h
  refine r_aload_n C 0 d_Fo_addSet_0 rfl rfl ?_
  refine q_Fo_15 C d_Fo_addSet_1 ?_
  refine r_bipush C (v := 10) d_Fo_addSet_4 (by decide) ?_
  refine r_icmp_lt C (tgt := 12) d_Fo_addSet_6 (by decide) (fun hc_1 => ?_) (fun hc_1 => ?_)
  · rw [if_pos hc_1] at h
    refine r_aload_n C 0 d_Fo_addSet_12 rfl rfl ?_
    refine q_Fo_56 C d_Fo_addSet_13 ?_
    refine r_aload_n C 0 d_Fo_addSet_16 rfl rfl ?_
    refine q_Fo_15 C d_Fo_addSet_17 ?_
    refine r_iload_n C 1 d_Fo_addSet_20 rfl rfl ?_
    obtain ⟨hi_2, h⟩ := ck_some h
    obtain ⟨σ_3, eσ_3, h⟩ := bnd_some h
    refine r_iast C hi_2 eσ_3 d_Fo_addSet_21 ?_
    refine r_aload_n C 0 d_Fo_addSet_22 rfl rfl ?_
    refine q_Fo_31 C d_Fo_addSet_23 ?_
    refine r_aload_n C 0 d_Fo_addSet_26 rfl rfl ?_
    refine q_Fo_15 C d_Fo_addSet_27 ?_
    refine r_iload_n C 2 d_Fo_addSet_30 rfl rfl ?_
    obtain ⟨hi_4, h⟩ := ck_some h
    obtain ⟨σ_5, eσ_5, h⟩ := bnd_some h
    refine r_iast C hi_4 eσ_5 d_Fo_addSet_31 ?_
    refine r_aload_n C 0 d_Fo_addSet_32 rfl rfl ?_
    refine q_Fo_59 C d_Fo_addSet_33 ?_
    refine r_aload_n C 0 d_Fo_addSet_36 rfl rfl ?_
    refine q_Fo_15 C d_Fo_addSet_37 ?_
    refine r_lconst C (v := 0) d_Fo_addSet_40 (by decide) ?_
    obtain ⟨hi_6, h⟩ := ck_some h
    obtain ⟨σ_7, eσ_7, h⟩ := bnd_some h
    refine r_last C hi_6 eσ_7 d_Fo_addSet_41 ?_
    refine r_aload_n C 0 d_Fo_addSet_42 rfl rfl ?_
    refine r_dup C d_Fo_addSet_43 rfl ?_
    refine q_Fo_15 C d_Fo_addSet_44 ?_
    refine r_dup_x1 C d_Fo_addSet_47 rfl rfl ?_
    refine r_iconst C (v := 1) d_Fo_addSet_48 (by decide) ?_
    refine r_iadd C d_Fo_addSet_49 ?_
    obtain ⟨σ_8, eσ_8, h⟩ := bnd_some h
    refine p_Fo_15 C eσ_8 d_Fo_addSet_50 ?_
    cases h
    exact hR _ _ d_Fo_addSet_53
  · rw [if_neg hc_1] at h
    refine r_bipush C (v := (-3)) d_Fo_addSet_9 (by decide) ?_
    cases h
    exact hR _ _ d_Fo_addSet_11
set_option maxHeartbeats 4000000 in
set_option maxRecDepth 100000 in
theorem c_Fo_addSet (l : Launch) (σ : gS) (x1 : Int32) (x2 : Int32) {r : (Int32 × gS)} (h : f_Fo_addSet σ x1 x2 = some r) : gMet l y_Fo_addSet b_Fo_addSet_c 3 (some .int) 0 0 (fun a => [.ref (a 1), .int x1, .int x2]) σ (some (.int r.1)) r.2 := by
  refine gMet_i (by decide +kernel) (fun a => Nat.le_of_ble_eq_true rfl) (fun X _ C hR => ?_)
  refine r_sub [0, 1, 2] (lv' := [(0, .ref (gA X 1)), (1, .int x1), (2, .int x2)]) rfl ?_
  exact t_Fo_addSet_0 C hR x1 x2 σ h
theorem d_Ga_set_0 : decode b_Ga_set_c 0 = .ok (.iload_n 1, 1) := by decide +kernel
theorem d_Ga_set_1 : decode b_Ga_set_c 1 = .ok (.invokestatic 52, 3) := by decide +kernel
theorem d_Ga_set_4 : decode b_Ga_set_c 4 = .ok (.ifCond .eq 12, 3) := by decide +kernel
theorem d_Ga_set_7 : decode b_Ga_set_c 7 = .ok (.iload_n 2, 1) := by decide +kernel
theorem d_Ga_set_8 : decode b_Ga_set_c 8 = .ok (.iconst 2, 1) := by decide +kernel
theorem d_Ga_set_9 : decode b_Ga_set_c 9 = .ok (.iconst 3, 1) := by decide +kernel
theorem d_Ga_set_10 : decode b_Ga_set_c 10 = .ok (.invokestatic 56, 3) := by decide +kernel
theorem d_Ga_set_13 : decode b_Ga_set_c 13 = .ok (.ifCond .ne 6, 3) := by decide +kernel
theorem d_Ga_set_16 : decode b_Ga_set_c 16 = .ok (.bipush (-2), 2) := by decide +kernel
theorem d_Ga_set_18 : decode b_Ga_set_c 18 = .ok (.ireturn, 1) := by decide +kernel
theorem d_Ga_set_19 : decode b_Ga_set_c 19 = .ok (.aload_n 0, 1) := by decide +kernel
theorem d_Ga_set_20 : decode b_Ga_set_c 20 = .ok (.getfield 10, 3) := by decide +kernel
theorem d_Ga_set_23 : decode b_Ga_set_c 23 = .ok (.iload_n 1, 1) := by decide +kernel
theorem d_Ga_set_24 : decode b_Ga_set_c 24 = .ok (.iload_n 2, 1) := by decide +kernel
theorem d_Ga_set_25 : decode b_Ga_set_c 25 = .ok (.invokevirtual 60, 3) := by decide +kernel
theorem d_Ga_set_28 : decode b_Ga_set_c 28 = .ok (.ireturn, 1) := by decide +kernel
/-! GameRows.set(II)I -/
set_option maxHeartbeats 4000000 in
set_option maxRecDepth 100000 in
theorem t_Ga_set_0 {X : gX} {r : (Int32 × gS)} (C : gC X b_Ga_set_c R_Ga 3 1 22) (hR : ∀ pc lv, decode b_Ga_set_c pc = .ok (.ireturn, 1) → G X pc lv [.int r.1] r.2) (x1 : Int32) (x2 : Int32) (σ : gS) (h : b_Ga_set_0 x1 x2 σ = some r) : G X 0 [(0, .ref (gA X 0)), (1, .int x1), (2, .int x2)] [] σ := by
  unfold b_Ga_set_0 at h
  refine r_iload_n C 1 d_Ga_set_0 rfl rfl ?_
  obtain ⟨r_1, er_1, h⟩ := bind_some h
  refine r_callS C (As := [.int x1]) (rest := []) (st1 := [.int r_1]) (c_Ga_isPlayer X.1.2.1 σ x1 er_1) k_Ga_isPlayer m_12 rfl rfl rfl (Nat.le_of_ble_eq_true rfl) ⟨Nat.le_of_ble_eq_true rfl, Nat.le_of_ble_eq_true rfl⟩ d_Ga_set_1 rfl ?_
  refine r_if_eq C (tgt := 16) d_Ga_set_4 (by decide) (fun hc_2 => ?_) (fun hc_2 => ?_)
  · rw [if_pos hc_2] at h
    refine r_bipush C (v := (-2)) d_Ga_set_16 (by decide) ?_
    cases h
    exact hR _ _ d_Ga_set_18
  · rw [if_neg hc_2] at h
    refine r_iload_n C 2 d_Ga_set_7 rfl rfl ?_
    refine r_iconst C (v := 2) d_Ga_set_8 (by decide) ?_
    refine r_iconst C (v := 3) d_Ga_set_9 (by decide) ?_
    obtain ⟨r_3, er_3, h⟩ := bind_some h
    refine r_callS C (As := [.int x2, .int 2, .int 3]) (rest := []) (st1 := [.int r_3]) (c_Ga_isAmong X.1.2.1 σ x2 2 3 er_3) k_Ga_isAmong m_16 rfl rfl rfl (Nat.le_of_ble_eq_true rfl) ⟨Nat.le_of_ble_eq_true rfl, Nat.le_of_ble_eq_true rfl⟩ d_Ga_set_10 rfl ?_
    refine r_if_ne C (tgt := 19) d_Ga_set_13 (by decide) (fun hc_4 => ?_) (fun hc_4 => ?_)
    · rw [if_neg hc_4] at h
      refine r_aload_n C 0 d_Ga_set_19 rfl rfl ?_
      refine q_Ga_10 C d_Ga_set_20 ?_
      refine r_iload_n C 1 d_Ga_set_23 rfl rfl ?_
      refine r_iload_n C 2 d_Ga_set_24 rfl rfl ?_
      obtain ⟨r_5, er_5, h⟩ := bind_some h
      refine r_callV C (As := [.int x1, .int x2]) (rest := []) (st1 := [.int r_5.1]) (c_Fo_addSet X.1.2.1 σ x1 x2 er_5) k_Fo_addSet m_19 (by decide) cel_Fo rfl rfl rfl rfl (Nat.le_of_ble_eq_true rfl) ⟨Nat.le_of_ble_eq_true rfl, Nat.le_of_ble_eq_true rfl⟩ d_Ga_set_25 rfl ?_
      cases h
      exact hR _ _ d_Ga_set_28
    · rw [if_pos hc_4] at h
      refine r_bipush C (v := (-2)) d_Ga_set_16 (by decide) ?_
      cases h
      exact hR _ _ d_Ga_set_18
set_option maxHeartbeats 4000000 in
set_option maxRecDepth 100000 in
theorem c_Ga_set (l : Launch) (σ : gS) (x1 : Int32) (x2 : Int32) {r : (Int32 × gS)} (h : f_Ga_set σ x1 x2 = some r) : gMet l y_Ga_set b_Ga_set_c 3 (some .int) 1 22 (fun a => [.ref (a 0), .int x1, .int x2]) σ (some (.int r.1)) r.2 := by
  refine gMet_i (by decide +kernel) (fun a => Nat.le_of_ble_eq_true rfl) (fun X _ C hR => ?_)
  refine r_sub [0, 1, 2] (lv' := [(0, .ref (gA X 0)), (1, .int x1), (2, .int x2)]) rfl ?_
  exact t_Ga_set_0 C hR x1 x2 σ h
theorem d_Fo_startNode_0 : decode b_Fo_startNode_c 0 = .ok (.aload_n 0, 1) := by decide +kernel
theorem d_Fo_startNode_1 : decode b_Fo_startNode_c 1 = .ok (.getfield 9, 3) := by decide +kernel
theorem d_Fo_startNode_4 : decode b_Fo_startNode_c 4 = .ok (.istore_n 3, 1) := by decide +kernel
theorem d_Fo_startNode_5 : decode b_Fo_startNode_c 5 = .ok (.aload_n 0, 1) := by decide +kernel
theorem d_Fo_startNode_6 : decode b_Fo_startNode_c 6 = .ok (.getfield 21, 3) := by decide +kernel
theorem d_Fo_startNode_9 : decode b_Fo_startNode_c 9 = .ok (.iload_n 3, 1) := by decide +kernel
theorem d_Fo_startNode_10 : decode b_Fo_startNode_c 10 = .ok (.iload_n 1, 1) := by decide +kernel
theorem d_Fo_startNode_11 : decode b_Fo_startNode_c 11 = .ok (.iastore, 1) := by decide +kernel
theorem d_Fo_startNode_12 : decode b_Fo_startNode_c 12 = .ok (.aload_n 0, 1) := by decide +kernel
theorem d_Fo_startNode_13 : decode b_Fo_startNode_c 13 = .ok (.getfield 25, 3) := by decide +kernel
theorem d_Fo_startNode_16 : decode b_Fo_startNode_c 16 = .ok (.iload_n 3, 1) := by decide +kernel
theorem d_Fo_startNode_17 : decode b_Fo_startNode_c 17 = .ok (.iload_n 2, 1) := by decide +kernel
theorem d_Fo_startNode_18 : decode b_Fo_startNode_c 18 = .ok (.iastore, 1) := by decide +kernel
theorem d_Fo_startNode_19 : decode b_Fo_startNode_c 19 = .ok (.aload_n 0, 1) := by decide +kernel
theorem d_Fo_startNode_20 : decode b_Fo_startNode_c 20 = .ok (.getfield 40, 3) := by decide +kernel
theorem d_Fo_startNode_23 : decode b_Fo_startNode_c 23 = .ok (.iload_n 3, 1) := by decide +kernel
theorem d_Fo_startNode_24 : decode b_Fo_startNode_c 24 = .ok (.iconst 0, 1) := by decide +kernel
theorem d_Fo_startNode_25 : decode b_Fo_startNode_c 25 = .ok (.iastore, 1) := by decide +kernel
theorem d_Fo_startNode_26 : decode b_Fo_startNode_c 26 = .ok (.aload_n 0, 1) := by decide +kernel
theorem d_Fo_startNode_27 : decode b_Fo_startNode_c 27 = .ok (.getfield 28, 3) := by decide +kernel
theorem d_Fo_startNode_30 : decode b_Fo_startNode_c 30 = .ok (.iload_n 3, 1) := by decide +kernel
theorem d_Fo_startNode_31 : decode b_Fo_startNode_c 31 = .ok (.iconst (-1), 1) := by decide +kernel
theorem d_Fo_startNode_32 : decode b_Fo_startNode_c 32 = .ok (.iastore, 1) := by decide +kernel
theorem d_Fo_startNode_33 : decode b_Fo_startNode_c 33 = .ok (.aload_n 0, 1) := by decide +kernel
theorem d_Fo_startNode_34 : decode b_Fo_startNode_c 34 = .ok (.getfield 49, 3) := by decide +kernel
theorem d_Fo_startNode_37 : decode b_Fo_startNode_c 37 = .ok (.iload_n 3, 1) := by decide +kernel
theorem d_Fo_startNode_38 : decode b_Fo_startNode_c 38 = .ok (.lconst 1, 1) := by decide +kernel
theorem d_Fo_startNode_39 : decode b_Fo_startNode_c 39 = .ok (.iload_n 3, 1) := by decide +kernel
theorem d_Fo_startNode_40 : decode b_Fo_startNode_c 40 = .ok (.lshl, 1) := by decide +kernel
theorem d_Fo_startNode_41 : decode b_Fo_startNode_c 41 = .ok (.lastore, 1) := by decide +kernel
theorem d_Fo_startNode_42 : decode b_Fo_startNode_c 42 = .ok (.iload_n 2, 1) := by decide +kernel
theorem d_Fo_startNode_43 : decode b_Fo_startNode_c 43 = .ok (.iconst (-1), 1) := by decide +kernel
theorem d_Fo_startNode_44 : decode b_Fo_startNode_c 44 = .ok (.if_icmp .eq 15, 3) := by decide +kernel
theorem d_Fo_startNode_47 : decode b_Fo_startNode_c 47 = .ok (.aload_n 0, 1) := by decide +kernel
theorem d_Fo_startNode_48 : decode b_Fo_startNode_c 48 = .ok (.getfield 59, 3) := by decide +kernel
theorem d_Fo_startNode_51 : decode b_Fo_startNode_c 51 = .ok (.iload_n 2, 1) := by decide +kernel
theorem d_Fo_startNode_52 : decode b_Fo_startNode_c 52 = .ok (.dup2, 1) := by decide +kernel
theorem d_Fo_startNode_53 : decode b_Fo_startNode_c 53 = .ok (.laload, 1) := by decide +kernel
theorem d_Fo_startNode_54 : decode b_Fo_startNode_c 54 = .ok (.lconst 1, 1) := by decide +kernel
theorem d_Fo_startNode_55 : decode b_Fo_startNode_c 55 = .ok (.iload_n 3, 1) := by decide +kernel
theorem d_Fo_startNode_56 : decode b_Fo_startNode_c 56 = .ok (.lshl, 1) := by decide +kernel
theorem d_Fo_startNode_57 : decode b_Fo_startNode_c 57 = .ok (.lor, 1) := by decide +kernel
theorem d_Fo_startNode_58 : decode b_Fo_startNode_c 58 = .ok (.lastore, 1) := by decide +kernel
theorem d_Fo_startNode_59 : decode b_Fo_startNode_c 59 = .ok (.iconst 0, 1) := by decide +kernel
theorem d_Fo_startNode_60 : decode b_Fo_startNode_c 60 = .ok (.istore 4, 2) := by decide +kernel
theorem d_Fo_startNode_62 : decode b_Fo_startNode_c 62 = .ok (.iload 4, 2) := by decide +kernel
theorem d_Fo_startNode_64 : decode b_Fo_startNode_c 64 = .ok (.iconst 3, 1) := by decide +kernel
theorem d_Fo_startNode_65 : decode b_Fo_startNode_c 65 = .ok (.if_icmp .ge 21, 3) := by decide +kernel
theorem d_Fo_startNode_68 : decode b_Fo_startNode_c 68 = .ok (.aload_n 0, 1) := by decide +kernel
theorem d_Fo_startNode_69 : decode b_Fo_startNode_c 69 = .ok (.getfield 37, 3) := by decide +kernel
theorem d_Fo_startNode_72 : decode b_Fo_startNode_c 72 = .ok (.iconst 3, 1) := by decide +kernel
theorem d_Fo_startNode_73 : decode b_Fo_startNode_c 73 = .ok (.iload_n 3, 1) := by decide +kernel
theorem d_Fo_startNode_74 : decode b_Fo_startNode_c 74 = .ok (.imul, 1) := by decide +kernel
theorem d_Fo_startNode_75 : decode b_Fo_startNode_c 75 = .ok (.iload 4, 2) := by decide +kernel
theorem d_Fo_startNode_77 : decode b_Fo_startNode_c 77 = .ok (.iadd, 1) := by decide +kernel
theorem d_Fo_startNode_78 : decode b_Fo_startNode_c 78 = .ok (.iconst (-1), 1) := by decide +kernel
theorem d_Fo_startNode_79 : decode b_Fo_startNode_c 79 = .ok (.iastore, 1) := by decide +kernel
theorem d_Fo_startNode_80 : decode b_Fo_startNode_c 80 = .ok (.iinc 4 1, 3) := by decide +kernel
theorem d_Fo_startNode_83 : decode b_Fo_startNode_c 83 = .ok (.goto (-21), 3) := by decide +kernel
theorem d_Fo_startNode_86 : decode b_Fo_startNode_c 86 = .ok (.aload_n 0, 1) := by decide +kernel
theorem d_Fo_startNode_87 : decode b_Fo_startNode_c 87 = .ok (.dup, 1) := by decide +kernel
theorem d_Fo_startNode_88 : decode b_Fo_startNode_c 88 = .ok (.getfield 9, 3) := by decide +kernel
theorem d_Fo_startNode_91 : decode b_Fo_startNode_c 91 = .ok (.iconst 1, 1) := by decide +kernel
theorem d_Fo_startNode_92 : decode b_Fo_startNode_c 92 = .ok (.iadd, 1) := by decide +kernel
theorem d_Fo_startNode_93 : decode b_Fo_startNode_c 93 = .ok (.putfield 9, 3) := by decide +kernel
theorem d_Fo_startNode_96 : decode b_Fo_startNode_c 96 = .ok (.aload_n 0, 1) := by decide +kernel
theorem d_Fo_startNode_97 : decode b_Fo_startNode_c 97 = .ok (.dup, 1) := by decide +kernel
theorem d_Fo_startNode_98 : decode b_Fo_startNode_c 98 = .ok (.getfield 18, 3) := by decide +kernel
theorem d_Fo_startNode_101 : decode b_Fo_startNode_c 101 = .ok (.iconst 1, 1) := by decide +kernel
theorem d_Fo_startNode_102 : decode b_Fo_startNode_c 102 = .ok (.iadd, 1) := by decide +kernel
theorem d_Fo_startNode_103 : decode b_Fo_startNode_c 103 = .ok (.putfield 18, 3) := by decide +kernel
theorem d_Fo_startNode_106 : decode b_Fo_startNode_c 106 = .ok (.iload_n 3, 1) := by decide +kernel
theorem d_Fo_startNode_107 : decode b_Fo_startNode_c 107 = .ok (.ireturn, 1) := by decide +kernel
/-! GameRows$Forest.startNode(II)I -/
set_option maxHeartbeats 4000000 in
set_option maxRecDepth 100000 in
theorem t_Fo_startNode_62 {X : gX} {r : (Int32 × gS)} (C : gC X b_Fo_startNode_c R_Fo 5 0 0) (hR : ∀ pc lv, decode b_Fo_startNode_c pc = .ok (.ireturn, 1) → G X pc lv [.int r.1] r.2) {k62 : Int32 × Int32 × gS → Option (Int32 × gS)}  (hk62 : ∀ x, k62 x = some r → G X 62 [(0, .ref (gA X 1)), (3, .int x.1), (4, .int x.2.1)] [] x.2.2) (x3 : Int32) (x4 : Int32) (σ : gS) (h : b_Fo_startNode_62 k62 x3 x4 σ = some r) : G X 62 [(0, .ref (gA X 1)), (3, .int x3), (4, .int x4)] [] σ := by
  unfold b_Fo_startNode_62 at h
  refine r_iload C 2 d_Fo_startNode_62 rfl ?_
  refine r_iconst C (v := 3) d_Fo_startNode_64 (by decide) ?_
  refine r_icmp_ge C (tgt := 86) d_Fo_startNode_65 (by decide) (fun hc_1 => ?_) (fun hc_1 => ?_)
  · rw [if_pos hc_1] at h
    refine r_aload_n C 0 d_Fo_startNode_86 rfl rfl ?_
    refine r_dup C d_Fo_startNode_87 rfl ?_
    refine q_Fo_9 C d_Fo_startNode_88 ?_
    refine r_iconst C (v := 1) d_Fo_startNode_91 (by decide) ?_
    refine r_iadd C d_Fo_startNode_92 ?_
    obtain ⟨σ_2, eσ_2, h⟩ := bnd_some h
    refine p_Fo_9 C eσ_2 d_Fo_startNode_93 ?_
    refine r_aload_n C 0 d_Fo_startNode_96 rfl rfl ?_
    refine r_dup C d_Fo_startNode_97 rfl ?_
    refine q_Fo_18 C d_Fo_startNode_98 ?_
    refine r_iconst C (v := 1) d_Fo_startNode_101 (by decide) ?_
    refine r_iadd C d_Fo_startNode_102 ?_
    obtain ⟨σ_3, eσ_3, h⟩ := bnd_some h
    refine p_Fo_18 C eσ_3 d_Fo_startNode_103 ?_
    refine r_iload_n C 1 d_Fo_startNode_106 rfl rfl ?_
    cases h
    exact hR _ _ d_Fo_startNode_107
  · rw [if_neg hc_1] at h
    refine r_aload_n C 0 d_Fo_startNode_68 rfl rfl ?_
    refine q_Fo_37 C d_Fo_startNode_69 ?_
    refine r_iconst C (v := 3) d_Fo_startNode_72 (by decide) ?_
    refine r_iload_n C 1 d_Fo_startNode_73 rfl rfl ?_
    refine r_imul C d_Fo_startNode_74 ?_
    refine r_iload C 2 d_Fo_startNode_75 rfl ?_
    refine r_iadd C d_Fo_startNode_77 ?_
    refine r_iconst C (v := (-1)) d_Fo_startNode_78 (by decide) ?_
    obtain ⟨hi_4, h⟩ := ck_some h
    obtain ⟨σ_5, eσ_5, h⟩ := bnd_some h
    refine r_iast C hi_4 eσ_5 d_Fo_startNode_79 ?_
    obtain ⟨x4_6, ex4_6, h⟩ := bnd_some h
    refine r_iinc C 2 (lv' := [(4, .int x4_6), (0, .ref (gA X 1)), (3, .int x3)]) d_Fo_startNode_80 rfl (by rw [ex4_6]; rfl) (by decide) rfl ?_
    refine r_goto C (tgt := 62) d_Fo_startNode_83 (by decide) ?_
    refine r_sub [1, 2, 0] (lv' := [(0, .ref (gA X 1)), (3, .int x3), (4, .int x4_6)]) rfl ?_
    exact hk62 _ h
set_option maxHeartbeats 4000000 in
set_option maxRecDepth 100000 in
theorem u_Fo_startNode_62 {X : gX} {r : (Int32 × gS)} (C : gC X b_Fo_startNode_c R_Fo 5 0 0) (hR : ∀ pc lv, decode b_Fo_startNode_c pc = .ok (.ireturn, 1) → G X pc lv [.int r.1] r.2)  (x : Int32 × Int32 × gS) (h : l_Fo_startNode_62 x = some r) : G X 62 [(0, .ref (gA X 1)), (3, .int x.1), (4, .int x.2.1)] [] x.2.2 :=
  lpF_ind (P := fun x => G X 62 [(0, .ref (gA X 1)), (3, .int x.1), (4, .int x.2.1)] [] x.2.2) (fun k hk x h => t_Fo_startNode_62 C hR hk x.1 x.2.1 x.2.2 h) gF x h
set_option maxHeartbeats 4000000 in
set_option maxRecDepth 100000 in
theorem t_Fo_startNode_59 {X : gX} {r : (Int32 × gS)} (C : gC X b_Fo_startNode_c R_Fo 5 0 0) (hR : ∀ pc lv, decode b_Fo_startNode_c pc = .ok (.ireturn, 1) → G X pc lv [.int r.1] r.2) (x3 : Int32) (σ : gS) (h : b_Fo_startNode_59 x3 σ = some r) : G X 59 [(0, .ref (gA X 1)), (3, .int x3)] [] σ := by
  unfold b_Fo_startNode_59 at h
  refine r_iconst C (v := 0) d_Fo_startNode_59 (by decide) ?_
  refine r_istore C (lv' := [(4, .int 0), (0, .ref (gA X 1)), (3, .int x3)]) d_Fo_startNode_60 (by decide) rfl rfl ?_
  refine r_sub [1, 2, 0] (lv' := [(0, .ref (gA X 1)), (3, .int x3), (4, .int 0)]) rfl ?_
  exact u_Fo_startNode_62 C hR  (x3, 0, σ) h
set_option maxHeartbeats 4000000 in
set_option maxRecDepth 100000 in
theorem t_Fo_startNode_0 {X : gX} {r : (Int32 × gS)} (C : gC X b_Fo_startNode_c R_Fo 5 0 0) (hR : ∀ pc lv, decode b_Fo_startNode_c pc = .ok (.ireturn, 1) → G X pc lv [.int r.1] r.2) (x1 : Int32) (x2 : Int32) (σ : gS) (h : b_Fo_startNode_0 x1 x2 σ = some r) : G X 0 [(0, .ref (gA X 1)), (1, .int x1), (2, .int x2)] [] σ := by
  unfold b_Fo_startNode_0 at h
  refine r_aload_n C 0 d_Fo_startNode_0 rfl rfl ?_
  refine q_Fo_9 C d_Fo_startNode_1 ?_
  obtain ⟨x3_1, ex3_1, h⟩ := bnd_some h
  refine r_istore_n C (lv' := [(3, .int x3_1), (0, .ref (gA X 1)), (1, .int x1), (2, .int x2)]) d_Fo_startNode_4 rfl (by decide) ex3_1 rfl ?_
  refine r_aload_n C 1 d_Fo_startNode_5 rfl rfl ?_
  refine q_Fo_21 C d_Fo_startNode_6 ?_
  refine r_iload_n C 0 d_Fo_startNode_9 rfl rfl ?_
  refine r_iload_n C 2 d_Fo_startNode_10 rfl rfl ?_
  obtain ⟨hi_2, h⟩ := ck_some h
  obtain ⟨σ_3, eσ_3, h⟩ := bnd_some h
  refine r_iast C hi_2 eσ_3 d_Fo_startNode_11 ?_
  refine r_aload_n C 1 d_Fo_startNode_12 rfl rfl ?_
  refine q_Fo_25 C d_Fo_startNode_13 ?_
  refine r_iload_n C 0 d_Fo_startNode_16 rfl rfl ?_
  refine r_iload_n C 3 d_Fo_startNode_17 rfl rfl ?_
  obtain ⟨hi_4, h⟩ := ck_some h
  obtain ⟨σ_5, eσ_5, h⟩ := bnd_some h
  refine r_iast C hi_4 eσ_5 d_Fo_startNode_18 ?_
  refine r_aload_n C 1 d_Fo_startNode_19 rfl rfl ?_
  refine q_Fo_40 C d_Fo_startNode_20 ?_
  refine r_iload_n C 0 d_Fo_startNode_23 rfl rfl ?_
  refine r_iconst C (v := 0) d_Fo_startNode_24 (by decide) ?_
  obtain ⟨hi_6, h⟩ := ck_some h
  obtain ⟨σ_7, eσ_7, h⟩ := bnd_some h
  refine r_iast C hi_6 eσ_7 d_Fo_startNode_25 ?_
  refine r_aload_n C 1 d_Fo_startNode_26 rfl rfl ?_
  refine q_Fo_28 C d_Fo_startNode_27 ?_
  refine r_iload_n C 0 d_Fo_startNode_30 rfl rfl ?_
  refine r_iconst C (v := (-1)) d_Fo_startNode_31 (by decide) ?_
  obtain ⟨hi_8, h⟩ := ck_some h
  obtain ⟨σ_9, eσ_9, h⟩ := bnd_some h
  refine r_iast C hi_8 eσ_9 d_Fo_startNode_32 ?_
  refine r_aload_n C 1 d_Fo_startNode_33 rfl rfl ?_
  refine q_Fo_49 C d_Fo_startNode_34 ?_
  refine r_iload_n C 0 d_Fo_startNode_37 rfl rfl ?_
  refine r_lconst C (v := 1) d_Fo_startNode_38 (by decide) ?_
  refine r_iload_n C 0 d_Fo_startNode_39 rfl rfl ?_
  refine r_lshl C d_Fo_startNode_40 ?_
  obtain ⟨hi_10, h⟩ := ck_some h
  obtain ⟨σ_11, eσ_11, h⟩ := bnd_some h
  refine r_last C hi_10 eσ_11 d_Fo_startNode_41 ?_
  refine r_iload_n C 3 d_Fo_startNode_42 rfl rfl ?_
  refine r_iconst C (v := (-1)) d_Fo_startNode_43 (by decide) ?_
  refine r_icmp_eq C (tgt := 59) d_Fo_startNode_44 (by decide) (fun hc_12 => ?_) (fun hc_12 => ?_)
  · rw [if_pos hc_12] at h
    refine r_sub [1, 0] (lv' := [(0, .ref (gA X 1)), (3, .int x3_1)]) rfl ?_
    exact t_Fo_startNode_59 C hR x3_1 σ_11 h
  · rw [if_neg hc_12] at h
    refine r_aload_n C 1 d_Fo_startNode_47 rfl rfl ?_
    refine q_Fo_59 C d_Fo_startNode_48 ?_
    refine r_iload_n C 3 d_Fo_startNode_51 rfl rfl ?_
    refine r_dup2_11 C d_Fo_startNode_52 rfl rfl ?_
    obtain ⟨hi_13, h⟩ := ck_some h
    refine r_lald C hi_13 d_Fo_startNode_53 ?_
    refine r_lconst C (v := 1) d_Fo_startNode_54 (by decide) ?_
    refine r_iload_n C 0 d_Fo_startNode_55 rfl rfl ?_
    refine r_lshl C d_Fo_startNode_56 ?_
    refine r_lor C d_Fo_startNode_57 ?_
    obtain ⟨hi_14, h⟩ := ck_some h
    obtain ⟨σ_15, eσ_15, h⟩ := bnd_some h
    refine r_last C hi_14 eσ_15 d_Fo_startNode_58 ?_
    refine r_sub [1, 0] (lv' := [(0, .ref (gA X 1)), (3, .int x3_1)]) rfl ?_
    exact t_Fo_startNode_59 C hR x3_1 σ_15 h
set_option maxHeartbeats 4000000 in
set_option maxRecDepth 100000 in
theorem c_Fo_startNode (l : Launch) (σ : gS) (x1 : Int32) (x2 : Int32) {r : (Int32 × gS)} (h : f_Fo_startNode σ x1 x2 = some r) : gMet l y_Fo_startNode b_Fo_startNode_c 5 (some .int) 0 0 (fun a => [.ref (a 1), .int x1, .int x2]) σ (some (.int r.1)) r.2 := by
  refine gMet_i (by decide +kernel) (fun a => Nat.le_of_ble_eq_true rfl) (fun X _ C hR => ?_)
  refine r_sub [0, 1, 2] (lv' := [(0, .ref (gA X 1)), (1, .int x1), (2, .int x2)]) rfl ?_
  exact t_Fo_startNode_0 C hR x1 x2 σ h
theorem d_Fo_addEnd_0 : decode b_Fo_addEnd_c 0 = .ok (.aload_n 0, 1) := by decide +kernel
theorem d_Fo_addEnd_1 : decode b_Fo_addEnd_c 1 = .ok (.getfield 9, 3) := by decide +kernel
theorem d_Fo_addEnd_4 : decode b_Fo_addEnd_c 4 = .ok (.bipush 40, 2) := by decide +kernel
theorem d_Fo_addEnd_6 : decode b_Fo_addEnd_c 6 = .ok (.if_icmp .lt 6, 3) := by decide +kernel
theorem d_Fo_addEnd_9 : decode b_Fo_addEnd_c 9 = .ok (.bipush (-3), 2) := by decide +kernel
theorem d_Fo_addEnd_11 : decode b_Fo_addEnd_c 11 = .ok (.ireturn, 1) := by decide +kernel
theorem d_Fo_addEnd_12 : decode b_Fo_addEnd_c 12 = .ok (.aload_n 0, 1) := by decide +kernel
theorem d_Fo_addEnd_13 : decode b_Fo_addEnd_c 13 = .ok (.iconst 0, 1) := by decide +kernel
theorem d_Fo_addEnd_14 : decode b_Fo_addEnd_c 14 = .ok (.iconst (-1), 1) := by decide +kernel
theorem d_Fo_addEnd_15 : decode b_Fo_addEnd_c 15 = .ok (.invokevirtual 65, 3) := by decide +kernel
theorem d_Fo_addEnd_18 : decode b_Fo_addEnd_c 18 = .ok (.istore_n 3, 1) := by decide +kernel
theorem d_Fo_addEnd_19 : decode b_Fo_addEnd_c 19 = .ok (.aload_n 0, 1) := by decide +kernel
theorem d_Fo_addEnd_20 : decode b_Fo_addEnd_c 20 = .ok (.getfield 34, 3) := by decide +kernel
theorem d_Fo_addEnd_23 : decode b_Fo_addEnd_c 23 = .ok (.iconst 2, 1) := by decide +kernel
theorem d_Fo_addEnd_24 : decode b_Fo_addEnd_c 24 = .ok (.iload_n 3, 1) := by decide +kernel
theorem d_Fo_addEnd_25 : decode b_Fo_addEnd_c 25 = .ok (.imul, 1) := by decide +kernel
theorem d_Fo_addEnd_26 : decode b_Fo_addEnd_c 26 = .ok (.iload_n 1, 1) := by decide +kernel
theorem d_Fo_addEnd_27 : decode b_Fo_addEnd_c 27 = .ok (.iastore, 1) := by decide +kernel
theorem d_Fo_addEnd_28 : decode b_Fo_addEnd_c 28 = .ok (.aload_n 0, 1) := by decide +kernel
theorem d_Fo_addEnd_29 : decode b_Fo_addEnd_c 29 = .ok (.getfield 34, 3) := by decide +kernel
theorem d_Fo_addEnd_32 : decode b_Fo_addEnd_c 32 = .ok (.iconst 2, 1) := by decide +kernel
theorem d_Fo_addEnd_33 : decode b_Fo_addEnd_c 33 = .ok (.iload_n 3, 1) := by decide +kernel
theorem d_Fo_addEnd_34 : decode b_Fo_addEnd_c 34 = .ok (.imul, 1) := by decide +kernel
theorem d_Fo_addEnd_35 : decode b_Fo_addEnd_c 35 = .ok (.iconst 1, 1) := by decide +kernel
theorem d_Fo_addEnd_36 : decode b_Fo_addEnd_c 36 = .ok (.iadd, 1) := by decide +kernel
theorem d_Fo_addEnd_37 : decode b_Fo_addEnd_c 37 = .ok (.iload_n 2, 1) := by decide +kernel
theorem d_Fo_addEnd_38 : decode b_Fo_addEnd_c 38 = .ok (.iastore, 1) := by decide +kernel
theorem d_Fo_addEnd_39 : decode b_Fo_addEnd_c 39 = .ok (.aload_n 0, 1) := by decide +kernel
theorem d_Fo_addEnd_40 : decode b_Fo_addEnd_c 40 = .ok (.getfield 43, 3) := by decide +kernel
theorem d_Fo_addEnd_43 : decode b_Fo_addEnd_c 43 = .ok (.iload_n 3, 1) := by decide +kernel
theorem d_Fo_addEnd_44 : decode b_Fo_addEnd_c 44 = .ok (.iconst 0, 1) := by decide +kernel
theorem d_Fo_addEnd_45 : decode b_Fo_addEnd_c 45 = .ok (.iastore, 1) := by decide +kernel
theorem d_Fo_addEnd_46 : decode b_Fo_addEnd_c 46 = .ok (.aload_n 0, 1) := by decide +kernel
theorem d_Fo_addEnd_47 : decode b_Fo_addEnd_c 47 = .ok (.getfield 46, 3) := by decide +kernel
theorem d_Fo_addEnd_50 : decode b_Fo_addEnd_c 50 = .ok (.iload_n 3, 1) := by decide +kernel
theorem d_Fo_addEnd_51 : decode b_Fo_addEnd_c 51 = .ok (.iconst 0, 1) := by decide +kernel
theorem d_Fo_addEnd_52 : decode b_Fo_addEnd_c 52 = .ok (.iastore, 1) := by decide +kernel
theorem d_Fo_addEnd_53 : decode b_Fo_addEnd_c 53 = .ok (.aload_n 0, 1) := by decide +kernel
theorem d_Fo_addEnd_54 : decode b_Fo_addEnd_c 54 = .ok (.getfield 53, 3) := by decide +kernel
theorem d_Fo_addEnd_57 : decode b_Fo_addEnd_c 57 = .ok (.iload_n 3, 1) := by decide +kernel
theorem d_Fo_addEnd_58 : decode b_Fo_addEnd_c 58 = .ok (.iconst 0, 1) := by decide +kernel
theorem d_Fo_addEnd_59 : decode b_Fo_addEnd_c 59 = .ok (.iastore, 1) := by decide +kernel
theorem d_Fo_addEnd_60 : decode b_Fo_addEnd_c 60 = .ok (.iload_n 3, 1) := by decide +kernel
theorem d_Fo_addEnd_61 : decode b_Fo_addEnd_c 61 = .ok (.ireturn, 1) := by decide +kernel
/-! GameRows$Forest.addEnd(II)I -/
set_option maxHeartbeats 4000000 in
set_option maxRecDepth 100000 in
theorem t_Fo_addEnd_0 {X : gX} {r : (Int32 × gS)} (C : gC X b_Fo_addEnd_c R_Fo 4 1 24) (hR : ∀ pc lv, decode b_Fo_addEnd_c pc = .ok (.ireturn, 1) → G X pc lv [.int r.1] r.2) (x1 : Int32) (x2 : Int32) (σ : gS) (h : b_Fo_addEnd_0 x1 x2 σ = some r) : G X 0 [(0, .ref (gA X 1)), (1, .int x1), (2, .int x2)] [] σ := by
  unfold b_Fo_addEnd_0 at h
  refine r_aload_n C 0 d_Fo_addEnd_0 rfl rfl ?_
  refine q_Fo_9 C d_Fo_addEnd_1 ?_
  refine r_bipush C (v := 40) d_Fo_addEnd_4 (by decide) ?_
  refine r_icmp_lt C (tgt := 12) d_Fo_addEnd_6 (by decide) (fun hc_1 => ?_) (fun hc_1 => ?_)
  · rw [if_pos hc_1] at h
    refine r_aload_n C 0 d_Fo_addEnd_12 rfl rfl ?_
    refine r_iconst C (v := 0) d_Fo_addEnd_13 (by decide) ?_
    refine r_iconst C (v := (-1)) d_Fo_addEnd_14 (by decide) ?_
    obtain ⟨r_2, er_2, h⟩ := bind_some h
    refine r_callV C (As := [.int 0, .int (-1)]) (rest := []) (st1 := [.int r_2.1]) (c_Fo_startNode X.1.2.1 σ 0 (-1) er_2) k_Fo_startNode m_29 (by decide) cel_Fo rfl rfl rfl rfl (Nat.le_of_ble_eq_true rfl) ⟨Nat.le_of_ble_eq_true rfl, Nat.le_of_ble_eq_true rfl⟩ d_Fo_addEnd_15 rfl ?_
    obtain ⟨x3_3, ex3_3, h⟩ := bnd_some h
    refine r_istore_n C (lv' := [(3, .int x3_3), (0, .ref (gA X 1)), (1, .int x1), (2, .int x2)]) d_Fo_addEnd_18 rfl (by decide) ex3_3 rfl ?_
    refine r_aload_n C 1 d_Fo_addEnd_19 rfl rfl ?_
    refine q_Fo_34 C d_Fo_addEnd_20 ?_
    refine r_iconst C (v := 2) d_Fo_addEnd_23 (by decide) ?_
    refine r_iload_n C 0 d_Fo_addEnd_24 rfl rfl ?_
    refine r_imul C d_Fo_addEnd_25 ?_
    refine r_iload_n C 2 d_Fo_addEnd_26 rfl rfl ?_
    obtain ⟨hi_4, h⟩ := ck_some h
    obtain ⟨σ_5, eσ_5, h⟩ := bnd_some h
    refine r_iast C hi_4 eσ_5 d_Fo_addEnd_27 ?_
    refine r_aload_n C 1 d_Fo_addEnd_28 rfl rfl ?_
    refine q_Fo_34 C d_Fo_addEnd_29 ?_
    refine r_iconst C (v := 2) d_Fo_addEnd_32 (by decide) ?_
    refine r_iload_n C 0 d_Fo_addEnd_33 rfl rfl ?_
    refine r_imul C d_Fo_addEnd_34 ?_
    refine r_iconst C (v := 1) d_Fo_addEnd_35 (by decide) ?_
    refine r_iadd C d_Fo_addEnd_36 ?_
    refine r_iload_n C 3 d_Fo_addEnd_37 rfl rfl ?_
    obtain ⟨hi_6, h⟩ := ck_some h
    obtain ⟨σ_7, eσ_7, h⟩ := bnd_some h
    refine r_iast C hi_6 eσ_7 d_Fo_addEnd_38 ?_
    refine r_aload_n C 1 d_Fo_addEnd_39 rfl rfl ?_
    refine q_Fo_43 C d_Fo_addEnd_40 ?_
    refine r_iload_n C 0 d_Fo_addEnd_43 rfl rfl ?_
    refine r_iconst C (v := 0) d_Fo_addEnd_44 (by decide) ?_
    obtain ⟨hi_8, h⟩ := ck_some h
    obtain ⟨σ_9, eσ_9, h⟩ := bnd_some h
    refine r_iast C hi_8 eσ_9 d_Fo_addEnd_45 ?_
    refine r_aload_n C 1 d_Fo_addEnd_46 rfl rfl ?_
    refine q_Fo_46 C d_Fo_addEnd_47 ?_
    refine r_iload_n C 0 d_Fo_addEnd_50 rfl rfl ?_
    refine r_iconst C (v := 0) d_Fo_addEnd_51 (by decide) ?_
    obtain ⟨hi_10, h⟩ := ck_some h
    obtain ⟨σ_11, eσ_11, h⟩ := bnd_some h
    refine r_iast C hi_10 eσ_11 d_Fo_addEnd_52 ?_
    refine r_aload_n C 1 d_Fo_addEnd_53 rfl rfl ?_
    refine q_Fo_53 C d_Fo_addEnd_54 ?_
    refine r_iload_n C 0 d_Fo_addEnd_57 rfl rfl ?_
    refine r_iconst C (v := 0) d_Fo_addEnd_58 (by decide) ?_
    obtain ⟨hi_12, h⟩ := ck_some h
    obtain ⟨σ_13, eσ_13, h⟩ := bnd_some h
    refine r_iast C hi_12 eσ_13 d_Fo_addEnd_59 ?_
    refine r_iload_n C 0 d_Fo_addEnd_60 rfl rfl ?_
    cases h
    exact hR _ _ d_Fo_addEnd_61
  · rw [if_neg hc_1] at h
    refine r_bipush C (v := (-3)) d_Fo_addEnd_9 (by decide) ?_
    cases h
    exact hR _ _ d_Fo_addEnd_11
set_option maxHeartbeats 4000000 in
set_option maxRecDepth 100000 in
theorem c_Fo_addEnd (l : Launch) (σ : gS) (x1 : Int32) (x2 : Int32) {r : (Int32 × gS)} (h : f_Fo_addEnd σ x1 x2 = some r) : gMet l y_Fo_addEnd b_Fo_addEnd_c 4 (some .int) 1 24 (fun a => [.ref (a 1), .int x1, .int x2]) σ (some (.int r.1)) r.2 := by
  refine gMet_i (by decide +kernel) (fun a => Nat.le_of_ble_eq_true rfl) (fun X _ C hR => ?_)
  refine r_sub [0, 1, 2] (lv' := [(0, .ref (gA X 1)), (1, .int x1), (2, .int x2)]) rfl ?_
  exact t_Fo_addEnd_0 C hR x1 x2 σ h
theorem d_Ga_end_0 : decode b_Ga_end_c 0 = .ok (.iload_n 1, 1) := by decide +kernel
theorem d_Ga_end_1 : decode b_Ga_end_c 1 = .ok (.bipush (-100), 2) := by decide +kernel
theorem d_Ga_end_3 : decode b_Ga_end_c 3 = .ok (.bipush 100, 2) := by decide +kernel
theorem d_Ga_end_5 : decode b_Ga_end_c 5 = .ok (.invokestatic 56, 3) := by decide +kernel
theorem d_Ga_end_8 : decode b_Ga_end_c 8 = .ok (.ifCond .eq 14, 3) := by decide +kernel
theorem d_Ga_end_11 : decode b_Ga_end_c 11 = .ok (.iload_n 2, 1) := by decide +kernel
theorem d_Ga_end_12 : decode b_Ga_end_c 12 = .ok (.bipush (-100), 2) := by decide +kernel
theorem d_Ga_end_14 : decode b_Ga_end_c 14 = .ok (.bipush 100, 2) := by decide +kernel
theorem d_Ga_end_16 : decode b_Ga_end_c 16 = .ok (.invokestatic 56, 3) := by decide +kernel
theorem d_Ga_end_19 : decode b_Ga_end_c 19 = .ok (.ifCond .ne 6, 3) := by decide +kernel
theorem d_Ga_end_22 : decode b_Ga_end_c 22 = .ok (.bipush (-2), 2) := by decide +kernel
theorem d_Ga_end_24 : decode b_Ga_end_c 24 = .ok (.ireturn, 1) := by decide +kernel
theorem d_Ga_end_25 : decode b_Ga_end_c 25 = .ok (.aload_n 0, 1) := by decide +kernel
theorem d_Ga_end_26 : decode b_Ga_end_c 26 = .ok (.getfield 10, 3) := by decide +kernel
theorem d_Ga_end_29 : decode b_Ga_end_c 29 = .ok (.iload_n 1, 1) := by decide +kernel
theorem d_Ga_end_30 : decode b_Ga_end_c 30 = .ok (.iload_n 2, 1) := by decide +kernel
theorem d_Ga_end_31 : decode b_Ga_end_c 31 = .ok (.invokevirtual 64, 3) := by decide +kernel
theorem d_Ga_end_34 : decode b_Ga_end_c 34 = .ok (.ireturn, 1) := by decide +kernel
/-! GameRows.end(II)I -/
set_option maxHeartbeats 4000000 in
set_option maxRecDepth 100000 in
theorem t_Ga_end_0 {X : gX} {r : (Int32 × gS)} (C : gC X b_Ga_end_c R_Ga 3 2 47) (hR : ∀ pc lv, decode b_Ga_end_c pc = .ok (.ireturn, 1) → G X pc lv [.int r.1] r.2) (x1 : Int32) (x2 : Int32) (σ : gS) (h : b_Ga_end_0 x1 x2 σ = some r) : G X 0 [(0, .ref (gA X 0)), (1, .int x1), (2, .int x2)] [] σ := by
  unfold b_Ga_end_0 at h
  refine r_iload_n C 1 d_Ga_end_0 rfl rfl ?_
  refine r_bipush C (v := (-100)) d_Ga_end_1 (by decide) ?_
  refine r_bipush C (v := 100) d_Ga_end_3 (by decide) ?_
  obtain ⟨r_1, er_1, h⟩ := bind_some h
  refine r_callS C (As := [.int x1, .int (-100), .int 100]) (rest := []) (st1 := [.int r_1]) (c_Ga_isAmong X.1.2.1 σ x1 (-100) 100 er_1) k_Ga_isAmong m_16 rfl rfl rfl (Nat.le_of_ble_eq_true rfl) ⟨Nat.le_of_ble_eq_true rfl, Nat.le_of_ble_eq_true rfl⟩ d_Ga_end_5 rfl ?_
  refine r_if_eq C (tgt := 22) d_Ga_end_8 (by decide) (fun hc_2 => ?_) (fun hc_2 => ?_)
  · rw [if_pos hc_2] at h
    refine r_bipush C (v := (-2)) d_Ga_end_22 (by decide) ?_
    cases h
    exact hR _ _ d_Ga_end_24
  · rw [if_neg hc_2] at h
    refine r_iload_n C 2 d_Ga_end_11 rfl rfl ?_
    refine r_bipush C (v := (-100)) d_Ga_end_12 (by decide) ?_
    refine r_bipush C (v := 100) d_Ga_end_14 (by decide) ?_
    obtain ⟨r_3, er_3, h⟩ := bind_some h
    refine r_callS C (As := [.int x2, .int (-100), .int 100]) (rest := []) (st1 := [.int r_3]) (c_Ga_isAmong X.1.2.1 σ x2 (-100) 100 er_3) k_Ga_isAmong m_16 rfl rfl rfl (Nat.le_of_ble_eq_true rfl) ⟨Nat.le_of_ble_eq_true rfl, Nat.le_of_ble_eq_true rfl⟩ d_Ga_end_16 rfl ?_
    refine r_if_ne C (tgt := 25) d_Ga_end_19 (by decide) (fun hc_4 => ?_) (fun hc_4 => ?_)
    · rw [if_neg hc_4] at h
      refine r_aload_n C 0 d_Ga_end_25 rfl rfl ?_
      refine q_Ga_10 C d_Ga_end_26 ?_
      refine r_iload_n C 1 d_Ga_end_29 rfl rfl ?_
      refine r_iload_n C 2 d_Ga_end_30 rfl rfl ?_
      obtain ⟨r_5, er_5, h⟩ := bind_some h
      refine r_callV C (As := [.int x1, .int x2]) (rest := []) (st1 := [.int r_5.1]) (c_Fo_addEnd X.1.2.1 σ x1 x2 er_5) k_Fo_addEnd m_37 (by decide) cel_Fo rfl rfl rfl rfl (Nat.le_of_ble_eq_true rfl) ⟨Nat.le_of_ble_eq_true rfl, Nat.le_of_ble_eq_true rfl⟩ d_Ga_end_31 rfl ?_
      cases h
      exact hR _ _ d_Ga_end_34
    · rw [if_pos hc_4] at h
      refine r_bipush C (v := (-2)) d_Ga_end_22 (by decide) ?_
      cases h
      exact hR _ _ d_Ga_end_24
set_option maxHeartbeats 4000000 in
set_option maxRecDepth 100000 in
theorem c_Ga_end (l : Launch) (σ : gS) (x1 : Int32) (x2 : Int32) {r : (Int32 × gS)} (h : f_Ga_end σ x1 x2 = some r) : gMet l y_Ga_end b_Ga_end_c 3 (some .int) 2 47 (fun a => [.ref (a 0), .int x1, .int x2]) σ (some (.int r.1)) r.2 := by
  refine gMet_i (by decide +kernel) (fun a => Nat.le_of_ble_eq_true rfl) (fun X _ C hR => ?_)
  refine r_sub [0, 1, 2] (lv' := [(0, .ref (gA X 0)), (1, .int x1), (2, .int x2)]) rfl ?_
  exact t_Ga_end_0 C hR x1 x2 σ h
theorem d_Fo_offer_0 : decode b_Fo_offer_c 0 = .ok (.aload_n 0, 1) := by decide +kernel
theorem d_Fo_offer_1 : decode b_Fo_offer_c 1 = .ok (.getfield 62, 3) := by decide +kernel
theorem d_Fo_offer_4 : decode b_Fo_offer_c 4 = .ok (.iconst 0, 1) := by decide +kernel
theorem d_Fo_offer_5 : decode b_Fo_offer_c 5 = .ok (.iload_n 1, 1) := by decide +kernel
theorem d_Fo_offer_6 : decode b_Fo_offer_c 6 = .ok (.iastore, 1) := by decide +kernel
theorem d_Fo_offer_7 : decode b_Fo_offer_c 7 = .ok (.aload_n 0, 1) := by decide +kernel
theorem d_Fo_offer_8 : decode b_Fo_offer_c 8 = .ok (.getfield 62, 3) := by decide +kernel
theorem d_Fo_offer_11 : decode b_Fo_offer_c 11 = .ok (.iconst 1, 1) := by decide +kernel
theorem d_Fo_offer_12 : decode b_Fo_offer_c 12 = .ok (.iload_n 2, 1) := by decide +kernel
theorem d_Fo_offer_13 : decode b_Fo_offer_c 13 = .ok (.iastore, 1) := by decide +kernel
theorem d_Fo_offer_14 : decode b_Fo_offer_c 14 = .ok (.aload_n 0, 1) := by decide +kernel
theorem d_Fo_offer_15 : decode b_Fo_offer_c 15 = .ok (.getfield 62, 3) := by decide +kernel
theorem d_Fo_offer_18 : decode b_Fo_offer_c 18 = .ok (.iconst 2, 1) := by decide +kernel
theorem d_Fo_offer_19 : decode b_Fo_offer_c 19 = .ok (.iload_n 3, 1) := by decide +kernel
theorem d_Fo_offer_20 : decode b_Fo_offer_c 20 = .ok (.iastore, 1) := by decide +kernel
theorem d_Fo_offer_21 : decode b_Fo_offer_c 21 = .ok (.return_, 1) := by decide +kernel
/-! GameRows$Forest.offer(III)V -/
set_option maxHeartbeats 4000000 in
set_option maxRecDepth 100000 in
theorem t_Fo_offer_0 {X : gX} {r : gS} (C : gC X b_Fo_offer_c R_Fo 4 0 0) (hR : ∀ pc lv, decode b_Fo_offer_c pc = .ok (.return_, 1) → G X pc lv [] r) (x1 : Int32) (x2 : Int32) (x3 : Int32) (σ : gS) (h : b_Fo_offer_0 x1 x2 x3 σ = some r) : G X 0 [(0, .ref (gA X 1)), (1, .int x1), (2, .int x2), (3, .int x3)] [] σ := by
  unfold b_Fo_offer_0 at h
  refine r_aload_n C 0 d_Fo_offer_0 rfl rfl ?_
  refine q_Fo_62 C d_Fo_offer_1 ?_
  refine r_iconst C (v := 0) d_Fo_offer_4 (by decide) ?_
  refine r_iload_n C 1 d_Fo_offer_5 rfl rfl ?_
  obtain ⟨hi_1, h⟩ := ck_some h
  obtain ⟨σ_2, eσ_2, h⟩ := bnd_some h
  refine r_iast C hi_1 eσ_2 d_Fo_offer_6 ?_
  refine r_aload_n C 0 d_Fo_offer_7 rfl rfl ?_
  refine q_Fo_62 C d_Fo_offer_8 ?_
  refine r_iconst C (v := 1) d_Fo_offer_11 (by decide) ?_
  refine r_iload_n C 2 d_Fo_offer_12 rfl rfl ?_
  obtain ⟨hi_3, h⟩ := ck_some h
  obtain ⟨σ_4, eσ_4, h⟩ := bnd_some h
  refine r_iast C hi_3 eσ_4 d_Fo_offer_13 ?_
  refine r_aload_n C 0 d_Fo_offer_14 rfl rfl ?_
  refine q_Fo_62 C d_Fo_offer_15 ?_
  refine r_iconst C (v := 2) d_Fo_offer_18 (by decide) ?_
  refine r_iload_n C 3 d_Fo_offer_19 rfl rfl ?_
  obtain ⟨hi_5, h⟩ := ck_some h
  obtain ⟨σ_6, eσ_6, h⟩ := bnd_some h
  refine r_iast C hi_5 eσ_6 d_Fo_offer_20 ?_
  cases h
  exact hR _ _ d_Fo_offer_21
set_option maxHeartbeats 4000000 in
set_option maxRecDepth 100000 in
theorem c_Fo_offer (l : Launch) (σ : gS) (x1 : Int32) (x2 : Int32) (x3 : Int32) {r : gS} (h : f_Fo_offer σ x1 x2 x3 = some r) : gMet l y_Fo_offer b_Fo_offer_c 4 (none) 0 0 (fun a => [.ref (a 1), .int x1, .int x2, .int x3]) σ (none) r := by
  refine gMet_v (by decide +kernel) (fun a => Nat.le_of_ble_eq_true rfl) (fun X _ C hR => ?_)
  refine r_sub [0, 1, 2, 3] (lv' := [(0, .ref (gA X 1)), (1, .int x1), (2, .int x2), (3, .int x3)]) rfl ?_
  exact t_Fo_offer_0 C hR x1 x2 x3 σ h
theorem d_Fo_hasNode_0 : decode b_Fo_hasNode_c 0 = .ok (.iload_n 1, 1) := by decide +kernel
theorem d_Fo_hasNode_1 : decode b_Fo_hasNode_c 1 = .ok (.ifCond .lt 15, 3) := by decide +kernel
theorem d_Fo_hasNode_4 : decode b_Fo_hasNode_c 4 = .ok (.iload_n 1, 1) := by decide +kernel
theorem d_Fo_hasNode_5 : decode b_Fo_hasNode_c 5 = .ok (.aload_n 0, 1) := by decide +kernel
theorem d_Fo_hasNode_6 : decode b_Fo_hasNode_c 6 = .ok (.getfield 9, 3) := by decide +kernel
theorem d_Fo_hasNode_9 : decode b_Fo_hasNode_c 9 = .ok (.if_icmp .ge 7, 3) := by decide +kernel
theorem d_Fo_hasNode_12 : decode b_Fo_hasNode_c 12 = .ok (.iconst 1, 1) := by decide +kernel
theorem d_Fo_hasNode_13 : decode b_Fo_hasNode_c 13 = .ok (.goto 4, 3) := by decide +kernel
theorem d_Fo_hasNode_16 : decode b_Fo_hasNode_c 16 = .ok (.iconst 0, 1) := by decide +kernel
theorem d_Fo_hasNode_17 : decode b_Fo_hasNode_c 17 = .ok (.ireturn, 1) := by decide +kernel
/-! GameRows$Forest.hasNode(I)Z -/
set_option maxHeartbeats 4000000 in
set_option maxRecDepth 100000 in
theorem t_Fo_hasNode_0 {X : gX} {r : Int32} {σ : gS} (C : gC X b_Fo_hasNode_c R_Fo 2 0 0) (hR : ∀ pc lv, isB r = true → decode b_Fo_hasNode_c pc = .ok (.ireturn, 1) → G X pc lv [.int r] σ) (x1 : Int32) (h : b_Fo_hasNode_0 σ x1 = some r) : G X 0 [(0, .ref (gA X 1)), (1, .int x1)] [] σ := by
  unfold b_Fo_hasNode_0 at h
  refine r_iload_n C 1 d_Fo_hasNode_0 rfl rfl ?_
  refine r_if_lt C (tgt := 16) d_Fo_hasNode_1 (by decide) (fun hc_1 => ?_) (fun hc_1 => ?_)
  · rw [if_pos hc_1] at h
    refine r_iconst C (v := 0) d_Fo_hasNode_16 (by decide) ?_
    obtain ⟨hB, h⟩ := ck_some h
    cases h
    exact hR _ _ hB d_Fo_hasNode_17
  · rw [if_neg hc_1] at h
    refine r_iload_n C 1 d_Fo_hasNode_4 rfl rfl ?_
    refine r_aload_n C 0 d_Fo_hasNode_5 rfl rfl ?_
    refine q_Fo_9 C d_Fo_hasNode_6 ?_
    refine r_icmp_ge C (tgt := 16) d_Fo_hasNode_9 (by decide) (fun hc_2 => ?_) (fun hc_2 => ?_)
    · rw [if_pos hc_2] at h
      refine r_iconst C (v := 0) d_Fo_hasNode_16 (by decide) ?_
      obtain ⟨hB, h⟩ := ck_some h
      cases h
      exact hR _ _ hB d_Fo_hasNode_17
    · rw [if_neg hc_2] at h
      refine r_iconst C (v := 1) d_Fo_hasNode_12 (by decide) ?_
      refine r_goto C (tgt := 17) d_Fo_hasNode_13 (by decide) ?_
      obtain ⟨hB, h⟩ := ck_some h
      cases h
      exact hR _ _ hB d_Fo_hasNode_17
set_option maxHeartbeats 4000000 in
set_option maxRecDepth 100000 in
theorem c_Fo_hasNode (l : Launch) (σ : gS) (x1 : Int32) {r : Int32} (h : f_Fo_hasNode σ x1 = some r) : gMet l y_Fo_hasNode b_Fo_hasNode_c 2 (some .boolean) 0 0 (fun a => [.ref (a 1), .int x1]) σ (some (.int r)) σ := by
  refine gMet_z (by decide +kernel) (fun a => Nat.le_of_ble_eq_true rfl) (fun X _ C hR => ?_)
  refine r_sub [0, 1] (lv' := [(0, .ref (gA X 1)), (1, .int x1)]) rfl ?_
  exact t_Fo_hasNode_0 C hR x1 h
theorem d_Fo_areOfferedThere_0 : decode b_Fo_areOfferedThere_c 0 = .ok (.iconst 0, 1) := by decide +kernel
theorem d_Fo_areOfferedThere_1 : decode b_Fo_areOfferedThere_c 1 = .ok (.istore_n 2, 1) := by decide +kernel
theorem d_Fo_areOfferedThere_2 : decode b_Fo_areOfferedThere_c 2 = .ok (.iload_n 2, 1) := by decide +kernel
theorem d_Fo_areOfferedThere_3 : decode b_Fo_areOfferedThere_c 3 = .ok (.iload_n 1, 1) := by decide +kernel
theorem d_Fo_areOfferedThere_4 : decode b_Fo_areOfferedThere_c 4 = .ok (.if_icmp .ge 24, 3) := by decide +kernel
theorem d_Fo_areOfferedThere_7 : decode b_Fo_areOfferedThere_c 7 = .ok (.aload_n 0, 1) := by decide +kernel
theorem d_Fo_areOfferedThere_8 : decode b_Fo_areOfferedThere_c 8 = .ok (.aload_n 0, 1) := by decide +kernel
theorem d_Fo_areOfferedThere_9 : decode b_Fo_areOfferedThere_c 9 = .ok (.getfield 62, 3) := by decide +kernel
theorem d_Fo_areOfferedThere_12 : decode b_Fo_areOfferedThere_c 12 = .ok (.iload_n 2, 1) := by decide +kernel
theorem d_Fo_areOfferedThere_13 : decode b_Fo_areOfferedThere_c 13 = .ok (.iaload, 1) := by decide +kernel
theorem d_Fo_areOfferedThere_14 : decode b_Fo_areOfferedThere_c 14 = .ok (.invokevirtual 91, 3) := by decide +kernel
theorem d_Fo_areOfferedThere_17 : decode b_Fo_areOfferedThere_c 17 = .ok (.ifCond .ne 5, 3) := by decide +kernel
theorem d_Fo_areOfferedThere_20 : decode b_Fo_areOfferedThere_c 20 = .ok (.iconst 0, 1) := by decide +kernel
theorem d_Fo_areOfferedThere_21 : decode b_Fo_areOfferedThere_c 21 = .ok (.ireturn, 1) := by decide +kernel
theorem d_Fo_areOfferedThere_22 : decode b_Fo_areOfferedThere_c 22 = .ok (.iinc 2 1, 3) := by decide +kernel
theorem d_Fo_areOfferedThere_25 : decode b_Fo_areOfferedThere_c 25 = .ok (.goto (-23), 3) := by decide +kernel
theorem d_Fo_areOfferedThere_28 : decode b_Fo_areOfferedThere_c 28 = .ok (.iconst 1, 1) := by decide +kernel
theorem d_Fo_areOfferedThere_29 : decode b_Fo_areOfferedThere_c 29 = .ok (.ireturn, 1) := by decide +kernel
/-! GameRows$Forest.areOfferedThere(I)Z -/
set_option maxHeartbeats 4000000 in
set_option maxRecDepth 100000 in
theorem t_Fo_areOfferedThere_2 {X : gX} {r : Int32} {σ : gS} (C : gC X b_Fo_areOfferedThere_c R_Fo 3 1 21) (hR : ∀ pc lv, isB r = true → decode b_Fo_areOfferedThere_c pc = .ok (.ireturn, 1) → G X pc lv [.int r] σ) {k2 : Int32 × Int32 → Option Int32}  (hk2 : ∀ x, k2 x = some r → G X 2 [(0, .ref (gA X 1)), (1, .int x.1), (2, .int x.2)] [] σ) (x1 : Int32) (x2 : Int32) (h : b_Fo_areOfferedThere_2 σ k2 x1 x2 = some r) : G X 2 [(0, .ref (gA X 1)), (1, .int x1), (2, .int x2)] [] σ := by
  unfold b_Fo_areOfferedThere_2 at h
  refine r_iload_n C 2 d_Fo_areOfferedThere_2 rfl rfl ?_
  refine r_iload_n C 1 d_Fo_areOfferedThere_3 rfl rfl ?_
  refine r_icmp_ge C (tgt := 28) d_Fo_areOfferedThere_4 (by decide) (fun hc_1 => ?_) (fun hc_1 => ?_)
  · rw [if_pos hc_1] at h
    refine r_iconst C (v := 1) d_Fo_areOfferedThere_28 (by decide) ?_
    obtain ⟨hB, h⟩ := ck_some h
    cases h
    exact hR _ _ hB d_Fo_areOfferedThere_29
  · rw [if_neg hc_1] at h
    refine r_aload_n C 0 d_Fo_areOfferedThere_7 rfl rfl ?_
    refine r_aload_n C 0 d_Fo_areOfferedThere_8 rfl rfl ?_
    refine q_Fo_62 C d_Fo_areOfferedThere_9 ?_
    refine r_iload_n C 2 d_Fo_areOfferedThere_12 rfl rfl ?_
    obtain ⟨hi_2, h⟩ := ck_some h
    refine r_iald C hi_2 d_Fo_areOfferedThere_13 ?_
    obtain ⟨r_3, er_3, h⟩ := bind_some h
    refine r_callV C (As := [.int (gI σ 15 x2.toNatClampNeg)]) (rest := []) (st1 := [.int r_3]) (c_Fo_hasNode X.1.2.1 σ (gI σ 15 x2.toNatClampNeg) er_3) k_Fo_hasNode m_42 (by decide) cel_Fo rfl rfl rfl rfl (Nat.le_of_ble_eq_true rfl) ⟨Nat.le_of_ble_eq_true rfl, Nat.le_of_ble_eq_true rfl⟩ d_Fo_areOfferedThere_14 rfl ?_
    refine r_if_ne C (tgt := 22) d_Fo_areOfferedThere_17 (by decide) (fun hc_4 => ?_) (fun hc_4 => ?_)
    · rw [if_neg hc_4] at h
      obtain ⟨x2_5, ex2_5, h⟩ := bnd_some h
      refine r_iinc C 2 (lv' := [(2, .int x2_5), (0, .ref (gA X 1)), (1, .int x1)]) d_Fo_areOfferedThere_22 rfl (by rw [ex2_5]; rfl) (by decide) rfl ?_
      refine r_goto C (tgt := 2) d_Fo_areOfferedThere_25 (by decide) ?_
      refine r_sub [1, 2, 0] (lv' := [(0, .ref (gA X 1)), (1, .int x1), (2, .int x2_5)]) rfl ?_
      exact hk2 _ h
    · rw [if_pos hc_4] at h
      refine r_iconst C (v := 0) d_Fo_areOfferedThere_20 (by decide) ?_
      obtain ⟨hB, h⟩ := ck_some h
      cases h
      exact hR _ _ hB d_Fo_areOfferedThere_21
set_option maxHeartbeats 4000000 in
set_option maxRecDepth 100000 in
theorem u_Fo_areOfferedThere_2 {X : gX} {r : Int32} {σ : gS} (C : gC X b_Fo_areOfferedThere_c R_Fo 3 1 21) (hR : ∀ pc lv, isB r = true → decode b_Fo_areOfferedThere_c pc = .ok (.ireturn, 1) → G X pc lv [.int r] σ)  (x : Int32 × Int32) (h : l_Fo_areOfferedThere_2 σ x = some r) : G X 2 [(0, .ref (gA X 1)), (1, .int x.1), (2, .int x.2)] [] σ :=
  lpF_ind (P := fun x => G X 2 [(0, .ref (gA X 1)), (1, .int x.1), (2, .int x.2)] [] σ) (fun k hk x h => t_Fo_areOfferedThere_2 C hR hk x.1 x.2 h) gF x h
set_option maxHeartbeats 4000000 in
set_option maxRecDepth 100000 in
theorem t_Fo_areOfferedThere_0 {X : gX} {r : Int32} {σ : gS} (C : gC X b_Fo_areOfferedThere_c R_Fo 3 1 21) (hR : ∀ pc lv, isB r = true → decode b_Fo_areOfferedThere_c pc = .ok (.ireturn, 1) → G X pc lv [.int r] σ) (x1 : Int32) (h : b_Fo_areOfferedThere_0 σ x1 = some r) : G X 0 [(0, .ref (gA X 1)), (1, .int x1)] [] σ := by
  unfold b_Fo_areOfferedThere_0 at h
  refine r_iconst C (v := 0) d_Fo_areOfferedThere_0 (by decide) ?_
  refine r_istore_n C (lv' := [(2, .int 0), (0, .ref (gA X 1)), (1, .int x1)]) d_Fo_areOfferedThere_1 rfl (by decide) rfl rfl ?_
  refine r_sub [1, 2, 0] (lv' := [(0, .ref (gA X 1)), (1, .int x1), (2, .int 0)]) rfl ?_
  exact u_Fo_areOfferedThere_2 C hR  (x1, 0) h
set_option maxHeartbeats 4000000 in
set_option maxRecDepth 100000 in
theorem c_Fo_areOfferedThere (l : Launch) (σ : gS) (x1 : Int32) {r : Int32} (h : f_Fo_areOfferedThere σ x1 = some r) : gMet l y_Fo_areOfferedThere b_Fo_areOfferedThere_c 3 (some .boolean) 1 21 (fun a => [.ref (a 1), .int x1]) σ (some (.int r)) σ := by
  refine gMet_z (by decide +kernel) (fun a => Nat.le_of_ble_eq_true rfl) (fun X _ C hR => ?_)
  refine r_sub [0, 1] (lv' := [(0, .ref (gA X 1)), (1, .int x1)]) rfl ?_
  exact t_Fo_areOfferedThere_0 C hR x1 h
theorem d_Fo_isOfferedTaken_0 : decode b_Fo_isOfferedTaken_c 0 = .ok (.iconst 0, 1) := by decide +kernel
theorem d_Fo_isOfferedTaken_1 : decode b_Fo_isOfferedTaken_c 1 = .ok (.istore_n 2, 1) := by decide +kernel
theorem d_Fo_isOfferedTaken_2 : decode b_Fo_isOfferedTaken_c 2 = .ok (.iload_n 2, 1) := by decide +kernel
theorem d_Fo_isOfferedTaken_3 : decode b_Fo_isOfferedTaken_c 3 = .ok (.iload_n 1, 1) := by decide +kernel
theorem d_Fo_isOfferedTaken_4 : decode b_Fo_isOfferedTaken_c 4 = .ok (.if_icmp .ge 56, 3) := by decide +kernel
theorem d_Fo_isOfferedTaken_7 : decode b_Fo_isOfferedTaken_c 7 = .ok (.aload_n 0, 1) := by decide +kernel
theorem d_Fo_isOfferedTaken_8 : decode b_Fo_isOfferedTaken_c 8 = .ok (.getfield 28, 3) := by decide +kernel
theorem d_Fo_isOfferedTaken_11 : decode b_Fo_isOfferedTaken_c 11 = .ok (.aload_n 0, 1) := by decide +kernel
theorem d_Fo_isOfferedTaken_12 : decode b_Fo_isOfferedTaken_c 12 = .ok (.getfield 62, 3) := by decide +kernel
theorem d_Fo_isOfferedTaken_15 : decode b_Fo_isOfferedTaken_c 15 = .ok (.iload_n 2, 1) := by decide +kernel
theorem d_Fo_isOfferedTaken_16 : decode b_Fo_isOfferedTaken_c 16 = .ok (.iaload, 1) := by decide +kernel
theorem d_Fo_isOfferedTaken_17 : decode b_Fo_isOfferedTaken_c 17 = .ok (.iaload, 1) := by decide +kernel
theorem d_Fo_isOfferedTaken_18 : decode b_Fo_isOfferedTaken_c 18 = .ok (.iconst (-1), 1) := by decide +kernel
theorem d_Fo_isOfferedTaken_19 : decode b_Fo_isOfferedTaken_c 19 = .ok (.if_icmp .eq 5, 3) := by decide +kernel
theorem d_Fo_isOfferedTaken_22 : decode b_Fo_isOfferedTaken_c 22 = .ok (.iconst 1, 1) := by decide +kernel
theorem d_Fo_isOfferedTaken_23 : decode b_Fo_isOfferedTaken_c 23 = .ok (.ireturn, 1) := by decide +kernel
theorem d_Fo_isOfferedTaken_24 : decode b_Fo_isOfferedTaken_c 24 = .ok (.iconst 0, 1) := by decide +kernel
theorem d_Fo_isOfferedTaken_25 : decode b_Fo_isOfferedTaken_c 25 = .ok (.istore_n 3, 1) := by decide +kernel
theorem d_Fo_isOfferedTaken_26 : decode b_Fo_isOfferedTaken_c 26 = .ok (.iload_n 3, 1) := by decide +kernel
theorem d_Fo_isOfferedTaken_27 : decode b_Fo_isOfferedTaken_c 27 = .ok (.iload_n 2, 1) := by decide +kernel
theorem d_Fo_isOfferedTaken_28 : decode b_Fo_isOfferedTaken_c 28 = .ok (.if_icmp .ge 26, 3) := by decide +kernel
theorem d_Fo_isOfferedTaken_31 : decode b_Fo_isOfferedTaken_c 31 = .ok (.aload_n 0, 1) := by decide +kernel
theorem d_Fo_isOfferedTaken_32 : decode b_Fo_isOfferedTaken_c 32 = .ok (.getfield 62, 3) := by decide +kernel
theorem d_Fo_isOfferedTaken_35 : decode b_Fo_isOfferedTaken_c 35 = .ok (.iload_n 2, 1) := by decide +kernel
theorem d_Fo_isOfferedTaken_36 : decode b_Fo_isOfferedTaken_c 36 = .ok (.iaload, 1) := by decide +kernel
theorem d_Fo_isOfferedTaken_37 : decode b_Fo_isOfferedTaken_c 37 = .ok (.aload_n 0, 1) := by decide +kernel
theorem d_Fo_isOfferedTaken_38 : decode b_Fo_isOfferedTaken_c 38 = .ok (.getfield 62, 3) := by decide +kernel
theorem d_Fo_isOfferedTaken_41 : decode b_Fo_isOfferedTaken_c 41 = .ok (.iload_n 3, 1) := by decide +kernel
theorem d_Fo_isOfferedTaken_42 : decode b_Fo_isOfferedTaken_c 42 = .ok (.iaload, 1) := by decide +kernel
theorem d_Fo_isOfferedTaken_43 : decode b_Fo_isOfferedTaken_c 43 = .ok (.if_icmp .ne 5, 3) := by decide +kernel
theorem d_Fo_isOfferedTaken_46 : decode b_Fo_isOfferedTaken_c 46 = .ok (.iconst 1, 1) := by decide +kernel
theorem d_Fo_isOfferedTaken_47 : decode b_Fo_isOfferedTaken_c 47 = .ok (.ireturn, 1) := by decide +kernel
theorem d_Fo_isOfferedTaken_48 : decode b_Fo_isOfferedTaken_c 48 = .ok (.iinc 3 1, 3) := by decide +kernel
theorem d_Fo_isOfferedTaken_51 : decode b_Fo_isOfferedTaken_c 51 = .ok (.goto (-25), 3) := by decide +kernel
theorem d_Fo_isOfferedTaken_54 : decode b_Fo_isOfferedTaken_c 54 = .ok (.iinc 2 1, 3) := by decide +kernel
theorem d_Fo_isOfferedTaken_57 : decode b_Fo_isOfferedTaken_c 57 = .ok (.goto (-55), 3) := by decide +kernel
theorem d_Fo_isOfferedTaken_60 : decode b_Fo_isOfferedTaken_c 60 = .ok (.iconst 0, 1) := by decide +kernel
theorem d_Fo_isOfferedTaken_61 : decode b_Fo_isOfferedTaken_c 61 = .ok (.ireturn, 1) := by decide +kernel
/-! GameRows$Forest.isOfferedTaken(I)Z -/
set_option maxHeartbeats 4000000 in
set_option maxRecDepth 100000 in
theorem t_Fo_isOfferedTaken_26 {X : gX} {r : Int32} {σ : gS} (C : gC X b_Fo_isOfferedTaken_c R_Fo 4 0 0) (hR : ∀ pc lv, isB r = true → decode b_Fo_isOfferedTaken_c pc = .ok (.ireturn, 1) → G X pc lv [.int r] σ) {k2 : Int32 × Int32 → Option Int32}  {k26 : Int32 × Int32 × Int32 → Option Int32}  (hk2 : ∀ x, k2 x = some r → G X 2 [(0, .ref (gA X 1)), (1, .int x.1), (2, .int x.2)] [] σ) (hk26 : ∀ x, k26 x = some r → G X 26 [(0, .ref (gA X 1)), (1, .int x.1), (2, .int x.2.1), (3, .int x.2.2)] [] σ) (x1 : Int32) (x2 : Int32) (x3 : Int32) (h : b_Fo_isOfferedTaken_26 σ k2 k26 x1 x2 x3 = some r) : G X 26 [(0, .ref (gA X 1)), (1, .int x1), (2, .int x2), (3, .int x3)] [] σ := by
  unfold b_Fo_isOfferedTaken_26 at h
  refine r_iload_n C 3 d_Fo_isOfferedTaken_26 rfl rfl ?_
  refine r_iload_n C 2 d_Fo_isOfferedTaken_27 rfl rfl ?_
  refine r_icmp_ge C (tgt := 54) d_Fo_isOfferedTaken_28 (by decide) (fun hc_1 => ?_) (fun hc_1 => ?_)
  · rw [if_pos hc_1] at h
    obtain ⟨x2_2, ex2_2, h⟩ := bnd_some h
    refine r_iinc C 2 (lv' := [(2, .int x2_2), (0, .ref (gA X 1)), (1, .int x1), (3, .int x3)]) d_Fo_isOfferedTaken_54 rfl (by rw [ex2_2]; rfl) (by decide) rfl ?_
    refine r_goto C (tgt := 2) d_Fo_isOfferedTaken_57 (by decide) ?_
    refine r_sub [1, 2, 0] (lv' := [(0, .ref (gA X 1)), (1, .int x1), (2, .int x2_2)]) rfl ?_
    exact hk2 _ h
  · rw [if_neg hc_1] at h
    refine r_aload_n C 0 d_Fo_isOfferedTaken_31 rfl rfl ?_
    refine q_Fo_62 C d_Fo_isOfferedTaken_32 ?_
    refine r_iload_n C 2 d_Fo_isOfferedTaken_35 rfl rfl ?_
    obtain ⟨hi_3, h⟩ := ck_some h
    refine r_iald C hi_3 d_Fo_isOfferedTaken_36 ?_
    refine r_aload_n C 0 d_Fo_isOfferedTaken_37 rfl rfl ?_
    refine q_Fo_62 C d_Fo_isOfferedTaken_38 ?_
    refine r_iload_n C 3 d_Fo_isOfferedTaken_41 rfl rfl ?_
    obtain ⟨hi_4, h⟩ := ck_some h
    refine r_iald C hi_4 d_Fo_isOfferedTaken_42 ?_
    refine r_icmp_ne C (tgt := 48) d_Fo_isOfferedTaken_43 (by decide) (fun hc_5 => ?_) (fun hc_5 => ?_)
    · rw [if_neg hc_5] at h
      obtain ⟨x3_6, ex3_6, h⟩ := bnd_some h
      refine r_iinc C 3 (lv' := [(3, .int x3_6), (0, .ref (gA X 1)), (1, .int x1), (2, .int x2)]) d_Fo_isOfferedTaken_48 rfl (by rw [ex3_6]; rfl) (by decide) rfl ?_
      refine r_goto C (tgt := 26) d_Fo_isOfferedTaken_51 (by decide) ?_
      refine r_sub [1, 2, 3, 0] (lv' := [(0, .ref (gA X 1)), (1, .int x1), (2, .int x2), (3, .int x3_6)]) rfl ?_
      exact hk26 _ h
    · rw [if_pos hc_5] at h
      refine r_iconst C (v := 1) d_Fo_isOfferedTaken_46 (by decide) ?_
      obtain ⟨hB, h⟩ := ck_some h
      cases h
      exact hR _ _ hB d_Fo_isOfferedTaken_47
set_option maxHeartbeats 4000000 in
set_option maxRecDepth 100000 in
theorem u_Fo_isOfferedTaken_26 {X : gX} {r : Int32} {σ : gS} (C : gC X b_Fo_isOfferedTaken_c R_Fo 4 0 0) (hR : ∀ pc lv, isB r = true → decode b_Fo_isOfferedTaken_c pc = .ok (.ireturn, 1) → G X pc lv [.int r] σ) {k2 : Int32 × Int32 → Option Int32}  (hk2 : ∀ x, k2 x = some r → G X 2 [(0, .ref (gA X 1)), (1, .int x.1), (2, .int x.2)] [] σ) (x : Int32 × Int32 × Int32) (h : l_Fo_isOfferedTaken_26 σ k2 x = some r) : G X 26 [(0, .ref (gA X 1)), (1, .int x.1), (2, .int x.2.1), (3, .int x.2.2)] [] σ :=
  lpF_ind (P := fun x => G X 26 [(0, .ref (gA X 1)), (1, .int x.1), (2, .int x.2.1), (3, .int x.2.2)] [] σ) (fun k hk x h => t_Fo_isOfferedTaken_26 C hR hk2 hk x.1 x.2.1 x.2.2 h) gF x h
set_option maxHeartbeats 4000000 in
set_option maxRecDepth 100000 in
theorem t_Fo_isOfferedTaken_2 {X : gX} {r : Int32} {σ : gS} (C : gC X b_Fo_isOfferedTaken_c R_Fo 4 0 0) (hR : ∀ pc lv, isB r = true → decode b_Fo_isOfferedTaken_c pc = .ok (.ireturn, 1) → G X pc lv [.int r] σ) {k2 : Int32 × Int32 → Option Int32}  (hk2 : ∀ x, k2 x = some r → G X 2 [(0, .ref (gA X 1)), (1, .int x.1), (2, .int x.2)] [] σ) (x1 : Int32) (x2 : Int32) (h : b_Fo_isOfferedTaken_2 σ k2 x1 x2 = some r) : G X 2 [(0, .ref (gA X 1)), (1, .int x1), (2, .int x2)] [] σ := by
  unfold b_Fo_isOfferedTaken_2 at h
  refine r_iload_n C 2 d_Fo_isOfferedTaken_2 rfl rfl ?_
  refine r_iload_n C 1 d_Fo_isOfferedTaken_3 rfl rfl ?_
  refine r_icmp_ge C (tgt := 60) d_Fo_isOfferedTaken_4 (by decide) (fun hc_1 => ?_) (fun hc_1 => ?_)
  · rw [if_pos hc_1] at h
    refine r_iconst C (v := 0) d_Fo_isOfferedTaken_60 (by decide) ?_
    obtain ⟨hB, h⟩ := ck_some h
    cases h
    exact hR _ _ hB d_Fo_isOfferedTaken_61
  · rw [if_neg hc_1] at h
    refine r_aload_n C 0 d_Fo_isOfferedTaken_7 rfl rfl ?_
    refine q_Fo_28 C d_Fo_isOfferedTaken_8 ?_
    refine r_aload_n C 0 d_Fo_isOfferedTaken_11 rfl rfl ?_
    refine q_Fo_62 C d_Fo_isOfferedTaken_12 ?_
    refine r_iload_n C 2 d_Fo_isOfferedTaken_15 rfl rfl ?_
    obtain ⟨hi_2, h⟩ := ck_some h
    refine r_iald C hi_2 d_Fo_isOfferedTaken_16 ?_
    obtain ⟨hi_3, h⟩ := ck_some h
    refine r_iald C hi_3 d_Fo_isOfferedTaken_17 ?_
    refine r_iconst C (v := (-1)) d_Fo_isOfferedTaken_18 (by decide) ?_
    refine r_icmp_eq C (tgt := 24) d_Fo_isOfferedTaken_19 (by decide) (fun hc_4 => ?_) (fun hc_4 => ?_)
    · rw [if_pos hc_4] at h
      refine r_iconst C (v := 0) d_Fo_isOfferedTaken_24 (by decide) ?_
      refine r_istore_n C (lv' := [(3, .int 0), (0, .ref (gA X 1)), (1, .int x1), (2, .int x2)]) d_Fo_isOfferedTaken_25 rfl (by decide) rfl rfl ?_
      refine r_sub [1, 2, 3, 0] (lv' := [(0, .ref (gA X 1)), (1, .int x1), (2, .int x2), (3, .int 0)]) rfl ?_
      exact u_Fo_isOfferedTaken_26 C hR hk2 (x1, x2, 0) h
    · rw [if_neg hc_4] at h
      refine r_iconst C (v := 1) d_Fo_isOfferedTaken_22 (by decide) ?_
      obtain ⟨hB, h⟩ := ck_some h
      cases h
      exact hR _ _ hB d_Fo_isOfferedTaken_23
set_option maxHeartbeats 4000000 in
set_option maxRecDepth 100000 in
theorem u_Fo_isOfferedTaken_2 {X : gX} {r : Int32} {σ : gS} (C : gC X b_Fo_isOfferedTaken_c R_Fo 4 0 0) (hR : ∀ pc lv, isB r = true → decode b_Fo_isOfferedTaken_c pc = .ok (.ireturn, 1) → G X pc lv [.int r] σ)  (x : Int32 × Int32) (h : l_Fo_isOfferedTaken_2 σ x = some r) : G X 2 [(0, .ref (gA X 1)), (1, .int x.1), (2, .int x.2)] [] σ :=
  lpF_ind (P := fun x => G X 2 [(0, .ref (gA X 1)), (1, .int x.1), (2, .int x.2)] [] σ) (fun k hk x h => t_Fo_isOfferedTaken_2 C hR hk x.1 x.2 h) gF x h
set_option maxHeartbeats 4000000 in
set_option maxRecDepth 100000 in
theorem t_Fo_isOfferedTaken_0 {X : gX} {r : Int32} {σ : gS} (C : gC X b_Fo_isOfferedTaken_c R_Fo 4 0 0) (hR : ∀ pc lv, isB r = true → decode b_Fo_isOfferedTaken_c pc = .ok (.ireturn, 1) → G X pc lv [.int r] σ) (x1 : Int32) (h : b_Fo_isOfferedTaken_0 σ x1 = some r) : G X 0 [(0, .ref (gA X 1)), (1, .int x1)] [] σ := by
  unfold b_Fo_isOfferedTaken_0 at h
  refine r_iconst C (v := 0) d_Fo_isOfferedTaken_0 (by decide) ?_
  refine r_istore_n C (lv' := [(2, .int 0), (0, .ref (gA X 1)), (1, .int x1)]) d_Fo_isOfferedTaken_1 rfl (by decide) rfl rfl ?_
  refine r_sub [1, 2, 0] (lv' := [(0, .ref (gA X 1)), (1, .int x1), (2, .int 0)]) rfl ?_
  exact u_Fo_isOfferedTaken_2 C hR  (x1, 0) h
set_option maxHeartbeats 4000000 in
set_option maxRecDepth 100000 in
theorem c_Fo_isOfferedTaken (l : Launch) (σ : gS) (x1 : Int32) {r : Int32} (h : f_Fo_isOfferedTaken σ x1 = some r) : gMet l y_Fo_isOfferedTaken b_Fo_isOfferedTaken_c 4 (some .boolean) 0 0 (fun a => [.ref (a 1), .int x1]) σ (some (.int r)) σ := by
  refine gMet_z (by decide +kernel) (fun a => Nat.le_of_ble_eq_true rfl) (fun X _ C hR => ?_)
  refine r_sub [0, 1] (lv' := [(0, .ref (gA X 1)), (1, .int x1)]) rfl ?_
  exact t_Fo_isOfferedTaken_0 C hR x1 h
theorem d_Ma_max_0 : decode b_Ma_max_c 0 = .ok (.iload_n 0, 1) := by decide +kernel
theorem d_Ma_max_1 : decode b_Ma_max_c 1 = .ok (.iload_n 1, 1) := by decide +kernel
theorem d_Ma_max_2 : decode b_Ma_max_c 2 = .ok (.if_icmp .lt 7, 3) := by decide +kernel
theorem d_Ma_max_5 : decode b_Ma_max_c 5 = .ok (.iload_n 0, 1) := by decide +kernel
theorem d_Ma_max_6 : decode b_Ma_max_c 6 = .ok (.goto 4, 3) := by decide +kernel
theorem d_Ma_max_9 : decode b_Ma_max_c 9 = .ok (.iload_n 1, 1) := by decide +kernel
theorem d_Ma_max_10 : decode b_Ma_max_c 10 = .ok (.ireturn, 1) := by decide +kernel
/-! java/lang/Math.max(II)I -/
set_option maxHeartbeats 4000000 in
set_option maxRecDepth 100000 in
theorem t_Ma_max_0 {X : gX} {r : Int32} {σ : gS} (C : gC X b_Ma_max_c R_Ma 2 0 0) (hR : ∀ pc lv, decode b_Ma_max_c pc = .ok (.ireturn, 1) → G X pc lv [.int r] σ) (x0 : Int32) (x1 : Int32) (h : b_Ma_max_0 x0 x1 = some r) : G X 0 [(0, .int x0), (1, .int x1)] [] σ := by
  unfold b_Ma_max_0 at h
  refine r_iload_n C 0 d_Ma_max_0 rfl rfl ?_
  refine r_iload_n C 1 d_Ma_max_1 rfl rfl ?_
  refine r_icmp_lt C (tgt := 9) d_Ma_max_2 (by decide) (fun hc_1 => ?_) (fun hc_1 => ?_)
  · rw [if_pos hc_1] at h
    refine r_iload_n C 1 d_Ma_max_9 rfl rfl ?_
    cases h
    exact hR _ _ d_Ma_max_10
  · rw [if_neg hc_1] at h
    refine r_iload_n C 0 d_Ma_max_5 rfl rfl ?_
    refine r_goto C (tgt := 10) d_Ma_max_6 (by decide) ?_
    cases h
    exact hR _ _ d_Ma_max_10
set_option maxHeartbeats 4000000 in
set_option maxRecDepth 100000 in
theorem c_Ma_max (l : Launch) (σ : gS) (x0 : Int32) (x1 : Int32) {r : Int32} (h : f_Ma_max x0 x1 = some r) : gMet l y_Ma_max b_Ma_max_c 2 (some .int) 0 0 (fun a => [.int x0, .int x1]) σ (some (.int r)) σ := by
  refine gMet_i (by decide +kernel) (fun a => Nat.le_of_ble_eq_true rfl) (fun X _ C hR => ?_)
  refine r_sub [0, 1] (lv' := [(0, .int x0), (1, .int x1)]) rfl ?_
  exact t_Ma_max_0 C hR x0 x1 h
theorem d_Fo_greatestOffered_0 : decode b_Fo_greatestOffered_c 0 = .ok (.iconst 0, 1) := by decide +kernel
theorem d_Fo_greatestOffered_1 : decode b_Fo_greatestOffered_c 1 = .ok (.istore_n 3, 1) := by decide +kernel
theorem d_Fo_greatestOffered_2 : decode b_Fo_greatestOffered_c 2 = .ok (.iconst 0, 1) := by decide +kernel
theorem d_Fo_greatestOffered_3 : decode b_Fo_greatestOffered_c 3 = .ok (.istore 4, 2) := by decide +kernel
theorem d_Fo_greatestOffered_5 : decode b_Fo_greatestOffered_c 5 = .ok (.iload 4, 2) := by decide +kernel
theorem d_Fo_greatestOffered_7 : decode b_Fo_greatestOffered_c 7 = .ok (.iload_n 2, 1) := by decide +kernel
theorem d_Fo_greatestOffered_8 : decode b_Fo_greatestOffered_c 8 = .ok (.if_icmp .ge 23, 3) := by decide +kernel
theorem d_Fo_greatestOffered_11 : decode b_Fo_greatestOffered_c 11 = .ok (.iload_n 3, 1) := by decide +kernel
theorem d_Fo_greatestOffered_12 : decode b_Fo_greatestOffered_c 12 = .ok (.aload_n 1, 1) := by decide +kernel
theorem d_Fo_greatestOffered_13 : decode b_Fo_greatestOffered_c 13 = .ok (.aload_n 0, 1) := by decide +kernel
theorem d_Fo_greatestOffered_14 : decode b_Fo_greatestOffered_c 14 = .ok (.getfield 62, 3) := by decide +kernel
theorem d_Fo_greatestOffered_17 : decode b_Fo_greatestOffered_c 17 = .ok (.iload 4, 2) := by decide +kernel
theorem d_Fo_greatestOffered_19 : decode b_Fo_greatestOffered_c 19 = .ok (.iaload, 1) := by decide +kernel
theorem d_Fo_greatestOffered_20 : decode b_Fo_greatestOffered_c 20 = .ok (.iaload, 1) := by decide +kernel
theorem d_Fo_greatestOffered_21 : decode b_Fo_greatestOffered_c 21 = .ok (.invokestatic 94, 3) := by decide +kernel
theorem d_Fo_greatestOffered_24 : decode b_Fo_greatestOffered_c 24 = .ok (.istore_n 3, 1) := by decide +kernel
theorem d_Fo_greatestOffered_25 : decode b_Fo_greatestOffered_c 25 = .ok (.iinc 4 1, 3) := by decide +kernel
theorem d_Fo_greatestOffered_28 : decode b_Fo_greatestOffered_c 28 = .ok (.goto (-23), 3) := by decide +kernel
theorem d_Fo_greatestOffered_31 : decode b_Fo_greatestOffered_c 31 = .ok (.iload_n 3, 1) := by decide +kernel
theorem d_Fo_greatestOffered_32 : decode b_Fo_greatestOffered_c 32 = .ok (.ireturn, 1) := by decide +kernel
/-! GameRows$Forest.greatestOffered([II)I -/
set_option maxHeartbeats 4000000 in
set_option maxRecDepth 100000 in
theorem t_Fo_greatestOffered_5 {X : gX} {r : Int32} {σ : gS} (C : gC X b_Fo_greatestOffered_c R_Fo 5 1 21) (hR : ∀ pc lv, decode b_Fo_greatestOffered_c pc = .ok (.ireturn, 1) → G X pc lv [.int r] σ) {k5 : Nat × Int32 × Int32 × Int32 → Option Int32}  (hk5 : ∀ x, k5 x = some r → G X 5 [(0, .ref (gA X 1)), (1, .ref (gA X x.1)), (2, .int x.2.1), (3, .int x.2.2.1), (4, .int x.2.2.2)] [] σ) (x1 : Nat) (x2 : Int32) (x3 : Int32) (x4 : Int32) (h : b_Fo_greatestOffered_5 σ k5 x1 x2 x3 x4 = some r) : G X 5 [(0, .ref (gA X 1)), (1, .ref (gA X x1)), (2, .int x2), (3, .int x3), (4, .int x4)] [] σ := by
  unfold b_Fo_greatestOffered_5 at h
  refine r_iload C 4 d_Fo_greatestOffered_5 rfl ?_
  refine r_iload_n C 2 d_Fo_greatestOffered_7 rfl rfl ?_
  refine r_icmp_ge C (tgt := 31) d_Fo_greatestOffered_8 (by decide) (fun hc_1 => ?_) (fun hc_1 => ?_)
  · rw [if_pos hc_1] at h
    refine r_iload_n C 3 d_Fo_greatestOffered_31 rfl rfl ?_
    cases h
    exact hR _ _ d_Fo_greatestOffered_32
  · rw [if_neg hc_1] at h
    refine r_iload_n C 3 d_Fo_greatestOffered_11 rfl rfl ?_
    refine r_aload_n C 1 d_Fo_greatestOffered_12 rfl rfl ?_
    refine r_aload_n C 0 d_Fo_greatestOffered_13 rfl rfl ?_
    refine q_Fo_62 C d_Fo_greatestOffered_14 ?_
    refine r_iload C 4 d_Fo_greatestOffered_17 rfl ?_
    obtain ⟨hi_2, h⟩ := ck_some h
    refine r_iald C hi_2 d_Fo_greatestOffered_19 ?_
    obtain ⟨hi_3, h⟩ := ck_some h
    refine r_iald C hi_3 d_Fo_greatestOffered_20 ?_
    obtain ⟨r_4, er_4, h⟩ := bind_some h
    refine r_callS C (As := [.int x3, .int (gI σ x1 (gI σ 15 x4.toNatClampNeg).toNatClampNeg)]) (rest := []) (st1 := [.int r_4]) (c_Ma_max X.1.2.1 σ x3 (gI σ x1 (gI σ 15 x4.toNatClampNeg).toNatClampNeg) er_4) k_Ma_max m_46 rfl rfl rfl (Nat.le_of_ble_eq_true rfl) ⟨Nat.le_of_ble_eq_true rfl, Nat.le_of_ble_eq_true rfl⟩ d_Fo_greatestOffered_21 rfl ?_
    refine r_istore_n C (lv' := [(3, .int r_4), (0, .ref (gA X 1)), (1, .ref (gA X x1)), (2, .int x2), (4, .int x4)]) d_Fo_greatestOffered_24 rfl (by decide) rfl rfl ?_
    obtain ⟨x4_5, ex4_5, h⟩ := bnd_some h
    refine r_iinc C 4 (lv' := [(4, .int x4_5), (3, .int r_4), (0, .ref (gA X 1)), (1, .ref (gA X x1)), (2, .int x2)]) d_Fo_greatestOffered_25 rfl (by rw [ex4_5]; rfl) (by decide) rfl ?_
    refine r_goto C (tgt := 5) d_Fo_greatestOffered_28 (by decide) ?_
    refine r_sub [2, 3, 4, 1, 0] (lv' := [(0, .ref (gA X 1)), (1, .ref (gA X x1)), (2, .int x2), (3, .int r_4), (4, .int x4_5)]) rfl ?_
    exact hk5 _ h
set_option maxHeartbeats 4000000 in
set_option maxRecDepth 100000 in
theorem u_Fo_greatestOffered_5 {X : gX} {r : Int32} {σ : gS} (C : gC X b_Fo_greatestOffered_c R_Fo 5 1 21) (hR : ∀ pc lv, decode b_Fo_greatestOffered_c pc = .ok (.ireturn, 1) → G X pc lv [.int r] σ)  (x : Nat × Int32 × Int32 × Int32) (h : l_Fo_greatestOffered_5 σ x = some r) : G X 5 [(0, .ref (gA X 1)), (1, .ref (gA X x.1)), (2, .int x.2.1), (3, .int x.2.2.1), (4, .int x.2.2.2)] [] σ :=
  lpF_ind (P := fun x => G X 5 [(0, .ref (gA X 1)), (1, .ref (gA X x.1)), (2, .int x.2.1), (3, .int x.2.2.1), (4, .int x.2.2.2)] [] σ) (fun k hk x h => t_Fo_greatestOffered_5 C hR hk x.1 x.2.1 x.2.2.1 x.2.2.2 h) gF x h
set_option maxHeartbeats 4000000 in
set_option maxRecDepth 100000 in
theorem t_Fo_greatestOffered_0 {X : gX} {r : Int32} {σ : gS} (C : gC X b_Fo_greatestOffered_c R_Fo 5 1 21) (hR : ∀ pc lv, decode b_Fo_greatestOffered_c pc = .ok (.ireturn, 1) → G X pc lv [.int r] σ) (x1 : Nat) (x2 : Int32) (h : b_Fo_greatestOffered_0 σ x1 x2 = some r) : G X 0 [(0, .ref (gA X 1)), (1, .ref (gA X x1)), (2, .int x2)] [] σ := by
  unfold b_Fo_greatestOffered_0 at h
  refine r_iconst C (v := 0) d_Fo_greatestOffered_0 (by decide) ?_
  refine r_istore_n C (lv' := [(3, .int 0), (0, .ref (gA X 1)), (1, .ref (gA X x1)), (2, .int x2)]) d_Fo_greatestOffered_1 rfl (by decide) rfl rfl ?_
  refine r_iconst C (v := 0) d_Fo_greatestOffered_2 (by decide) ?_
  refine r_istore C (lv' := [(4, .int 0), (3, .int 0), (0, .ref (gA X 1)), (1, .ref (gA X x1)), (2, .int x2)]) d_Fo_greatestOffered_3 (by decide) rfl rfl ?_
  refine r_sub [2, 3, 4, 1, 0] (lv' := [(0, .ref (gA X 1)), (1, .ref (gA X x1)), (2, .int x2), (3, .int 0), (4, .int 0)]) rfl ?_
  exact u_Fo_greatestOffered_5 C hR  (x1, x2, 0, 0) h
set_option maxHeartbeats 4000000 in
set_option maxRecDepth 100000 in
theorem c_Fo_greatestOffered (l : Launch) (σ : gS) (x1 : Nat) (x2 : Int32) {r : Int32} (h : f_Fo_greatestOffered σ x1 x2 = some r) : gMet l y_Fo_greatestOffered b_Fo_greatestOffered_c 5 (some .int) 1 21 (fun a => [.ref (a 1), .ref (a x1), .int x2]) σ (some (.int r)) σ := by
  refine gMet_i (by decide +kernel) (fun a => Nat.le_of_ble_eq_true rfl) (fun X _ C hR => ?_)
  refine r_sub [0, 1, 2] (lv' := [(0, .ref (gA X 1)), (1, .ref (gA X x1)), (2, .int x2)]) rfl ?_
  exact t_Fo_greatestOffered_0 C hR x1 x2 h
theorem d_Fo_setsOffered_0 : decode b_Fo_setsOffered_c 0 = .ok (.iconst 0, 1) := by decide +kernel
theorem d_Fo_setsOffered_1 : decode b_Fo_setsOffered_c 1 = .ok (.istore_n 2, 1) := by decide +kernel
theorem d_Fo_setsOffered_2 : decode b_Fo_setsOffered_c 2 = .ok (.iconst 0, 1) := by decide +kernel
theorem d_Fo_setsOffered_3 : decode b_Fo_setsOffered_c 3 = .ok (.istore_n 3, 1) := by decide +kernel
theorem d_Fo_setsOffered_4 : decode b_Fo_setsOffered_c 4 = .ok (.iload_n 3, 1) := by decide +kernel
theorem d_Fo_setsOffered_5 : decode b_Fo_setsOffered_c 5 = .ok (.iload_n 1, 1) := by decide +kernel
theorem d_Fo_setsOffered_6 : decode b_Fo_setsOffered_c 6 = .ok (.if_icmp .ge 23, 3) := by decide +kernel
theorem d_Fo_setsOffered_9 : decode b_Fo_setsOffered_c 9 = .ok (.iload_n 2, 1) := by decide +kernel
theorem d_Fo_setsOffered_10 : decode b_Fo_setsOffered_c 10 = .ok (.aload_n 0, 1) := by decide +kernel
theorem d_Fo_setsOffered_11 : decode b_Fo_setsOffered_c 11 = .ok (.getfield 53, 3) := by decide +kernel
theorem d_Fo_setsOffered_14 : decode b_Fo_setsOffered_c 14 = .ok (.aload_n 0, 1) := by decide +kernel
theorem d_Fo_setsOffered_15 : decode b_Fo_setsOffered_c 15 = .ok (.getfield 62, 3) := by decide +kernel
theorem d_Fo_setsOffered_18 : decode b_Fo_setsOffered_c 18 = .ok (.iload_n 3, 1) := by decide +kernel
theorem d_Fo_setsOffered_19 : decode b_Fo_setsOffered_c 19 = .ok (.iaload, 1) := by decide +kernel
theorem d_Fo_setsOffered_20 : decode b_Fo_setsOffered_c 20 = .ok (.iaload, 1) := by decide +kernel
theorem d_Fo_setsOffered_21 : decode b_Fo_setsOffered_c 21 = .ok (.ior, 1) := by decide +kernel
theorem d_Fo_setsOffered_22 : decode b_Fo_setsOffered_c 22 = .ok (.istore_n 2, 1) := by decide +kernel
theorem d_Fo_setsOffered_23 : decode b_Fo_setsOffered_c 23 = .ok (.iinc 3 1, 3) := by decide +kernel
theorem d_Fo_setsOffered_26 : decode b_Fo_setsOffered_c 26 = .ok (.goto (-22), 3) := by decide +kernel
theorem d_Fo_setsOffered_29 : decode b_Fo_setsOffered_c 29 = .ok (.iload_n 2, 1) := by decide +kernel
theorem d_Fo_setsOffered_30 : decode b_Fo_setsOffered_c 30 = .ok (.ireturn, 1) := by decide +kernel
/-! GameRows$Forest.setsOffered(I)I -/
set_option maxHeartbeats 4000000 in
set_option maxRecDepth 100000 in
theorem t_Fo_setsOffered_4 {X : gX} {r : Int32} {σ : gS} (C : gC X b_Fo_setsOffered_c R_Fo 4 0 0) (hR : ∀ pc lv, decode b_Fo_setsOffered_c pc = .ok (.ireturn, 1) → G X pc lv [.int r] σ) {k4 : Int32 × Int32 × Int32 → Option Int32}  (hk4 : ∀ x, k4 x = some r → G X 4 [(0, .ref (gA X 1)), (1, .int x.1), (2, .int x.2.1), (3, .int x.2.2)] [] σ) (x1 : Int32) (x2 : Int32) (x3 : Int32) (h : b_Fo_setsOffered_4 σ k4 x1 x2 x3 = some r) : G X 4 [(0, .ref (gA X 1)), (1, .int x1), (2, .int x2), (3, .int x3)] [] σ := by
  unfold b_Fo_setsOffered_4 at h
  refine r_iload_n C 3 d_Fo_setsOffered_4 rfl rfl ?_
  refine r_iload_n C 1 d_Fo_setsOffered_5 rfl rfl ?_
  refine r_icmp_ge C (tgt := 29) d_Fo_setsOffered_6 (by decide) (fun hc_1 => ?_) (fun hc_1 => ?_)
  · rw [if_pos hc_1] at h
    refine r_iload_n C 2 d_Fo_setsOffered_29 rfl rfl ?_
    cases h
    exact hR _ _ d_Fo_setsOffered_30
  · rw [if_neg hc_1] at h
    refine r_iload_n C 2 d_Fo_setsOffered_9 rfl rfl ?_
    refine r_aload_n C 0 d_Fo_setsOffered_10 rfl rfl ?_
    refine q_Fo_53 C d_Fo_setsOffered_11 ?_
    refine r_aload_n C 0 d_Fo_setsOffered_14 rfl rfl ?_
    refine q_Fo_62 C d_Fo_setsOffered_15 ?_
    refine r_iload_n C 3 d_Fo_setsOffered_18 rfl rfl ?_
    obtain ⟨hi_2, h⟩ := ck_some h
    refine r_iald C hi_2 d_Fo_setsOffered_19 ?_
    obtain ⟨hi_3, h⟩ := ck_some h
    refine r_iald C hi_3 d_Fo_setsOffered_20 ?_
    refine r_ior C d_Fo_setsOffered_21 ?_
    obtain ⟨x2_4, ex2_4, h⟩ := bnd_some h
    refine r_istore_n C (lv' := [(2, .int x2_4), (0, .ref (gA X 1)), (1, .int x1), (3, .int x3)]) d_Fo_setsOffered_22 rfl (by decide) ex2_4 rfl ?_
    obtain ⟨x3_5, ex3_5, h⟩ := bnd_some h
    refine r_iinc C 3 (lv' := [(3, .int x3_5), (2, .int x2_4), (0, .ref (gA X 1)), (1, .int x1)]) d_Fo_setsOffered_23 rfl (by rw [ex3_5]; rfl) (by decide) rfl ?_
    refine r_goto C (tgt := 4) d_Fo_setsOffered_26 (by decide) ?_
    refine r_sub [2, 3, 1, 0] (lv' := [(0, .ref (gA X 1)), (1, .int x1), (2, .int x2_4), (3, .int x3_5)]) rfl ?_
    exact hk4 _ h
set_option maxHeartbeats 4000000 in
set_option maxRecDepth 100000 in
theorem u_Fo_setsOffered_4 {X : gX} {r : Int32} {σ : gS} (C : gC X b_Fo_setsOffered_c R_Fo 4 0 0) (hR : ∀ pc lv, decode b_Fo_setsOffered_c pc = .ok (.ireturn, 1) → G X pc lv [.int r] σ)  (x : Int32 × Int32 × Int32) (h : l_Fo_setsOffered_4 σ x = some r) : G X 4 [(0, .ref (gA X 1)), (1, .int x.1), (2, .int x.2.1), (3, .int x.2.2)] [] σ :=
  lpF_ind (P := fun x => G X 4 [(0, .ref (gA X 1)), (1, .int x.1), (2, .int x.2.1), (3, .int x.2.2)] [] σ) (fun k hk x h => t_Fo_setsOffered_4 C hR hk x.1 x.2.1 x.2.2 h) gF x h
set_option maxHeartbeats 4000000 in
set_option maxRecDepth 100000 in
theorem t_Fo_setsOffered_0 {X : gX} {r : Int32} {σ : gS} (C : gC X b_Fo_setsOffered_c R_Fo 4 0 0) (hR : ∀ pc lv, decode b_Fo_setsOffered_c pc = .ok (.ireturn, 1) → G X pc lv [.int r] σ) (x1 : Int32) (h : b_Fo_setsOffered_0 σ x1 = some r) : G X 0 [(0, .ref (gA X 1)), (1, .int x1)] [] σ := by
  unfold b_Fo_setsOffered_0 at h
  refine r_iconst C (v := 0) d_Fo_setsOffered_0 (by decide) ?_
  refine r_istore_n C (lv' := [(2, .int 0), (0, .ref (gA X 1)), (1, .int x1)]) d_Fo_setsOffered_1 rfl (by decide) rfl rfl ?_
  refine r_iconst C (v := 0) d_Fo_setsOffered_2 (by decide) ?_
  refine r_istore_n C (lv' := [(3, .int 0), (2, .int 0), (0, .ref (gA X 1)), (1, .int x1)]) d_Fo_setsOffered_3 rfl (by decide) rfl rfl ?_
  refine r_sub [2, 3, 1, 0] (lv' := [(0, .ref (gA X 1)), (1, .int x1), (2, .int 0), (3, .int 0)]) rfl ?_
  exact u_Fo_setsOffered_4 C hR  (x1, 0, 0) h
set_option maxHeartbeats 4000000 in
set_option maxRecDepth 100000 in
theorem c_Fo_setsOffered (l : Launch) (σ : gS) (x1 : Int32) {r : Int32} (h : f_Fo_setsOffered σ x1 = some r) : gMet l y_Fo_setsOffered b_Fo_setsOffered_c 4 (some .int) 0 0 (fun a => [.ref (a 1), .int x1]) σ (some (.int r)) σ := by
  refine gMet_i (by decide +kernel) (fun a => Nat.le_of_ble_eq_true rfl) (fun X _ C hR => ?_)
  refine r_sub [0, 1] (lv' := [(0, .ref (gA X 1)), (1, .int x1)]) rfl ?_
  exact t_Fo_setsOffered_0 C hR x1 h
theorem d_Ga_hasBit_0 : decode b_Ga_hasBit_c 0 = .ok (.lload_n 0, 1) := by decide +kernel
theorem d_Ga_hasBit_1 : decode b_Ga_hasBit_c 1 = .ok (.iload_n 2, 1) := by decide +kernel
theorem d_Ga_hasBit_2 : decode b_Ga_hasBit_c 2 = .ok (.lushr, 1) := by decide +kernel
theorem d_Ga_hasBit_3 : decode b_Ga_hasBit_c 3 = .ok (.lconst 1, 1) := by decide +kernel
theorem d_Ga_hasBit_4 : decode b_Ga_hasBit_c 4 = .ok (.land, 1) := by decide +kernel
theorem d_Ga_hasBit_5 : decode b_Ga_hasBit_c 5 = .ok (.lconst 0, 1) := by decide +kernel
theorem d_Ga_hasBit_6 : decode b_Ga_hasBit_c 6 = .ok (.lcmp, 1) := by decide +kernel
theorem d_Ga_hasBit_7 : decode b_Ga_hasBit_c 7 = .ok (.ifCond .eq 7, 3) := by decide +kernel
theorem d_Ga_hasBit_10 : decode b_Ga_hasBit_c 10 = .ok (.iconst 1, 1) := by decide +kernel
theorem d_Ga_hasBit_11 : decode b_Ga_hasBit_c 11 = .ok (.goto 4, 3) := by decide +kernel
theorem d_Ga_hasBit_14 : decode b_Ga_hasBit_c 14 = .ok (.iconst 0, 1) := by decide +kernel
theorem d_Ga_hasBit_15 : decode b_Ga_hasBit_c 15 = .ok (.ireturn, 1) := by decide +kernel
/-! GameRows.hasBit(JI)Z -/
set_option maxHeartbeats 4000000 in
set_option maxRecDepth 100000 in
theorem t_Ga_hasBit_0 {X : gX} {r : Int32} {σ : gS} (C : gC X b_Ga_hasBit_c R_Ga 3 0 0) (hR : ∀ pc lv, isB r = true → decode b_Ga_hasBit_c pc = .ok (.ireturn, 1) → G X pc lv [.int r] σ) (x0 : Int64) (x2 : Int32) (h : b_Ga_hasBit_0 x0 x2 = some r) : G X 0 [(0, .long x0), (2, .int x2)] [] σ := by
  unfold b_Ga_hasBit_0 at h
  refine r_lload_n C 0 d_Ga_hasBit_0 rfl rfl ?_
  refine r_iload_n C 1 d_Ga_hasBit_1 rfl rfl ?_
  refine r_lushr C d_Ga_hasBit_2 ?_
  refine r_lconst C (v := 1) d_Ga_hasBit_3 (by decide) ?_
  refine r_land C d_Ga_hasBit_4 ?_
  refine r_lconst C (v := 0) d_Ga_hasBit_5 (by decide) ?_
  refine r_lcmp C d_Ga_hasBit_6 ?_
  refine r_if_eq C (tgt := 14) d_Ga_hasBit_7 (by decide) (fun hc_1 => ?_) (fun hc_1 => ?_)
  · rw [if_pos hc_1] at h
    refine r_iconst C (v := 0) d_Ga_hasBit_14 (by decide) ?_
    obtain ⟨hB, h⟩ := ck_some h
    cases h
    exact hR _ _ hB d_Ga_hasBit_15
  · rw [if_neg hc_1] at h
    refine r_iconst C (v := 1) d_Ga_hasBit_10 (by decide) ?_
    refine r_goto C (tgt := 15) d_Ga_hasBit_11 (by decide) ?_
    obtain ⟨hB, h⟩ := ck_some h
    cases h
    exact hR _ _ hB d_Ga_hasBit_15
set_option maxHeartbeats 4000000 in
set_option maxRecDepth 100000 in
theorem c_Ga_hasBit (l : Launch) (σ : gS) (x0 : Int64) (x2 : Int32) {r : Int32} (h : f_Ga_hasBit x0 x2 = some r) : gMet l y_Ga_hasBit b_Ga_hasBit_c 3 (some .boolean) 0 0 (fun a => [.long x0, .int x2]) σ (some (.int r)) σ := by
  refine gMet_z (by decide +kernel) (fun a => Nat.le_of_ble_eq_true rfl) (fun X _ C hR => ?_)
  refine r_sub [0, 1] (lv' := [(0, .long x0), (2, .int x2)]) rfl ?_
  exact t_Ga_hasBit_0 C hR x0 x2 h
theorem d_Fo_plansWith_0 : decode b_Fo_plansWith_c 0 = .ok (.iconst 1, 1) := by decide +kernel
theorem d_Fo_plansWith_1 : decode b_Fo_plansWith_c 1 = .ok (.istore_n 3, 1) := by decide +kernel
theorem d_Fo_plansWith_2 : decode b_Fo_plansWith_c 2 = .ok (.iconst 0, 1) := by decide +kernel
theorem d_Fo_plansWith_3 : decode b_Fo_plansWith_c 3 = .ok (.istore 4, 2) := by decide +kernel
theorem d_Fo_plansWith_5 : decode b_Fo_plansWith_c 5 = .ok (.iload 4, 2) := by decide +kernel
theorem d_Fo_plansWith_7 : decode b_Fo_plansWith_c 7 = .ok (.aload_n 0, 1) := by decide +kernel
theorem d_Fo_plansWith_8 : decode b_Fo_plansWith_c 8 = .ok (.getfield 15, 3) := by decide +kernel
theorem d_Fo_plansWith_11 : decode b_Fo_plansWith_c 11 = .ok (.if_icmp .ge 40, 3) := by decide +kernel
theorem d_Fo_plansWith_14 : decode b_Fo_plansWith_c 14 = .ok (.aload_n 0, 1) := by decide +kernel
theorem d_Fo_plansWith_15 : decode b_Fo_plansWith_c 15 = .ok (.getfield 56, 3) := by decide +kernel
theorem d_Fo_plansWith_18 : decode b_Fo_plansWith_c 18 = .ok (.iload 4, 2) := by decide +kernel
theorem d_Fo_plansWith_20 : decode b_Fo_plansWith_c 20 = .ok (.iaload, 1) := by decide +kernel
theorem d_Fo_plansWith_21 : decode b_Fo_plansWith_c 21 = .ok (.iload_n 1, 1) := by decide +kernel
theorem d_Fo_plansWith_22 : decode b_Fo_plansWith_c 22 = .ok (.if_icmp .ne 23, 3) := by decide +kernel
theorem d_Fo_plansWith_25 : decode b_Fo_plansWith_c 25 = .ok (.iload_n 2, 1) := by decide +kernel
theorem d_Fo_plansWith_26 : decode b_Fo_plansWith_c 26 = .ok (.i2l, 1) := by decide +kernel
theorem d_Fo_plansWith_27 : decode b_Fo_plansWith_c 27 = .ok (.iload 4, 2) := by decide +kernel
theorem d_Fo_plansWith_29 : decode b_Fo_plansWith_c 29 = .ok (.invokestatic 106, 3) := by decide +kernel
theorem d_Fo_plansWith_32 : decode b_Fo_plansWith_c 32 = .ok (.ifCond .eq 13, 3) := by decide +kernel
theorem d_Fo_plansWith_35 : decode b_Fo_plansWith_c 35 = .ok (.iload_n 3, 1) := by decide +kernel
theorem d_Fo_plansWith_36 : decode b_Fo_plansWith_c 36 = .ok (.aload_n 0, 1) := by decide +kernel
theorem d_Fo_plansWith_37 : decode b_Fo_plansWith_c 37 = .ok (.getfield 31, 3) := by decide +kernel
theorem d_Fo_plansWith_40 : decode b_Fo_plansWith_c 40 = .ok (.iload 4, 2) := by decide +kernel
theorem d_Fo_plansWith_42 : decode b_Fo_plansWith_c 42 = .ok (.iaload, 1) := by decide +kernel
theorem d_Fo_plansWith_43 : decode b_Fo_plansWith_c 43 = .ok (.imul, 1) := by decide +kernel
theorem d_Fo_plansWith_44 : decode b_Fo_plansWith_c 44 = .ok (.istore_n 3, 1) := by decide +kernel
theorem d_Fo_plansWith_45 : decode b_Fo_plansWith_c 45 = .ok (.iinc 4 1, 3) := by decide +kernel
theorem d_Fo_plansWith_48 : decode b_Fo_plansWith_c 48 = .ok (.goto (-43), 3) := by decide +kernel
theorem d_Fo_plansWith_51 : decode b_Fo_plansWith_c 51 = .ok (.iload_n 3, 1) := by decide +kernel
theorem d_Fo_plansWith_52 : decode b_Fo_plansWith_c 52 = .ok (.ireturn, 1) := by decide +kernel
/-! GameRows$Forest.plansWith(II)I -/
set_option maxHeartbeats 4000000 in
set_option maxRecDepth 100000 in
theorem t_Fo_plansWith_45 {X : gX} {r : Int32} {σ : gS} (C : gC X b_Fo_plansWith_c R_Fo 5 1 22) (hR : ∀ pc lv, decode b_Fo_plansWith_c pc = .ok (.ireturn, 1) → G X pc lv [.int r] σ) {k5 : Int32 × Int32 × Int32 × Int32 → Option Int32}  (hk5 : ∀ x, k5 x = some r → G X 5 [(0, .ref (gA X 1)), (1, .int x.1), (2, .int x.2.1), (3, .int x.2.2.1), (4, .int x.2.2.2)] [] σ) (x1 : Int32) (x2 : Int32) (x3 : Int32) (x4 : Int32) (h : b_Fo_plansWith_45 σ k5 x1 x2 x3 x4 = some r) : G X 45 [(0, .ref (gA X 1)), (1, .int x1), (2, .int x2), (3, .int x3), (4, .int x4)] [] σ := by
  unfold b_Fo_plansWith_45 at h
  obtain ⟨x4_1, ex4_1, h⟩ := bnd_some h
  refine r_iinc C 4 (lv' := [(4, .int x4_1), (0, .ref (gA X 1)), (1, .int x1), (2, .int x2), (3, .int x3)]) d_Fo_plansWith_45 rfl (by rw [ex4_1]; rfl) (by decide) rfl ?_
  refine r_goto C (tgt := 5) d_Fo_plansWith_48 (by decide) ?_
  refine r_sub [1, 2, 3, 4, 0] (lv' := [(0, .ref (gA X 1)), (1, .int x1), (2, .int x2), (3, .int x3), (4, .int x4_1)]) rfl ?_
  exact hk5 _ h
set_option maxHeartbeats 4000000 in
set_option maxRecDepth 100000 in
theorem t_Fo_plansWith_5 {X : gX} {r : Int32} {σ : gS} (C : gC X b_Fo_plansWith_c R_Fo 5 1 22) (hR : ∀ pc lv, decode b_Fo_plansWith_c pc = .ok (.ireturn, 1) → G X pc lv [.int r] σ) {k5 : Int32 × Int32 × Int32 × Int32 → Option Int32}  (hk5 : ∀ x, k5 x = some r → G X 5 [(0, .ref (gA X 1)), (1, .int x.1), (2, .int x.2.1), (3, .int x.2.2.1), (4, .int x.2.2.2)] [] σ) (x1 : Int32) (x2 : Int32) (x3 : Int32) (x4 : Int32) (h : b_Fo_plansWith_5 σ k5 x1 x2 x3 x4 = some r) : G X 5 [(0, .ref (gA X 1)), (1, .int x1), (2, .int x2), (3, .int x3), (4, .int x4)] [] σ := by
  unfold b_Fo_plansWith_5 at h
  refine r_iload C 4 d_Fo_plansWith_5 rfl ?_
  refine r_aload_n C 0 d_Fo_plansWith_7 rfl rfl ?_
  refine q_Fo_15 C d_Fo_plansWith_8 ?_
  refine r_icmp_ge C (tgt := 51) d_Fo_plansWith_11 (by decide) (fun hc_1 => ?_) (fun hc_1 => ?_)
  · rw [if_pos hc_1] at h
    refine r_iload_n C 3 d_Fo_plansWith_51 rfl rfl ?_
    cases h
    exact hR _ _ d_Fo_plansWith_52
  · rw [if_neg hc_1] at h
    refine r_aload_n C 0 d_Fo_plansWith_14 rfl rfl ?_
    refine q_Fo_56 C d_Fo_plansWith_15 ?_
    refine r_iload C 4 d_Fo_plansWith_18 rfl ?_
    obtain ⟨hi_2, h⟩ := ck_some h
    refine r_iald C hi_2 d_Fo_plansWith_20 ?_
    refine r_iload_n C 1 d_Fo_plansWith_21 rfl rfl ?_
    refine r_icmp_ne C (tgt := 45) d_Fo_plansWith_22 (by decide) (fun hc_3 => ?_) (fun hc_3 => ?_)
    · rw [if_neg hc_3] at h
      exact t_Fo_plansWith_45 C hR hk5 x1 x2 x3 x4 h
    · rw [if_pos hc_3] at h
      refine r_iload_n C 2 d_Fo_plansWith_25 rfl rfl ?_
      refine r_i2l C d_Fo_plansWith_26 ?_
      refine r_iload C 4 d_Fo_plansWith_27 rfl ?_
      obtain ⟨r_4, er_4, h⟩ := bind_some h
      refine r_callSN C (As := [.long x2.toInt64, .int x4]) (rest := []) (st1 := [.int r_4]) (c_Ga_hasBit X.1.2.1 σ x2.toInt64 x4 er_4) k_Ga_hasBit n_Fo_106 rfl rfl rfl (Nat.le_of_ble_eq_true rfl) ⟨Nat.le_of_ble_eq_true rfl, Nat.le_of_ble_eq_true rfl⟩ d_Fo_plansWith_29 rfl ?_
      refine r_if_eq C (tgt := 45) d_Fo_plansWith_32 (by decide) (fun hc_5 => ?_) (fun hc_5 => ?_)
      · rw [if_pos hc_5] at h
        exact t_Fo_plansWith_45 C hR hk5 x1 x2 x3 x4 h
      · rw [if_neg hc_5] at h
        refine r_iload_n C 3 d_Fo_plansWith_35 rfl rfl ?_
        refine r_aload_n C 0 d_Fo_plansWith_36 rfl rfl ?_
        refine q_Fo_31 C d_Fo_plansWith_37 ?_
        refine r_iload C 4 d_Fo_plansWith_40 rfl ?_
        obtain ⟨hi_6, h⟩ := ck_some h
        refine r_iald C hi_6 d_Fo_plansWith_42 ?_
        refine r_imul C d_Fo_plansWith_43 ?_
        obtain ⟨x3_7, ex3_7, h⟩ := bnd_some h
        refine r_istore_n C (lv' := [(3, .int x3_7), (0, .ref (gA X 1)), (1, .int x1), (2, .int x2), (4, .int x4)]) d_Fo_plansWith_44 rfl (by decide) ex3_7 rfl ?_
        refine r_sub [1, 2, 3, 0, 4] (lv' := [(0, .ref (gA X 1)), (1, .int x1), (2, .int x2), (3, .int x3_7), (4, .int x4)]) rfl ?_
        exact t_Fo_plansWith_45 C hR hk5 x1 x2 x3_7 x4 h
set_option maxHeartbeats 4000000 in
set_option maxRecDepth 100000 in
theorem u_Fo_plansWith_5 {X : gX} {r : Int32} {σ : gS} (C : gC X b_Fo_plansWith_c R_Fo 5 1 22) (hR : ∀ pc lv, decode b_Fo_plansWith_c pc = .ok (.ireturn, 1) → G X pc lv [.int r] σ)  (x : Int32 × Int32 × Int32 × Int32) (h : l_Fo_plansWith_5 σ x = some r) : G X 5 [(0, .ref (gA X 1)), (1, .int x.1), (2, .int x.2.1), (3, .int x.2.2.1), (4, .int x.2.2.2)] [] σ :=
  lpF_ind (P := fun x => G X 5 [(0, .ref (gA X 1)), (1, .int x.1), (2, .int x.2.1), (3, .int x.2.2.1), (4, .int x.2.2.2)] [] σ) (fun k hk x h => t_Fo_plansWith_5 C hR hk x.1 x.2.1 x.2.2.1 x.2.2.2 h) gF x h
set_option maxHeartbeats 4000000 in
set_option maxRecDepth 100000 in
theorem t_Fo_plansWith_0 {X : gX} {r : Int32} {σ : gS} (C : gC X b_Fo_plansWith_c R_Fo 5 1 22) (hR : ∀ pc lv, decode b_Fo_plansWith_c pc = .ok (.ireturn, 1) → G X pc lv [.int r] σ) (x1 : Int32) (x2 : Int32) (h : b_Fo_plansWith_0 σ x1 x2 = some r) : G X 0 [(0, .ref (gA X 1)), (1, .int x1), (2, .int x2)] [] σ := by
  unfold b_Fo_plansWith_0 at h
  refine r_iconst C (v := 1) d_Fo_plansWith_0 (by decide) ?_
  refine r_istore_n C (lv' := [(3, .int 1), (0, .ref (gA X 1)), (1, .int x1), (2, .int x2)]) d_Fo_plansWith_1 rfl (by decide) rfl rfl ?_
  refine r_iconst C (v := 0) d_Fo_plansWith_2 (by decide) ?_
  refine r_istore C (lv' := [(4, .int 0), (3, .int 1), (0, .ref (gA X 1)), (1, .int x1), (2, .int x2)]) d_Fo_plansWith_3 (by decide) rfl rfl ?_
  refine r_sub [2, 3, 4, 1, 0] (lv' := [(0, .ref (gA X 1)), (1, .int x1), (2, .int x2), (3, .int 1), (4, .int 0)]) rfl ?_
  exact u_Fo_plansWith_5 C hR  (x1, x2, 1, 0) h
set_option maxHeartbeats 4000000 in
set_option maxRecDepth 100000 in
theorem c_Fo_plansWith (l : Launch) (σ : gS) (x1 : Int32) (x2 : Int32) {r : Int32} (h : f_Fo_plansWith σ x1 x2 = some r) : gMet l y_Fo_plansWith b_Fo_plansWith_c 5 (some .int) 1 22 (fun a => [.ref (a 1), .int x1, .int x2]) σ (some (.int r)) σ := by
  refine gMet_i (by decide +kernel) (fun a => Nat.le_of_ble_eq_true rfl) (fun X _ C hR => ?_)
  refine r_sub [0, 1, 2] (lv' := [(0, .ref (gA X 1)), (1, .int x1), (2, .int x2)]) rfl ?_
  exact t_Fo_plansWith_0 C hR x1 x2 h
theorem d_Fo_adoptOffered_0 : decode b_Fo_adoptOffered_c 0 = .ok (.aload_n 0, 1) := by decide +kernel
theorem d_Fo_adoptOffered_1 : decode b_Fo_adoptOffered_c 1 = .ok (.getfield 40, 3) := by decide +kernel
theorem d_Fo_adoptOffered_4 : decode b_Fo_adoptOffered_c 4 = .ok (.iload_n 1, 1) := by decide +kernel
theorem d_Fo_adoptOffered_5 : decode b_Fo_adoptOffered_c 5 = .ok (.iload_n 2, 1) := by decide +kernel
theorem d_Fo_adoptOffered_6 : decode b_Fo_adoptOffered_c 6 = .ok (.iastore, 1) := by decide +kernel
theorem d_Fo_adoptOffered_7 : decode b_Fo_adoptOffered_c 7 = .ok (.iconst 0, 1) := by decide +kernel
theorem d_Fo_adoptOffered_8 : decode b_Fo_adoptOffered_c 8 = .ok (.istore_n 3, 1) := by decide +kernel
theorem d_Fo_adoptOffered_9 : decode b_Fo_adoptOffered_c 9 = .ok (.iload_n 3, 1) := by decide +kernel
theorem d_Fo_adoptOffered_10 : decode b_Fo_adoptOffered_c 10 = .ok (.iload_n 2, 1) := by decide +kernel
theorem d_Fo_adoptOffered_11 : decode b_Fo_adoptOffered_c 11 = .ok (.if_icmp .ge 57, 3) := by decide +kernel
theorem d_Fo_adoptOffered_14 : decode b_Fo_adoptOffered_c 14 = .ok (.aload_n 0, 1) := by decide +kernel
theorem d_Fo_adoptOffered_15 : decode b_Fo_adoptOffered_c 15 = .ok (.getfield 37, 3) := by decide +kernel
theorem d_Fo_adoptOffered_18 : decode b_Fo_adoptOffered_c 18 = .ok (.iconst 3, 1) := by decide +kernel
theorem d_Fo_adoptOffered_19 : decode b_Fo_adoptOffered_c 19 = .ok (.iload_n 1, 1) := by decide +kernel
theorem d_Fo_adoptOffered_20 : decode b_Fo_adoptOffered_c 20 = .ok (.imul, 1) := by decide +kernel
theorem d_Fo_adoptOffered_21 : decode b_Fo_adoptOffered_c 21 = .ok (.iload_n 3, 1) := by decide +kernel
theorem d_Fo_adoptOffered_22 : decode b_Fo_adoptOffered_c 22 = .ok (.iadd, 1) := by decide +kernel
theorem d_Fo_adoptOffered_23 : decode b_Fo_adoptOffered_c 23 = .ok (.aload_n 0, 1) := by decide +kernel
theorem d_Fo_adoptOffered_24 : decode b_Fo_adoptOffered_c 24 = .ok (.getfield 62, 3) := by decide +kernel
theorem d_Fo_adoptOffered_27 : decode b_Fo_adoptOffered_c 27 = .ok (.iload_n 3, 1) := by decide +kernel
theorem d_Fo_adoptOffered_28 : decode b_Fo_adoptOffered_c 28 = .ok (.iaload, 1) := by decide +kernel
theorem d_Fo_adoptOffered_29 : decode b_Fo_adoptOffered_c 29 = .ok (.iastore, 1) := by decide +kernel
theorem d_Fo_adoptOffered_30 : decode b_Fo_adoptOffered_c 30 = .ok (.aload_n 0, 1) := by decide +kernel
theorem d_Fo_adoptOffered_31 : decode b_Fo_adoptOffered_c 31 = .ok (.getfield 28, 3) := by decide +kernel
theorem d_Fo_adoptOffered_34 : decode b_Fo_adoptOffered_c 34 = .ok (.aload_n 0, 1) := by decide +kernel
theorem d_Fo_adoptOffered_35 : decode b_Fo_adoptOffered_c 35 = .ok (.getfield 62, 3) := by decide +kernel
theorem d_Fo_adoptOffered_38 : decode b_Fo_adoptOffered_c 38 = .ok (.iload_n 3, 1) := by decide +kernel
theorem d_Fo_adoptOffered_39 : decode b_Fo_adoptOffered_c 39 = .ok (.iaload, 1) := by decide +kernel
theorem d_Fo_adoptOffered_40 : decode b_Fo_adoptOffered_c 40 = .ok (.iload_n 1, 1) := by decide +kernel
theorem d_Fo_adoptOffered_41 : decode b_Fo_adoptOffered_c 41 = .ok (.iastore, 1) := by decide +kernel
theorem d_Fo_adoptOffered_42 : decode b_Fo_adoptOffered_c 42 = .ok (.aload_n 0, 1) := by decide +kernel
theorem d_Fo_adoptOffered_43 : decode b_Fo_adoptOffered_c 43 = .ok (.getfield 49, 3) := by decide +kernel
theorem d_Fo_adoptOffered_46 : decode b_Fo_adoptOffered_c 46 = .ok (.iload_n 1, 1) := by decide +kernel
theorem d_Fo_adoptOffered_47 : decode b_Fo_adoptOffered_c 47 = .ok (.dup2, 1) := by decide +kernel
theorem d_Fo_adoptOffered_48 : decode b_Fo_adoptOffered_c 48 = .ok (.laload, 1) := by decide +kernel
theorem d_Fo_adoptOffered_49 : decode b_Fo_adoptOffered_c 49 = .ok (.aload_n 0, 1) := by decide +kernel
theorem d_Fo_adoptOffered_50 : decode b_Fo_adoptOffered_c 50 = .ok (.getfield 49, 3) := by decide +kernel
theorem d_Fo_adoptOffered_53 : decode b_Fo_adoptOffered_c 53 = .ok (.aload_n 0, 1) := by decide +kernel
theorem d_Fo_adoptOffered_54 : decode b_Fo_adoptOffered_c 54 = .ok (.getfield 62, 3) := by decide +kernel
theorem d_Fo_adoptOffered_57 : decode b_Fo_adoptOffered_c 57 = .ok (.iload_n 3, 1) := by decide +kernel
theorem d_Fo_adoptOffered_58 : decode b_Fo_adoptOffered_c 58 = .ok (.iaload, 1) := by decide +kernel
theorem d_Fo_adoptOffered_59 : decode b_Fo_adoptOffered_c 59 = .ok (.laload, 1) := by decide +kernel
theorem d_Fo_adoptOffered_60 : decode b_Fo_adoptOffered_c 60 = .ok (.lor, 1) := by decide +kernel
theorem d_Fo_adoptOffered_61 : decode b_Fo_adoptOffered_c 61 = .ok (.lastore, 1) := by decide +kernel
theorem d_Fo_adoptOffered_62 : decode b_Fo_adoptOffered_c 62 = .ok (.iinc 3 1, 3) := by decide +kernel
theorem d_Fo_adoptOffered_65 : decode b_Fo_adoptOffered_c 65 = .ok (.goto (-56), 3) := by decide +kernel
theorem d_Fo_adoptOffered_68 : decode b_Fo_adoptOffered_c 68 = .ok (.return_, 1) := by decide +kernel
/-! GameRows$Forest.adoptOffered(II)V -/
set_option maxHeartbeats 4000000 in
set_option maxRecDepth 100000 in
theorem t_Fo_adoptOffered_9 {X : gX} {r : gS} (C : gC X b_Fo_adoptOffered_c R_Fo 4 0 0) (hR : ∀ pc lv, decode b_Fo_adoptOffered_c pc = .ok (.return_, 1) → G X pc lv [] r) {k9 : Int32 × Int32 × Int32 × gS → Option gS}  (hk9 : ∀ x, k9 x = some r → G X 9 [(0, .ref (gA X 1)), (1, .int x.1), (2, .int x.2.1), (3, .int x.2.2.1)] [] x.2.2.2) (x1 : Int32) (x2 : Int32) (x3 : Int32) (σ : gS) (h : b_Fo_adoptOffered_9 k9 x1 x2 x3 σ = some r) : G X 9 [(0, .ref (gA X 1)), (1, .int x1), (2, .int x2), (3, .int x3)] [] σ := by
  unfold b_Fo_adoptOffered_9 at h
  refine r_iload_n C 3 d_Fo_adoptOffered_9 rfl rfl ?_
  refine r_iload_n C 2 d_Fo_adoptOffered_10 rfl rfl ?_
  refine r_icmp_ge C (tgt := 68) d_Fo_adoptOffered_11 (by decide) (fun hc_1 => ?_) (fun hc_1 => ?_)
  · rw [if_pos hc_1] at h
    cases h
    exact hR _ _ d_Fo_adoptOffered_68
  · rw [if_neg hc_1] at h
    refine r_aload_n C 0 d_Fo_adoptOffered_14 rfl rfl ?_
    refine q_Fo_37 C d_Fo_adoptOffered_15 ?_
    refine r_iconst C (v := 3) d_Fo_adoptOffered_18 (by decide) ?_
    refine r_iload_n C 1 d_Fo_adoptOffered_19 rfl rfl ?_
    refine r_imul C d_Fo_adoptOffered_20 ?_
    refine r_iload_n C 3 d_Fo_adoptOffered_21 rfl rfl ?_
    refine r_iadd C d_Fo_adoptOffered_22 ?_
    refine r_aload_n C 0 d_Fo_adoptOffered_23 rfl rfl ?_
    refine q_Fo_62 C d_Fo_adoptOffered_24 ?_
    refine r_iload_n C 3 d_Fo_adoptOffered_27 rfl rfl ?_
    obtain ⟨hi_2, h⟩ := ck_some h
    refine r_iald C hi_2 d_Fo_adoptOffered_28 ?_
    obtain ⟨hi_3, h⟩ := ck_some h
    obtain ⟨σ_4, eσ_4, h⟩ := bnd_some h
    refine r_iast C hi_3 eσ_4 d_Fo_adoptOffered_29 ?_
    refine r_aload_n C 0 d_Fo_adoptOffered_30 rfl rfl ?_
    refine q_Fo_28 C d_Fo_adoptOffered_31 ?_
    refine r_aload_n C 0 d_Fo_adoptOffered_34 rfl rfl ?_
    refine q_Fo_62 C d_Fo_adoptOffered_35 ?_
    refine r_iload_n C 3 d_Fo_adoptOffered_38 rfl rfl ?_
    obtain ⟨hi_5, h⟩ := ck_some h
    refine r_iald C hi_5 d_Fo_adoptOffered_39 ?_
    refine r_iload_n C 1 d_Fo_adoptOffered_40 rfl rfl ?_
    obtain ⟨hi_6, h⟩ := ck_some h
    obtain ⟨σ_7, eσ_7, h⟩ := bnd_some h
    refine r_iast C hi_6 eσ_7 d_Fo_adoptOffered_41 ?_
    refine r_aload_n C 0 d_Fo_adoptOffered_42 rfl rfl ?_
    refine q_Fo_49 C d_Fo_adoptOffered_43 ?_
    refine r_iload_n C 1 d_Fo_adoptOffered_46 rfl rfl ?_
    refine r_dup2_11 C d_Fo_adoptOffered_47 rfl rfl ?_
    obtain ⟨hi_8, h⟩ := ck_some h
    refine r_lald C hi_8 d_Fo_adoptOffered_48 ?_
    refine r_aload_n C 0 d_Fo_adoptOffered_49 rfl rfl ?_
    refine q_Fo_49 C d_Fo_adoptOffered_50 ?_
    refine r_aload_n C 0 d_Fo_adoptOffered_53 rfl rfl ?_
    refine q_Fo_62 C d_Fo_adoptOffered_54 ?_
    refine r_iload_n C 3 d_Fo_adoptOffered_57 rfl rfl ?_
    obtain ⟨hi_9, h⟩ := ck_some h
    refine r_iald C hi_9 d_Fo_adoptOffered_58 ?_
    obtain ⟨hi_10, h⟩ := ck_some h
    refine r_lald C hi_10 d_Fo_adoptOffered_59 ?_
    refine r_lor C d_Fo_adoptOffered_60 ?_
    obtain ⟨hi_11, h⟩ := ck_some h
    obtain ⟨σ_12, eσ_12, h⟩ := bnd_some h
    refine r_last C hi_11 eσ_12 d_Fo_adoptOffered_61 ?_
    obtain ⟨x3_13, ex3_13, h⟩ := bnd_some h
    refine r_iinc C 3 (lv' := [(3, .int x3_13), (0, .ref (gA X 1)), (1, .int x1), (2, .int x2)]) d_Fo_adoptOffered_62 rfl (by rw [ex3_13]; rfl) (by decide) rfl ?_
    refine r_goto C (tgt := 9) d_Fo_adoptOffered_65 (by decide) ?_
    refine r_sub [1, 2, 3, 0] (lv' := [(0, .ref (gA X 1)), (1, .int x1), (2, .int x2), (3, .int x3_13)]) rfl ?_
    exact hk9 _ h
set_option maxHeartbeats 4000000 in
set_option maxRecDepth 100000 in
theorem u_Fo_adoptOffered_9 {X : gX} {r : gS} (C : gC X b_Fo_adoptOffered_c R_Fo 4 0 0) (hR : ∀ pc lv, decode b_Fo_adoptOffered_c pc = .ok (.return_, 1) → G X pc lv [] r)  (x : Int32 × Int32 × Int32 × gS) (h : l_Fo_adoptOffered_9 x = some r) : G X 9 [(0, .ref (gA X 1)), (1, .int x.1), (2, .int x.2.1), (3, .int x.2.2.1)] [] x.2.2.2 :=
  lpF_ind (P := fun x => G X 9 [(0, .ref (gA X 1)), (1, .int x.1), (2, .int x.2.1), (3, .int x.2.2.1)] [] x.2.2.2) (fun k hk x h => t_Fo_adoptOffered_9 C hR hk x.1 x.2.1 x.2.2.1 x.2.2.2 h) gF x h
set_option maxHeartbeats 4000000 in
set_option maxRecDepth 100000 in
theorem t_Fo_adoptOffered_0 {X : gX} {r : gS} (C : gC X b_Fo_adoptOffered_c R_Fo 4 0 0) (hR : ∀ pc lv, decode b_Fo_adoptOffered_c pc = .ok (.return_, 1) → G X pc lv [] r) (x1 : Int32) (x2 : Int32) (σ : gS) (h : b_Fo_adoptOffered_0 x1 x2 σ = some r) : G X 0 [(0, .ref (gA X 1)), (1, .int x1), (2, .int x2)] [] σ := by
  unfold b_Fo_adoptOffered_0 at h
  refine r_aload_n C 0 d_Fo_adoptOffered_0 rfl rfl ?_
  refine q_Fo_40 C d_Fo_adoptOffered_1 ?_
  refine r_iload_n C 1 d_Fo_adoptOffered_4 rfl rfl ?_
  refine r_iload_n C 2 d_Fo_adoptOffered_5 rfl rfl ?_
  obtain ⟨hi_1, h⟩ := ck_some h
  obtain ⟨σ_2, eσ_2, h⟩ := bnd_some h
  refine r_iast C hi_1 eσ_2 d_Fo_adoptOffered_6 ?_
  refine r_iconst C (v := 0) d_Fo_adoptOffered_7 (by decide) ?_
  refine r_istore_n C (lv' := [(3, .int 0), (0, .ref (gA X 1)), (1, .int x1), (2, .int x2)]) d_Fo_adoptOffered_8 rfl (by decide) rfl rfl ?_
  refine r_sub [1, 2, 3, 0] (lv' := [(0, .ref (gA X 1)), (1, .int x1), (2, .int x2), (3, .int 0)]) rfl ?_
  exact u_Fo_adoptOffered_9 C hR  (x1, x2, 0, σ_2) h
set_option maxHeartbeats 4000000 in
set_option maxRecDepth 100000 in
theorem c_Fo_adoptOffered (l : Launch) (σ : gS) (x1 : Int32) (x2 : Int32) {r : gS} (h : f_Fo_adoptOffered σ x1 x2 = some r) : gMet l y_Fo_adoptOffered b_Fo_adoptOffered_c 4 (none) 0 0 (fun a => [.ref (a 1), .int x1, .int x2]) σ (none) r := by
  refine gMet_v (by decide +kernel) (fun a => Nat.le_of_ble_eq_true rfl) (fun X _ C hR => ?_)
  refine r_sub [0, 1, 2] (lv' := [(0, .ref (gA X 1)), (1, .int x1), (2, .int x2)]) rfl ?_
  exact t_Fo_adoptOffered_0 C hR x1 x2 σ h
theorem d_Fo_addParent_0 : decode b_Fo_addParent_c 0 = .ok (.aload_n 0, 1) := by decide +kernel
theorem d_Fo_addParent_1 : decode b_Fo_addParent_c 1 = .ok (.iload_n 2, 1) := by decide +kernel
theorem d_Fo_addParent_2 : decode b_Fo_addParent_c 2 = .ok (.invokevirtual 69, 3) := by decide +kernel
theorem d_Fo_addParent_5 : decode b_Fo_addParent_c 5 = .ok (.ifCond .ne 6, 3) := by decide +kernel
theorem d_Fo_addParent_8 : decode b_Fo_addParent_c 8 = .ok (.bipush (-2), 2) := by decide +kernel
theorem d_Fo_addParent_10 : decode b_Fo_addParent_c 10 = .ok (.ireturn, 1) := by decide +kernel
theorem d_Fo_addParent_11 : decode b_Fo_addParent_c 11 = .ok (.aload_n 0, 1) := by decide +kernel
theorem d_Fo_addParent_12 : decode b_Fo_addParent_c 12 = .ok (.getfield 9, 3) := by decide +kernel
theorem d_Fo_addParent_15 : decode b_Fo_addParent_c 15 = .ok (.bipush 40, 2) := by decide +kernel
theorem d_Fo_addParent_17 : decode b_Fo_addParent_c 17 = .ok (.if_icmp .lt 6, 3) := by decide +kernel
theorem d_Fo_addParent_20 : decode b_Fo_addParent_c 20 = .ok (.bipush (-3), 2) := by decide +kernel
theorem d_Fo_addParent_22 : decode b_Fo_addParent_c 22 = .ok (.ireturn, 1) := by decide +kernel
theorem d_Fo_addParent_23 : decode b_Fo_addParent_c 23 = .ok (.aload_n 0, 1) := by decide +kernel
theorem d_Fo_addParent_24 : decode b_Fo_addParent_c 24 = .ok (.iload_n 2, 1) := by decide +kernel
theorem d_Fo_addParent_25 : decode b_Fo_addParent_c 25 = .ok (.invokevirtual 73, 3) := by decide +kernel
theorem d_Fo_addParent_28 : decode b_Fo_addParent_c 28 = .ok (.ifCond .eq 6, 3) := by decide +kernel
theorem d_Fo_addParent_31 : decode b_Fo_addParent_c 31 = .ok (.bipush (-4), 2) := by decide +kernel
theorem d_Fo_addParent_33 : decode b_Fo_addParent_c 33 = .ok (.ireturn, 1) := by decide +kernel
theorem d_Fo_addParent_34 : decode b_Fo_addParent_c 34 = .ok (.iconst 1, 1) := by decide +kernel
theorem d_Fo_addParent_35 : decode b_Fo_addParent_c 35 = .ok (.aload_n 0, 1) := by decide +kernel
theorem d_Fo_addParent_36 : decode b_Fo_addParent_c 36 = .ok (.aload_n 0, 1) := by decide +kernel
theorem d_Fo_addParent_37 : decode b_Fo_addParent_c 37 = .ok (.getfield 43, 3) := by decide +kernel
theorem d_Fo_addParent_40 : decode b_Fo_addParent_c 40 = .ok (.iload_n 2, 1) := by decide +kernel
theorem d_Fo_addParent_41 : decode b_Fo_addParent_c 41 = .ok (.invokevirtual 76, 3) := by decide +kernel
theorem d_Fo_addParent_44 : decode b_Fo_addParent_c 44 = .ok (.iadd, 1) := by decide +kernel
theorem d_Fo_addParent_45 : decode b_Fo_addParent_c 45 = .ok (.istore_n 3, 1) := by decide +kernel
theorem d_Fo_addParent_46 : decode b_Fo_addParent_c 46 = .ok (.aload_n 0, 1) := by decide +kernel
theorem d_Fo_addParent_47 : decode b_Fo_addParent_c 47 = .ok (.aload_n 0, 1) := by decide +kernel
theorem d_Fo_addParent_48 : decode b_Fo_addParent_c 48 = .ok (.getfield 46, 3) := by decide +kernel
theorem d_Fo_addParent_51 : decode b_Fo_addParent_c 51 = .ok (.iload_n 2, 1) := by decide +kernel
theorem d_Fo_addParent_52 : decode b_Fo_addParent_c 52 = .ok (.invokevirtual 76, 3) := by decide +kernel
theorem d_Fo_addParent_55 : decode b_Fo_addParent_c 55 = .ok (.iload_n 1, 1) := by decide +kernel
theorem d_Fo_addParent_56 : decode b_Fo_addParent_c 56 = .ok (.iconst (-1), 1) := by decide +kernel
theorem d_Fo_addParent_57 : decode b_Fo_addParent_c 57 = .ok (.if_icmp .ne 7, 3) := by decide +kernel
theorem d_Fo_addParent_60 : decode b_Fo_addParent_c 60 = .ok (.iconst 1, 1) := by decide +kernel
theorem d_Fo_addParent_61 : decode b_Fo_addParent_c 61 = .ok (.goto 4, 3) := by decide +kernel
theorem d_Fo_addParent_64 : decode b_Fo_addParent_c 64 = .ok (.iconst 0, 1) := by decide +kernel
theorem d_Fo_addParent_65 : decode b_Fo_addParent_c 65 = .ok (.iadd, 1) := by decide +kernel
theorem d_Fo_addParent_66 : decode b_Fo_addParent_c 66 = .ok (.istore 4, 2) := by decide +kernel
theorem d_Fo_addParent_68 : decode b_Fo_addParent_c 68 = .ok (.iload_n 3, 1) := by decide +kernel
theorem d_Fo_addParent_69 : decode b_Fo_addParent_c 69 = .ok (.bipush 8, 2) := by decide +kernel
theorem d_Fo_addParent_71 : decode b_Fo_addParent_c 71 = .ok (.if_icmp .gt 9, 3) := by decide +kernel
theorem d_Fo_addParent_74 : decode b_Fo_addParent_c 74 = .ok (.iload 4, 2) := by decide +kernel
theorem d_Fo_addParent_76 : decode b_Fo_addParent_c 76 = .ok (.iconst 5, 1) := by decide +kernel
theorem d_Fo_addParent_77 : decode b_Fo_addParent_c 77 = .ok (.if_icmp .le 6, 3) := by decide +kernel
theorem d_Fo_addParent_80 : decode b_Fo_addParent_c 80 = .ok (.bipush (-5), 2) := by decide +kernel
theorem d_Fo_addParent_82 : decode b_Fo_addParent_c 82 = .ok (.ireturn, 1) := by decide +kernel
theorem d_Fo_addParent_83 : decode b_Fo_addParent_c 83 = .ok (.aload_n 0, 1) := by decide +kernel
theorem d_Fo_addParent_84 : decode b_Fo_addParent_c 84 = .ok (.iload_n 2, 1) := by decide +kernel
theorem d_Fo_addParent_85 : decode b_Fo_addParent_c 85 = .ok (.invokevirtual 80, 3) := by decide +kernel
theorem d_Fo_addParent_88 : decode b_Fo_addParent_c 88 = .ok (.iload_n 1, 1) := by decide +kernel
theorem d_Fo_addParent_89 : decode b_Fo_addParent_c 89 = .ok (.iconst (-1), 1) := by decide +kernel
theorem d_Fo_addParent_90 : decode b_Fo_addParent_c 90 = .ok (.if_icmp .ne 7, 3) := by decide +kernel
theorem d_Fo_addParent_93 : decode b_Fo_addParent_c 93 = .ok (.iconst 0, 1) := by decide +kernel
theorem d_Fo_addParent_94 : decode b_Fo_addParent_c 94 = .ok (.goto 6, 3) := by decide +kernel
theorem d_Fo_addParent_97 : decode b_Fo_addParent_c 97 = .ok (.iconst 1, 1) := by decide +kernel
theorem d_Fo_addParent_98 : decode b_Fo_addParent_c 98 = .ok (.iload_n 1, 1) := by decide +kernel
theorem d_Fo_addParent_99 : decode b_Fo_addParent_c 99 = .ok (.ishl, 1) := by decide +kernel
theorem d_Fo_addParent_100 : decode b_Fo_addParent_c 100 = .ok (.ior, 1) := by decide +kernel
theorem d_Fo_addParent_101 : decode b_Fo_addParent_c 101 = .ok (.istore 5, 2) := by decide +kernel
theorem d_Fo_addParent_103 : decode b_Fo_addParent_c 103 = .ok (.aload_n 0, 1) := by decide +kernel
theorem d_Fo_addParent_104 : decode b_Fo_addParent_c 104 = .ok (.iconst 0, 1) := by decide +kernel
theorem d_Fo_addParent_105 : decode b_Fo_addParent_c 105 = .ok (.iload 5, 2) := by decide +kernel
theorem d_Fo_addParent_107 : decode b_Fo_addParent_c 107 = .ok (.invokevirtual 84, 3) := by decide +kernel
theorem d_Fo_addParent_110 : decode b_Fo_addParent_c 110 = .ok (.bipush 64, 2) := by decide +kernel
theorem d_Fo_addParent_112 : decode b_Fo_addParent_c 112 = .ok (.if_icmp .gt 15, 3) := by decide +kernel
theorem d_Fo_addParent_115 : decode b_Fo_addParent_c 115 = .ok (.aload_n 0, 1) := by decide +kernel
theorem d_Fo_addParent_116 : decode b_Fo_addParent_c 116 = .ok (.iconst 1, 1) := by decide +kernel
theorem d_Fo_addParent_117 : decode b_Fo_addParent_c 117 = .ok (.iload 5, 2) := by decide +kernel
theorem d_Fo_addParent_119 : decode b_Fo_addParent_c 119 = .ok (.invokevirtual 84, 3) := by decide +kernel
theorem d_Fo_addParent_122 : decode b_Fo_addParent_c 122 = .ok (.bipush 64, 2) := by decide +kernel
theorem d_Fo_addParent_124 : decode b_Fo_addParent_c 124 = .ok (.if_icmp .le 6, 3) := by decide +kernel
theorem d_Fo_addParent_127 : decode b_Fo_addParent_c 127 = .ok (.bipush (-6), 2) := by decide +kernel
theorem d_Fo_addParent_129 : decode b_Fo_addParent_c 129 = .ok (.ireturn, 1) := by decide +kernel
theorem d_Fo_addParent_130 : decode b_Fo_addParent_c 130 = .ok (.aload_n 0, 1) := by decide +kernel
theorem d_Fo_addParent_131 : decode b_Fo_addParent_c 131 = .ok (.iload_n 1, 1) := by decide +kernel
theorem d_Fo_addParent_132 : decode b_Fo_addParent_c 132 = .ok (.iconst (-1), 1) := by decide +kernel
theorem d_Fo_addParent_133 : decode b_Fo_addParent_c 133 = .ok (.if_icmp .ne 7, 3) := by decide +kernel
theorem d_Fo_addParent_136 : decode b_Fo_addParent_c 136 = .ok (.iconst 1, 1) := by decide +kernel
theorem d_Fo_addParent_137 : decode b_Fo_addParent_c 137 = .ok (.goto 4, 3) := by decide +kernel
theorem d_Fo_addParent_140 : decode b_Fo_addParent_c 140 = .ok (.iconst 2, 1) := by decide +kernel
theorem d_Fo_addParent_141 : decode b_Fo_addParent_c 141 = .ok (.iload_n 1, 1) := by decide +kernel
theorem d_Fo_addParent_142 : decode b_Fo_addParent_c 142 = .ok (.invokevirtual 65, 3) := by decide +kernel
theorem d_Fo_addParent_145 : decode b_Fo_addParent_c 145 = .ok (.istore 6, 2) := by decide +kernel
theorem d_Fo_addParent_147 : decode b_Fo_addParent_c 147 = .ok (.aload_n 0, 1) := by decide +kernel
theorem d_Fo_addParent_148 : decode b_Fo_addParent_c 148 = .ok (.getfield 43, 3) := by decide +kernel
theorem d_Fo_addParent_151 : decode b_Fo_addParent_c 151 = .ok (.iload 6, 2) := by decide +kernel
theorem d_Fo_addParent_153 : decode b_Fo_addParent_c 153 = .ok (.iload_n 3, 1) := by decide +kernel
theorem d_Fo_addParent_154 : decode b_Fo_addParent_c 154 = .ok (.iastore, 1) := by decide +kernel
theorem d_Fo_addParent_155 : decode b_Fo_addParent_c 155 = .ok (.aload_n 0, 1) := by decide +kernel
theorem d_Fo_addParent_156 : decode b_Fo_addParent_c 156 = .ok (.getfield 46, 3) := by decide +kernel
theorem d_Fo_addParent_159 : decode b_Fo_addParent_c 159 = .ok (.iload 6, 2) := by decide +kernel
theorem d_Fo_addParent_161 : decode b_Fo_addParent_c 161 = .ok (.iload 4, 2) := by decide +kernel
theorem d_Fo_addParent_163 : decode b_Fo_addParent_c 163 = .ok (.iastore, 1) := by decide +kernel
theorem d_Fo_addParent_164 : decode b_Fo_addParent_c 164 = .ok (.aload_n 0, 1) := by decide +kernel
theorem d_Fo_addParent_165 : decode b_Fo_addParent_c 165 = .ok (.getfield 53, 3) := by decide +kernel
theorem d_Fo_addParent_168 : decode b_Fo_addParent_c 168 = .ok (.iload 6, 2) := by decide +kernel
theorem d_Fo_addParent_170 : decode b_Fo_addParent_c 170 = .ok (.iload 5, 2) := by decide +kernel
theorem d_Fo_addParent_172 : decode b_Fo_addParent_c 172 = .ok (.iastore, 1) := by decide +kernel
theorem d_Fo_addParent_173 : decode b_Fo_addParent_c 173 = .ok (.aload_n 0, 1) := by decide +kernel
theorem d_Fo_addParent_174 : decode b_Fo_addParent_c 174 = .ok (.iload 6, 2) := by decide +kernel
theorem d_Fo_addParent_176 : decode b_Fo_addParent_c 176 = .ok (.iload_n 2, 1) := by decide +kernel
theorem d_Fo_addParent_177 : decode b_Fo_addParent_c 177 = .ok (.invokevirtual 87, 3) := by decide +kernel
theorem d_Fo_addParent_180 : decode b_Fo_addParent_c 180 = .ok (.iload 6, 2) := by decide +kernel
theorem d_Fo_addParent_182 : decode b_Fo_addParent_c 182 = .ok (.ireturn, 1) := by decide +kernel
/-! GameRows$Forest.addParent(II)I -/
set_option maxHeartbeats 4000000 in
set_option maxRecDepth 100000 in
theorem t_Fo_addParent_141 {X : gX} {r : (Int32 × gS)} (C : gC X b_Fo_addParent_c R_Fo 7 2 46) (hR : ∀ pc lv, decode b_Fo_addParent_c pc = .ok (.ireturn, 1) → G X pc lv [.int r.1] r.2) (x1 : Int32) (x2 : Int32) (x3 : Int32) (x4 : Int32) (x5 : Int32) (y1 : Int32) (σ : gS) (h : b_Fo_addParent_141 x1 x2 x3 x4 x5 y1 σ = some r) : G X 141 [(0, .ref (gA X 1)), (1, .int x1), (2, .int x2), (3, .int x3), (4, .int x4), (5, .int x5)] [.int y1, .ref (gA X 1)] σ := by
  unfold b_Fo_addParent_141 at h
  refine r_iload_n C 1 d_Fo_addParent_141 rfl rfl ?_
  obtain ⟨r_1, er_1, h⟩ := bind_some h
  refine r_callV C (As := [.int y1, .int x1]) (rest := []) (st1 := [.int r_1.1]) (c_Fo_startNode X.1.2.1 σ y1 x1 er_1) k_Fo_startNode m_29 (by decide) cel_Fo rfl rfl rfl rfl (Nat.le_of_ble_eq_true rfl) ⟨Nat.le_of_ble_eq_true rfl, Nat.le_of_ble_eq_true rfl⟩ d_Fo_addParent_142 rfl ?_
  obtain ⟨x6_2, ex6_2, h⟩ := bnd_some h
  refine r_istore C (lv' := [(6, .int x6_2), (0, .ref (gA X 1)), (1, .int x1), (2, .int x2), (3, .int x3), (4, .int x4), (5, .int x5)]) d_Fo_addParent_145 (by decide) ex6_2 rfl ?_
  refine r_aload_n C 1 d_Fo_addParent_147 rfl rfl ?_
  refine q_Fo_43 C d_Fo_addParent_148 ?_
  refine r_iload C 0 d_Fo_addParent_151 rfl ?_
  refine r_iload_n C 4 d_Fo_addParent_153 rfl rfl ?_
  obtain ⟨hi_3, h⟩ := ck_some h
  obtain ⟨σ_4, eσ_4, h⟩ := bnd_some h
  refine r_iast C hi_3 eσ_4 d_Fo_addParent_154 ?_
  refine r_aload_n C 1 d_Fo_addParent_155 rfl rfl ?_
  refine q_Fo_46 C d_Fo_addParent_156 ?_
  refine r_iload C 0 d_Fo_addParent_159 rfl ?_
  refine r_iload C 5 d_Fo_addParent_161 rfl ?_
  obtain ⟨hi_5, h⟩ := ck_some h
  obtain ⟨σ_6, eσ_6, h⟩ := bnd_some h
  refine r_iast C hi_5 eσ_6 d_Fo_addParent_163 ?_
  refine r_aload_n C 1 d_Fo_addParent_164 rfl rfl ?_
  refine q_Fo_53 C d_Fo_addParent_165 ?_
  refine r_iload C 0 d_Fo_addParent_168 rfl ?_
  refine r_iload C 6 d_Fo_addParent_170 rfl ?_
  obtain ⟨hi_7, h⟩ := ck_some h
  obtain ⟨σ_8, eσ_8, h⟩ := bnd_some h
  refine r_iast C hi_7 eσ_8 d_Fo_addParent_172 ?_
  refine r_aload_n C 1 d_Fo_addParent_173 rfl rfl ?_
  refine r_iload C 0 d_Fo_addParent_174 rfl ?_
  refine r_iload_n C 3 d_Fo_addParent_176 rfl rfl ?_
  obtain ⟨r_9, er_9, h⟩ := bind_some h
  refine r_callV C (As := [.int x6_2, .int x2]) (rest := []) (st1 := []) (c_Fo_adoptOffered X.1.2.1 σ_8 x6_2 x2 er_9) k_Fo_adoptOffered m_52 (by decide) cel_Fo rfl rfl rfl rfl (Nat.le_of_ble_eq_true rfl) ⟨Nat.le_of_ble_eq_true rfl, Nat.le_of_ble_eq_true rfl⟩ d_Fo_addParent_177 rfl ?_
  refine r_iload C 0 d_Fo_addParent_180 rfl ?_
  cases h
  exact hR _ _ d_Fo_addParent_182
set_option maxHeartbeats 4000000 in
set_option maxRecDepth 100000 in
theorem t_Fo_addParent_100 {X : gX} {r : (Int32 × gS)} (C : gC X b_Fo_addParent_c R_Fo 7 2 46) (hR : ∀ pc lv, decode b_Fo_addParent_c pc = .ok (.ireturn, 1) → G X pc lv [.int r.1] r.2) (x1 : Int32) (x2 : Int32) (x3 : Int32) (x4 : Int32) (y0 : Int32) (y1 : Int32) (σ : gS) (h : b_Fo_addParent_100 x1 x2 x3 x4 y0 y1 σ = some r) : G X 100 [(0, .ref (gA X 1)), (1, .int x1), (2, .int x2), (3, .int x3), (4, .int x4)] [.int y1, .int y0] σ := by
  unfold b_Fo_addParent_100 at h
  refine r_ior C d_Fo_addParent_100 ?_
  obtain ⟨x5_1, ex5_1, h⟩ := bnd_some h
  refine r_istore C (lv' := [(5, .int x5_1), (0, .ref (gA X 1)), (1, .int x1), (2, .int x2), (3, .int x3), (4, .int x4)]) d_Fo_addParent_101 (by decide) ex5_1 rfl ?_
  refine r_aload_n C 1 d_Fo_addParent_103 rfl rfl ?_
  refine r_iconst C (v := 0) d_Fo_addParent_104 (by decide) ?_
  refine r_iload C 0 d_Fo_addParent_105 rfl ?_
  obtain ⟨r_2, er_2, h⟩ := bind_some h
  refine r_callV C (As := [.int 0, .int x5_1]) (rest := []) (st1 := [.int r_2]) (c_Fo_plansWith X.1.2.1 σ 0 x5_1 er_2) k_Fo_plansWith m_56 (by decide) cel_Fo rfl rfl rfl rfl (Nat.le_of_ble_eq_true rfl) ⟨Nat.le_of_ble_eq_true rfl, Nat.le_of_ble_eq_true rfl⟩ d_Fo_addParent_107 rfl ?_
  refine r_bipush C (v := 64) d_Fo_addParent_110 (by decide) ?_
  refine r_icmp_gt C (tgt := 127) d_Fo_addParent_112 (by decide) (fun hc_3 => ?_) (fun hc_3 => ?_)
  · rw [if_pos hc_3] at h
    refine r_bipush C (v := (-6)) d_Fo_addParent_127 (by decide) ?_
    cases h
    exact hR _ _ d_Fo_addParent_129
  · rw [if_neg hc_3] at h
    refine r_aload_n C 1 d_Fo_addParent_115 rfl rfl ?_
    refine r_iconst C (v := 1) d_Fo_addParent_116 (by decide) ?_
    refine r_iload C 0 d_Fo_addParent_117 rfl ?_
    obtain ⟨r_4, er_4, h⟩ := bind_some h
    refine r_callV C (As := [.int 1, .int x5_1]) (rest := []) (st1 := [.int r_4]) (c_Fo_plansWith X.1.2.1 σ 1 x5_1 er_4) k_Fo_plansWith m_56 (by decide) cel_Fo rfl rfl rfl rfl (Nat.le_of_ble_eq_true rfl) ⟨Nat.le_of_ble_eq_true rfl, Nat.le_of_ble_eq_true rfl⟩ d_Fo_addParent_119 rfl ?_
    refine r_bipush C (v := 64) d_Fo_addParent_122 (by decide) ?_
    refine r_icmp_le C (tgt := 130) d_Fo_addParent_124 (by decide) (fun hc_5 => ?_) (fun hc_5 => ?_)
    · rw [if_pos hc_5] at h
      refine r_aload_n C 1 d_Fo_addParent_130 rfl rfl ?_
      refine r_iload_n C 2 d_Fo_addParent_131 rfl rfl ?_
      refine r_iconst C (v := (-1)) d_Fo_addParent_132 (by decide) ?_
      refine r_icmp_ne C (tgt := 140) d_Fo_addParent_133 (by decide) (fun hc_6 => ?_) (fun hc_6 => ?_)
      · rw [if_neg hc_6] at h
        refine r_iconst C (v := 2) d_Fo_addParent_140 (by decide) ?_
        refine r_sub [1, 2, 3, 4, 5, 0] (lv' := [(0, .ref (gA X 1)), (1, .int x1), (2, .int x2), (3, .int x3), (4, .int x4), (5, .int x5_1)]) rfl ?_
        exact t_Fo_addParent_141 C hR x1 x2 x3 x4 x5_1 2 σ h
      · rw [if_pos hc_6] at h
        refine r_iconst C (v := 1) d_Fo_addParent_136 (by decide) ?_
        refine r_goto C (tgt := 141) d_Fo_addParent_137 (by decide) ?_
        refine r_sub [1, 2, 3, 4, 5, 0] (lv' := [(0, .ref (gA X 1)), (1, .int x1), (2, .int x2), (3, .int x3), (4, .int x4), (5, .int x5_1)]) rfl ?_
        exact t_Fo_addParent_141 C hR x1 x2 x3 x4 x5_1 1 σ h
    · rw [if_neg hc_5] at h
      refine r_bipush C (v := (-6)) d_Fo_addParent_127 (by decide) ?_
      cases h
      exact hR _ _ d_Fo_addParent_129
set_option maxHeartbeats 4000000 in
set_option maxRecDepth 100000 in
theorem t_Fo_addParent_65 {X : gX} {r : (Int32 × gS)} (C : gC X b_Fo_addParent_c R_Fo 7 2 46) (hR : ∀ pc lv, decode b_Fo_addParent_c pc = .ok (.ireturn, 1) → G X pc lv [.int r.1] r.2) (x1 : Int32) (x2 : Int32) (x3 : Int32) (y0 : Int32) (y1 : Int32) (σ : gS) (h : b_Fo_addParent_65 x1 x2 x3 y0 y1 σ = some r) : G X 65 [(0, .ref (gA X 1)), (1, .int x1), (2, .int x2), (3, .int x3)] [.int y1, .int y0] σ := by
  unfold b_Fo_addParent_65 at h
  refine r_iadd C d_Fo_addParent_65 ?_
  obtain ⟨x4_1, ex4_1, h⟩ := bnd_some h
  refine r_istore C (lv' := [(4, .int x4_1), (0, .ref (gA X 1)), (1, .int x1), (2, .int x2), (3, .int x3)]) d_Fo_addParent_66 (by decide) ex4_1 rfl ?_
  refine r_iload_n C 4 d_Fo_addParent_68 rfl rfl ?_
  refine r_bipush C (v := 8) d_Fo_addParent_69 (by decide) ?_
  refine r_icmp_gt C (tgt := 80) d_Fo_addParent_71 (by decide) (fun hc_2 => ?_) (fun hc_2 => ?_)
  · rw [if_pos hc_2] at h
    refine r_bipush C (v := (-5)) d_Fo_addParent_80 (by decide) ?_
    cases h
    exact hR _ _ d_Fo_addParent_82
  · rw [if_neg hc_2] at h
    refine r_iload C 0 d_Fo_addParent_74 rfl ?_
    refine r_iconst C (v := 5) d_Fo_addParent_76 (by decide) ?_
    refine r_icmp_le C (tgt := 83) d_Fo_addParent_77 (by decide) (fun hc_3 => ?_) (fun hc_3 => ?_)
    · rw [if_pos hc_3] at h
      refine r_aload_n C 1 d_Fo_addParent_83 rfl rfl ?_
      refine r_iload_n C 3 d_Fo_addParent_84 rfl rfl ?_
      obtain ⟨r_4, er_4, h⟩ := bind_some h
      refine r_callV C (As := [.int x2]) (rest := []) (st1 := [.int r_4]) (c_Fo_setsOffered X.1.2.1 σ x2 er_4) k_Fo_setsOffered m_60 (by decide) cel_Fo rfl rfl rfl rfl (Nat.le_of_ble_eq_true rfl) ⟨Nat.le_of_ble_eq_true rfl, Nat.le_of_ble_eq_true rfl⟩ d_Fo_addParent_85 rfl ?_
      refine r_iload_n C 2 d_Fo_addParent_88 rfl rfl ?_
      refine r_iconst C (v := (-1)) d_Fo_addParent_89 (by decide) ?_
      refine r_icmp_ne C (tgt := 97) d_Fo_addParent_90 (by decide) (fun hc_5 => ?_) (fun hc_5 => ?_)
      · rw [if_neg hc_5] at h
        refine r_iconst C (v := 1) d_Fo_addParent_97 (by decide) ?_
        refine r_iload_n C 2 d_Fo_addParent_98 rfl rfl ?_
        refine r_ishl C d_Fo_addParent_99 ?_
        refine r_sub [1, 2, 3, 4, 0] (lv' := [(0, .ref (gA X 1)), (1, .int x1), (2, .int x2), (3, .int x3), (4, .int x4_1)]) rfl ?_
        exact t_Fo_addParent_100 C hR x1 x2 x3 x4_1 r_4 (1 <<< (x1 &&& 31)) σ h
      · rw [if_pos hc_5] at h
        refine r_iconst C (v := 0) d_Fo_addParent_93 (by decide) ?_
        refine r_goto C (tgt := 100) d_Fo_addParent_94 (by decide) ?_
        refine r_sub [1, 2, 3, 4, 0] (lv' := [(0, .ref (gA X 1)), (1, .int x1), (2, .int x2), (3, .int x3), (4, .int x4_1)]) rfl ?_
        exact t_Fo_addParent_100 C hR x1 x2 x3 x4_1 r_4 0 σ h
    · rw [if_neg hc_3] at h
      refine r_bipush C (v := (-5)) d_Fo_addParent_80 (by decide) ?_
      cases h
      exact hR _ _ d_Fo_addParent_82
set_option maxHeartbeats 4000000 in
set_option maxRecDepth 100000 in
theorem t_Fo_addParent_0 {X : gX} {r : (Int32 × gS)} (C : gC X b_Fo_addParent_c R_Fo 7 2 46) (hR : ∀ pc lv, decode b_Fo_addParent_c pc = .ok (.ireturn, 1) → G X pc lv [.int r.1] r.2) (x1 : Int32) (x2 : Int32) (σ : gS) (h : b_Fo_addParent_0 x1 x2 σ = some r) : G X 0 [(0, .ref (gA X 1)), (1, .int x1), (2, .int x2)] [] σ := by
  unfold b_Fo_addParent_0 at h
  refine r_aload_n C 0 d_Fo_addParent_0 rfl rfl ?_
  refine r_iload_n C 2 d_Fo_addParent_1 rfl rfl ?_
  obtain ⟨r_1, er_1, h⟩ := bind_some h
  refine r_callV C (As := [.int x2]) (rest := []) (st1 := [.int r_1]) (c_Fo_areOfferedThere X.1.2.1 σ x2 er_1) k_Fo_areOfferedThere m_64 (by decide) cel_Fo rfl rfl rfl rfl (Nat.le_of_ble_eq_true rfl) ⟨Nat.le_of_ble_eq_true rfl, Nat.le_of_ble_eq_true rfl⟩ d_Fo_addParent_2 rfl ?_
  refine r_if_ne C (tgt := 11) d_Fo_addParent_5 (by decide) (fun hc_2 => ?_) (fun hc_2 => ?_)
  · rw [if_neg hc_2] at h
    refine r_aload_n C 0 d_Fo_addParent_11 rfl rfl ?_
    refine q_Fo_9 C d_Fo_addParent_12 ?_
    refine r_bipush C (v := 40) d_Fo_addParent_15 (by decide) ?_
    refine r_icmp_lt C (tgt := 23) d_Fo_addParent_17 (by decide) (fun hc_3 => ?_) (fun hc_3 => ?_)
    · rw [if_pos hc_3] at h
      refine r_aload_n C 0 d_Fo_addParent_23 rfl rfl ?_
      refine r_iload_n C 2 d_Fo_addParent_24 rfl rfl ?_
      obtain ⟨r_4, er_4, h⟩ := bind_some h
      refine r_callV C (As := [.int x2]) (rest := []) (st1 := [.int r_4]) (c_Fo_isOfferedTaken X.1.2.1 σ x2 er_4) k_Fo_isOfferedTaken m_68 (by decide) cel_Fo rfl rfl rfl rfl (Nat.le_of_ble_eq_true rfl) ⟨Nat.le_of_ble_eq_true rfl, Nat.le_of_ble_eq_true rfl⟩ d_Fo_addParent_25 rfl ?_
      refine r_if_eq C (tgt := 34) d_Fo_addParent_28 (by decide) (fun hc_5 => ?_) (fun hc_5 => ?_)
      · rw [if_pos hc_5] at h
        refine r_iconst C (v := 1) d_Fo_addParent_34 (by decide) ?_
        refine r_aload_n C 0 d_Fo_addParent_35 rfl rfl ?_
        refine r_aload_n C 0 d_Fo_addParent_36 rfl rfl ?_
        refine q_Fo_43 C d_Fo_addParent_37 ?_
        refine r_iload_n C 2 d_Fo_addParent_40 rfl rfl ?_
        obtain ⟨r_6, er_6, h⟩ := bind_some h
        refine r_callV C (As := [.ref (gA X 9), .int x2]) (rest := [.int 1]) (st1 := [.int r_6, .int 1]) (c_Fo_greatestOffered X.1.2.1 σ 9 x2 er_6) k_Fo_greatestOffered m_72 (by decide) cel_Fo rfl rfl rfl rfl (Nat.le_of_ble_eq_true rfl) ⟨Nat.le_of_ble_eq_true rfl, Nat.le_of_ble_eq_true rfl⟩ d_Fo_addParent_41 rfl ?_
        refine r_iadd C d_Fo_addParent_44 ?_
        obtain ⟨x3_7, ex3_7, h⟩ := bnd_some h
        refine r_istore_n C (lv' := [(3, .int x3_7), (0, .ref (gA X 1)), (1, .int x1), (2, .int x2)]) d_Fo_addParent_45 rfl (by decide) ex3_7 rfl ?_
        refine r_aload_n C 1 d_Fo_addParent_46 rfl rfl ?_
        refine r_aload_n C 1 d_Fo_addParent_47 rfl rfl ?_
        refine q_Fo_46 C d_Fo_addParent_48 ?_
        refine r_iload_n C 3 d_Fo_addParent_51 rfl rfl ?_
        obtain ⟨r_8, er_8, h⟩ := bind_some h
        refine r_callV C (As := [.ref (gA X 10), .int x2]) (rest := []) (st1 := [.int r_8]) (c_Fo_greatestOffered X.1.2.1 σ 10 x2 er_8) k_Fo_greatestOffered m_72 (by decide) cel_Fo rfl rfl rfl rfl (Nat.le_of_ble_eq_true rfl) ⟨Nat.le_of_ble_eq_true rfl, Nat.le_of_ble_eq_true rfl⟩ d_Fo_addParent_52 rfl ?_
        refine r_iload_n C 2 d_Fo_addParent_55 rfl rfl ?_
        refine r_iconst C (v := (-1)) d_Fo_addParent_56 (by decide) ?_
        refine r_icmp_ne C (tgt := 64) d_Fo_addParent_57 (by decide) (fun hc_9 => ?_) (fun hc_9 => ?_)
        · rw [if_neg hc_9] at h
          refine r_iconst C (v := 0) d_Fo_addParent_64 (by decide) ?_
          refine r_sub [1, 2, 3, 0] (lv' := [(0, .ref (gA X 1)), (1, .int x1), (2, .int x2), (3, .int x3_7)]) rfl ?_
          exact t_Fo_addParent_65 C hR x1 x2 x3_7 r_8 0 σ h
        · rw [if_pos hc_9] at h
          refine r_iconst C (v := 1) d_Fo_addParent_60 (by decide) ?_
          refine r_goto C (tgt := 65) d_Fo_addParent_61 (by decide) ?_
          refine r_sub [1, 2, 3, 0] (lv' := [(0, .ref (gA X 1)), (1, .int x1), (2, .int x2), (3, .int x3_7)]) rfl ?_
          exact t_Fo_addParent_65 C hR x1 x2 x3_7 r_8 1 σ h
      · rw [if_neg hc_5] at h
        refine r_bipush C (v := (-4)) d_Fo_addParent_31 (by decide) ?_
        cases h
        exact hR _ _ d_Fo_addParent_33
    · rw [if_neg hc_3] at h
      refine r_bipush C (v := (-3)) d_Fo_addParent_20 (by decide) ?_
      cases h
      exact hR _ _ d_Fo_addParent_22
  · rw [if_pos hc_2] at h
    refine r_bipush C (v := (-2)) d_Fo_addParent_8 (by decide) ?_
    cases h
    exact hR _ _ d_Fo_addParent_10
set_option maxHeartbeats 4000000 in
set_option maxRecDepth 100000 in
theorem c_Fo_addParent (l : Launch) (σ : gS) (x1 : Int32) (x2 : Int32) {r : (Int32 × gS)} (h : f_Fo_addParent σ x1 x2 = some r) : gMet l y_Fo_addParent b_Fo_addParent_c 7 (some .int) 2 46 (fun a => [.ref (a 1), .int x1, .int x2]) σ (some (.int r.1)) r.2 := by
  refine gMet_i (by decide +kernel) (fun a => Nat.le_of_ble_eq_true rfl) (fun X _ C hR => ?_)
  refine r_sub [0, 1, 2] (lv' := [(0, .ref (gA X 1)), (1, .int x1), (2, .int x2)]) rfl ?_
  exact t_Fo_addParent_0 C hR x1 x2 σ h
theorem d_Ga_chance_0 : decode b_Ga_chance_c 0 = .ok (.iload_n 3, 1) := by decide +kernel
theorem d_Ga_chance_1 : decode b_Ga_chance_c 1 = .ok (.iconst (-1), 1) := by decide +kernel
theorem d_Ga_chance_2 : decode b_Ga_chance_c 2 = .ok (.if_icmp .eq 7, 3) := by decide +kernel
theorem d_Ga_chance_5 : decode b_Ga_chance_c 5 = .ok (.iconst 3, 1) := by decide +kernel
theorem d_Ga_chance_6 : decode b_Ga_chance_c 6 = .ok (.goto 13, 3) := by decide +kernel
theorem d_Ga_chance_9 : decode b_Ga_chance_c 9 = .ok (.iload_n 2, 1) := by decide +kernel
theorem d_Ga_chance_10 : decode b_Ga_chance_c 10 = .ok (.iconst (-1), 1) := by decide +kernel
theorem d_Ga_chance_11 : decode b_Ga_chance_c 11 = .ok (.if_icmp .eq 7, 3) := by decide +kernel
theorem d_Ga_chance_14 : decode b_Ga_chance_c 14 = .ok (.iconst 2, 1) := by decide +kernel
theorem d_Ga_chance_15 : decode b_Ga_chance_c 15 = .ok (.goto 4, 3) := by decide +kernel
theorem d_Ga_chance_18 : decode b_Ga_chance_c 18 = .ok (.iconst 1, 1) := by decide +kernel
theorem d_Ga_chance_19 : decode b_Ga_chance_c 19 = .ok (.istore 4, 2) := by decide +kernel
theorem d_Ga_chance_21 : decode b_Ga_chance_c 21 = .ok (.aload_n 0, 1) := by decide +kernel
theorem d_Ga_chance_22 : decode b_Ga_chance_c 22 = .ok (.getfield 10, 3) := by decide +kernel
theorem d_Ga_chance_25 : decode b_Ga_chance_c 25 = .ok (.iload_n 1, 1) := by decide +kernel
theorem d_Ga_chance_26 : decode b_Ga_chance_c 26 = .ok (.iload_n 2, 1) := by decide +kernel
theorem d_Ga_chance_27 : decode b_Ga_chance_c 27 = .ok (.iload_n 3, 1) := by decide +kernel
theorem d_Ga_chance_28 : decode b_Ga_chance_c 28 = .ok (.invokevirtual 67, 3) := by decide +kernel
theorem d_Ga_chance_31 : decode b_Ga_chance_c 31 = .ok (.aload_n 0, 1) := by decide +kernel
theorem d_Ga_chance_32 : decode b_Ga_chance_c 32 = .ok (.getfield 10, 3) := by decide +kernel
theorem d_Ga_chance_35 : decode b_Ga_chance_c 35 = .ok (.iconst (-1), 1) := by decide +kernel
theorem d_Ga_chance_36 : decode b_Ga_chance_c 36 = .ok (.iload 4, 2) := by decide +kernel
theorem d_Ga_chance_38 : decode b_Ga_chance_c 38 = .ok (.invokevirtual 71, 3) := by decide +kernel
theorem d_Ga_chance_41 : decode b_Ga_chance_c 41 = .ok (.ireturn, 1) := by decide +kernel
/-! GameRows.chance(III)I -/
set_option maxHeartbeats 4000000 in
set_option maxRecDepth 100000 in
theorem t_Ga_chance_19 {X : gX} {r : (Int32 × gS)} (C : gC X b_Ga_chance_c R_Ga 5 3 72) (hR : ∀ pc lv, decode b_Ga_chance_c pc = .ok (.ireturn, 1) → G X pc lv [.int r.1] r.2) (x1 : Int32) (x2 : Int32) (x3 : Int32) (y0 : Int32) (σ : gS) (h : b_Ga_chance_19 x1 x2 x3 y0 σ = some r) : G X 19 [(0, .ref (gA X 0)), (1, .int x1), (2, .int x2), (3, .int x3)] [.int y0] σ := by
  unfold b_Ga_chance_19 at h
  refine r_istore C (lv' := [(4, .int y0), (0, .ref (gA X 0)), (1, .int x1), (2, .int x2), (3, .int x3)]) d_Ga_chance_19 (by decide) rfl rfl ?_
  refine r_aload_n C 1 d_Ga_chance_21 rfl rfl ?_
  refine q_Ga_10 C d_Ga_chance_22 ?_
  refine r_iload_n C 2 d_Ga_chance_25 rfl rfl ?_
  refine r_iload_n C 3 d_Ga_chance_26 rfl rfl ?_
  refine r_iload_n C 4 d_Ga_chance_27 rfl rfl ?_
  obtain ⟨r_1, er_1, h⟩ := bind_some h
  refine r_callV C (As := [.int x1, .int x2, .int x3]) (rest := []) (st1 := []) (c_Fo_offer X.1.2.1 σ x1 x2 x3 er_1) k_Fo_offer m_76 (by decide) cel_Fo rfl rfl rfl rfl (Nat.le_of_ble_eq_true rfl) ⟨Nat.le_of_ble_eq_true rfl, Nat.le_of_ble_eq_true rfl⟩ d_Ga_chance_28 rfl ?_
  refine r_aload_n C 1 d_Ga_chance_31 rfl rfl ?_
  refine q_Ga_10 C d_Ga_chance_32 ?_
  refine r_iconst C (v := (-1)) d_Ga_chance_35 (by decide) ?_
  refine r_iload C 0 d_Ga_chance_36 rfl ?_
  obtain ⟨r_2, er_2, h⟩ := bind_some h
  refine r_callV C (As := [.int (-1), .int y0]) (rest := []) (st1 := [.int r_2.1]) (c_Fo_addParent X.1.2.1 r_1 (-1) y0 er_2) k_Fo_addParent m_80 (by decide) cel_Fo rfl rfl rfl rfl (Nat.le_of_ble_eq_true rfl) ⟨Nat.le_of_ble_eq_true rfl, Nat.le_of_ble_eq_true rfl⟩ d_Ga_chance_38 rfl ?_
  cases h
  exact hR _ _ d_Ga_chance_41
set_option maxHeartbeats 4000000 in
set_option maxRecDepth 100000 in
theorem t_Ga_chance_0 {X : gX} {r : (Int32 × gS)} (C : gC X b_Ga_chance_c R_Ga 5 3 72) (hR : ∀ pc lv, decode b_Ga_chance_c pc = .ok (.ireturn, 1) → G X pc lv [.int r.1] r.2) (x1 : Int32) (x2 : Int32) (x3 : Int32) (σ : gS) (h : b_Ga_chance_0 x1 x2 x3 σ = some r) : G X 0 [(0, .ref (gA X 0)), (1, .int x1), (2, .int x2), (3, .int x3)] [] σ := by
  unfold b_Ga_chance_0 at h
  refine r_iload_n C 3 d_Ga_chance_0 rfl rfl ?_
  refine r_iconst C (v := (-1)) d_Ga_chance_1 (by decide) ?_
  refine r_icmp_eq C (tgt := 9) d_Ga_chance_2 (by decide) (fun hc_1 => ?_) (fun hc_1 => ?_)
  · rw [if_pos hc_1] at h
    refine r_iload_n C 2 d_Ga_chance_9 rfl rfl ?_
    refine r_iconst C (v := (-1)) d_Ga_chance_10 (by decide) ?_
    refine r_icmp_eq C (tgt := 18) d_Ga_chance_11 (by decide) (fun hc_2 => ?_) (fun hc_2 => ?_)
    · rw [if_pos hc_2] at h
      refine r_iconst C (v := 1) d_Ga_chance_18 (by decide) ?_
      exact t_Ga_chance_19 C hR x1 x2 x3 1 σ h
    · rw [if_neg hc_2] at h
      refine r_iconst C (v := 2) d_Ga_chance_14 (by decide) ?_
      refine r_goto C (tgt := 19) d_Ga_chance_15 (by decide) ?_
      exact t_Ga_chance_19 C hR x1 x2 x3 2 σ h
  · rw [if_neg hc_1] at h
    refine r_iconst C (v := 3) d_Ga_chance_5 (by decide) ?_
    refine r_goto C (tgt := 19) d_Ga_chance_6 (by decide) ?_
    exact t_Ga_chance_19 C hR x1 x2 x3 3 σ h
set_option maxHeartbeats 4000000 in
set_option maxRecDepth 100000 in
theorem c_Ga_chance (l : Launch) (σ : gS) (x1 : Int32) (x2 : Int32) (x3 : Int32) {r : (Int32 × gS)} (h : f_Ga_chance σ x1 x2 x3 = some r) : gMet l y_Ga_chance b_Ga_chance_c 5 (some .int) 3 72 (fun a => [.ref (a 0), .int x1, .int x2, .int x3]) σ (some (.int r.1)) r.2 := by
  refine gMet_i (by decide +kernel) (fun a => Nat.le_of_ble_eq_true rfl) (fun X _ C hR => ?_)
  refine r_sub [0, 1, 2, 3] (lv' := [(0, .ref (gA X 0)), (1, .int x1), (2, .int x2), (3, .int x3)]) rfl ?_
  exact t_Ga_chance_0 C hR x1 x2 x3 σ h
theorem d_Fo_hasSet_0 : decode b_Fo_hasSet_c 0 = .ok (.iload_n 1, 1) := by decide +kernel
theorem d_Fo_hasSet_1 : decode b_Fo_hasSet_c 1 = .ok (.ifCond .lt 15, 3) := by decide +kernel
theorem d_Fo_hasSet_4 : decode b_Fo_hasSet_c 4 = .ok (.iload_n 1, 1) := by decide +kernel
theorem d_Fo_hasSet_5 : decode b_Fo_hasSet_c 5 = .ok (.aload_n 0, 1) := by decide +kernel
theorem d_Fo_hasSet_6 : decode b_Fo_hasSet_c 6 = .ok (.getfield 15, 3) := by decide +kernel
theorem d_Fo_hasSet_9 : decode b_Fo_hasSet_c 9 = .ok (.if_icmp .ge 7, 3) := by decide +kernel
theorem d_Fo_hasSet_12 : decode b_Fo_hasSet_c 12 = .ok (.iconst 1, 1) := by decide +kernel
theorem d_Fo_hasSet_13 : decode b_Fo_hasSet_c 13 = .ok (.goto 4, 3) := by decide +kernel
theorem d_Fo_hasSet_16 : decode b_Fo_hasSet_c 16 = .ok (.iconst 0, 1) := by decide +kernel
theorem d_Fo_hasSet_17 : decode b_Fo_hasSet_c 17 = .ok (.ireturn, 1) := by decide +kernel
/-! GameRows$Forest.hasSet(I)Z -/
set_option maxHeartbeats 4000000 in
set_option maxRecDepth 100000 in
theorem t_Fo_hasSet_0 {X : gX} {r : Int32} {σ : gS} (C : gC X b_Fo_hasSet_c R_Fo 2 0 0) (hR : ∀ pc lv, isB r = true → decode b_Fo_hasSet_c pc = .ok (.ireturn, 1) → G X pc lv [.int r] σ) (x1 : Int32) (h : b_Fo_hasSet_0 σ x1 = some r) : G X 0 [(0, .ref (gA X 1)), (1, .int x1)] [] σ := by
  unfold b_Fo_hasSet_0 at h
  refine r_iload_n C 1 d_Fo_hasSet_0 rfl rfl ?_
  refine r_if_lt C (tgt := 16) d_Fo_hasSet_1 (by decide) (fun hc_1 => ?_) (fun hc_1 => ?_)
  · rw [if_pos hc_1] at h
    refine r_iconst C (v := 0) d_Fo_hasSet_16 (by decide) ?_
    obtain ⟨hB, h⟩ := ck_some h
    cases h
    exact hR _ _ hB d_Fo_hasSet_17
  · rw [if_neg hc_1] at h
    refine r_iload_n C 1 d_Fo_hasSet_4 rfl rfl ?_
    refine r_aload_n C 0 d_Fo_hasSet_5 rfl rfl ?_
    refine q_Fo_15 C d_Fo_hasSet_6 ?_
    refine r_icmp_ge C (tgt := 16) d_Fo_hasSet_9 (by decide) (fun hc_2 => ?_) (fun hc_2 => ?_)
    · rw [if_pos hc_2] at h
      refine r_iconst C (v := 0) d_Fo_hasSet_16 (by decide) ?_
      obtain ⟨hB, h⟩ := ck_some h
      cases h
      exact hR _ _ hB d_Fo_hasSet_17
    · rw [if_neg hc_2] at h
      refine r_iconst C (v := 1) d_Fo_hasSet_12 (by decide) ?_
      refine r_goto C (tgt := 17) d_Fo_hasSet_13 (by decide) ?_
      obtain ⟨hB, h⟩ := ck_some h
      cases h
      exact hR _ _ hB d_Fo_hasSet_17
set_option maxHeartbeats 4000000 in
set_option maxRecDepth 100000 in
theorem c_Fo_hasSet (l : Launch) (σ : gS) (x1 : Int32) {r : Int32} (h : f_Fo_hasSet σ x1 = some r) : gMet l y_Fo_hasSet b_Fo_hasSet_c 2 (some .boolean) 0 0 (fun a => [.ref (a 1), .int x1]) σ (some (.int r)) σ := by
  refine gMet_z (by decide +kernel) (fun a => Nat.le_of_ble_eq_true rfl) (fun X _ C hR => ?_)
  refine r_sub [0, 1] (lv' := [(0, .ref (gA X 1)), (1, .int x1)]) rfl ?_
  exact t_Fo_hasSet_0 C hR x1 h
theorem d_Ga_node_0 : decode b_Ga_node_c 0 = .ok (.aload_n 0, 1) := by decide +kernel
theorem d_Ga_node_1 : decode b_Ga_node_c 1 = .ok (.getfield 10, 3) := by decide +kernel
theorem d_Ga_node_4 : decode b_Ga_node_c 4 = .ok (.iload_n 1, 1) := by decide +kernel
theorem d_Ga_node_5 : decode b_Ga_node_c 5 = .ok (.invokevirtual 74, 3) := by decide +kernel
theorem d_Ga_node_8 : decode b_Ga_node_c 8 = .ok (.ifCond .ne 6, 3) := by decide +kernel
theorem d_Ga_node_11 : decode b_Ga_node_c 11 = .ok (.bipush (-2), 2) := by decide +kernel
theorem d_Ga_node_13 : decode b_Ga_node_c 13 = .ok (.ireturn, 1) := by decide +kernel
theorem d_Ga_node_14 : decode b_Ga_node_c 14 = .ok (.aload_n 0, 1) := by decide +kernel
theorem d_Ga_node_15 : decode b_Ga_node_c 15 = .ok (.getfield 10, 3) := by decide +kernel
theorem d_Ga_node_18 : decode b_Ga_node_c 18 = .ok (.iload_n 2, 1) := by decide +kernel
theorem d_Ga_node_19 : decode b_Ga_node_c 19 = .ok (.iload_n 3, 1) := by decide +kernel
theorem d_Ga_node_20 : decode b_Ga_node_c 20 = .ok (.iload 4, 2) := by decide +kernel
theorem d_Ga_node_22 : decode b_Ga_node_c 22 = .ok (.invokevirtual 67, 3) := by decide +kernel
theorem d_Ga_node_25 : decode b_Ga_node_c 25 = .ok (.aload_n 0, 1) := by decide +kernel
theorem d_Ga_node_26 : decode b_Ga_node_c 26 = .ok (.getfield 10, 3) := by decide +kernel
theorem d_Ga_node_29 : decode b_Ga_node_c 29 = .ok (.iload_n 1, 1) := by decide +kernel
theorem d_Ga_node_30 : decode b_Ga_node_c 30 = .ok (.aload_n 0, 1) := by decide +kernel
theorem d_Ga_node_31 : decode b_Ga_node_c 31 = .ok (.getfield 10, 3) := by decide +kernel
theorem d_Ga_node_34 : decode b_Ga_node_c 34 = .ok (.getfield 77, 3) := by decide +kernel
theorem d_Ga_node_37 : decode b_Ga_node_c 37 = .ok (.iload_n 1, 1) := by decide +kernel
theorem d_Ga_node_38 : decode b_Ga_node_c 38 = .ok (.iaload, 1) := by decide +kernel
theorem d_Ga_node_39 : decode b_Ga_node_c 39 = .ok (.invokevirtual 71, 3) := by decide +kernel
theorem d_Ga_node_42 : decode b_Ga_node_c 42 = .ok (.ireturn, 1) := by decide +kernel
/-! GameRows.node(IIII)I -/
set_option maxHeartbeats 4000000 in
set_option maxRecDepth 100000 in
theorem t_Ga_node_0 {X : gX} {r : (Int32 × gS)} (C : gC X b_Ga_node_c R_Ga 5 3 72) (hR : ∀ pc lv, decode b_Ga_node_c pc = .ok (.ireturn, 1) → G X pc lv [.int r.1] r.2) (x1 : Int32) (x2 : Int32) (x3 : Int32) (x4 : Int32) (σ : gS) (h : b_Ga_node_0 x1 x2 x3 x4 σ = some r) : G X 0 [(0, .ref (gA X 0)), (1, .int x1), (2, .int x2), (3, .int x3), (4, .int x4)] [] σ := by
  unfold b_Ga_node_0 at h
  refine r_aload_n C 0 d_Ga_node_0 rfl rfl ?_
  refine q_Ga_10 C d_Ga_node_1 ?_
  refine r_iload_n C 1 d_Ga_node_4 rfl rfl ?_
  obtain ⟨r_1, er_1, h⟩ := bind_some h
  refine r_callV C (As := [.int x1]) (rest := []) (st1 := [.int r_1]) (c_Fo_hasSet X.1.2.1 σ x1 er_1) k_Fo_hasSet m_84 (by decide) cel_Fo rfl rfl rfl rfl (Nat.le_of_ble_eq_true rfl) ⟨Nat.le_of_ble_eq_true rfl, Nat.le_of_ble_eq_true rfl⟩ d_Ga_node_5 rfl ?_
  refine r_if_ne C (tgt := 14) d_Ga_node_8 (by decide) (fun hc_2 => ?_) (fun hc_2 => ?_)
  · rw [if_neg hc_2] at h
    refine r_aload_n C 0 d_Ga_node_14 rfl rfl ?_
    refine q_Ga_10 C d_Ga_node_15 ?_
    refine r_iload_n C 2 d_Ga_node_18 rfl rfl ?_
    refine r_iload_n C 3 d_Ga_node_19 rfl rfl ?_
    refine r_iload C 4 d_Ga_node_20 rfl ?_
    obtain ⟨r_3, er_3, h⟩ := bind_some h
    refine r_callV C (As := [.int x2, .int x3, .int x4]) (rest := []) (st1 := []) (c_Fo_offer X.1.2.1 σ x2 x3 x4 er_3) k_Fo_offer m_76 (by decide) cel_Fo rfl rfl rfl rfl (Nat.le_of_ble_eq_true rfl) ⟨Nat.le_of_ble_eq_true rfl, Nat.le_of_ble_eq_true rfl⟩ d_Ga_node_22 rfl ?_
    refine r_aload_n C 0 d_Ga_node_25 rfl rfl ?_
    refine q_Ga_10 C d_Ga_node_26 ?_
    refine r_iload_n C 1 d_Ga_node_29 rfl rfl ?_
    refine r_aload_n C 0 d_Ga_node_30 rfl rfl ?_
    refine q_Ga_10 C d_Ga_node_31 ?_
    refine q_Ga_77 C d_Ga_node_34 ?_
    refine r_iload_n C 1 d_Ga_node_37 rfl rfl ?_
    obtain ⟨hi_4, h⟩ := ck_some h
    refine r_iald C hi_4 d_Ga_node_38 ?_
    obtain ⟨r_5, er_5, h⟩ := bind_some h
    refine r_callV C (As := [.int x1, .int (gI r_3 5 x1.toNatClampNeg)]) (rest := []) (st1 := [.int r_5.1]) (c_Fo_addParent X.1.2.1 r_3 x1 (gI r_3 5 x1.toNatClampNeg) er_5) k_Fo_addParent m_80 (by decide) cel_Fo rfl rfl rfl rfl (Nat.le_of_ble_eq_true rfl) ⟨Nat.le_of_ble_eq_true rfl, Nat.le_of_ble_eq_true rfl⟩ d_Ga_node_39 rfl ?_
    cases h
    exact hR _ _ d_Ga_node_42
  · rw [if_pos hc_2] at h
    refine r_bipush C (v := (-2)) d_Ga_node_11 (by decide) ?_
    cases h
    exact hR _ _ d_Ga_node_13
set_option maxHeartbeats 4000000 in
set_option maxRecDepth 100000 in
theorem c_Ga_node (l : Launch) (σ : gS) (x1 : Int32) (x2 : Int32) (x3 : Int32) (x4 : Int32) {r : (Int32 × gS)} (h : f_Ga_node σ x1 x2 x3 x4 = some r) : gMet l y_Ga_node b_Ga_node_c 5 (some .int) 3 72 (fun a => [.ref (a 0), .int x1, .int x2, .int x3, .int x4]) σ (some (.int r.1)) r.2 := by
  refine gMet_i (by decide +kernel) (fun a => Nat.le_of_ble_eq_true rfl) (fun X _ C hR => ?_)
  refine r_sub [0, 1, 2, 3, 4] (lv' := [(0, .ref (gA X 0)), (1, .int x1), (2, .int x2), (3, .int x3), (4, .int x4)]) rfl ?_
  exact t_Ga_node_0 C hR x1 x2 x3 x4 σ h
theorem d_Ga_isEmpty_0 : decode b_Ga_isEmpty_c 0 = .ok (.aload_n 0, 1) := by decide +kernel
theorem d_Ga_isEmpty_1 : decode b_Ga_isEmpty_c 1 = .ok (.getfield 10, 3) := by decide +kernel
theorem d_Ga_isEmpty_4 : decode b_Ga_isEmpty_c 4 = .ok (.getfield 86, 3) := by decide +kernel
theorem d_Ga_isEmpty_7 : decode b_Ga_isEmpty_c 7 = .ok (.ifCond .ne 7, 3) := by decide +kernel
theorem d_Ga_isEmpty_10 : decode b_Ga_isEmpty_c 10 = .ok (.iconst 1, 1) := by decide +kernel
theorem d_Ga_isEmpty_11 : decode b_Ga_isEmpty_c 11 = .ok (.goto 4, 3) := by decide +kernel
theorem d_Ga_isEmpty_14 : decode b_Ga_isEmpty_c 14 = .ok (.iconst 0, 1) := by decide +kernel
theorem d_Ga_isEmpty_15 : decode b_Ga_isEmpty_c 15 = .ok (.ireturn, 1) := by decide +kernel
/-! GameRows.isEmpty()Z -/
set_option maxHeartbeats 4000000 in
set_option maxRecDepth 100000 in
theorem t_Ga_isEmpty_0 {X : gX} {r : Int32} {σ : gS} (C : gC X b_Ga_isEmpty_c R_Ga 1 0 0) (hR : ∀ pc lv, isB r = true → decode b_Ga_isEmpty_c pc = .ok (.ireturn, 1) → G X pc lv [.int r] σ)  (h : b_Ga_isEmpty_0 σ = some r) : G X 0 [(0, .ref (gA X 0))] [] σ := by
  unfold b_Ga_isEmpty_0 at h
  refine r_aload_n C 0 d_Ga_isEmpty_0 rfl rfl ?_
  refine q_Ga_10 C d_Ga_isEmpty_1 ?_
  refine q_Ga_86 C d_Ga_isEmpty_4 ?_
  refine r_if_ne C (tgt := 14) d_Ga_isEmpty_7 (by decide) (fun hc_1 => ?_) (fun hc_1 => ?_)
  · rw [if_neg hc_1] at h
    refine r_iconst C (v := 0) d_Ga_isEmpty_14 (by decide) ?_
    obtain ⟨hB, h⟩ := ck_some h
    cases h
    exact hR _ _ hB d_Ga_isEmpty_15
  · rw [if_pos hc_1] at h
    refine r_iconst C (v := 1) d_Ga_isEmpty_10 (by decide) ?_
    refine r_goto C (tgt := 15) d_Ga_isEmpty_11 (by decide) ?_
    obtain ⟨hB, h⟩ := ck_some h
    cases h
    exact hR _ _ hB d_Ga_isEmpty_15
set_option maxHeartbeats 4000000 in
set_option maxRecDepth 100000 in
theorem c_Ga_isEmpty (l : Launch) (σ : gS)  {r : Int32} (h : f_Ga_isEmpty σ = some r) : gMet l y_Ga_isEmpty b_Ga_isEmpty_c 1 (some .boolean) 0 0 (fun a => [.ref (a 0)]) σ (some (.int r)) σ := by
  refine gMet_z (by decide +kernel) (fun a => Nat.le_of_ble_eq_true rfl) (fun X _ C hR => ?_)
  refine r_sub [0] (lv' := [(0, .ref (gA X 0))]) rfl ?_
  exact t_Ga_isEmpty_0 C hR  h
theorem d_Fo_root_0 : decode b_Fo_root_c 0 = .ok (.aload_n 0, 1) := by decide +kernel
theorem d_Fo_root_1 : decode b_Fo_root_c 1 = .ok (.getfield 9, 3) := by decide +kernel
theorem d_Fo_root_4 : decode b_Fo_root_c 4 = .ok (.iconst 1, 1) := by decide +kernel
theorem d_Fo_root_5 : decode b_Fo_root_c 5 = .ok (.isub, 1) := by decide +kernel
theorem d_Fo_root_6 : decode b_Fo_root_c 6 = .ok (.ireturn, 1) := by decide +kernel
/-! GameRows$Forest.root()I -/
set_option maxHeartbeats 4000000 in
set_option maxRecDepth 100000 in
theorem t_Fo_root_0 {X : gX} {r : Int32} {σ : gS} (C : gC X b_Fo_root_c R_Fo 1 0 0) (hR : ∀ pc lv, decode b_Fo_root_c pc = .ok (.ireturn, 1) → G X pc lv [.int r] σ)  (h : b_Fo_root_0 σ = some r) : G X 0 [(0, .ref (gA X 1))] [] σ := by
  unfold b_Fo_root_0 at h
  refine r_aload_n C 0 d_Fo_root_0 rfl rfl ?_
  refine q_Fo_9 C d_Fo_root_1 ?_
  refine r_iconst C (v := 1) d_Fo_root_4 (by decide) ?_
  refine r_isub C d_Fo_root_5 ?_
  cases h
  exact hR _ _ d_Fo_root_6
set_option maxHeartbeats 4000000 in
set_option maxRecDepth 100000 in
theorem c_Fo_root (l : Launch) (σ : gS)  {r : Int32} (h : f_Fo_root σ = some r) : gMet l y_Fo_root b_Fo_root_c 1 (some .int) 0 0 (fun a => [.ref (a 1)]) σ (some (.int r)) σ := by
  refine gMet_i (by decide +kernel) (fun a => Nat.le_of_ble_eq_true rfl) (fun X _ C hR => ?_)
  refine r_sub [0] (lv' := [(0, .ref (gA X 1))]) rfl ?_
  exact t_Fo_root_0 C hR  h
theorem d_Fo_nodesInTree_0 : decode b_Fo_nodesInTree_c 0 = .ok (.aload_n 0, 1) := by decide +kernel
theorem d_Fo_nodesInTree_1 : decode b_Fo_nodesInTree_c 1 = .ok (.getfield 9, 3) := by decide +kernel
theorem d_Fo_nodesInTree_4 : decode b_Fo_nodesInTree_c 4 = .ok (.ifCond .ne 7, 3) := by decide +kernel
theorem d_Fo_nodesInTree_7 : decode b_Fo_nodesInTree_c 7 = .ok (.lconst 0, 1) := by decide +kernel
theorem d_Fo_nodesInTree_8 : decode b_Fo_nodesInTree_c 8 = .ok (.goto 12, 3) := by decide +kernel
theorem d_Fo_nodesInTree_11 : decode b_Fo_nodesInTree_c 11 = .ok (.aload_n 0, 1) := by decide +kernel
theorem d_Fo_nodesInTree_12 : decode b_Fo_nodesInTree_c 12 = .ok (.getfield 49, 3) := by decide +kernel
theorem d_Fo_nodesInTree_15 : decode b_Fo_nodesInTree_c 15 = .ok (.aload_n 0, 1) := by decide +kernel
theorem d_Fo_nodesInTree_16 : decode b_Fo_nodesInTree_c 16 = .ok (.invokevirtual 99, 3) := by decide +kernel
theorem d_Fo_nodesInTree_19 : decode b_Fo_nodesInTree_c 19 = .ok (.laload, 1) := by decide +kernel
theorem d_Fo_nodesInTree_20 : decode b_Fo_nodesInTree_c 20 = .ok (.lreturn, 1) := by decide +kernel
/-! GameRows$Forest.nodesInTree()J -/
set_option maxHeartbeats 4000000 in
set_option maxRecDepth 100000 in
theorem t_Fo_nodesInTree_0 {X : gX} {r : Int64} {σ : gS} (C : gC X b_Fo_nodesInTree_c R_Fo 1 1 20) (hR : ∀ pc lv, decode b_Fo_nodesInTree_c pc = .ok (.lreturn, 1) → G X pc lv [.long r] σ)  (h : b_Fo_nodesInTree_0 σ = some r) : G X 0 [(0, .ref (gA X 1))] [] σ := by
  unfold b_Fo_nodesInTree_0 at h
  refine r_aload_n C 0 d_Fo_nodesInTree_0 rfl rfl ?_
  refine q_Fo_9 C d_Fo_nodesInTree_1 ?_
  refine r_if_ne C (tgt := 11) d_Fo_nodesInTree_4 (by decide) (fun hc_1 => ?_) (fun hc_1 => ?_)
  · rw [if_neg hc_1] at h
    refine r_aload_n C 0 d_Fo_nodesInTree_11 rfl rfl ?_
    refine q_Fo_49 C d_Fo_nodesInTree_12 ?_
    refine r_aload_n C 0 d_Fo_nodesInTree_15 rfl rfl ?_
    obtain ⟨r_2, er_2, h⟩ := bind_some h
    refine r_callV C (As := []) (rest := [.ref (gA X 11)]) (st1 := [.int r_2, .ref (gA X 11)]) (c_Fo_root X.1.2.1 σ  er_2) k_Fo_root m_90 (by decide) cel_Fo rfl rfl rfl rfl (Nat.le_of_ble_eq_true rfl) ⟨Nat.le_of_ble_eq_true rfl, Nat.le_of_ble_eq_true rfl⟩ d_Fo_nodesInTree_16 rfl ?_
    obtain ⟨hi_3, h⟩ := ck_some h
    refine r_lald C hi_3 d_Fo_nodesInTree_19 ?_
    cases h
    exact hR _ _ d_Fo_nodesInTree_20
  · rw [if_pos hc_1] at h
    refine r_lconst C (v := 0) d_Fo_nodesInTree_7 (by decide) ?_
    refine r_goto C (tgt := 20) d_Fo_nodesInTree_8 (by decide) ?_
    cases h
    exact hR _ _ d_Fo_nodesInTree_20
set_option maxHeartbeats 4000000 in
set_option maxRecDepth 100000 in
theorem c_Fo_nodesInTree (l : Launch) (σ : gS)  {r : Int64} (h : f_Fo_nodesInTree σ = some r) : gMet l y_Fo_nodesInTree b_Fo_nodesInTree_c 1 (some .long) 1 20 (fun a => [.ref (a 1)]) σ (some (.long r)) σ := by
  refine gMet_l (by decide +kernel) (fun a => Nat.le_of_ble_eq_true rfl) (fun X _ C hR => ?_)
  refine r_sub [0] (lv' := [(0, .ref (gA X 1))]) rfl ?_
  exact t_Fo_nodesInTree_0 C hR  h
theorem d_Lo_bitCount_0 : decode b_Lo_bitCount_c 0 = .ok (.lload_n 0, 1) := by decide +kernel
theorem d_Lo_bitCount_1 : decode b_Lo_bitCount_c 1 = .ok (.lload_n 0, 1) := by decide +kernel
theorem d_Lo_bitCount_2 : decode b_Lo_bitCount_c 2 = .ok (.iconst 1, 1) := by decide +kernel
theorem d_Lo_bitCount_3 : decode b_Lo_bitCount_c 3 = .ok (.lushr, 1) := by decide +kernel
theorem d_Lo_bitCount_4 : decode b_Lo_bitCount_c 4 = .ok (.ldc2_w 314, 3) := by decide +kernel
theorem d_Lo_bitCount_7 : decode b_Lo_bitCount_c 7 = .ok (.land, 1) := by decide +kernel
theorem d_Lo_bitCount_8 : decode b_Lo_bitCount_c 8 = .ok (.lsub, 1) := by decide +kernel
theorem d_Lo_bitCount_9 : decode b_Lo_bitCount_c 9 = .ok (.lstore_n 0, 1) := by decide +kernel
theorem d_Lo_bitCount_10 : decode b_Lo_bitCount_c 10 = .ok (.lload_n 0, 1) := by decide +kernel
theorem d_Lo_bitCount_11 : decode b_Lo_bitCount_c 11 = .ok (.ldc2_w 316, 3) := by decide +kernel
theorem d_Lo_bitCount_14 : decode b_Lo_bitCount_c 14 = .ok (.land, 1) := by decide +kernel
theorem d_Lo_bitCount_15 : decode b_Lo_bitCount_c 15 = .ok (.lload_n 0, 1) := by decide +kernel
theorem d_Lo_bitCount_16 : decode b_Lo_bitCount_c 16 = .ok (.iconst 2, 1) := by decide +kernel
theorem d_Lo_bitCount_17 : decode b_Lo_bitCount_c 17 = .ok (.lushr, 1) := by decide +kernel
theorem d_Lo_bitCount_18 : decode b_Lo_bitCount_c 18 = .ok (.ldc2_w 316, 3) := by decide +kernel
theorem d_Lo_bitCount_21 : decode b_Lo_bitCount_c 21 = .ok (.land, 1) := by decide +kernel
theorem d_Lo_bitCount_22 : decode b_Lo_bitCount_c 22 = .ok (.ladd, 1) := by decide +kernel
theorem d_Lo_bitCount_23 : decode b_Lo_bitCount_c 23 = .ok (.lstore_n 0, 1) := by decide +kernel
theorem d_Lo_bitCount_24 : decode b_Lo_bitCount_c 24 = .ok (.lload_n 0, 1) := by decide +kernel
theorem d_Lo_bitCount_25 : decode b_Lo_bitCount_c 25 = .ok (.lload_n 0, 1) := by decide +kernel
theorem d_Lo_bitCount_26 : decode b_Lo_bitCount_c 26 = .ok (.iconst 4, 1) := by decide +kernel
theorem d_Lo_bitCount_27 : decode b_Lo_bitCount_c 27 = .ok (.lushr, 1) := by decide +kernel
theorem d_Lo_bitCount_28 : decode b_Lo_bitCount_c 28 = .ok (.ladd, 1) := by decide +kernel
theorem d_Lo_bitCount_29 : decode b_Lo_bitCount_c 29 = .ok (.ldc2_w 318, 3) := by decide +kernel
theorem d_Lo_bitCount_32 : decode b_Lo_bitCount_c 32 = .ok (.land, 1) := by decide +kernel
theorem d_Lo_bitCount_33 : decode b_Lo_bitCount_c 33 = .ok (.lstore_n 0, 1) := by decide +kernel
theorem d_Lo_bitCount_34 : decode b_Lo_bitCount_c 34 = .ok (.lload_n 0, 1) := by decide +kernel
theorem d_Lo_bitCount_35 : decode b_Lo_bitCount_c 35 = .ok (.lload_n 0, 1) := by decide +kernel
theorem d_Lo_bitCount_36 : decode b_Lo_bitCount_c 36 = .ok (.bipush 8, 2) := by decide +kernel
theorem d_Lo_bitCount_38 : decode b_Lo_bitCount_c 38 = .ok (.lushr, 1) := by decide +kernel
theorem d_Lo_bitCount_39 : decode b_Lo_bitCount_c 39 = .ok (.ladd, 1) := by decide +kernel
theorem d_Lo_bitCount_40 : decode b_Lo_bitCount_c 40 = .ok (.lstore_n 0, 1) := by decide +kernel
theorem d_Lo_bitCount_41 : decode b_Lo_bitCount_c 41 = .ok (.lload_n 0, 1) := by decide +kernel
theorem d_Lo_bitCount_42 : decode b_Lo_bitCount_c 42 = .ok (.lload_n 0, 1) := by decide +kernel
theorem d_Lo_bitCount_43 : decode b_Lo_bitCount_c 43 = .ok (.bipush 16, 2) := by decide +kernel
theorem d_Lo_bitCount_45 : decode b_Lo_bitCount_c 45 = .ok (.lushr, 1) := by decide +kernel
theorem d_Lo_bitCount_46 : decode b_Lo_bitCount_c 46 = .ok (.ladd, 1) := by decide +kernel
theorem d_Lo_bitCount_47 : decode b_Lo_bitCount_c 47 = .ok (.lstore_n 0, 1) := by decide +kernel
theorem d_Lo_bitCount_48 : decode b_Lo_bitCount_c 48 = .ok (.lload_n 0, 1) := by decide +kernel
theorem d_Lo_bitCount_49 : decode b_Lo_bitCount_c 49 = .ok (.lload_n 0, 1) := by decide +kernel
theorem d_Lo_bitCount_50 : decode b_Lo_bitCount_c 50 = .ok (.bipush 32, 2) := by decide +kernel
theorem d_Lo_bitCount_52 : decode b_Lo_bitCount_c 52 = .ok (.lushr, 1) := by decide +kernel
theorem d_Lo_bitCount_53 : decode b_Lo_bitCount_c 53 = .ok (.ladd, 1) := by decide +kernel
theorem d_Lo_bitCount_54 : decode b_Lo_bitCount_c 54 = .ok (.lstore_n 0, 1) := by decide +kernel
theorem d_Lo_bitCount_55 : decode b_Lo_bitCount_c 55 = .ok (.lload_n 0, 1) := by decide +kernel
theorem d_Lo_bitCount_56 : decode b_Lo_bitCount_c 56 = .ok (.l2i, 1) := by decide +kernel
theorem d_Lo_bitCount_57 : decode b_Lo_bitCount_c 57 = .ok (.bipush 127, 2) := by decide +kernel
theorem d_Lo_bitCount_59 : decode b_Lo_bitCount_c 59 = .ok (.iand, 1) := by decide +kernel
theorem d_Lo_bitCount_60 : decode b_Lo_bitCount_c 60 = .ok (.ireturn, 1) := by decide +kernel
/-! java/lang/Long.bitCount(J)I -/
set_option maxHeartbeats 4000000 in
set_option maxRecDepth 100000 in
theorem t_Lo_bitCount_0 {X : gX} {r : Int32} {σ : gS} (C : gC X b_Lo_bitCount_c R_Lo 2 0 0) (hR : ∀ pc lv, decode b_Lo_bitCount_c pc = .ok (.ireturn, 1) → G X pc lv [.int r] σ) (x0 : Int64) (h : b_Lo_bitCount_0 x0 = some r) : G X 0 [(0, .long x0)] [] σ := by
  unfold b_Lo_bitCount_0 at h
  refine r_lload_n C 0 d_Lo_bitCount_0 rfl rfl ?_
  refine r_lload_n C 0 d_Lo_bitCount_1 rfl rfl ?_
  refine r_iconst C (v := 1) d_Lo_bitCount_2 (by decide) ?_
  refine r_lushr C d_Lo_bitCount_3 ?_
  refine r_ldc2 C (v := 6148914691236517205) m_94 d_Lo_bitCount_4 ?_
  refine r_land C d_Lo_bitCount_7 ?_
  refine r_lsub C d_Lo_bitCount_8 ?_
  obtain ⟨x0_1, ex0_1, h⟩ := bnd_some h
  refine r_lstore_n C (lv' := [(0, .long x0_1)]) d_Lo_bitCount_9 rfl (by decide) ex0_1 rfl ?_
  refine r_lload_n C 0 d_Lo_bitCount_10 rfl rfl ?_
  refine r_ldc2 C (v := 3689348814741910323) m_95 d_Lo_bitCount_11 ?_
  refine r_land C d_Lo_bitCount_14 ?_
  refine r_lload_n C 0 d_Lo_bitCount_15 rfl rfl ?_
  refine r_iconst C (v := 2) d_Lo_bitCount_16 (by decide) ?_
  refine r_lushr C d_Lo_bitCount_17 ?_
  refine r_ldc2 C (v := 3689348814741910323) m_95 d_Lo_bitCount_18 ?_
  refine r_land C d_Lo_bitCount_21 ?_
  refine r_ladd C d_Lo_bitCount_22 ?_
  obtain ⟨x0_2, ex0_2, h⟩ := bnd_some h
  refine r_lstore_n C (lv' := [(0, .long x0_2)]) d_Lo_bitCount_23 rfl (by decide) ex0_2 rfl ?_
  refine r_lload_n C 0 d_Lo_bitCount_24 rfl rfl ?_
  refine r_lload_n C 0 d_Lo_bitCount_25 rfl rfl ?_
  refine r_iconst C (v := 4) d_Lo_bitCount_26 (by decide) ?_
  refine r_lushr C d_Lo_bitCount_27 ?_
  refine r_ladd C d_Lo_bitCount_28 ?_
  refine r_ldc2 C (v := 1085102592571150095) m_96 d_Lo_bitCount_29 ?_
  refine r_land C d_Lo_bitCount_32 ?_
  obtain ⟨x0_3, ex0_3, h⟩ := bnd_some h
  refine r_lstore_n C (lv' := [(0, .long x0_3)]) d_Lo_bitCount_33 rfl (by decide) ex0_3 rfl ?_
  refine r_lload_n C 0 d_Lo_bitCount_34 rfl rfl ?_
  refine r_lload_n C 0 d_Lo_bitCount_35 rfl rfl ?_
  refine r_bipush C (v := 8) d_Lo_bitCount_36 (by decide) ?_
  refine r_lushr C d_Lo_bitCount_38 ?_
  refine r_ladd C d_Lo_bitCount_39 ?_
  obtain ⟨x0_4, ex0_4, h⟩ := bnd_some h
  refine r_lstore_n C (lv' := [(0, .long x0_4)]) d_Lo_bitCount_40 rfl (by decide) ex0_4 rfl ?_
  refine r_lload_n C 0 d_Lo_bitCount_41 rfl rfl ?_
  refine r_lload_n C 0 d_Lo_bitCount_42 rfl rfl ?_
  refine r_bipush C (v := 16) d_Lo_bitCount_43 (by decide) ?_
  refine r_lushr C d_Lo_bitCount_45 ?_
  refine r_ladd C d_Lo_bitCount_46 ?_
  obtain ⟨x0_5, ex0_5, h⟩ := bnd_some h
  refine r_lstore_n C (lv' := [(0, .long x0_5)]) d_Lo_bitCount_47 rfl (by decide) ex0_5 rfl ?_
  refine r_lload_n C 0 d_Lo_bitCount_48 rfl rfl ?_
  refine r_lload_n C 0 d_Lo_bitCount_49 rfl rfl ?_
  refine r_bipush C (v := 32) d_Lo_bitCount_50 (by decide) ?_
  refine r_lushr C d_Lo_bitCount_52 ?_
  refine r_ladd C d_Lo_bitCount_53 ?_
  obtain ⟨x0_6, ex0_6, h⟩ := bnd_some h
  refine r_lstore_n C (lv' := [(0, .long x0_6)]) d_Lo_bitCount_54 rfl (by decide) ex0_6 rfl ?_
  refine r_lload_n C 0 d_Lo_bitCount_55 rfl rfl ?_
  refine r_l2i C d_Lo_bitCount_56 ?_
  refine r_bipush C (v := 127) d_Lo_bitCount_57 (by decide) ?_
  refine r_iand C d_Lo_bitCount_59 ?_
  cases h
  exact hR _ _ d_Lo_bitCount_60
set_option maxHeartbeats 4000000 in
set_option maxRecDepth 100000 in
theorem c_Lo_bitCount (l : Launch) (σ : gS) (x0 : Int64) {r : Int32} (h : f_Lo_bitCount x0 = some r) : gMet l y_Lo_bitCount b_Lo_bitCount_c 2 (some .int) 0 0 (fun a => [.long x0]) σ (some (.int r)) σ := by
  refine gMet_i (by decide +kernel) (fun a => Nat.le_of_ble_eq_true rfl) (fun X _ C hR => ?_)
  refine r_sub [0] (lv' := [(0, .long x0)]) rfl ?_
  exact t_Lo_bitCount_0 C hR x0 h
