theorem d_Po_find_0 : decode b_Po_find_c 0 = .ok (.iload_n 1, 1) := by decide +kernel
theorem d_Po_find_1 : decode b_Po_find_c 1 = .ok (.invokestatic 36, 3) := by decide +kernel
theorem d_Po_find_4 : decode b_Po_find_c 4 = .ok (.istore_n 2, 1) := by decide +kernel
theorem d_Po_find_5 : decode b_Po_find_c 5 = .ok (.aload_n 0, 1) := by decide +kernel
theorem d_Po_find_6 : decode b_Po_find_c 6 = .ok (.getfield 16, 3) := by decide +kernel
theorem d_Po_find_9 : decode b_Po_find_c 9 = .ok (.iload_n 2, 1) := by decide +kernel
theorem d_Po_find_10 : decode b_Po_find_c 10 = .ok (.iaload, 1) := by decide +kernel
theorem d_Po_find_11 : decode b_Po_find_c 11 = .ok (.aload_n 0, 1) := by decide +kernel
theorem d_Po_find_12 : decode b_Po_find_c 12 = .ok (.getfield 28, 3) := by decide +kernel
theorem d_Po_find_15 : decode b_Po_find_c 15 = .ok (.getfield 40, 3) := by decide +kernel
theorem d_Po_find_18 : decode b_Po_find_c 18 = .ok (.if_icmp .ne 4, 3) := by decide +kernel
theorem d_Po_find_21 : decode b_Po_find_c 21 = .ok (.return_, 1) := by decide +kernel
theorem d_Po_find_22 : decode b_Po_find_c 22 = .ok (.aload_n 0, 1) := by decide +kernel
theorem d_Po_find_23 : decode b_Po_find_c 23 = .ok (.getfield 16, 3) := by decide +kernel
theorem d_Po_find_26 : decode b_Po_find_c 26 = .ok (.iload_n 2, 1) := by decide +kernel
theorem d_Po_find_27 : decode b_Po_find_c 27 = .ok (.aload_n 0, 1) := by decide +kernel
theorem d_Po_find_28 : decode b_Po_find_c 28 = .ok (.getfield 28, 3) := by decide +kernel
theorem d_Po_find_31 : decode b_Po_find_c 31 = .ok (.getfield 40, 3) := by decide +kernel
theorem d_Po_find_34 : decode b_Po_find_c 34 = .ok (.iastore, 1) := by decide +kernel
theorem d_Po_find_35 : decode b_Po_find_c 35 = .ok (.aload_n 0, 1) := by decide +kernel
theorem d_Po_find_36 : decode b_Po_find_c 36 = .ok (.getfield 11, 3) := by decide +kernel
theorem d_Po_find_39 : decode b_Po_find_c 39 = .ok (.iload_n 2, 1) := by decide +kernel
theorem d_Po_find_40 : decode b_Po_find_c 40 = .ok (.aaload, 1) := by decide +kernel
theorem d_Po_find_41 : decode b_Po_find_c 41 = .ok (.aload_n 0, 1) := by decide +kernel
theorem d_Po_find_42 : decode b_Po_find_c 42 = .ok (.getfield 28, 3) := by decide +kernel
theorem d_Po_find_45 : decode b_Po_find_c 45 = .ok (.iconst 1, 1) := by decide +kernel
theorem d_Po_find_46 : decode b_Po_find_c 46 = .ok (.invokevirtual 46, 3) := by decide +kernel
theorem d_Po_find_49 : decode b_Po_find_c 49 = .ok (.invokestatic 50, 3) := by decide +kernel
theorem d_Po_find_52 : decode b_Po_find_c 52 = .ok (.invokestatic 54, 3) := by decide +kernel
theorem d_Po_find_55 : decode b_Po_find_c 55 = .ok (.iload_n 1, 1) := by decide +kernel
theorem d_Po_find_56 : decode b_Po_find_c 56 = .ok (.ifCond .eq 13, 3) := by decide +kernel
theorem d_Po_find_59 : decode b_Po_find_c 59 = .ok (.aload_n 0, 1) := by decide +kernel
theorem d_Po_find_60 : decode b_Po_find_c 60 = .ok (.getfield 28, 3) := by decide +kernel
theorem d_Po_find_63 : decode b_Po_find_c 63 = .ok (.invokevirtual 60, 3) := by decide +kernel
theorem d_Po_find_66 : decode b_Po_find_c 66 = .ok (.goto 12, 3) := by decide +kernel
theorem d_Po_find_69 : decode b_Po_find_c 69 = .ok (.lconst 1, 1) := by decide +kernel
theorem d_Po_find_70 : decode b_Po_find_c 70 = .ok (.aload_n 0, 1) := by decide +kernel
theorem d_Po_find_71 : decode b_Po_find_c 71 = .ok (.getfield 28, 3) := by decide +kernel
theorem d_Po_find_74 : decode b_Po_find_c 74 = .ok (.invokevirtual 64, 3) := by decide +kernel
theorem d_Po_find_77 : decode b_Po_find_c 77 = .ok (.lshl, 1) := by decide +kernel
theorem d_Po_find_78 : decode b_Po_find_c 78 = .ok (.lstore_n 3, 1) := by decide +kernel
theorem d_Po_find_79 : decode b_Po_find_c 79 = .ok (.iconst 0, 1) := by decide +kernel
theorem d_Po_find_80 : decode b_Po_find_c 80 = .ok (.istore 5, 2) := by decide +kernel
theorem d_Po_find_82 : decode b_Po_find_c 82 = .ok (.iload 5, 2) := by decide +kernel
theorem d_Po_find_84 : decode b_Po_find_c 84 = .ok (.aload_n 0, 1) := by decide +kernel
theorem d_Po_find_85 : decode b_Po_find_c 85 = .ok (.getfield 28, 3) := by decide +kernel
theorem d_Po_find_88 : decode b_Po_find_c 88 = .ok (.getfield 68, 3) := by decide +kernel
theorem d_Po_find_91 : decode b_Po_find_c 91 = .ok (.if_icmp .ge 30, 3) := by decide +kernel
theorem d_Po_find_94 : decode b_Po_find_c 94 = .ok (.lload_n 3, 1) := by decide +kernel
theorem d_Po_find_95 : decode b_Po_find_c 95 = .ok (.iload 5, 2) := by decide +kernel
theorem d_Po_find_97 : decode b_Po_find_c 97 = .ok (.invokestatic 71, 3) := by decide +kernel
theorem d_Po_find_100 : decode b_Po_find_c 100 = .ok (.ifCond .eq 15, 3) := by decide +kernel
theorem d_Po_find_103 : decode b_Po_find_c 103 = .ok (.aload_n 0, 1) := by decide +kernel
theorem d_Po_find_104 : decode b_Po_find_c 104 = .ok (.iload 5, 2) := by decide +kernel
theorem d_Po_find_106 : decode b_Po_find_c 106 = .ok (.aload_n 0, 1) := by decide +kernel
theorem d_Po_find_107 : decode b_Po_find_c 107 = .ok (.getfield 11, 3) := by decide +kernel
theorem d_Po_find_110 : decode b_Po_find_c 110 = .ok (.iload_n 2, 1) := by decide +kernel
theorem d_Po_find_111 : decode b_Po_find_c 111 = .ok (.aaload, 1) := by decide +kernel
theorem d_Po_find_112 : decode b_Po_find_c 112 = .ok (.invokevirtual 75, 3) := by decide +kernel
theorem d_Po_find_115 : decode b_Po_find_c 115 = .ok (.iinc 5 1, 3) := by decide +kernel
theorem d_Po_find_118 : decode b_Po_find_c 118 = .ok (.goto (-36), 3) := by decide +kernel
theorem d_Po_find_121 : decode b_Po_find_c 121 = .ok (.return_, 1) := by decide +kernel
/-! GameRows$Points.find(Z)V -/
set_option maxHeartbeats 4000000 in
set_option maxRecDepth 100000 in
theorem t_Po_find_115 {X : gX} {r : gS} (C : gC X b_Po_find_c R_Po 6 5 122) (hR : ∀ pc lv, decode b_Po_find_c pc = .ok (.return_, 1) → G X pc lv [] r) {k82 : Int32 × Int64 × Int32 × gS → Option gS}  (hk82 : ∀ x, k82 x = some r → G X 82 [(0, .ref (gA X 23)), (2, .int x.1), (3, .long x.2.1), (5, .int x.2.2.1)] [] x.2.2.2) (x2 : Int32) (x3 : Int64) (x5 : Int32) (σ : gS) (h : b_Po_find_115 k82 x2 x3 x5 σ = some r) : G X 115 [(0, .ref (gA X 23)), (2, .int x2), (3, .long x3), (5, .int x5)] [] σ := by
  unfold b_Po_find_115 at h
  obtain ⟨x5_1, ex5_1, h⟩ := bnd_some h
  refine r_iinc C 3 (lv' := [(5, .int x5_1), (0, .ref (gA X 23)), (2, .int x2), (3, .long x3)]) d_Po_find_115 rfl (by rw [ex5_1]; rfl) (by decide) rfl ?_
  refine r_goto C (tgt := 82) d_Po_find_118 (by decide) ?_
  refine r_sub [1, 2, 3, 0] (lv' := [(0, .ref (gA X 23)), (2, .int x2), (3, .long x3), (5, .int x5_1)]) rfl ?_
  exact hk82 _ h
set_option maxHeartbeats 4000000 in
set_option maxRecDepth 100000 in
theorem t_Po_find_82 {X : gX} {r : gS} (C : gC X b_Po_find_c R_Po 6 5 122) (hR : ∀ pc lv, decode b_Po_find_c pc = .ok (.return_, 1) → G X pc lv [] r) {k82 : Int32 × Int64 × Int32 × gS → Option gS}  (hk82 : ∀ x, k82 x = some r → G X 82 [(0, .ref (gA X 23)), (2, .int x.1), (3, .long x.2.1), (5, .int x.2.2.1)] [] x.2.2.2) (x2 : Int32) (x3 : Int64) (x5 : Int32) (σ : gS) (h : b_Po_find_82 k82 x2 x3 x5 σ = some r) : G X 82 [(0, .ref (gA X 23)), (2, .int x2), (3, .long x3), (5, .int x5)] [] σ := by
  unfold b_Po_find_82 at h
  refine r_iload C 3 d_Po_find_82 rfl ?_
  refine r_aload_n C 0 d_Po_find_84 rfl rfl ?_
  refine q_Po_28 C d_Po_find_85 ?_
  refine q_Po_68 C d_Po_find_88 ?_
  refine r_icmp_ge C (tgt := 121) d_Po_find_91 (by decide) (fun hc_1 => ?_) (fun hc_1 => ?_)
  · rw [if_pos hc_1] at h
    cases h
    exact hR _ _ d_Po_find_121
  · rw [if_neg hc_1] at h
    refine r_lload_n C 2 d_Po_find_94 rfl rfl ?_
    refine r_iload C 3 d_Po_find_95 rfl ?_
    obtain ⟨r_2, er_2, h⟩ := bind_some h
    refine r_callSN C (As := [.long x3, .int x5]) (rest := []) (st1 := [.int r_2]) (c_Ga_hasBit X.1.2.1 σ x3 x5 er_2) k_Ga_hasBit n_Po_71 rfl rfl rfl (Nat.le_of_ble_eq_true rfl) ⟨Nat.le_of_ble_eq_true rfl, Nat.le_of_ble_eq_true rfl⟩ d_Po_find_97 rfl ?_
    refine r_if_eq C (tgt := 115) d_Po_find_100 (by decide) (fun hc_3 => ?_) (fun hc_3 => ?_)
    · rw [if_pos hc_3] at h
      exact t_Po_find_115 C hR hk82 x2 x3 x5 σ h
    · rw [if_neg hc_3] at h
      refine r_aload_n C 0 d_Po_find_103 rfl rfl ?_
      refine r_iload C 3 d_Po_find_104 rfl ?_
      refine r_aload_n C 0 d_Po_find_106 rfl rfl ?_
      refine q_Po_11 C d_Po_find_107 ?_
      refine r_iload_n C 1 d_Po_find_110 rfl rfl ?_
      obtain ⟨hi_4, h⟩ := ck_some h
      refine o_24 C (k' := 24 + 1 + x2.toNatClampNeg) hi_4 rfl d_Po_find_111 ?_
      obtain ⟨r_5, er_5, h⟩ := bind_some h
      refine r_callV C (As := [.int x5, .ref (gA X (24 + 1 + x2.toNatClampNeg))]) (rest := []) (st1 := []) (c_Po_keepPoints X.1.2.1 σ x5 (24 + 1 + x2.toNatClampNeg) er_5) k_Po_keepPoints m_199 (by decide) cel_Po rfl rfl rfl rfl (Nat.le_of_ble_eq_true rfl) ⟨Nat.le_of_ble_eq_true rfl, Nat.le_of_ble_eq_true rfl⟩ d_Po_find_112 rfl ?_
      exact t_Po_find_115 C hR hk82 x2 x3 x5 r_5 h
set_option maxHeartbeats 4000000 in
set_option maxRecDepth 100000 in
theorem u_Po_find_82 {X : gX} {r : gS} (C : gC X b_Po_find_c R_Po 6 5 122) (hR : ∀ pc lv, decode b_Po_find_c pc = .ok (.return_, 1) → G X pc lv [] r)  (x : Int32 × Int64 × Int32 × gS) (h : l_Po_find_82 x = some r) : G X 82 [(0, .ref (gA X 23)), (2, .int x.1), (3, .long x.2.1), (5, .int x.2.2.1)] [] x.2.2.2 :=
  lpF_ind (P := fun x => G X 82 [(0, .ref (gA X 23)), (2, .int x.1), (3, .long x.2.1), (5, .int x.2.2.1)] [] x.2.2.2) (fun k hk x h => t_Po_find_82 C hR hk x.1 x.2.1 x.2.2.1 x.2.2.2 h) gF x h
set_option maxHeartbeats 4000000 in
set_option maxRecDepth 100000 in
theorem t_Po_find_78 {X : gX} {r : gS} (C : gC X b_Po_find_c R_Po 6 5 122) (hR : ∀ pc lv, decode b_Po_find_c pc = .ok (.return_, 1) → G X pc lv [] r) (x2 : Int32) (y0 : Int64) (σ : gS) (h : b_Po_find_78 x2 y0 σ = some r) : G X 78 [(0, .ref (gA X 23)), (2, .int x2)] [.long y0] σ := by
  unfold b_Po_find_78 at h
  refine r_lstore_n C (lv' := [(3, .long y0), (0, .ref (gA X 23)), (2, .int x2)]) d_Po_find_78 rfl (by decide) rfl rfl ?_
  refine r_iconst C (v := 0) d_Po_find_79 (by decide) ?_
  refine r_istore C (lv' := [(5, .int 0), (3, .long y0), (0, .ref (gA X 23)), (2, .int x2)]) d_Po_find_80 (by decide) rfl rfl ?_
  refine r_sub [2, 3, 1, 0] (lv' := [(0, .ref (gA X 23)), (2, .int x2), (3, .long y0), (5, .int 0)]) rfl ?_
  exact u_Po_find_82 C hR  (x2, y0, 0, σ) h
set_option maxHeartbeats 4000000 in
set_option maxRecDepth 100000 in
theorem t_Po_find_0 {X : gX} {r : gS} (C : gC X b_Po_find_c R_Po 6 5 122) (hR : ∀ pc lv, decode b_Po_find_c pc = .ok (.return_, 1) → G X pc lv [] r) (x1 : Int32) (σ : gS) (h : b_Po_find_0 x1 σ = some r) : G X 0 [(0, .ref (gA X 23)), (1, .int x1)] [] σ := by
  unfold b_Po_find_0 at h
  refine r_iload_n C 1 d_Po_find_0 rfl rfl ?_
  obtain ⟨r_1, er_1, h⟩ := bind_some h
  refine r_callS C (As := [.int x1]) (rest := []) (st1 := [.int r_1]) (c_Po_placeOf X.1.2.1 σ x1 er_1) k_Po_placeOf m_203 rfl rfl rfl (Nat.le_of_ble_eq_true rfl) ⟨Nat.le_of_ble_eq_true rfl, Nat.le_of_ble_eq_true rfl⟩ d_Po_find_1 rfl ?_
  refine r_istore_n C (lv' := [(2, .int r_1), (0, .ref (gA X 23)), (1, .int x1)]) d_Po_find_4 rfl (by decide) rfl rfl ?_
  refine r_aload_n C 1 d_Po_find_5 rfl rfl ?_
  refine q_Po_16 C d_Po_find_6 ?_
  refine r_iload_n C 0 d_Po_find_9 rfl rfl ?_
  obtain ⟨hi_2, h⟩ := ck_some h
  refine r_iald C hi_2 d_Po_find_10 ?_
  refine r_aload_n C 1 d_Po_find_11 rfl rfl ?_
  refine q_Po_28 C d_Po_find_12 ?_
  refine q_Po_40 C d_Po_find_15 ?_
  refine r_icmp_ne C (tgt := 22) d_Po_find_18 (by decide) (fun hc_3 => ?_) (fun hc_3 => ?_)
  · rw [if_neg hc_3] at h
    refine r_aload_n C 1 d_Po_find_22 rfl rfl ?_
    refine q_Po_16 C d_Po_find_23 ?_
    refine r_iload_n C 0 d_Po_find_26 rfl rfl ?_
    refine r_aload_n C 1 d_Po_find_27 rfl rfl ?_
    refine q_Po_28 C d_Po_find_28 ?_
    refine q_Po_40 C d_Po_find_31 ?_
    obtain ⟨hi_4, h⟩ := ck_some h
    obtain ⟨σ_5, eσ_5, h⟩ := bnd_some h
    refine r_iast C hi_4 eσ_5 d_Po_find_34 ?_
    refine r_aload_n C 1 d_Po_find_35 rfl rfl ?_
    refine q_Po_11 C d_Po_find_36 ?_
    refine r_iload_n C 0 d_Po_find_39 rfl rfl ?_
    obtain ⟨hi_6, h⟩ := ck_some h
    refine o_24 C (k' := 24 + 1 + r_1.toNatClampNeg) hi_6 rfl d_Po_find_40 ?_
    refine r_aload_n C 1 d_Po_find_41 rfl rfl ?_
    refine q_Po_28 C d_Po_find_42 ?_
    refine r_iconst C (v := 1) d_Po_find_45 (by decide) ?_
    obtain ⟨r_7, er_7, h⟩ := bind_some h
    refine r_callV C (As := [.int 1]) (rest := [.ref (gA X (24 + 1 + r_1.toNatClampNeg))]) (st1 := [.int r_7, .ref (gA X (24 + 1 + r_1.toNatClampNeg))]) (c_Fo_plansOf X.1.2.1 σ_5 1 er_7) k_Fo_plansOf m_161 (by decide) cel_Fo rfl rfl rfl rfl (Nat.le_of_ble_eq_true rfl) ⟨Nat.le_of_ble_eq_true rfl, Nat.le_of_ble_eq_true rfl⟩ d_Po_find_46 rfl ?_
    obtain ⟨r_8, er_8, h⟩ := bind_some h
    refine r_callSN C (As := [.int r_7]) (rest := [.ref (gA X (24 + 1 + r_1.toNatClampNeg))]) (st1 := [.long r_8, .ref (gA X (24 + 1 + r_1.toNatClampNeg))]) (c_Ga_firstBits X.1.2.1 σ_5 r_7 er_8) k_Ga_firstBits n_Po_50 rfl rfl rfl (Nat.le_of_ble_eq_true rfl) ⟨Nat.le_of_ble_eq_true rfl, Nat.le_of_ble_eq_true rfl⟩ d_Po_find_49 rfl ?_
    obtain ⟨r_9, er_9, h⟩ := bind_some h
    refine r_callS C (As := [.ref (gA X (24 + 1 + r_1.toNatClampNeg)), .long r_8]) (rest := []) (st1 := []) (c_Ar_fillJ X.1.2.1 σ_5 (24 + 1 + r_1.toNatClampNeg) r_8 er_9) k_Ar_fillJ m_210 rfl rfl rfl (Nat.le_of_ble_eq_true rfl) ⟨Nat.le_of_ble_eq_true rfl, Nat.le_of_ble_eq_true rfl⟩ d_Po_find_52 rfl ?_
    refine r_iload_n C 2 d_Po_find_55 rfl rfl ?_
    refine r_if_eq C (tgt := 69) d_Po_find_56 (by decide) (fun hc_10 => ?_) (fun hc_10 => ?_)
    · rw [if_pos hc_10] at h
      refine r_lconst C (v := 1) d_Po_find_69 (by decide) ?_
      refine r_aload_n C 1 d_Po_find_70 rfl rfl ?_
      refine q_Po_28 C d_Po_find_71 ?_
      obtain ⟨r_11, er_11, h⟩ := bind_some h
      refine r_callV C (As := []) (rest := [.long 1]) (st1 := [.int r_11, .long 1]) (c_Fo_root X.1.2.1 r_9  er_11) k_Fo_root m_213 (by decide) cel_Fo rfl rfl rfl rfl (Nat.le_of_ble_eq_true rfl) ⟨Nat.le_of_ble_eq_true rfl, Nat.le_of_ble_eq_true rfl⟩ d_Po_find_74 rfl ?_
      refine r_lshl C d_Po_find_77 ?_
      refine r_sub [1, 0] (lv' := [(0, .ref (gA X 23)), (2, .int r_1)]) rfl ?_
      exact t_Po_find_78 C hR r_1 ((1 : Int64) <<< (r_11.toInt64 &&& 63)) r_9 h
    · rw [if_neg hc_10] at h
      refine r_aload_n C 1 d_Po_find_59 rfl rfl ?_
      refine q_Po_28 C d_Po_find_60 ?_
      obtain ⟨r_12, er_12, h⟩ := bind_some h
      refine r_callV C (As := []) (rest := []) (st1 := [.long r_12]) (c_Fo_gamesWithin X.1.2.1 r_9  er_12) k_Fo_gamesWithin m_214 (by decide) cel_Fo rfl rfl rfl rfl (Nat.le_of_ble_eq_true rfl) ⟨Nat.le_of_ble_eq_true rfl, Nat.le_of_ble_eq_true rfl⟩ d_Po_find_63 rfl ?_
      refine r_goto C (tgt := 78) d_Po_find_66 (by decide) ?_
      refine r_sub [1, 0] (lv' := [(0, .ref (gA X 23)), (2, .int r_1)]) rfl ?_
      exact t_Po_find_78 C hR r_1 r_12 r_9 h
  · rw [if_pos hc_3] at h
    cases h
    exact hR _ _ d_Po_find_21
set_option maxHeartbeats 4000000 in
set_option maxRecDepth 100000 in
theorem c_Po_find (l : Launch) (σ : gS) (x1 : Int32) {r : gS} (h : f_Po_find σ x1 = some r) : gMet l y_Po_find b_Po_find_c 6 (none) 5 122 (fun a => [.ref (a 23), .int x1]) σ (none) r := by
  refine gMet_v (by decide +kernel) (fun a => Nat.le_of_ble_eq_true rfl) (fun X _ C hR => ?_)
  refine r_sub [0, 1] (lv' := [(0, .ref (gA X 23)), (1, .int x1)]) rfl ?_
  exact t_Po_find_0 C hR x1 σ h
theorem d_Po_howMany_0 : decode b_Po_howMany_c 0 = .ok (.aload_n 0, 1) := by decide +kernel
theorem d_Po_howMany_1 : decode b_Po_howMany_c 1 = .ok (.getfield 11, 3) := by decide +kernel
theorem d_Po_howMany_4 : decode b_Po_howMany_c 4 = .ok (.iload_n 1, 1) := by decide +kernel
theorem d_Po_howMany_5 : decode b_Po_howMany_c 5 = .ok (.invokestatic 36, 3) := by decide +kernel
theorem d_Po_howMany_8 : decode b_Po_howMany_c 8 = .ok (.aaload, 1) := by decide +kernel
theorem d_Po_howMany_9 : decode b_Po_howMany_c 9 = .ok (.astore_n 2, 1) := by decide +kernel
theorem d_Po_howMany_10 : decode b_Po_howMany_c 10 = .ok (.aload_n 0, 1) := by decide +kernel
theorem d_Po_howMany_11 : decode b_Po_howMany_c 11 = .ok (.getfield 28, 3) := by decide +kernel
theorem d_Po_howMany_14 : decode b_Po_howMany_c 14 = .ok (.iconst 0, 1) := by decide +kernel
theorem d_Po_howMany_15 : decode b_Po_howMany_c 15 = .ok (.invokevirtual 46, 3) := by decide +kernel
theorem d_Po_howMany_18 : decode b_Po_howMany_c 18 = .ok (.istore_n 3, 1) := by decide +kernel
theorem d_Po_howMany_19 : decode b_Po_howMany_c 19 = .ok (.iconst 0, 1) := by decide +kernel
theorem d_Po_howMany_20 : decode b_Po_howMany_c 20 = .ok (.istore 4, 2) := by decide +kernel
theorem d_Po_howMany_22 : decode b_Po_howMany_c 22 = .ok (.iconst 0, 1) := by decide +kernel
theorem d_Po_howMany_23 : decode b_Po_howMany_c 23 = .ok (.istore 5, 2) := by decide +kernel
theorem d_Po_howMany_25 : decode b_Po_howMany_c 25 = .ok (.iload 5, 2) := by decide +kernel
theorem d_Po_howMany_27 : decode b_Po_howMany_c 27 = .ok (.iload_n 3, 1) := by decide +kernel
theorem d_Po_howMany_28 : decode b_Po_howMany_c 28 = .ok (.if_icmp .ge 21, 3) := by decide +kernel
theorem d_Po_howMany_31 : decode b_Po_howMany_c 31 = .ok (.iload 4, 2) := by decide +kernel
theorem d_Po_howMany_33 : decode b_Po_howMany_c 33 = .ok (.aload_n 2, 1) := by decide +kernel
theorem d_Po_howMany_34 : decode b_Po_howMany_c 34 = .ok (.iload 5, 2) := by decide +kernel
theorem d_Po_howMany_36 : decode b_Po_howMany_c 36 = .ok (.laload, 1) := by decide +kernel
theorem d_Po_howMany_37 : decode b_Po_howMany_c 37 = .ok (.invokestatic 79, 3) := by decide +kernel
theorem d_Po_howMany_40 : decode b_Po_howMany_c 40 = .ok (.iadd, 1) := by decide +kernel
theorem d_Po_howMany_41 : decode b_Po_howMany_c 41 = .ok (.istore 4, 2) := by decide +kernel
theorem d_Po_howMany_43 : decode b_Po_howMany_c 43 = .ok (.iinc 5 1, 3) := by decide +kernel
theorem d_Po_howMany_46 : decode b_Po_howMany_c 46 = .ok (.goto (-21), 3) := by decide +kernel
theorem d_Po_howMany_49 : decode b_Po_howMany_c 49 = .ok (.iload 4, 2) := by decide +kernel
theorem d_Po_howMany_51 : decode b_Po_howMany_c 51 = .ok (.ireturn, 1) := by decide +kernel
/-! GameRows$Points.howMany(Z)I -/
set_option maxHeartbeats 4000000 in
set_option maxRecDepth 100000 in
theorem t_Po_howMany_25 {X : gX} {r : Int32} {σ : gS} (C : gC X b_Po_howMany_c R_Po 6 3 67) (hR : ∀ pc lv, decode b_Po_howMany_c pc = .ok (.ireturn, 1) → G X pc lv [.int r] σ) {k25 : Nat × Int32 × Int32 × Int32 → Option Int32}  (hk25 : ∀ x, k25 x = some r → G X 25 [(2, .ref (gA X x.1)), (3, .int x.2.1), (4, .int x.2.2.1), (5, .int x.2.2.2)] [] σ) (x2 : Nat) (x3 : Int32) (x4 : Int32) (x5 : Int32) (h : b_Po_howMany_25 σ k25 x2 x3 x4 x5 = some r) : G X 25 [(2, .ref (gA X x2)), (3, .int x3), (4, .int x4), (5, .int x5)] [] σ := by
  unfold b_Po_howMany_25 at h
  refine r_iload C 3 d_Po_howMany_25 rfl ?_
  refine r_iload_n C 1 d_Po_howMany_27 rfl rfl ?_
  refine r_icmp_ge C (tgt := 49) d_Po_howMany_28 (by decide) (fun hc_1 => ?_) (fun hc_1 => ?_)
  · rw [if_pos hc_1] at h
    refine r_iload C 2 d_Po_howMany_49 rfl ?_
    cases h
    exact hR _ _ d_Po_howMany_51
  · rw [if_neg hc_1] at h
    refine r_iload C 2 d_Po_howMany_31 rfl ?_
    refine r_aload_n C 0 d_Po_howMany_33 rfl rfl ?_
    refine r_iload C 3 d_Po_howMany_34 rfl ?_
    obtain ⟨hi_2, h⟩ := ck_some h
    refine r_lald C hi_2 d_Po_howMany_36 ?_
    obtain ⟨r_3, er_3, h⟩ := bind_some h
    refine r_callS C (As := [.long (gL σ x2 x5.toNatClampNeg)]) (rest := [.int x4]) (st1 := [.int r_3, .int x4]) (c_Lo_bitCount X.1.2.1 σ (gL σ x2 x5.toNatClampNeg) er_3) k_Lo_bitCount m_218 rfl rfl rfl (Nat.le_of_ble_eq_true rfl) ⟨Nat.le_of_ble_eq_true rfl, Nat.le_of_ble_eq_true rfl⟩ d_Po_howMany_37 rfl ?_
    refine r_iadd C d_Po_howMany_40 ?_
    obtain ⟨x4_4, ex4_4, h⟩ := bnd_some h
    refine r_istore C (lv' := [(4, .int x4_4), (2, .ref (gA X x2)), (3, .int x3), (5, .int x5)]) d_Po_howMany_41 (by decide) ex4_4 rfl ?_
    obtain ⟨x5_5, ex5_5, h⟩ := bnd_some h
    refine r_iinc C 3 (lv' := [(5, .int x5_5), (4, .int x4_4), (2, .ref (gA X x2)), (3, .int x3)]) d_Po_howMany_43 rfl (by rw [ex5_5]; rfl) (by decide) rfl ?_
    refine r_goto C (tgt := 25) d_Po_howMany_46 (by decide) ?_
    refine r_sub [2, 3, 1, 0] (lv' := [(2, .ref (gA X x2)), (3, .int x3), (4, .int x4_4), (5, .int x5_5)]) rfl ?_
    exact hk25 _ h
set_option maxHeartbeats 4000000 in
set_option maxRecDepth 100000 in
theorem u_Po_howMany_25 {X : gX} {r : Int32} {σ : gS} (C : gC X b_Po_howMany_c R_Po 6 3 67) (hR : ∀ pc lv, decode b_Po_howMany_c pc = .ok (.ireturn, 1) → G X pc lv [.int r] σ)  (x : Nat × Int32 × Int32 × Int32) (h : l_Po_howMany_25 σ x = some r) : G X 25 [(2, .ref (gA X x.1)), (3, .int x.2.1), (4, .int x.2.2.1), (5, .int x.2.2.2)] [] σ :=
  lpF_ind (P := fun x => G X 25 [(2, .ref (gA X x.1)), (3, .int x.2.1), (4, .int x.2.2.1), (5, .int x.2.2.2)] [] σ) (fun k hk x h => t_Po_howMany_25 C hR hk x.1 x.2.1 x.2.2.1 x.2.2.2 h) gF x h
set_option maxHeartbeats 4000000 in
set_option maxRecDepth 100000 in
theorem t_Po_howMany_0 {X : gX} {r : Int32} {σ : gS} (C : gC X b_Po_howMany_c R_Po 6 3 67) (hR : ∀ pc lv, decode b_Po_howMany_c pc = .ok (.ireturn, 1) → G X pc lv [.int r] σ) (x1 : Int32) (h : b_Po_howMany_0 σ x1 = some r) : G X 0 [(0, .ref (gA X 23)), (1, .int x1)] [] σ := by
  unfold b_Po_howMany_0 at h
  refine r_aload_n C 0 d_Po_howMany_0 rfl rfl ?_
  refine q_Po_11 C d_Po_howMany_1 ?_
  refine r_iload_n C 1 d_Po_howMany_4 rfl rfl ?_
  obtain ⟨r_1, er_1, h⟩ := bind_some h
  refine r_callS C (As := [.int x1]) (rest := [.ref (gA X 24)]) (st1 := [.int r_1, .ref (gA X 24)]) (c_Po_placeOf X.1.2.1 σ x1 er_1) k_Po_placeOf m_203 rfl rfl rfl (Nat.le_of_ble_eq_true rfl) ⟨Nat.le_of_ble_eq_true rfl, Nat.le_of_ble_eq_true rfl⟩ d_Po_howMany_5 rfl ?_
  obtain ⟨hi_2, h⟩ := ck_some h
  refine o_24 C (k' := 24 + 1 + r_1.toNatClampNeg) hi_2 rfl d_Po_howMany_8 ?_
  refine r_astore_n C (lv' := [(2, .ref (gA X (24 + 1 + r_1.toNatClampNeg))), (0, .ref (gA X 23)), (1, .int x1)]) d_Po_howMany_9 rfl (by decide) rfl ?_
  refine r_aload_n C 1 d_Po_howMany_10 rfl rfl ?_
  refine q_Po_28 C d_Po_howMany_11 ?_
  refine r_iconst C (v := 0) d_Po_howMany_14 (by decide) ?_
  obtain ⟨r_3, er_3, h⟩ := bind_some h
  refine r_callV C (As := [.int 0]) (rest := []) (st1 := [.int r_3]) (c_Fo_plansOf X.1.2.1 σ 0 er_3) k_Fo_plansOf m_161 (by decide) cel_Fo rfl rfl rfl rfl (Nat.le_of_ble_eq_true rfl) ⟨Nat.le_of_ble_eq_true rfl, Nat.le_of_ble_eq_true rfl⟩ d_Po_howMany_15 rfl ?_
  refine r_istore_n C (lv' := [(3, .int r_3), (2, .ref (gA X (24 + 1 + r_1.toNatClampNeg))), (0, .ref (gA X 23)), (1, .int x1)]) d_Po_howMany_18 rfl (by decide) rfl rfl ?_
  refine r_iconst C (v := 0) d_Po_howMany_19 (by decide) ?_
  refine r_istore C (lv' := [(4, .int 0), (3, .int r_3), (2, .ref (gA X (24 + 1 + r_1.toNatClampNeg))), (0, .ref (gA X 23)), (1, .int x1)]) d_Po_howMany_20 (by decide) rfl rfl ?_
  refine r_iconst C (v := 0) d_Po_howMany_22 (by decide) ?_
  refine r_istore C (lv' := [(5, .int 0), (4, .int 0), (3, .int r_3), (2, .ref (gA X (24 + 1 + r_1.toNatClampNeg))), (0, .ref (gA X 23)), (1, .int x1)]) d_Po_howMany_23 (by decide) rfl rfl ?_
  refine r_sub [3, 2, 1, 0] (lv' := [(2, .ref (gA X (24 + 1 + r_1.toNatClampNeg))), (3, .int r_3), (4, .int 0), (5, .int 0)]) rfl ?_
  exact u_Po_howMany_25 C hR  ((24 + 1 + r_1.toNatClampNeg), r_3, 0, 0) h
set_option maxHeartbeats 4000000 in
set_option maxRecDepth 100000 in
theorem c_Po_howMany (l : Launch) (σ : gS) (x1 : Int32) {r : Int32} (h : f_Po_howMany σ x1 = some r) : gMet l y_Po_howMany b_Po_howMany_c 6 (some .int) 3 67 (fun a => [.ref (a 23), .int x1]) σ (some (.int r)) σ := by
  refine gMet_i (by decide +kernel) (fun a => Nat.le_of_ble_eq_true rfl) (fun X _ C hR => ?_)
  refine r_sub [0, 1] (lv' := [(0, .ref (gA X 23)), (1, .int x1)]) rfl ?_
  exact t_Po_howMany_0 C hR x1 h
theorem d_Ta_fillWhole_0 : decode b_Ta_fillWhole_c 0 = .ok (.aload_n 0, 1) := by decide +kernel
theorem d_Ta_fillWhole_1 : decode b_Ta_fillWhole_c 1 = .ok (.aload_n 0, 1) := by decide +kernel
theorem d_Ta_fillWhole_2 : decode b_Ta_fillWhole_c 2 = .ok (.getfield 33, 3) := by decide +kernel
theorem d_Ta_fillWhole_5 : decode b_Ta_fillWhole_c 5 = .ok (.invokevirtual 37, 3) := by decide +kernel
theorem d_Ta_fillWhole_8 : decode b_Ta_fillWhole_c 8 = .ok (.invokevirtual 43, 3) := by decide +kernel
theorem d_Ta_fillWhole_11 : decode b_Ta_fillWhole_c 11 = .ok (.return_, 1) := by decide +kernel
/-! GameRows$Table.fillWhole()V -/
set_option maxHeartbeats 4000000 in
set_option maxRecDepth 100000 in
theorem t_Ta_fillWhole_0 {X : gX} {r : gS} (C : gC X b_Ta_fillWhole_c R_Ta 1 4 95) (hR : ∀ pc lv, decode b_Ta_fillWhole_c pc = .ok (.return_, 1) → G X pc lv [] r) (σ : gS) (h : b_Ta_fillWhole_0 σ = some r) : G X 0 [(0, .ref (gA X 16))] [] σ := by
  unfold b_Ta_fillWhole_0 at h
  refine r_aload_n C 0 d_Ta_fillWhole_0 rfl rfl ?_
  refine r_aload_n C 0 d_Ta_fillWhole_1 rfl rfl ?_
  refine q_Ta_33 C d_Ta_fillWhole_2 ?_
  obtain ⟨r_1, er_1, h⟩ := bind_some h
  refine r_callV C (As := []) (rest := [.ref (gA X 16)]) (st1 := [.int r_1, .ref (gA X 16)]) (c_Fo_root X.1.2.1 σ  er_1) k_Fo_root m_222 (by decide) cel_Fo rfl rfl rfl rfl (Nat.le_of_ble_eq_true rfl) ⟨Nat.le_of_ble_eq_true rfl, Nat.le_of_ble_eq_true rfl⟩ d_Ta_fillWhole_5 rfl ?_
  obtain ⟨r_2, er_2, h⟩ := bind_some h
  refine r_callV C (As := [.int r_1]) (rest := []) (st1 := []) (c_Ta_fillFrom X.1.2.1 σ r_1 er_2) k_Ta_fillFrom m_223 (by decide) cel_Ta rfl rfl rfl rfl (Nat.le_of_ble_eq_true rfl) ⟨Nat.le_of_ble_eq_true rfl, Nat.le_of_ble_eq_true rfl⟩ d_Ta_fillWhole_8 rfl ?_
  cases h
  exact hR _ _ d_Ta_fillWhole_11
set_option maxHeartbeats 4000000 in
set_option maxRecDepth 100000 in
theorem c_Ta_fillWhole (l : Launch) (σ : gS)  {r : gS} (h : f_Ta_fillWhole σ = some r) : gMet l y_Ta_fillWhole b_Ta_fillWhole_c 1 (none) 4 95 (fun a => [.ref (a 16)]) σ (none) r := by
  refine gMet_v (by decide +kernel) (fun a => Nat.le_of_ble_eq_true rfl) (fun X _ C hR => ?_)
  refine r_sub [0] (lv' := [(0, .ref (gA X 16))]) rfl ?_
  exact t_Ta_fillWhole_0 C hR σ h
theorem d_Ta_isWorse_0 : decode b_Ta_isWorse_c 0 = .ok (.iconst 0, 1) := by decide +kernel
theorem d_Ta_isWorse_1 : decode b_Ta_isWorse_c 1 = .ok (.istore 6, 2) := by decide +kernel
theorem d_Ta_isWorse_3 : decode b_Ta_isWorse_c 3 = .ok (.iload 6, 2) := by decide +kernel
theorem d_Ta_isWorse_5 : decode b_Ta_isWorse_c 5 = .ok (.aload_n 0, 1) := by decide +kernel
theorem d_Ta_isWorse_6 : decode b_Ta_isWorse_c 6 = .ok (.getfield 9, 3) := by decide +kernel
theorem d_Ta_isWorse_9 : decode b_Ta_isWorse_c 9 = .ok (.iload_n 1, 1) := by decide +kernel
theorem d_Ta_isWorse_10 : decode b_Ta_isWorse_c 10 = .ok (.invokestatic 98, 3) := by decide +kernel
theorem d_Ta_isWorse_13 : decode b_Ta_isWorse_c 13 = .ok (.iaload, 1) := by decide +kernel
theorem d_Ta_isWorse_14 : decode b_Ta_isWorse_c 14 = .ok (.if_icmp .ge 40, 3) := by decide +kernel
theorem d_Ta_isWorse_17 : decode b_Ta_isWorse_c 17 = .ok (.lload 4, 2) := by decide +kernel
theorem d_Ta_isWorse_19 : decode b_Ta_isWorse_c 19 = .ok (.iload 6, 2) := by decide +kernel
theorem d_Ta_isWorse_21 : decode b_Ta_isWorse_c 21 = .ok (.invokestatic 113, 3) := by decide +kernel
theorem d_Ta_isWorse_24 : decode b_Ta_isWorse_c 24 = .ok (.ifCond .eq 24, 3) := by decide +kernel
theorem d_Ta_isWorse_27 : decode b_Ta_isWorse_c 27 = .ok (.aload_n 0, 1) := by decide +kernel
theorem d_Ta_isWorse_28 : decode b_Ta_isWorse_c 28 = .ok (.iload_n 1, 1) := by decide +kernel
theorem d_Ta_isWorse_29 : decode b_Ta_isWorse_c 29 = .ok (.iload_n 2, 1) := by decide +kernel
theorem d_Ta_isWorse_30 : decode b_Ta_isWorse_c 30 = .ok (.iload 6, 2) := by decide +kernel
theorem d_Ta_isWorse_32 : decode b_Ta_isWorse_c 32 = .ok (.invokevirtual 86, 3) := by decide +kernel
theorem d_Ta_isWorse_35 : decode b_Ta_isWorse_c 35 = .ok (.aload_n 0, 1) := by decide +kernel
theorem d_Ta_isWorse_36 : decode b_Ta_isWorse_c 36 = .ok (.iload_n 1, 1) := by decide +kernel
theorem d_Ta_isWorse_37 : decode b_Ta_isWorse_c 37 = .ok (.iload_n 3, 1) := by decide +kernel
theorem d_Ta_isWorse_38 : decode b_Ta_isWorse_c 38 = .ok (.iload 6, 2) := by decide +kernel
theorem d_Ta_isWorse_40 : decode b_Ta_isWorse_c 40 = .ok (.invokevirtual 86, 3) := by decide +kernel
theorem d_Ta_isWorse_43 : decode b_Ta_isWorse_c 43 = .ok (.if_icmp .lt 5, 3) := by decide +kernel
theorem d_Ta_isWorse_46 : decode b_Ta_isWorse_c 46 = .ok (.iconst 0, 1) := by decide +kernel
theorem d_Ta_isWorse_47 : decode b_Ta_isWorse_c 47 = .ok (.ireturn, 1) := by decide +kernel
theorem d_Ta_isWorse_48 : decode b_Ta_isWorse_c 48 = .ok (.iinc 6 1, 3) := by decide +kernel
theorem d_Ta_isWorse_51 : decode b_Ta_isWorse_c 51 = .ok (.goto (-48), 3) := by decide +kernel
theorem d_Ta_isWorse_54 : decode b_Ta_isWorse_c 54 = .ok (.iconst 1, 1) := by decide +kernel
theorem d_Ta_isWorse_55 : decode b_Ta_isWorse_c 55 = .ok (.ireturn, 1) := by decide +kernel
/-! GameRows$Table.isWorse(IIIJ)Z -/
set_option maxHeartbeats 4000000 in
set_option maxRecDepth 100000 in
theorem t_Ta_isWorse_48 {X : gX} {r : Int32} {σ : gS} (C : gC X b_Ta_isWorse_c R_Ta 7 1 23) (hR : ∀ pc lv, isB r = true → decode b_Ta_isWorse_c pc = .ok (.ireturn, 1) → G X pc lv [.int r] σ) {k3 : Int32 × Int32 × Int32 × Int64 × Int32 → Option Int32}  (hk3 : ∀ x, k3 x = some r → G X 3 [(0, .ref (gA X 16)), (1, .int x.1), (2, .int x.2.1), (3, .int x.2.2.1), (4, .long x.2.2.2.1), (6, .int x.2.2.2.2)] [] σ) (x1 : Int32) (x2 : Int32) (x3 : Int32) (x4 : Int64) (x6 : Int32) (h : b_Ta_isWorse_48 σ k3 x1 x2 x3 x4 x6 = some r) : G X 48 [(0, .ref (gA X 16)), (1, .int x1), (2, .int x2), (3, .int x3), (4, .long x4), (6, .int x6)] [] σ := by
  unfold b_Ta_isWorse_48 at h
  obtain ⟨x6_1, ex6_1, h⟩ := bnd_some h
  refine r_iinc C 5 (lv' := [(6, .int x6_1), (0, .ref (gA X 16)), (1, .int x1), (2, .int x2), (3, .int x3), (4, .long x4)]) d_Ta_isWorse_48 rfl (by rw [ex6_1]; rfl) (by decide) rfl ?_
  refine r_goto C (tgt := 3) d_Ta_isWorse_51 (by decide) ?_
  refine r_sub [1, 2, 3, 4, 5, 0] (lv' := [(0, .ref (gA X 16)), (1, .int x1), (2, .int x2), (3, .int x3), (4, .long x4), (6, .int x6_1)]) rfl ?_
  exact hk3 _ h
set_option maxHeartbeats 4000000 in
set_option maxRecDepth 100000 in
theorem t_Ta_isWorse_3 {X : gX} {r : Int32} {σ : gS} (C : gC X b_Ta_isWorse_c R_Ta 7 1 23) (hR : ∀ pc lv, isB r = true → decode b_Ta_isWorse_c pc = .ok (.ireturn, 1) → G X pc lv [.int r] σ) {k3 : Int32 × Int32 × Int32 × Int64 × Int32 → Option Int32}  (hk3 : ∀ x, k3 x = some r → G X 3 [(0, .ref (gA X 16)), (1, .int x.1), (2, .int x.2.1), (3, .int x.2.2.1), (4, .long x.2.2.2.1), (6, .int x.2.2.2.2)] [] σ) (x1 : Int32) (x2 : Int32) (x3 : Int32) (x4 : Int64) (x6 : Int32) (h : b_Ta_isWorse_3 σ k3 x1 x2 x3 x4 x6 = some r) : G X 3 [(0, .ref (gA X 16)), (1, .int x1), (2, .int x2), (3, .int x3), (4, .long x4), (6, .int x6)] [] σ := by
  unfold b_Ta_isWorse_3 at h
  refine r_iload C 5 d_Ta_isWorse_3 rfl ?_
  refine r_aload_n C 0 d_Ta_isWorse_5 rfl rfl ?_
  refine q_Ta_9 C d_Ta_isWorse_6 ?_
  refine r_iload_n C 1 d_Ta_isWorse_9 rfl rfl ?_
  obtain ⟨r_1, er_1, h⟩ := bind_some h
  refine r_callSN C (As := [.int x1]) (rest := [.ref (gA X 17), .int x6]) (st1 := [.int r_1, .ref (gA X 17), .int x6]) (c_Ga_otherThan X.1.2.1 σ x1 er_1) k_Ga_otherThan n_Ta_98 rfl rfl rfl (Nat.le_of_ble_eq_true rfl) ⟨Nat.le_of_ble_eq_true rfl, Nat.le_of_ble_eq_true rfl⟩ d_Ta_isWorse_10 rfl ?_
  obtain ⟨hi_2, h⟩ := ck_some h
  refine r_iald C hi_2 d_Ta_isWorse_13 ?_
  refine r_icmp_ge C (tgt := 54) d_Ta_isWorse_14 (by decide) (fun hc_3 => ?_) (fun hc_3 => ?_)
  · rw [if_pos hc_3] at h
    refine r_iconst C (v := 1) d_Ta_isWorse_54 (by decide) ?_
    obtain ⟨hB, h⟩ := ck_some h
    cases h
    exact hR _ _ hB d_Ta_isWorse_55
  · rw [if_neg hc_3] at h
    refine r_lload C 4 d_Ta_isWorse_17 rfl ?_
    refine r_iload C 5 d_Ta_isWorse_19 rfl ?_
    obtain ⟨r_4, er_4, h⟩ := bind_some h
    refine r_callSN C (As := [.long x4, .int x6]) (rest := []) (st1 := [.int r_4]) (c_Ga_hasBit X.1.2.1 σ x4 x6 er_4) k_Ga_hasBit n_Ta_113 rfl rfl rfl (Nat.le_of_ble_eq_true rfl) ⟨Nat.le_of_ble_eq_true rfl, Nat.le_of_ble_eq_true rfl⟩ d_Ta_isWorse_21 rfl ?_
    refine r_if_eq C (tgt := 48) d_Ta_isWorse_24 (by decide) (fun hc_5 => ?_) (fun hc_5 => ?_)
    · rw [if_pos hc_5] at h
      exact t_Ta_isWorse_48 C hR hk3 x1 x2 x3 x4 x6 h
    · rw [if_neg hc_5] at h
      refine r_aload_n C 0 d_Ta_isWorse_27 rfl rfl ?_
      refine r_iload_n C 1 d_Ta_isWorse_28 rfl rfl ?_
      refine r_iload_n C 2 d_Ta_isWorse_29 rfl rfl ?_
      refine r_iload C 5 d_Ta_isWorse_30 rfl ?_
      obtain ⟨r_6, er_6, h⟩ := bind_some h
      refine r_callV C (As := [.int x1, .int x2, .int x6]) (rest := []) (st1 := [.int r_6]) (c_Ta_value X.1.2.1 σ x1 x2 x6 er_6) k_Ta_value m_165 (by decide) cel_Ta rfl rfl rfl rfl (Nat.le_of_ble_eq_true rfl) ⟨Nat.le_of_ble_eq_true rfl, Nat.le_of_ble_eq_true rfl⟩ d_Ta_isWorse_32 rfl ?_
      refine r_aload_n C 0 d_Ta_isWorse_35 rfl rfl ?_
      refine r_iload_n C 1 d_Ta_isWorse_36 rfl rfl ?_
      refine r_iload_n C 3 d_Ta_isWorse_37 rfl rfl ?_
      refine r_iload C 5 d_Ta_isWorse_38 rfl ?_
      obtain ⟨r_7, er_7, h⟩ := bind_some h
      refine r_callV C (As := [.int x1, .int x3, .int x6]) (rest := [.int r_6]) (st1 := [.int r_7, .int r_6]) (c_Ta_value X.1.2.1 σ x1 x3 x6 er_7) k_Ta_value m_165 (by decide) cel_Ta rfl rfl rfl rfl (Nat.le_of_ble_eq_true rfl) ⟨Nat.le_of_ble_eq_true rfl, Nat.le_of_ble_eq_true rfl⟩ d_Ta_isWorse_40 rfl ?_
      refine r_icmp_lt C (tgt := 48) d_Ta_isWorse_43 (by decide) (fun hc_8 => ?_) (fun hc_8 => ?_)
      · rw [if_pos hc_8] at h
        exact t_Ta_isWorse_48 C hR hk3 x1 x2 x3 x4 x6 h
      · rw [if_neg hc_8] at h
        refine r_iconst C (v := 0) d_Ta_isWorse_46 (by decide) ?_
        obtain ⟨hB, h⟩ := ck_some h
        cases h
        exact hR _ _ hB d_Ta_isWorse_47
set_option maxHeartbeats 4000000 in
set_option maxRecDepth 100000 in
theorem u_Ta_isWorse_3 {X : gX} {r : Int32} {σ : gS} (C : gC X b_Ta_isWorse_c R_Ta 7 1 23) (hR : ∀ pc lv, isB r = true → decode b_Ta_isWorse_c pc = .ok (.ireturn, 1) → G X pc lv [.int r] σ)  (x : Int32 × Int32 × Int32 × Int64 × Int32) (h : l_Ta_isWorse_3 σ x = some r) : G X 3 [(0, .ref (gA X 16)), (1, .int x.1), (2, .int x.2.1), (3, .int x.2.2.1), (4, .long x.2.2.2.1), (6, .int x.2.2.2.2)] [] σ :=
  lpF_ind (P := fun x => G X 3 [(0, .ref (gA X 16)), (1, .int x.1), (2, .int x.2.1), (3, .int x.2.2.1), (4, .long x.2.2.2.1), (6, .int x.2.2.2.2)] [] σ) (fun k hk x h => t_Ta_isWorse_3 C hR hk x.1 x.2.1 x.2.2.1 x.2.2.2.1 x.2.2.2.2 h) gF x h
set_option maxHeartbeats 4000000 in
set_option maxRecDepth 100000 in
theorem t_Ta_isWorse_0 {X : gX} {r : Int32} {σ : gS} (C : gC X b_Ta_isWorse_c R_Ta 7 1 23) (hR : ∀ pc lv, isB r = true → decode b_Ta_isWorse_c pc = .ok (.ireturn, 1) → G X pc lv [.int r] σ) (x1 : Int32) (x2 : Int32) (x3 : Int32) (x4 : Int64) (h : b_Ta_isWorse_0 σ x1 x2 x3 x4 = some r) : G X 0 [(0, .ref (gA X 16)), (1, .int x1), (2, .int x2), (3, .int x3), (4, .long x4)] [] σ := by
  unfold b_Ta_isWorse_0 at h
  refine r_iconst C (v := 0) d_Ta_isWorse_0 (by decide) ?_
  refine r_istore C (lv' := [(6, .int 0), (0, .ref (gA X 16)), (1, .int x1), (2, .int x2), (3, .int x3), (4, .long x4)]) d_Ta_isWorse_1 (by decide) rfl rfl ?_
  refine r_sub [1, 2, 3, 4, 5, 0] (lv' := [(0, .ref (gA X 16)), (1, .int x1), (2, .int x2), (3, .int x3), (4, .long x4), (6, .int 0)]) rfl ?_
  exact u_Ta_isWorse_3 C hR  (x1, x2, x3, x4, 0) h
set_option maxHeartbeats 4000000 in
set_option maxRecDepth 100000 in
theorem c_Ta_isWorse (l : Launch) (σ : gS) (x1 : Int32) (x2 : Int32) (x3 : Int32) (x4 : Int64) {r : Int32} (h : f_Ta_isWorse σ x1 x2 x3 x4 = some r) : gMet l y_Ta_isWorse b_Ta_isWorse_c 7 (some .boolean) 1 23 (fun a => [.ref (a 16), .int x1, .int x2, .int x3, .long x4]) σ (some (.int r)) σ := by
  refine gMet_z (by decide +kernel) (fun a => Nat.le_of_ble_eq_true rfl) (fun X _ C hR => ?_)
  refine r_sub [0, 1, 2, 3, 4] (lv' := [(0, .ref (gA X 16)), (1, .int x1), (2, .int x2), (3, .int x3), (4, .long x4)]) rfl ?_
  exact t_Ta_isWorse_0 C hR x1 x2 x3 x4 h
theorem d_Ta_leastBetterAmong_0 : decode b_Ta_leastBetterAmong_c 0 = .ok (.iconst 0, 1) := by decide +kernel
theorem d_Ta_leastBetterAmong_1 : decode b_Ta_leastBetterAmong_c 1 = .ok (.istore 7, 2) := by decide +kernel
theorem d_Ta_leastBetterAmong_3 : decode b_Ta_leastBetterAmong_c 3 = .ok (.iload 7, 2) := by decide +kernel
theorem d_Ta_leastBetterAmong_5 : decode b_Ta_leastBetterAmong_c 5 = .ok (.aload_n 0, 1) := by decide +kernel
theorem d_Ta_leastBetterAmong_6 : decode b_Ta_leastBetterAmong_c 6 = .ok (.getfield 9, 3) := by decide +kernel
theorem d_Ta_leastBetterAmong_9 : decode b_Ta_leastBetterAmong_c 9 = .ok (.iload_n 1, 1) := by decide +kernel
theorem d_Ta_leastBetterAmong_10 : decode b_Ta_leastBetterAmong_c 10 = .ok (.iaload, 1) := by decide +kernel
theorem d_Ta_leastBetterAmong_11 : decode b_Ta_leastBetterAmong_c 11 = .ok (.if_icmp .ge 34, 3) := by decide +kernel
theorem d_Ta_leastBetterAmong_14 : decode b_Ta_leastBetterAmong_c 14 = .ok (.lload_n 3, 1) := by decide +kernel
theorem d_Ta_leastBetterAmong_15 : decode b_Ta_leastBetterAmong_c 15 = .ok (.iload 7, 2) := by decide +kernel
theorem d_Ta_leastBetterAmong_17 : decode b_Ta_leastBetterAmong_c 17 = .ok (.invokestatic 113, 3) := by decide +kernel
theorem d_Ta_leastBetterAmong_20 : decode b_Ta_leastBetterAmong_c 20 = .ok (.ifCond .eq 19, 3) := by decide +kernel
theorem d_Ta_leastBetterAmong_23 : decode b_Ta_leastBetterAmong_c 23 = .ok (.aload_n 0, 1) := by decide +kernel
theorem d_Ta_leastBetterAmong_24 : decode b_Ta_leastBetterAmong_c 24 = .ok (.iload_n 1, 1) := by decide +kernel
theorem d_Ta_leastBetterAmong_25 : decode b_Ta_leastBetterAmong_c 25 = .ok (.iload_n 2, 1) := by decide +kernel
theorem d_Ta_leastBetterAmong_26 : decode b_Ta_leastBetterAmong_c 26 = .ok (.iload 7, 2) := by decide +kernel
theorem d_Ta_leastBetterAmong_28 : decode b_Ta_leastBetterAmong_c 28 = .ok (.lload 5, 2) := by decide +kernel
theorem d_Ta_leastBetterAmong_30 : decode b_Ta_leastBetterAmong_c 30 = .ok (.invokevirtual 117, 3) := by decide +kernel
theorem d_Ta_leastBetterAmong_33 : decode b_Ta_leastBetterAmong_c 33 = .ok (.ifCond .eq 6, 3) := by decide +kernel
theorem d_Ta_leastBetterAmong_36 : decode b_Ta_leastBetterAmong_c 36 = .ok (.iload 7, 2) := by decide +kernel
theorem d_Ta_leastBetterAmong_38 : decode b_Ta_leastBetterAmong_c 38 = .ok (.ireturn, 1) := by decide +kernel
theorem d_Ta_leastBetterAmong_39 : decode b_Ta_leastBetterAmong_c 39 = .ok (.iinc 7 1, 3) := by decide +kernel
theorem d_Ta_leastBetterAmong_42 : decode b_Ta_leastBetterAmong_c 42 = .ok (.goto (-39), 3) := by decide +kernel
theorem d_Ta_leastBetterAmong_45 : decode b_Ta_leastBetterAmong_c 45 = .ok (.iconst (-1), 1) := by decide +kernel
theorem d_Ta_leastBetterAmong_46 : decode b_Ta_leastBetterAmong_c 46 = .ok (.ireturn, 1) := by decide +kernel
/-! GameRows$Table.leastBetterAmong(IIJJ)I -/
set_option maxHeartbeats 4000000 in
set_option maxRecDepth 100000 in
theorem t_Ta_leastBetterAmong_39 {X : gX} {r : Int32} {σ : gS} (C : gC X b_Ta_leastBetterAmong_c R_Ta 8 2 49) (hR : ∀ pc lv, decode b_Ta_leastBetterAmong_c pc = .ok (.ireturn, 1) → G X pc lv [.int r] σ) {k3 : Int32 × Int32 × Int64 × Int64 × Int32 → Option Int32}  (hk3 : ∀ x, k3 x = some r → G X 3 [(0, .ref (gA X 16)), (1, .int x.1), (2, .int x.2.1), (3, .long x.2.2.1), (5, .long x.2.2.2.1), (7, .int x.2.2.2.2)] [] σ) (x1 : Int32) (x2 : Int32) (x3 : Int64) (x5 : Int64) (x7 : Int32) (h : b_Ta_leastBetterAmong_39 σ k3 x1 x2 x3 x5 x7 = some r) : G X 39 [(0, .ref (gA X 16)), (1, .int x1), (2, .int x2), (3, .long x3), (5, .long x5), (7, .int x7)] [] σ := by
  unfold b_Ta_leastBetterAmong_39 at h
  obtain ⟨x7_1, ex7_1, h⟩ := bnd_some h
  refine r_iinc C 5 (lv' := [(7, .int x7_1), (0, .ref (gA X 16)), (1, .int x1), (2, .int x2), (3, .long x3), (5, .long x5)]) d_Ta_leastBetterAmong_39 rfl (by rw [ex7_1]; rfl) (by decide) rfl ?_
  refine r_goto C (tgt := 3) d_Ta_leastBetterAmong_42 (by decide) ?_
  refine r_sub [1, 2, 3, 4, 5, 0] (lv' := [(0, .ref (gA X 16)), (1, .int x1), (2, .int x2), (3, .long x3), (5, .long x5), (7, .int x7_1)]) rfl ?_
  exact hk3 _ h
set_option maxHeartbeats 4000000 in
set_option maxRecDepth 100000 in
theorem t_Ta_leastBetterAmong_3 {X : gX} {r : Int32} {σ : gS} (C : gC X b_Ta_leastBetterAmong_c R_Ta 8 2 49) (hR : ∀ pc lv, decode b_Ta_leastBetterAmong_c pc = .ok (.ireturn, 1) → G X pc lv [.int r] σ) {k3 : Int32 × Int32 × Int64 × Int64 × Int32 → Option Int32}  (hk3 : ∀ x, k3 x = some r → G X 3 [(0, .ref (gA X 16)), (1, .int x.1), (2, .int x.2.1), (3, .long x.2.2.1), (5, .long x.2.2.2.1), (7, .int x.2.2.2.2)] [] σ) (x1 : Int32) (x2 : Int32) (x3 : Int64) (x5 : Int64) (x7 : Int32) (h : b_Ta_leastBetterAmong_3 σ k3 x1 x2 x3 x5 x7 = some r) : G X 3 [(0, .ref (gA X 16)), (1, .int x1), (2, .int x2), (3, .long x3), (5, .long x5), (7, .int x7)] [] σ := by
  unfold b_Ta_leastBetterAmong_3 at h
  refine r_iload C 5 d_Ta_leastBetterAmong_3 rfl ?_
  refine r_aload_n C 0 d_Ta_leastBetterAmong_5 rfl rfl ?_
  refine q_Ta_9 C d_Ta_leastBetterAmong_6 ?_
  refine r_iload_n C 1 d_Ta_leastBetterAmong_9 rfl rfl ?_
  obtain ⟨hi_1, h⟩ := ck_some h
  refine r_iald C hi_1 d_Ta_leastBetterAmong_10 ?_
  refine r_icmp_ge C (tgt := 45) d_Ta_leastBetterAmong_11 (by decide) (fun hc_2 => ?_) (fun hc_2 => ?_)
  · rw [if_pos hc_2] at h
    refine r_iconst C (v := (-1)) d_Ta_leastBetterAmong_45 (by decide) ?_
    cases h
    exact hR _ _ d_Ta_leastBetterAmong_46
  · rw [if_neg hc_2] at h
    refine r_lload_n C 3 d_Ta_leastBetterAmong_14 rfl rfl ?_
    refine r_iload C 5 d_Ta_leastBetterAmong_15 rfl ?_
    obtain ⟨r_3, er_3, h⟩ := bind_some h
    refine r_callSN C (As := [.long x3, .int x7]) (rest := []) (st1 := [.int r_3]) (c_Ga_hasBit X.1.2.1 σ x3 x7 er_3) k_Ga_hasBit n_Ta_113 rfl rfl rfl (Nat.le_of_ble_eq_true rfl) ⟨Nat.le_of_ble_eq_true rfl, Nat.le_of_ble_eq_true rfl⟩ d_Ta_leastBetterAmong_17 rfl ?_
    refine r_if_eq C (tgt := 39) d_Ta_leastBetterAmong_20 (by decide) (fun hc_4 => ?_) (fun hc_4 => ?_)
    · rw [if_pos hc_4] at h
      exact t_Ta_leastBetterAmong_39 C hR hk3 x1 x2 x3 x5 x7 h
    · rw [if_neg hc_4] at h
      refine r_aload_n C 0 d_Ta_leastBetterAmong_23 rfl rfl ?_
      refine r_iload_n C 1 d_Ta_leastBetterAmong_24 rfl rfl ?_
      refine r_iload_n C 2 d_Ta_leastBetterAmong_25 rfl rfl ?_
      refine r_iload C 5 d_Ta_leastBetterAmong_26 rfl ?_
      refine r_lload C 4 d_Ta_leastBetterAmong_28 rfl ?_
      obtain ⟨r_5, er_5, h⟩ := bind_some h
      refine r_callV C (As := [.int x1, .int x2, .int x7, .long x5]) (rest := []) (st1 := [.int r_5]) (c_Ta_isWorse X.1.2.1 σ x1 x2 x7 x5 er_5) k_Ta_isWorse m_224 (by decide) cel_Ta rfl rfl rfl rfl (Nat.le_of_ble_eq_true rfl) ⟨Nat.le_of_ble_eq_true rfl, Nat.le_of_ble_eq_true rfl⟩ d_Ta_leastBetterAmong_30 rfl ?_
      refine r_if_eq C (tgt := 39) d_Ta_leastBetterAmong_33 (by decide) (fun hc_6 => ?_) (fun hc_6 => ?_)
      · rw [if_pos hc_6] at h
        exact t_Ta_leastBetterAmong_39 C hR hk3 x1 x2 x3 x5 x7 h
      · rw [if_neg hc_6] at h
        refine r_iload C 5 d_Ta_leastBetterAmong_36 rfl ?_
        cases h
        exact hR _ _ d_Ta_leastBetterAmong_38
set_option maxHeartbeats 4000000 in
set_option maxRecDepth 100000 in
theorem u_Ta_leastBetterAmong_3 {X : gX} {r : Int32} {σ : gS} (C : gC X b_Ta_leastBetterAmong_c R_Ta 8 2 49) (hR : ∀ pc lv, decode b_Ta_leastBetterAmong_c pc = .ok (.ireturn, 1) → G X pc lv [.int r] σ)  (x : Int32 × Int32 × Int64 × Int64 × Int32) (h : l_Ta_leastBetterAmong_3 σ x = some r) : G X 3 [(0, .ref (gA X 16)), (1, .int x.1), (2, .int x.2.1), (3, .long x.2.2.1), (5, .long x.2.2.2.1), (7, .int x.2.2.2.2)] [] σ :=
  lpF_ind (P := fun x => G X 3 [(0, .ref (gA X 16)), (1, .int x.1), (2, .int x.2.1), (3, .long x.2.2.1), (5, .long x.2.2.2.1), (7, .int x.2.2.2.2)] [] σ) (fun k hk x h => t_Ta_leastBetterAmong_3 C hR hk x.1 x.2.1 x.2.2.1 x.2.2.2.1 x.2.2.2.2 h) gF x h
set_option maxHeartbeats 4000000 in
set_option maxRecDepth 100000 in
theorem t_Ta_leastBetterAmong_0 {X : gX} {r : Int32} {σ : gS} (C : gC X b_Ta_leastBetterAmong_c R_Ta 8 2 49) (hR : ∀ pc lv, decode b_Ta_leastBetterAmong_c pc = .ok (.ireturn, 1) → G X pc lv [.int r] σ) (x1 : Int32) (x2 : Int32) (x3 : Int64) (x5 : Int64) (h : b_Ta_leastBetterAmong_0 σ x1 x2 x3 x5 = some r) : G X 0 [(0, .ref (gA X 16)), (1, .int x1), (2, .int x2), (3, .long x3), (5, .long x5)] [] σ := by
  unfold b_Ta_leastBetterAmong_0 at h
  refine r_iconst C (v := 0) d_Ta_leastBetterAmong_0 (by decide) ?_
  refine r_istore C (lv' := [(7, .int 0), (0, .ref (gA X 16)), (1, .int x1), (2, .int x2), (3, .long x3), (5, .long x5)]) d_Ta_leastBetterAmong_1 (by decide) rfl rfl ?_
  refine r_sub [1, 2, 3, 4, 5, 0] (lv' := [(0, .ref (gA X 16)), (1, .int x1), (2, .int x2), (3, .long x3), (5, .long x5), (7, .int 0)]) rfl ?_
  exact u_Ta_leastBetterAmong_3 C hR  (x1, x2, x3, x5, 0) h
set_option maxHeartbeats 4000000 in
set_option maxRecDepth 100000 in
theorem c_Ta_leastBetterAmong (l : Launch) (σ : gS) (x1 : Int32) (x2 : Int32) (x3 : Int64) (x5 : Int64) {r : Int32} (h : f_Ta_leastBetterAmong σ x1 x2 x3 x5 = some r) : gMet l y_Ta_leastBetterAmong b_Ta_leastBetterAmong_c 8 (some .int) 2 49 (fun a => [.ref (a 16), .int x1, .int x2, .long x3, .long x5]) σ (some (.int r)) σ := by
  refine gMet_i (by decide +kernel) (fun a => Nat.le_of_ble_eq_true rfl) (fun X _ C hR => ?_)
  refine r_sub [0, 1, 2, 3, 4] (lv' := [(0, .ref (gA X 16)), (1, .int x1), (2, .int x2), (3, .long x3), (5, .long x5)]) rfl ?_
  exact t_Ta_leastBetterAmong_0 C hR x1 x2 x3 x5 h
theorem d_Le_thoseThatGo_0 : decode b_Le_thoseThatGo_c 0 = .ok (.lconst 0, 1) := by decide +kernel
theorem d_Le_thoseThatGo_1 : decode b_Le_thoseThatGo_c 1 = .ok (.lstore_n 2, 1) := by decide +kernel
theorem d_Le_thoseThatGo_2 : decode b_Le_thoseThatGo_c 2 = .ok (.iconst 0, 1) := by decide +kernel
theorem d_Le_thoseThatGo_3 : decode b_Le_thoseThatGo_c 3 = .ok (.istore 4, 2) := by decide +kernel
theorem d_Le_thoseThatGo_5 : decode b_Le_thoseThatGo_c 5 = .ok (.iload 4, 2) := by decide +kernel
theorem d_Le_thoseThatGo_7 : decode b_Le_thoseThatGo_c 7 = .ok (.aload_n 0, 1) := by decide +kernel
theorem d_Le_thoseThatGo_8 : decode b_Le_thoseThatGo_c 8 = .ok (.getfield 28, 3) := by decide +kernel
theorem d_Le_thoseThatGo_11 : decode b_Le_thoseThatGo_c 11 = .ok (.getfield 49, 3) := by decide +kernel
theorem d_Le_thoseThatGo_14 : decode b_Le_thoseThatGo_c 14 = .ok (.iload_n 1, 1) := by decide +kernel
theorem d_Le_thoseThatGo_15 : decode b_Le_thoseThatGo_c 15 = .ok (.iaload, 1) := by decide +kernel
theorem d_Le_thoseThatGo_16 : decode b_Le_thoseThatGo_c 16 = .ok (.if_icmp .ge 59, 3) := by decide +kernel
theorem d_Le_thoseThatGo_19 : decode b_Le_thoseThatGo_c 19 = .ok (.aload_n 0, 1) := by decide +kernel
theorem d_Le_thoseThatGo_20 : decode b_Le_thoseThatGo_c 20 = .ok (.getfield 16, 3) := by decide +kernel
theorem d_Le_thoseThatGo_23 : decode b_Le_thoseThatGo_c 23 = .ok (.iload_n 1, 1) := by decide +kernel
theorem d_Le_thoseThatGo_24 : decode b_Le_thoseThatGo_c 24 = .ok (.laload, 1) := by decide +kernel
theorem d_Le_thoseThatGo_25 : decode b_Le_thoseThatGo_c 25 = .ok (.iload 4, 2) := by decide +kernel
theorem d_Le_thoseThatGo_27 : decode b_Le_thoseThatGo_c 27 = .ok (.invokestatic 66, 3) := by decide +kernel
theorem d_Le_thoseThatGo_30 : decode b_Le_thoseThatGo_c 30 = .ok (.ifCond .eq 39, 3) := by decide +kernel
theorem d_Le_thoseThatGo_33 : decode b_Le_thoseThatGo_c 33 = .ok (.aload_n 0, 1) := by decide +kernel
theorem d_Le_thoseThatGo_34 : decode b_Le_thoseThatGo_c 34 = .ok (.getfield 28, 3) := by decide +kernel
theorem d_Le_thoseThatGo_37 : decode b_Le_thoseThatGo_c 37 = .ok (.iload_n 1, 1) := by decide +kernel
theorem d_Le_thoseThatGo_38 : decode b_Le_thoseThatGo_c 38 = .ok (.iload 4, 2) := by decide +kernel
theorem d_Le_thoseThatGo_40 : decode b_Le_thoseThatGo_c 40 = .ok (.aload_n 0, 1) := by decide +kernel
theorem d_Le_thoseThatGo_41 : decode b_Le_thoseThatGo_c 41 = .ok (.getfield 16, 3) := by decide +kernel
theorem d_Le_thoseThatGo_44 : decode b_Le_thoseThatGo_c 44 = .ok (.iload_n 1, 1) := by decide +kernel
theorem d_Le_thoseThatGo_45 : decode b_Le_thoseThatGo_c 45 = .ok (.laload, 1) := by decide +kernel
theorem d_Le_thoseThatGo_46 : decode b_Le_thoseThatGo_c 46 = .ok (.aload_n 0, 1) := by decide +kernel
theorem d_Le_thoseThatGo_47 : decode b_Le_thoseThatGo_c 47 = .ok (.getfield 16, 3) := by decide +kernel
theorem d_Le_thoseThatGo_50 : decode b_Le_thoseThatGo_c 50 = .ok (.iload_n 1, 1) := by decide +kernel
theorem d_Le_thoseThatGo_51 : decode b_Le_thoseThatGo_c 51 = .ok (.invokestatic 70, 3) := by decide +kernel
theorem d_Le_thoseThatGo_54 : decode b_Le_thoseThatGo_c 54 = .ok (.laload, 1) := by decide +kernel
theorem d_Le_thoseThatGo_55 : decode b_Le_thoseThatGo_c 55 = .ok (.invokevirtual 74, 3) := by decide +kernel
theorem d_Le_thoseThatGo_58 : decode b_Le_thoseThatGo_c 58 = .ok (.iconst (-1), 1) := by decide +kernel
theorem d_Le_thoseThatGo_59 : decode b_Le_thoseThatGo_c 59 = .ok (.if_icmp .eq 10, 3) := by decide +kernel
theorem d_Le_thoseThatGo_62 : decode b_Le_thoseThatGo_c 62 = .ok (.lload_n 2, 1) := by decide +kernel
theorem d_Le_thoseThatGo_63 : decode b_Le_thoseThatGo_c 63 = .ok (.lconst 1, 1) := by decide +kernel
theorem d_Le_thoseThatGo_64 : decode b_Le_thoseThatGo_c 64 = .ok (.iload 4, 2) := by decide +kernel
theorem d_Le_thoseThatGo_66 : decode b_Le_thoseThatGo_c 66 = .ok (.lshl, 1) := by decide +kernel
theorem d_Le_thoseThatGo_67 : decode b_Le_thoseThatGo_c 67 = .ok (.lor, 1) := by decide +kernel
theorem d_Le_thoseThatGo_68 : decode b_Le_thoseThatGo_c 68 = .ok (.lstore_n 2, 1) := by decide +kernel
theorem d_Le_thoseThatGo_69 : decode b_Le_thoseThatGo_c 69 = .ok (.iinc 4 1, 3) := by decide +kernel
theorem d_Le_thoseThatGo_72 : decode b_Le_thoseThatGo_c 72 = .ok (.goto (-67), 3) := by decide +kernel
theorem d_Le_thoseThatGo_75 : decode b_Le_thoseThatGo_c 75 = .ok (.lload_n 2, 1) := by decide +kernel
theorem d_Le_thoseThatGo_76 : decode b_Le_thoseThatGo_c 76 = .ok (.lreturn, 1) := by decide +kernel
/-! GameRows$Leaving.thoseThatGo(I)J -/
set_option maxHeartbeats 4000000 in
set_option maxRecDepth 100000 in
theorem t_Le_thoseThatGo_69 {X : gX} {r : Int64} {σ : gS} (C : gC X b_Le_thoseThatGo_c R_Le 5 3 76) (hR : ∀ pc lv, decode b_Le_thoseThatGo_c pc = .ok (.lreturn, 1) → G X pc lv [.long r] σ) {k5 : Int32 × Int64 × Int32 → Option Int64}  (hk5 : ∀ x, k5 x = some r → G X 5 [(0, .ref (gA X 34)), (1, .int x.1), (2, .long x.2.1), (4, .int x.2.2)] [] σ) (x1 : Int32) (x2 : Int64) (x4 : Int32) (h : b_Le_thoseThatGo_69 σ k5 x1 x2 x4 = some r) : G X 69 [(0, .ref (gA X 34)), (1, .int x1), (2, .long x2), (4, .int x4)] [] σ := by
  unfold b_Le_thoseThatGo_69 at h
  obtain ⟨x4_1, ex4_1, h⟩ := bnd_some h
  refine r_iinc C 3 (lv' := [(4, .int x4_1), (0, .ref (gA X 34)), (1, .int x1), (2, .long x2)]) d_Le_thoseThatGo_69 rfl (by rw [ex4_1]; rfl) (by decide) rfl ?_
  refine r_goto C (tgt := 5) d_Le_thoseThatGo_72 (by decide) ?_
  refine r_sub [1, 2, 3, 0] (lv' := [(0, .ref (gA X 34)), (1, .int x1), (2, .long x2), (4, .int x4_1)]) rfl ?_
  exact hk5 _ h
set_option maxHeartbeats 4000000 in
set_option maxRecDepth 100000 in
theorem t_Le_thoseThatGo_5 {X : gX} {r : Int64} {σ : gS} (C : gC X b_Le_thoseThatGo_c R_Le 5 3 76) (hR : ∀ pc lv, decode b_Le_thoseThatGo_c pc = .ok (.lreturn, 1) → G X pc lv [.long r] σ) {k5 : Int32 × Int64 × Int32 → Option Int64}  (hk5 : ∀ x, k5 x = some r → G X 5 [(0, .ref (gA X 34)), (1, .int x.1), (2, .long x.2.1), (4, .int x.2.2)] [] σ) (x1 : Int32) (x2 : Int64) (x4 : Int32) (h : b_Le_thoseThatGo_5 σ k5 x1 x2 x4 = some r) : G X 5 [(0, .ref (gA X 34)), (1, .int x1), (2, .long x2), (4, .int x4)] [] σ := by
  unfold b_Le_thoseThatGo_5 at h
  refine r_iload C 3 d_Le_thoseThatGo_5 rfl ?_
  refine r_aload_n C 0 d_Le_thoseThatGo_7 rfl rfl ?_
  refine q_Le_28 C d_Le_thoseThatGo_8 ?_
  refine q_Le_49 C d_Le_thoseThatGo_11 ?_
  refine r_iload_n C 1 d_Le_thoseThatGo_14 rfl rfl ?_
  obtain ⟨hi_1, h⟩ := ck_some h
  refine r_iald C hi_1 d_Le_thoseThatGo_15 ?_
  refine r_icmp_ge C (tgt := 75) d_Le_thoseThatGo_16 (by decide) (fun hc_2 => ?_) (fun hc_2 => ?_)
  · rw [if_pos hc_2] at h
    refine r_lload_n C 2 d_Le_thoseThatGo_75 rfl rfl ?_
    cases h
    exact hR _ _ d_Le_thoseThatGo_76
  · rw [if_neg hc_2] at h
    refine r_aload_n C 0 d_Le_thoseThatGo_19 rfl rfl ?_
    refine q_Le_16 C d_Le_thoseThatGo_20 ?_
    refine r_iload_n C 1 d_Le_thoseThatGo_23 rfl rfl ?_
    obtain ⟨hi_3, h⟩ := ck_some h
    refine r_lald C hi_3 d_Le_thoseThatGo_24 ?_
    refine r_iload C 3 d_Le_thoseThatGo_25 rfl ?_
    obtain ⟨r_4, er_4, h⟩ := bind_some h
    refine r_callSN C (As := [.long (gL σ 38 x1.toNatClampNeg), .int x4]) (rest := []) (st1 := [.int r_4]) (c_Ga_hasBit X.1.2.1 σ (gL σ 38 x1.toNatClampNeg) x4 er_4) k_Ga_hasBit n_Le_66 rfl rfl rfl (Nat.le_of_ble_eq_true rfl) ⟨Nat.le_of_ble_eq_true rfl, Nat.le_of_ble_eq_true rfl⟩ d_Le_thoseThatGo_27 rfl ?_
    refine r_if_eq C (tgt := 69) d_Le_thoseThatGo_30 (by decide) (fun hc_5 => ?_) (fun hc_5 => ?_)
    · rw [if_pos hc_5] at h
      exact t_Le_thoseThatGo_69 C hR hk5 x1 x2 x4 h
    · rw [if_neg hc_5] at h
      refine r_aload_n C 0 d_Le_thoseThatGo_33 rfl rfl ?_
      refine q_Le_28 C d_Le_thoseThatGo_34 ?_
      refine r_iload_n C 1 d_Le_thoseThatGo_37 rfl rfl ?_
      refine r_iload C 3 d_Le_thoseThatGo_38 rfl ?_
      refine r_aload_n C 0 d_Le_thoseThatGo_40 rfl rfl ?_
      refine q_Le_16 C d_Le_thoseThatGo_41 ?_
      refine r_iload_n C 1 d_Le_thoseThatGo_44 rfl rfl ?_
      obtain ⟨hi_6, h⟩ := ck_some h
      refine r_lald C hi_6 d_Le_thoseThatGo_45 ?_
      refine r_aload_n C 0 d_Le_thoseThatGo_46 rfl rfl ?_
      refine q_Le_16 C d_Le_thoseThatGo_47 ?_
      refine r_iload_n C 1 d_Le_thoseThatGo_50 rfl rfl ?_
      obtain ⟨r_7, er_7, h⟩ := bind_some h
      refine r_callSN C (As := [.int x1]) (rest := [.ref (gA X 38), .long (gL σ 38 x1.toNatClampNeg), .int x4, .int x1, .ref (gA X 16)]) (st1 := [.int r_7, .ref (gA X 38), .long (gL σ 38 x1.toNatClampNeg), .int x4, .int x1, .ref (gA X 16)]) (c_Ga_otherThan X.1.2.1 σ x1 er_7) k_Ga_otherThan n_Le_70 rfl rfl rfl (Nat.le_of_ble_eq_true rfl) ⟨Nat.le_of_ble_eq_true rfl, Nat.le_of_ble_eq_true rfl⟩ d_Le_thoseThatGo_51 rfl ?_
      obtain ⟨hi_8, h⟩ := ck_some h
      refine r_lald C hi_8 d_Le_thoseThatGo_54 ?_
      obtain ⟨r_9, er_9, h⟩ := bind_some h
      refine r_callV C (As := [.int x1, .int x4, .long (gL σ 38 x1.toNatClampNeg), .long (gL σ 38 r_7.toNatClampNeg)]) (rest := []) (st1 := [.int r_9]) (c_Ta_leastBetterAmong X.1.2.1 σ x1 x4 (gL σ 38 x1.toNatClampNeg) (gL σ 38 r_7.toNatClampNeg) er_9) k_Ta_leastBetterAmong m_231 (by decide) cel_Ta rfl rfl rfl rfl (Nat.le_of_ble_eq_true rfl) ⟨Nat.le_of_ble_eq_true rfl, Nat.le_of_ble_eq_true rfl⟩ d_Le_thoseThatGo_55 rfl ?_
      refine r_iconst C (v := (-1)) d_Le_thoseThatGo_58 (by decide) ?_
      refine r_icmp_eq C (tgt := 69) d_Le_thoseThatGo_59 (by decide) (fun hc_10 => ?_) (fun hc_10 => ?_)
      · rw [if_pos hc_10] at h
        exact t_Le_thoseThatGo_69 C hR hk5 x1 x2 x4 h
      · rw [if_neg hc_10] at h
        refine r_lload_n C 2 d_Le_thoseThatGo_62 rfl rfl ?_
        refine r_lconst C (v := 1) d_Le_thoseThatGo_63 (by decide) ?_
        refine r_iload C 3 d_Le_thoseThatGo_64 rfl ?_
        refine r_lshl C d_Le_thoseThatGo_66 ?_
        refine r_lor C d_Le_thoseThatGo_67 ?_
        obtain ⟨x2_11, ex2_11, h⟩ := bnd_some h
        refine r_lstore_n C (lv' := [(2, .long x2_11), (0, .ref (gA X 34)), (1, .int x1), (4, .int x4)]) d_Le_thoseThatGo_68 rfl (by decide) ex2_11 rfl ?_
        refine r_sub [1, 2, 0, 3] (lv' := [(0, .ref (gA X 34)), (1, .int x1), (2, .long x2_11), (4, .int x4)]) rfl ?_
        exact t_Le_thoseThatGo_69 C hR hk5 x1 x2_11 x4 h
set_option maxHeartbeats 4000000 in
set_option maxRecDepth 100000 in
theorem u_Le_thoseThatGo_5 {X : gX} {r : Int64} {σ : gS} (C : gC X b_Le_thoseThatGo_c R_Le 5 3 76) (hR : ∀ pc lv, decode b_Le_thoseThatGo_c pc = .ok (.lreturn, 1) → G X pc lv [.long r] σ)  (x : Int32 × Int64 × Int32) (h : l_Le_thoseThatGo_5 σ x = some r) : G X 5 [(0, .ref (gA X 34)), (1, .int x.1), (2, .long x.2.1), (4, .int x.2.2)] [] σ :=
  lpF_ind (P := fun x => G X 5 [(0, .ref (gA X 34)), (1, .int x.1), (2, .long x.2.1), (4, .int x.2.2)] [] σ) (fun k hk x h => t_Le_thoseThatGo_5 C hR hk x.1 x.2.1 x.2.2 h) gF x h
set_option maxHeartbeats 4000000 in
set_option maxRecDepth 100000 in
theorem t_Le_thoseThatGo_0 {X : gX} {r : Int64} {σ : gS} (C : gC X b_Le_thoseThatGo_c R_Le 5 3 76) (hR : ∀ pc lv, decode b_Le_thoseThatGo_c pc = .ok (.lreturn, 1) → G X pc lv [.long r] σ) (x1 : Int32) (h : b_Le_thoseThatGo_0 σ x1 = some r) : G X 0 [(0, .ref (gA X 34)), (1, .int x1)] [] σ := by
  unfold b_Le_thoseThatGo_0 at h
  refine r_lconst C (v := 0) d_Le_thoseThatGo_0 (by decide) ?_
  refine r_lstore_n C (lv' := [(2, .long 0), (0, .ref (gA X 34)), (1, .int x1)]) d_Le_thoseThatGo_1 rfl (by decide) rfl rfl ?_
  refine r_iconst C (v := 0) d_Le_thoseThatGo_2 (by decide) ?_
  refine r_istore C (lv' := [(4, .int 0), (2, .long 0), (0, .ref (gA X 34)), (1, .int x1)]) d_Le_thoseThatGo_3 (by decide) rfl rfl ?_
  refine r_sub [2, 3, 1, 0] (lv' := [(0, .ref (gA X 34)), (1, .int x1), (2, .long 0), (4, .int 0)]) rfl ?_
  exact u_Le_thoseThatGo_5 C hR  (x1, 0, 0) h
set_option maxHeartbeats 4000000 in
set_option maxRecDepth 100000 in
theorem c_Le_thoseThatGo (l : Launch) (σ : gS) (x1 : Int32) {r : Int64} (h : f_Le_thoseThatGo σ x1 = some r) : gMet l y_Le_thoseThatGo b_Le_thoseThatGo_c 5 (some .long) 3 76 (fun a => [.ref (a 34), .int x1]) σ (some (.long r)) σ := by
  refine gMet_l (by decide +kernel) (fun a => Nat.le_of_ble_eq_true rfl) (fun X _ C hR => ?_)
  refine r_sub [0, 1] (lv' := [(0, .ref (gA X 34)), (1, .int x1)]) rfl ?_
  exact t_Le_thoseThatGo_0 C hR x1 h
theorem d_Le_takeAway_0 : decode b_Le_takeAway_c 0 = .ok (.iconst 0, 1) := by decide +kernel
theorem d_Le_takeAway_1 : decode b_Le_takeAway_c 1 = .ok (.istore 5, 2) := by decide +kernel
theorem d_Le_takeAway_3 : decode b_Le_takeAway_c 3 = .ok (.iload 5, 2) := by decide +kernel
theorem d_Le_takeAway_5 : decode b_Le_takeAway_c 5 = .ok (.aload_n 0, 1) := by decide +kernel
theorem d_Le_takeAway_6 : decode b_Le_takeAway_c 6 = .ok (.getfield 28, 3) := by decide +kernel
theorem d_Le_takeAway_9 : decode b_Le_takeAway_c 9 = .ok (.getfield 49, 3) := by decide +kernel
theorem d_Le_takeAway_12 : decode b_Le_takeAway_c 12 = .ok (.iload_n 1, 1) := by decide +kernel
theorem d_Le_takeAway_13 : decode b_Le_takeAway_c 13 = .ok (.iaload, 1) := by decide +kernel
theorem d_Le_takeAway_14 : decode b_Le_takeAway_c 14 = .ok (.if_icmp .ge 29, 3) := by decide +kernel
theorem d_Le_takeAway_17 : decode b_Le_takeAway_c 17 = .ok (.lload_n 2, 1) := by decide +kernel
theorem d_Le_takeAway_18 : decode b_Le_takeAway_c 18 = .ok (.iload 5, 2) := by decide +kernel
theorem d_Le_takeAway_20 : decode b_Le_takeAway_c 20 = .ok (.invokestatic 66, 3) := by decide +kernel
theorem d_Le_takeAway_23 : decode b_Le_takeAway_c 23 = .ok (.ifCond .eq 14, 3) := by decide +kernel
theorem d_Le_takeAway_26 : decode b_Le_takeAway_c 26 = .ok (.aload_n 0, 1) := by decide +kernel
theorem d_Le_takeAway_27 : decode b_Le_takeAway_c 27 = .ok (.getfield 11, 3) := by decide +kernel
theorem d_Le_takeAway_30 : decode b_Le_takeAway_c 30 = .ok (.iload_n 1, 1) := by decide +kernel
theorem d_Le_takeAway_31 : decode b_Le_takeAway_c 31 = .ok (.aaload, 1) := by decide +kernel
theorem d_Le_takeAway_32 : decode b_Le_takeAway_c 32 = .ok (.iload 5, 2) := by decide +kernel
theorem d_Le_takeAway_34 : decode b_Le_takeAway_c 34 = .ok (.iload 4, 2) := by decide +kernel
theorem d_Le_takeAway_36 : decode b_Le_takeAway_c 36 = .ok (.iastore, 1) := by decide +kernel
theorem d_Le_takeAway_37 : decode b_Le_takeAway_c 37 = .ok (.iinc 5 1, 3) := by decide +kernel
theorem d_Le_takeAway_40 : decode b_Le_takeAway_c 40 = .ok (.goto (-37), 3) := by decide +kernel
theorem d_Le_takeAway_43 : decode b_Le_takeAway_c 43 = .ok (.aload_n 0, 1) := by decide +kernel
theorem d_Le_takeAway_44 : decode b_Le_takeAway_c 44 = .ok (.getfield 16, 3) := by decide +kernel
theorem d_Le_takeAway_47 : decode b_Le_takeAway_c 47 = .ok (.iload_n 1, 1) := by decide +kernel
theorem d_Le_takeAway_48 : decode b_Le_takeAway_c 48 = .ok (.dup2, 1) := by decide +kernel
theorem d_Le_takeAway_49 : decode b_Le_takeAway_c 49 = .ok (.laload, 1) := by decide +kernel
theorem d_Le_takeAway_50 : decode b_Le_takeAway_c 50 = .ok (.lload_n 2, 1) := by decide +kernel
theorem d_Le_takeAway_51 : decode b_Le_takeAway_c 51 = .ok (.ldc2_w 78, 3) := by decide +kernel
theorem d_Le_takeAway_54 : decode b_Le_takeAway_c 54 = .ok (.lxor, 1) := by decide +kernel
theorem d_Le_takeAway_55 : decode b_Le_takeAway_c 55 = .ok (.land, 1) := by decide +kernel
theorem d_Le_takeAway_56 : decode b_Le_takeAway_c 56 = .ok (.lastore, 1) := by decide +kernel
theorem d_Le_takeAway_57 : decode b_Le_takeAway_c 57 = .ok (.return_, 1) := by decide +kernel
/-! GameRows$Leaving.takeAway(IJI)V -/
set_option maxHeartbeats 4000000 in
set_option maxRecDepth 100000 in
theorem t_Le_takeAway_37 {X : gX} {r : gS} (C : gC X b_Le_takeAway_c R_Le 6 1 22) (hR : ∀ pc lv, decode b_Le_takeAway_c pc = .ok (.return_, 1) → G X pc lv [] r) {k3 : Int32 × Int64 × Int32 × Int32 × gS → Option gS}  (hk3 : ∀ x, k3 x = some r → G X 3 [(0, .ref (gA X 34)), (1, .int x.1), (2, .long x.2.1), (4, .int x.2.2.1), (5, .int x.2.2.2.1)] [] x.2.2.2.2) (x1 : Int32) (x2 : Int64) (x4 : Int32) (x5 : Int32) (σ : gS) (h : b_Le_takeAway_37 k3 x1 x2 x4 x5 σ = some r) : G X 37 [(0, .ref (gA X 34)), (1, .int x1), (2, .long x2), (4, .int x4), (5, .int x5)] [] σ := by
  unfold b_Le_takeAway_37 at h
  obtain ⟨x5_1, ex5_1, h⟩ := bnd_some h
  refine r_iinc C 4 (lv' := [(5, .int x5_1), (0, .ref (gA X 34)), (1, .int x1), (2, .long x2), (4, .int x4)]) d_Le_takeAway_37 rfl (by rw [ex5_1]; rfl) (by decide) rfl ?_
  refine r_goto C (tgt := 3) d_Le_takeAway_40 (by decide) ?_
  refine r_sub [1, 2, 3, 4, 0] (lv' := [(0, .ref (gA X 34)), (1, .int x1), (2, .long x2), (4, .int x4), (5, .int x5_1)]) rfl ?_
  exact hk3 _ h
set_option maxHeartbeats 4000000 in
set_option maxRecDepth 100000 in
theorem t_Le_takeAway_3 {X : gX} {r : gS} (C : gC X b_Le_takeAway_c R_Le 6 1 22) (hR : ∀ pc lv, decode b_Le_takeAway_c pc = .ok (.return_, 1) → G X pc lv [] r) {k3 : Int32 × Int64 × Int32 × Int32 × gS → Option gS}  (hk3 : ∀ x, k3 x = some r → G X 3 [(0, .ref (gA X 34)), (1, .int x.1), (2, .long x.2.1), (4, .int x.2.2.1), (5, .int x.2.2.2.1)] [] x.2.2.2.2) (x1 : Int32) (x2 : Int64) (x4 : Int32) (x5 : Int32) (σ : gS) (h : b_Le_takeAway_3 k3 x1 x2 x4 x5 σ = some r) : G X 3 [(0, .ref (gA X 34)), (1, .int x1), (2, .long x2), (4, .int x4), (5, .int x5)] [] σ := by
  unfold b_Le_takeAway_3 at h
  refine r_iload C 4 d_Le_takeAway_3 rfl ?_
  refine r_aload_n C 0 d_Le_takeAway_5 rfl rfl ?_
  refine q_Le_28 C d_Le_takeAway_6 ?_
  refine q_Le_49 C d_Le_takeAway_9 ?_
  refine r_iload_n C 1 d_Le_takeAway_12 rfl rfl ?_
  obtain ⟨hi_1, h⟩ := ck_some h
  refine r_iald C hi_1 d_Le_takeAway_13 ?_
  refine r_icmp_ge C (tgt := 43) d_Le_takeAway_14 (by decide) (fun hc_2 => ?_) (fun hc_2 => ?_)
  · rw [if_pos hc_2] at h
    refine r_aload_n C 0 d_Le_takeAway_43 rfl rfl ?_
    refine q_Le_16 C d_Le_takeAway_44 ?_
    refine r_iload_n C 1 d_Le_takeAway_47 rfl rfl ?_
    refine r_dup2_11 C d_Le_takeAway_48 rfl rfl ?_
    obtain ⟨hi_3, h⟩ := ck_some h
    refine r_lald C hi_3 d_Le_takeAway_49 ?_
    refine r_lload_n C 2 d_Le_takeAway_50 rfl rfl ?_
    refine r_ldc2 C (v := (-1)) m_235 d_Le_takeAway_51 ?_
    refine r_lxor C d_Le_takeAway_54 ?_
    refine r_land C d_Le_takeAway_55 ?_
    obtain ⟨hi_4, h⟩ := ck_some h
    obtain ⟨σ_5, eσ_5, h⟩ := bnd_some h
    refine r_last C hi_4 eσ_5 d_Le_takeAway_56 ?_
    cases h
    exact hR _ _ d_Le_takeAway_57
  · rw [if_neg hc_2] at h
    refine r_lload_n C 2 d_Le_takeAway_17 rfl rfl ?_
    refine r_iload C 4 d_Le_takeAway_18 rfl ?_
    obtain ⟨r_6, er_6, h⟩ := bind_some h
    refine r_callSN C (As := [.long x2, .int x5]) (rest := []) (st1 := [.int r_6]) (c_Ga_hasBit X.1.2.1 σ x2 x5 er_6) k_Ga_hasBit n_Le_66 rfl rfl rfl (Nat.le_of_ble_eq_true rfl) ⟨Nat.le_of_ble_eq_true rfl, Nat.le_of_ble_eq_true rfl⟩ d_Le_takeAway_20 rfl ?_
    refine r_if_eq C (tgt := 37) d_Le_takeAway_23 (by decide) (fun hc_7 => ?_) (fun hc_7 => ?_)
    · rw [if_pos hc_7] at h
      exact t_Le_takeAway_37 C hR hk3 x1 x2 x4 x5 σ h
    · rw [if_neg hc_7] at h
      refine r_aload_n C 0 d_Le_takeAway_26 rfl rfl ?_
      refine q_Le_11 C d_Le_takeAway_27 ?_
      refine r_iload_n C 1 d_Le_takeAway_30 rfl rfl ?_
      obtain ⟨hi_8, h⟩ := ck_some h
      refine o_35 C (k' := 35 + 1 + x1.toNatClampNeg) hi_8 rfl d_Le_takeAway_31 ?_
      refine r_iload C 4 d_Le_takeAway_32 rfl ?_
      refine r_iload C 3 d_Le_takeAway_34 rfl ?_
      obtain ⟨hi_9, h⟩ := ck_some h
      obtain ⟨σ_10, eσ_10, h⟩ := bnd_some h
      refine r_iast C hi_9 eσ_10 d_Le_takeAway_36 ?_
      exact t_Le_takeAway_37 C hR hk3 x1 x2 x4 x5 σ_10 h
set_option maxHeartbeats 4000000 in
set_option maxRecDepth 100000 in
theorem u_Le_takeAway_3 {X : gX} {r : gS} (C : gC X b_Le_takeAway_c R_Le 6 1 22) (hR : ∀ pc lv, decode b_Le_takeAway_c pc = .ok (.return_, 1) → G X pc lv [] r)  (x : Int32 × Int64 × Int32 × Int32 × gS) (h : l_Le_takeAway_3 x = some r) : G X 3 [(0, .ref (gA X 34)), (1, .int x.1), (2, .long x.2.1), (4, .int x.2.2.1), (5, .int x.2.2.2.1)] [] x.2.2.2.2 :=
  lpF_ind (P := fun x => G X 3 [(0, .ref (gA X 34)), (1, .int x.1), (2, .long x.2.1), (4, .int x.2.2.1), (5, .int x.2.2.2.1)] [] x.2.2.2.2) (fun k hk x h => t_Le_takeAway_3 C hR hk x.1 x.2.1 x.2.2.1 x.2.2.2.1 x.2.2.2.2 h) gF x h
set_option maxHeartbeats 4000000 in
set_option maxRecDepth 100000 in
theorem t_Le_takeAway_0 {X : gX} {r : gS} (C : gC X b_Le_takeAway_c R_Le 6 1 22) (hR : ∀ pc lv, decode b_Le_takeAway_c pc = .ok (.return_, 1) → G X pc lv [] r) (x1 : Int32) (x2 : Int64) (x4 : Int32) (σ : gS) (h : b_Le_takeAway_0 x1 x2 x4 σ = some r) : G X 0 [(0, .ref (gA X 34)), (1, .int x1), (2, .long x2), (4, .int x4)] [] σ := by
  unfold b_Le_takeAway_0 at h
  refine r_iconst C (v := 0) d_Le_takeAway_0 (by decide) ?_
  refine r_istore C (lv' := [(5, .int 0), (0, .ref (gA X 34)), (1, .int x1), (2, .long x2), (4, .int x4)]) d_Le_takeAway_1 (by decide) rfl rfl ?_
  refine r_sub [1, 2, 3, 4, 0] (lv' := [(0, .ref (gA X 34)), (1, .int x1), (2, .long x2), (4, .int x4), (5, .int 0)]) rfl ?_
  exact u_Le_takeAway_3 C hR  (x1, x2, x4, 0, σ) h
set_option maxHeartbeats 4000000 in
set_option maxRecDepth 100000 in
theorem c_Le_takeAway (l : Launch) (σ : gS) (x1 : Int32) (x2 : Int64) (x4 : Int32) {r : gS} (h : f_Le_takeAway σ x1 x2 x4 = some r) : gMet l y_Le_takeAway b_Le_takeAway_c 6 (none) 1 22 (fun a => [.ref (a 34), .int x1, .long x2, .int x4]) σ (none) r := by
  refine gMet_v (by decide +kernel) (fun a => Nat.le_of_ble_eq_true rfl) (fun X _ C hR => ?_)
  refine r_sub [0, 1, 2, 3] (lv' := [(0, .ref (gA X 34)), (1, .int x1), (2, .long x2), (4, .int x4)]) rfl ?_
  exact t_Le_takeAway_0 C hR x1 x2 x4 σ h
theorem d_Le_playAll_0 : decode b_Le_playAll_c 0 = .ok (.aload_n 0, 1) := by decide +kernel
theorem d_Le_playAll_1 : decode b_Le_playAll_c 1 = .ok (.getfield 20, 3) := by decide +kernel
theorem d_Le_playAll_4 : decode b_Le_playAll_c 4 = .ok (.aload_n 0, 1) := by decide +kernel
theorem d_Le_playAll_5 : decode b_Le_playAll_c 5 = .ok (.getfield 24, 3) := by decide +kernel
theorem d_Le_playAll_8 : decode b_Le_playAll_c 8 = .ok (.getfield 38, 3) := by decide +kernel
theorem d_Le_playAll_11 : decode b_Le_playAll_c 11 = .ok (.if_icmp .ne 4, 3) := by decide +kernel
theorem d_Le_playAll_14 : decode b_Le_playAll_c 14 = .ok (.return_, 1) := by decide +kernel
theorem d_Le_playAll_15 : decode b_Le_playAll_c 15 = .ok (.aload_n 0, 1) := by decide +kernel
theorem d_Le_playAll_16 : decode b_Le_playAll_c 16 = .ok (.aload_n 0, 1) := by decide +kernel
theorem d_Le_playAll_17 : decode b_Le_playAll_c 17 = .ok (.getfield 24, 3) := by decide +kernel
theorem d_Le_playAll_20 : decode b_Le_playAll_c 20 = .ok (.getfield 38, 3) := by decide +kernel
theorem d_Le_playAll_23 : decode b_Le_playAll_c 23 = .ok (.putfield 20, 3) := by decide +kernel
theorem d_Le_playAll_26 : decode b_Le_playAll_c 26 = .ok (.iconst 0, 1) := by decide +kernel
theorem d_Le_playAll_27 : decode b_Le_playAll_c 27 = .ok (.istore_n 1, 1) := by decide +kernel
theorem d_Le_playAll_28 : decode b_Le_playAll_c 28 = .ok (.iload_n 1, 1) := by decide +kernel
theorem d_Le_playAll_29 : decode b_Le_playAll_c 29 = .ok (.iconst 2, 1) := by decide +kernel
theorem d_Le_playAll_30 : decode b_Le_playAll_c 30 = .ok (.if_icmp .ge 37, 3) := by decide +kernel
theorem d_Le_playAll_33 : decode b_Le_playAll_c 33 = .ok (.aload_n 0, 1) := by decide +kernel
theorem d_Le_playAll_34 : decode b_Le_playAll_c 34 = .ok (.getfield 11, 3) := by decide +kernel
theorem d_Le_playAll_37 : decode b_Le_playAll_c 37 = .ok (.iload_n 1, 1) := by decide +kernel
theorem d_Le_playAll_38 : decode b_Le_playAll_c 38 = .ok (.aaload, 1) := by decide +kernel
theorem d_Le_playAll_39 : decode b_Le_playAll_c 39 = .ok (.iconst (-1), 1) := by decide +kernel
theorem d_Le_playAll_40 : decode b_Le_playAll_c 40 = .ok (.invokestatic 43, 3) := by decide +kernel
theorem d_Le_playAll_43 : decode b_Le_playAll_c 43 = .ok (.aload_n 0, 1) := by decide +kernel
theorem d_Le_playAll_44 : decode b_Le_playAll_c 44 = .ok (.getfield 16, 3) := by decide +kernel
theorem d_Le_playAll_47 : decode b_Le_playAll_c 47 = .ok (.iload_n 1, 1) := by decide +kernel
theorem d_Le_playAll_48 : decode b_Le_playAll_c 48 = .ok (.aload_n 0, 1) := by decide +kernel
theorem d_Le_playAll_49 : decode b_Le_playAll_c 49 = .ok (.getfield 28, 3) := by decide +kernel
theorem d_Le_playAll_52 : decode b_Le_playAll_c 52 = .ok (.getfield 49, 3) := by decide +kernel
theorem d_Le_playAll_55 : decode b_Le_playAll_c 55 = .ok (.iload_n 1, 1) := by decide +kernel
theorem d_Le_playAll_56 : decode b_Le_playAll_c 56 = .ok (.iaload, 1) := by decide +kernel
theorem d_Le_playAll_57 : decode b_Le_playAll_c 57 = .ok (.invokestatic 55, 3) := by decide +kernel
theorem d_Le_playAll_60 : decode b_Le_playAll_c 60 = .ok (.lastore, 1) := by decide +kernel
theorem d_Le_playAll_61 : decode b_Le_playAll_c 61 = .ok (.iinc 1 1, 3) := by decide +kernel
theorem d_Le_playAll_64 : decode b_Le_playAll_c 64 = .ok (.goto (-36), 3) := by decide +kernel
theorem d_Le_playAll_67 : decode b_Le_playAll_c 67 = .ok (.iconst 1, 1) := by decide +kernel
theorem d_Le_playAll_68 : decode b_Le_playAll_c 68 = .ok (.istore_n 1, 1) := by decide +kernel
theorem d_Le_playAll_69 : decode b_Le_playAll_c 69 = .ok (.iload_n 1, 1) := by decide +kernel
theorem d_Le_playAll_70 : decode b_Le_playAll_c 70 = .ok (.sipush 128, 3) := by decide +kernel
theorem d_Le_playAll_73 : decode b_Le_playAll_c 73 = .ok (.if_icmp .gt 53, 3) := by decide +kernel
theorem d_Le_playAll_76 : decode b_Le_playAll_c 76 = .ok (.aload_n 0, 1) := by decide +kernel
theorem d_Le_playAll_77 : decode b_Le_playAll_c 77 = .ok (.iconst 0, 1) := by decide +kernel
theorem d_Le_playAll_78 : decode b_Le_playAll_c 78 = .ok (.invokevirtual 59, 3) := by decide +kernel
theorem d_Le_playAll_81 : decode b_Le_playAll_c 81 = .ok (.lstore_n 2, 1) := by decide +kernel
theorem d_Le_playAll_82 : decode b_Le_playAll_c 82 = .ok (.aload_n 0, 1) := by decide +kernel
theorem d_Le_playAll_83 : decode b_Le_playAll_c 83 = .ok (.iconst 1, 1) := by decide +kernel
theorem d_Le_playAll_84 : decode b_Le_playAll_c 84 = .ok (.invokevirtual 59, 3) := by decide +kernel
theorem d_Le_playAll_87 : decode b_Le_playAll_c 87 = .ok (.lstore 4, 2) := by decide +kernel
theorem d_Le_playAll_89 : decode b_Le_playAll_c 89 = .ok (.lload_n 2, 1) := by decide +kernel
theorem d_Le_playAll_90 : decode b_Le_playAll_c 90 = .ok (.lconst 0, 1) := by decide +kernel
theorem d_Le_playAll_91 : decode b_Le_playAll_c 91 = .ok (.lcmp, 1) := by decide +kernel
theorem d_Le_playAll_92 : decode b_Le_playAll_c 92 = .ok (.ifCond .ne 13, 3) := by decide +kernel
theorem d_Le_playAll_95 : decode b_Le_playAll_c 95 = .ok (.lload 4, 2) := by decide +kernel
theorem d_Le_playAll_97 : decode b_Le_playAll_c 97 = .ok (.lconst 0, 1) := by decide +kernel
theorem d_Le_playAll_98 : decode b_Le_playAll_c 98 = .ok (.lcmp, 1) := by decide +kernel
theorem d_Le_playAll_99 : decode b_Le_playAll_c 99 = .ok (.ifCond .ne 6, 3) := by decide +kernel
theorem d_Le_playAll_102 : decode b_Le_playAll_c 102 = .ok (.goto 24, 3) := by decide +kernel
theorem d_Le_playAll_105 : decode b_Le_playAll_c 105 = .ok (.aload_n 0, 1) := by decide +kernel
theorem d_Le_playAll_106 : decode b_Le_playAll_c 106 = .ok (.iconst 0, 1) := by decide +kernel
theorem d_Le_playAll_107 : decode b_Le_playAll_c 107 = .ok (.lload_n 2, 1) := by decide +kernel
theorem d_Le_playAll_108 : decode b_Le_playAll_c 108 = .ok (.iload_n 1, 1) := by decide +kernel
theorem d_Le_playAll_109 : decode b_Le_playAll_c 109 = .ok (.invokevirtual 62, 3) := by decide +kernel
theorem d_Le_playAll_112 : decode b_Le_playAll_c 112 = .ok (.aload_n 0, 1) := by decide +kernel
theorem d_Le_playAll_113 : decode b_Le_playAll_c 113 = .ok (.iconst 1, 1) := by decide +kernel
theorem d_Le_playAll_114 : decode b_Le_playAll_c 114 = .ok (.lload 4, 2) := by decide +kernel
theorem d_Le_playAll_116 : decode b_Le_playAll_c 116 = .ok (.iload_n 1, 1) := by decide +kernel
theorem d_Le_playAll_117 : decode b_Le_playAll_c 117 = .ok (.invokevirtual 62, 3) := by decide +kernel
theorem d_Le_playAll_120 : decode b_Le_playAll_c 120 = .ok (.iinc 1 1, 3) := by decide +kernel
theorem d_Le_playAll_123 : decode b_Le_playAll_c 123 = .ok (.goto (-54), 3) := by decide +kernel
theorem d_Le_playAll_126 : decode b_Le_playAll_c 126 = .ok (.return_, 1) := by decide +kernel
/-! GameRows$Leaving.playAll()V -/
set_option maxHeartbeats 4000000 in
set_option maxRecDepth 100000 in
theorem t_Le_playAll_105 {X : gX} {r : gS} (C : gC X b_Le_playAll_c R_Le 6 4 100) (hR : ∀ pc lv, decode b_Le_playAll_c pc = .ok (.return_, 1) → G X pc lv [] r) {k69 : Int32 × gS → Option gS}  (hk69 : ∀ x, k69 x = some r → G X 69 [(0, .ref (gA X 34)), (1, .int x.1)] [] x.2) (x1 : Int32) (x2 : Int64) (x4 : Int64) (σ : gS) (h : b_Le_playAll_105 k69 x1 x2 x4 σ = some r) : G X 105 [(0, .ref (gA X 34)), (1, .int x1), (2, .long x2), (4, .long x4)] [] σ := by
  unfold b_Le_playAll_105 at h
  refine r_aload_n C 0 d_Le_playAll_105 rfl rfl ?_
  refine r_iconst C (v := 0) d_Le_playAll_106 (by decide) ?_
  refine r_lload_n C 2 d_Le_playAll_107 rfl rfl ?_
  refine r_iload_n C 1 d_Le_playAll_108 rfl rfl ?_
  obtain ⟨r_1, er_1, h⟩ := bind_some h
  refine r_callV C (As := [.int 0, .long x2, .int x1]) (rest := []) (st1 := []) (c_Le_takeAway X.1.2.1 σ 0 x2 x1 er_1) k_Le_takeAway m_237 (by decide) cel_Le rfl rfl rfl rfl (Nat.le_of_ble_eq_true rfl) ⟨Nat.le_of_ble_eq_true rfl, Nat.le_of_ble_eq_true rfl⟩ d_Le_playAll_109 rfl ?_
  refine r_aload_n C 0 d_Le_playAll_112 rfl rfl ?_
  refine r_iconst C (v := 1) d_Le_playAll_113 (by decide) ?_
  refine r_lload C 3 d_Le_playAll_114 rfl ?_
  refine r_iload_n C 1 d_Le_playAll_116 rfl rfl ?_
  obtain ⟨r_2, er_2, h⟩ := bind_some h
  refine r_callV C (As := [.int 1, .long x4, .int x1]) (rest := []) (st1 := []) (c_Le_takeAway X.1.2.1 r_1 1 x4 x1 er_2) k_Le_takeAway m_237 (by decide) cel_Le rfl rfl rfl rfl (Nat.le_of_ble_eq_true rfl) ⟨Nat.le_of_ble_eq_true rfl, Nat.le_of_ble_eq_true rfl⟩ d_Le_playAll_117 rfl ?_
  obtain ⟨x1_3, ex1_3, h⟩ := bnd_some h
  refine r_iinc C 1 (lv' := [(1, .int x1_3), (0, .ref (gA X 34)), (2, .long x2), (4, .long x4)]) d_Le_playAll_120 rfl (by rw [ex1_3]; rfl) (by decide) rfl ?_
  refine r_goto C (tgt := 69) d_Le_playAll_123 (by decide) ?_
  refine r_sub [1, 0] (lv' := [(0, .ref (gA X 34)), (1, .int x1_3)]) rfl ?_
  exact hk69 _ h
set_option maxHeartbeats 4000000 in
set_option maxRecDepth 100000 in
theorem t_Le_playAll_69 {X : gX} {r : gS} (C : gC X b_Le_playAll_c R_Le 6 4 100) (hR : ∀ pc lv, decode b_Le_playAll_c pc = .ok (.return_, 1) → G X pc lv [] r) {k69 : Int32 × gS → Option gS}  (hk69 : ∀ x, k69 x = some r → G X 69 [(0, .ref (gA X 34)), (1, .int x.1)] [] x.2) (x1 : Int32) (σ : gS) (h : b_Le_playAll_69 k69 x1 σ = some r) : G X 69 [(0, .ref (gA X 34)), (1, .int x1)] [] σ := by
  unfold b_Le_playAll_69 at h
  refine r_iload_n C 1 d_Le_playAll_69 rfl rfl ?_
  refine r_sipush C (v := 128) d_Le_playAll_70 (by decide) ?_
  refine r_icmp_gt C (tgt := 126) d_Le_playAll_73 (by decide) (fun hc_1 => ?_) (fun hc_1 => ?_)
  · rw [if_pos hc_1] at h
    cases h
    exact hR _ _ d_Le_playAll_126
  · rw [if_neg hc_1] at h
    refine r_aload_n C 0 d_Le_playAll_76 rfl rfl ?_
    refine r_iconst C (v := 0) d_Le_playAll_77 (by decide) ?_
    obtain ⟨r_2, er_2, h⟩ := bind_some h
    refine r_callV C (As := [.int 0]) (rest := []) (st1 := [.long r_2]) (c_Le_thoseThatGo X.1.2.1 σ 0 er_2) k_Le_thoseThatGo m_242 (by decide) cel_Le rfl rfl rfl rfl (Nat.le_of_ble_eq_true rfl) ⟨Nat.le_of_ble_eq_true rfl, Nat.le_of_ble_eq_true rfl⟩ d_Le_playAll_78 rfl ?_
    refine r_lstore_n C (lv' := [(2, .long r_2), (0, .ref (gA X 34)), (1, .int x1)]) d_Le_playAll_81 rfl (by decide) rfl rfl ?_
    refine r_aload_n C 1 d_Le_playAll_82 rfl rfl ?_
    refine r_iconst C (v := 1) d_Le_playAll_83 (by decide) ?_
    obtain ⟨r_3, er_3, h⟩ := bind_some h
    refine r_callV C (As := [.int 1]) (rest := []) (st1 := [.long r_3]) (c_Le_thoseThatGo X.1.2.1 σ 1 er_3) k_Le_thoseThatGo m_242 (by decide) cel_Le rfl rfl rfl rfl (Nat.le_of_ble_eq_true rfl) ⟨Nat.le_of_ble_eq_true rfl, Nat.le_of_ble_eq_true rfl⟩ d_Le_playAll_84 rfl ?_
    refine r_lstore C (lv' := [(4, .long r_3), (2, .long r_2), (0, .ref (gA X 34)), (1, .int x1)]) d_Le_playAll_87 (by decide) rfl rfl ?_
    refine r_lload_n C 1 d_Le_playAll_89 rfl rfl ?_
    refine r_lconst C (v := 0) d_Le_playAll_90 (by decide) ?_
    refine r_lcmp C d_Le_playAll_91 ?_
    refine r_if_ne C (tgt := 105) d_Le_playAll_92 (by decide) (fun hc_4 => ?_) (fun hc_4 => ?_)
    · rw [if_neg hc_4] at h
      refine r_sub [2, 3, 1, 0] (lv' := [(0, .ref (gA X 34)), (1, .int x1), (2, .long r_2), (4, .long r_3)]) rfl ?_
      exact t_Le_playAll_105 C hR hk69 x1 r_2 r_3 σ h
    · rw [if_pos hc_4] at h
      refine r_lload C 0 d_Le_playAll_95 rfl ?_
      refine r_lconst C (v := 0) d_Le_playAll_97 (by decide) ?_
      refine r_lcmp C d_Le_playAll_98 ?_
      refine r_if_ne C (tgt := 105) d_Le_playAll_99 (by decide) (fun hc_5 => ?_) (fun hc_5 => ?_)
      · rw [if_neg hc_5] at h
        refine r_sub [2, 3, 1, 0] (lv' := [(0, .ref (gA X 34)), (1, .int x1), (2, .long r_2), (4, .long r_3)]) rfl ?_
        exact t_Le_playAll_105 C hR hk69 x1 r_2 r_3 σ h
      · rw [if_pos hc_5] at h
        refine r_goto C (tgt := 126) d_Le_playAll_102 (by decide) ?_
        cases h
        exact hR _ _ d_Le_playAll_126
set_option maxHeartbeats 4000000 in
set_option maxRecDepth 100000 in
theorem u_Le_playAll_69 {X : gX} {r : gS} (C : gC X b_Le_playAll_c R_Le 6 4 100) (hR : ∀ pc lv, decode b_Le_playAll_c pc = .ok (.return_, 1) → G X pc lv [] r)  (x : Int32 × gS) (h : l_Le_playAll_69 x = some r) : G X 69 [(0, .ref (gA X 34)), (1, .int x.1)] [] x.2 :=
  lpF_ind (P := fun x => G X 69 [(0, .ref (gA X 34)), (1, .int x.1)] [] x.2) (fun k hk x h => t_Le_playAll_69 C hR hk x.1 x.2 h) gF x h
set_option maxHeartbeats 4000000 in
set_option maxRecDepth 100000 in
theorem t_Le_playAll_28 {X : gX} {r : gS} (C : gC X b_Le_playAll_c R_Le 6 4 100) (hR : ∀ pc lv, decode b_Le_playAll_c pc = .ok (.return_, 1) → G X pc lv [] r) {k28 : Int32 × gS → Option gS}  (hk28 : ∀ x, k28 x = some r → G X 28 [(0, .ref (gA X 34)), (1, .int x.1)] [] x.2) (x1 : Int32) (σ : gS) (h : b_Le_playAll_28 k28 x1 σ = some r) : G X 28 [(0, .ref (gA X 34)), (1, .int x1)] [] σ := by
  unfold b_Le_playAll_28 at h
  refine r_iload_n C 1 d_Le_playAll_28 rfl rfl ?_
  refine r_iconst C (v := 2) d_Le_playAll_29 (by decide) ?_
  refine r_icmp_ge C (tgt := 67) d_Le_playAll_30 (by decide) (fun hc_1 => ?_) (fun hc_1 => ?_)
  · rw [if_pos hc_1] at h
    refine r_iconst C (v := 1) d_Le_playAll_67 (by decide) ?_
    refine r_istore_n C (lv' := [(1, .int 1), (0, .ref (gA X 34))]) d_Le_playAll_68 rfl (by decide) rfl rfl ?_
    refine r_sub [1, 0] (lv' := [(0, .ref (gA X 34)), (1, .int 1)]) rfl ?_
    exact u_Le_playAll_69 C hR  (1, σ) h
  · rw [if_neg hc_1] at h
    refine r_aload_n C 0 d_Le_playAll_33 rfl rfl ?_
    refine q_Le_11 C d_Le_playAll_34 ?_
    refine r_iload_n C 1 d_Le_playAll_37 rfl rfl ?_
    obtain ⟨hi_2, h⟩ := ck_some h
    refine o_35 C (k' := 35 + 1 + x1.toNatClampNeg) hi_2 rfl d_Le_playAll_38 ?_
    refine r_iconst C (v := (-1)) d_Le_playAll_39 (by decide) ?_
    obtain ⟨r_3, er_3, h⟩ := bind_some h
    refine r_callS C (As := [.ref (gA X (35 + 1 + x1.toNatClampNeg)), .int (-1)]) (rest := []) (st1 := []) (c_Ar_fillI X.1.2.1 σ (35 + 1 + x1.toNatClampNeg) (-1) er_3) k_Ar_fillI m_246 rfl rfl rfl (Nat.le_of_ble_eq_true rfl) ⟨Nat.le_of_ble_eq_true rfl, Nat.le_of_ble_eq_true rfl⟩ d_Le_playAll_40 rfl ?_
    refine r_aload_n C 0 d_Le_playAll_43 rfl rfl ?_
    refine q_Le_16 C d_Le_playAll_44 ?_
    refine r_iload_n C 1 d_Le_playAll_47 rfl rfl ?_
    refine r_aload_n C 0 d_Le_playAll_48 rfl rfl ?_
    refine q_Le_28 C d_Le_playAll_49 ?_
    refine q_Le_49 C d_Le_playAll_52 ?_
    refine r_iload_n C 1 d_Le_playAll_55 rfl rfl ?_
    obtain ⟨hi_4, h⟩ := ck_some h
    refine r_iald C hi_4 d_Le_playAll_56 ?_
    obtain ⟨r_5, er_5, h⟩ := bind_some h
    refine r_callSN C (As := [.int (gI r_3 17 x1.toNatClampNeg)]) (rest := [.int x1, .ref (gA X 38)]) (st1 := [.long r_5, .int x1, .ref (gA X 38)]) (c_Ga_firstBits X.1.2.1 r_3 (gI r_3 17 x1.toNatClampNeg) er_5) k_Ga_firstBits n_Le_55 rfl rfl rfl (Nat.le_of_ble_eq_true rfl) ⟨Nat.le_of_ble_eq_true rfl, Nat.le_of_ble_eq_true rfl⟩ d_Le_playAll_57 rfl ?_
    obtain ⟨hi_6, h⟩ := ck_some h
    obtain ⟨σ_7, eσ_7, h⟩ := bnd_some h
    refine r_last C hi_6 eσ_7 d_Le_playAll_60 ?_
    obtain ⟨x1_8, ex1_8, h⟩ := bnd_some h
    refine r_iinc C 1 (lv' := [(1, .int x1_8), (0, .ref (gA X 34))]) d_Le_playAll_61 rfl (by rw [ex1_8]; rfl) (by decide) rfl ?_
    refine r_goto C (tgt := 28) d_Le_playAll_64 (by decide) ?_
    refine r_sub [1, 0] (lv' := [(0, .ref (gA X 34)), (1, .int x1_8)]) rfl ?_
    exact hk28 _ h
set_option maxHeartbeats 4000000 in
set_option maxRecDepth 100000 in
theorem u_Le_playAll_28 {X : gX} {r : gS} (C : gC X b_Le_playAll_c R_Le 6 4 100) (hR : ∀ pc lv, decode b_Le_playAll_c pc = .ok (.return_, 1) → G X pc lv [] r)  (x : Int32 × gS) (h : l_Le_playAll_28 x = some r) : G X 28 [(0, .ref (gA X 34)), (1, .int x.1)] [] x.2 :=
  lpF_ind (P := fun x => G X 28 [(0, .ref (gA X 34)), (1, .int x.1)] [] x.2) (fun k hk x h => t_Le_playAll_28 C hR hk x.1 x.2 h) gF x h
set_option maxHeartbeats 4000000 in
set_option maxRecDepth 100000 in
theorem t_Le_playAll_0 {X : gX} {r : gS} (C : gC X b_Le_playAll_c R_Le 6 4 100) (hR : ∀ pc lv, decode b_Le_playAll_c pc = .ok (.return_, 1) → G X pc lv [] r) (σ : gS) (h : b_Le_playAll_0 σ = some r) : G X 0 [(0, .ref (gA X 34))] [] σ := by
  unfold b_Le_playAll_0 at h
  refine r_aload_n C 0 d_Le_playAll_0 rfl rfl ?_
  refine q_Le_20 C d_Le_playAll_1 ?_
  refine r_aload_n C 0 d_Le_playAll_4 rfl rfl ?_
  refine q_Le_24 C d_Le_playAll_5 ?_
  refine q_Le_38 C d_Le_playAll_8 ?_
  refine r_icmp_ne C (tgt := 15) d_Le_playAll_11 (by decide) (fun hc_1 => ?_) (fun hc_1 => ?_)
  · rw [if_neg hc_1] at h
    refine r_aload_n C 0 d_Le_playAll_15 rfl rfl ?_
    refine r_aload_n C 0 d_Le_playAll_16 rfl rfl ?_
    refine q_Le_24 C d_Le_playAll_17 ?_
    refine q_Le_38 C d_Le_playAll_20 ?_
    obtain ⟨σ_2, eσ_2, h⟩ := bnd_some h
    refine p_Le_20 C eσ_2 d_Le_playAll_23 ?_
    refine r_iconst C (v := 0) d_Le_playAll_26 (by decide) ?_
    refine r_istore_n C (lv' := [(1, .int 0), (0, .ref (gA X 34))]) d_Le_playAll_27 rfl (by decide) rfl rfl ?_
    refine r_sub [1, 0] (lv' := [(0, .ref (gA X 34)), (1, .int 0)]) rfl ?_
    exact u_Le_playAll_28 C hR  (0, σ_2) h
  · rw [if_pos hc_1] at h
    cases h
    exact hR _ _ d_Le_playAll_14
set_option maxHeartbeats 4000000 in
set_option maxRecDepth 100000 in
theorem c_Le_playAll (l : Launch) (σ : gS)  {r : gS} (h : f_Le_playAll σ = some r) : gMet l y_Le_playAll b_Le_playAll_c 6 (none) 4 100 (fun a => [.ref (a 34)]) σ (none) r := by
  refine gMet_v (by decide +kernel) (fun a => Nat.le_of_ble_eq_true rfl) (fun X _ C hR => ?_)
  refine r_sub [0] (lv' := [(0, .ref (gA X 34))]) rfl ?_
  exact t_Le_playAll_0 C hR σ h
theorem d_Le_pairsLeft_0 : decode b_Le_pairsLeft_c 0 = .ok (.aload_n 0, 1) := by decide +kernel
theorem d_Le_pairsLeft_1 : decode b_Le_pairsLeft_c 1 = .ok (.getfield 16, 3) := by decide +kernel
theorem d_Le_pairsLeft_4 : decode b_Le_pairsLeft_c 4 = .ok (.iconst 0, 1) := by decide +kernel
theorem d_Le_pairsLeft_5 : decode b_Le_pairsLeft_c 5 = .ok (.laload, 1) := by decide +kernel
theorem d_Le_pairsLeft_6 : decode b_Le_pairsLeft_c 6 = .ok (.invokestatic 32, 3) := by decide +kernel
theorem d_Le_pairsLeft_9 : decode b_Le_pairsLeft_c 9 = .ok (.aload_n 0, 1) := by decide +kernel
theorem d_Le_pairsLeft_10 : decode b_Le_pairsLeft_c 10 = .ok (.getfield 16, 3) := by decide +kernel
theorem d_Le_pairsLeft_13 : decode b_Le_pairsLeft_c 13 = .ok (.iconst 1, 1) := by decide +kernel
theorem d_Le_pairsLeft_14 : decode b_Le_pairsLeft_c 14 = .ok (.laload, 1) := by decide +kernel
theorem d_Le_pairsLeft_15 : decode b_Le_pairsLeft_c 15 = .ok (.invokestatic 32, 3) := by decide +kernel
theorem d_Le_pairsLeft_18 : decode b_Le_pairsLeft_c 18 = .ok (.imul, 1) := by decide +kernel
theorem d_Le_pairsLeft_19 : decode b_Le_pairsLeft_c 19 = .ok (.ireturn, 1) := by decide +kernel
/-! GameRows$Leaving.pairsLeft()I -/
set_option maxHeartbeats 4000000 in
set_option maxRecDepth 100000 in
theorem t_Le_pairsLeft_0 {X : gX} {r : Int32} {σ : gS} (C : gC X b_Le_pairsLeft_c R_Le 1 1 21) (hR : ∀ pc lv, decode b_Le_pairsLeft_c pc = .ok (.ireturn, 1) → G X pc lv [.int r] σ)  (h : b_Le_pairsLeft_0 σ = some r) : G X 0 [(0, .ref (gA X 34))] [] σ := by
  unfold b_Le_pairsLeft_0 at h
  refine r_aload_n C 0 d_Le_pairsLeft_0 rfl rfl ?_
  refine q_Le_16 C d_Le_pairsLeft_1 ?_
  refine r_iconst C (v := 0) d_Le_pairsLeft_4 (by decide) ?_
  obtain ⟨hi_1, h⟩ := ck_some h
  refine r_lald C hi_1 d_Le_pairsLeft_5 ?_
  obtain ⟨r_2, er_2, h⟩ := bind_some h
  refine r_callS C (As := [.long (gL σ 38 (0 : Int32).toNatClampNeg)]) (rest := []) (st1 := [.int r_2]) (c_Lo_bitCount X.1.2.1 σ (gL σ 38 (0 : Int32).toNatClampNeg) er_2) k_Lo_bitCount m_250 rfl rfl rfl (Nat.le_of_ble_eq_true rfl) ⟨Nat.le_of_ble_eq_true rfl, Nat.le_of_ble_eq_true rfl⟩ d_Le_pairsLeft_6 rfl ?_
  refine r_aload_n C 0 d_Le_pairsLeft_9 rfl rfl ?_
  refine q_Le_16 C d_Le_pairsLeft_10 ?_
  refine r_iconst C (v := 1) d_Le_pairsLeft_13 (by decide) ?_
  obtain ⟨hi_3, h⟩ := ck_some h
  refine r_lald C hi_3 d_Le_pairsLeft_14 ?_
  obtain ⟨r_4, er_4, h⟩ := bind_some h
  refine r_callS C (As := [.long (gL σ 38 (1 : Int32).toNatClampNeg)]) (rest := [.int r_2]) (st1 := [.int r_4, .int r_2]) (c_Lo_bitCount X.1.2.1 σ (gL σ 38 (1 : Int32).toNatClampNeg) er_4) k_Lo_bitCount m_250 rfl rfl rfl (Nat.le_of_ble_eq_true rfl) ⟨Nat.le_of_ble_eq_true rfl, Nat.le_of_ble_eq_true rfl⟩ d_Le_pairsLeft_15 rfl ?_
  refine r_imul C d_Le_pairsLeft_18 ?_
  cases h
  exact hR _ _ d_Le_pairsLeft_19
set_option maxHeartbeats 4000000 in
set_option maxRecDepth 100000 in
theorem c_Le_pairsLeft (l : Launch) (σ : gS)  {r : Int32} (h : f_Le_pairsLeft σ = some r) : gMet l y_Le_pairsLeft b_Le_pairsLeft_c 1 (some .int) 1 21 (fun a => [.ref (a 34)]) σ (some (.int r)) σ := by
  refine gMet_i (by decide +kernel) (fun a => Nat.le_of_ble_eq_true rfl) (fun X _ C hR => ?_)
  refine r_sub [0] (lv' := [(0, .ref (gA X 34))]) rfl ?_
  exact t_Le_pairsLeft_0 C hR  h
theorem d_Fo_depthOfTree_0 : decode b_Fo_depthOfTree_c 0 = .ok (.aload_n 0, 1) := by decide +kernel
theorem d_Fo_depthOfTree_1 : decode b_Fo_depthOfTree_c 1 = .ok (.getfield 9, 3) := by decide +kernel
theorem d_Fo_depthOfTree_4 : decode b_Fo_depthOfTree_c 4 = .ok (.ifCond .ne 7, 3) := by decide +kernel
theorem d_Fo_depthOfTree_7 : decode b_Fo_depthOfTree_c 7 = .ok (.iconst 0, 1) := by decide +kernel
theorem d_Fo_depthOfTree_8 : decode b_Fo_depthOfTree_c 8 = .ok (.goto 12, 3) := by decide +kernel
theorem d_Fo_depthOfTree_11 : decode b_Fo_depthOfTree_c 11 = .ok (.aload_n 0, 1) := by decide +kernel
theorem d_Fo_depthOfTree_12 : decode b_Fo_depthOfTree_c 12 = .ok (.getfield 43, 3) := by decide +kernel
theorem d_Fo_depthOfTree_15 : decode b_Fo_depthOfTree_c 15 = .ok (.aload_n 0, 1) := by decide +kernel
theorem d_Fo_depthOfTree_16 : decode b_Fo_depthOfTree_c 16 = .ok (.invokevirtual 99, 3) := by decide +kernel
theorem d_Fo_depthOfTree_19 : decode b_Fo_depthOfTree_c 19 = .ok (.iaload, 1) := by decide +kernel
theorem d_Fo_depthOfTree_20 : decode b_Fo_depthOfTree_c 20 = .ok (.ireturn, 1) := by decide +kernel
/-! GameRows$Forest.depthOfTree()I -/
set_option maxHeartbeats 4000000 in
set_option maxRecDepth 100000 in
theorem t_Fo_depthOfTree_0 {X : gX} {r : Int32} {σ : gS} (C : gC X b_Fo_depthOfTree_c R_Fo 1 1 20) (hR : ∀ pc lv, decode b_Fo_depthOfTree_c pc = .ok (.ireturn, 1) → G X pc lv [.int r] σ)  (h : b_Fo_depthOfTree_0 σ = some r) : G X 0 [(0, .ref (gA X 1))] [] σ := by
  unfold b_Fo_depthOfTree_0 at h
  refine r_aload_n C 0 d_Fo_depthOfTree_0 rfl rfl ?_
  refine q_Fo_9 C d_Fo_depthOfTree_1 ?_
  refine r_if_ne C (tgt := 11) d_Fo_depthOfTree_4 (by decide) (fun hc_1 => ?_) (fun hc_1 => ?_)
  · rw [if_neg hc_1] at h
    refine r_aload_n C 0 d_Fo_depthOfTree_11 rfl rfl ?_
    refine q_Fo_43 C d_Fo_depthOfTree_12 ?_
    refine r_aload_n C 0 d_Fo_depthOfTree_15 rfl rfl ?_
    obtain ⟨r_2, er_2, h⟩ := bind_some h
    refine r_callV C (As := []) (rest := [.ref (gA X 9)]) (st1 := [.int r_2, .ref (gA X 9)]) (c_Fo_root X.1.2.1 σ  er_2) k_Fo_root m_90 (by decide) cel_Fo rfl rfl rfl rfl (Nat.le_of_ble_eq_true rfl) ⟨Nat.le_of_ble_eq_true rfl, Nat.le_of_ble_eq_true rfl⟩ d_Fo_depthOfTree_16 rfl ?_
    obtain ⟨hi_3, h⟩ := ck_some h
    refine r_iald C hi_3 d_Fo_depthOfTree_19 ?_
    cases h
    exact hR _ _ d_Fo_depthOfTree_20
  · rw [if_pos hc_1] at h
    refine r_iconst C (v := 0) d_Fo_depthOfTree_7 (by decide) ?_
    refine r_goto C (tgt := 20) d_Fo_depthOfTree_8 (by decide) ?_
    cases h
    exact hR _ _ d_Fo_depthOfTree_20
set_option maxHeartbeats 4000000 in
set_option maxRecDepth 100000 in
theorem c_Fo_depthOfTree (l : Launch) (σ : gS)  {r : Int32} (h : f_Fo_depthOfTree σ = some r) : gMet l y_Fo_depthOfTree b_Fo_depthOfTree_c 1 (some .int) 1 20 (fun a => [.ref (a 1)]) σ (some (.int r)) σ := by
  refine gMet_i (by decide +kernel) (fun a => Nat.le_of_ble_eq_true rfl) (fun X _ C hR => ?_)
  refine r_sub [0] (lv' := [(0, .ref (gA X 1))]) rfl ?_
  exact t_Fo_depthOfTree_0 C hR  h
theorem d_Ga_count_0 : decode b_Ga_count_c 0 = .ok (.iload_n 1, 1) := by decide +kernel
theorem d_Ga_count_1 : decode b_Ga_count_c 1 = .ok (.iconst 0, 1) := by decide +kernel
theorem d_Ga_count_2 : decode b_Ga_count_c 2 = .ok (.bipush 9, 2) := by decide +kernel
theorem d_Ga_count_4 : decode b_Ga_count_c 4 = .ok (.invokestatic 56, 3) := by decide +kernel
theorem d_Ga_count_7 : decode b_Ga_count_c 7 = .ok (.ifCond .ne 6, 3) := by decide +kernel
theorem d_Ga_count_10 : decode b_Ga_count_c 10 = .ok (.bipush (-2), 2) := by decide +kernel
theorem d_Ga_count_12 : decode b_Ga_count_c 12 = .ok (.ireturn, 1) := by decide +kernel
theorem d_Ga_count_13 : decode b_Ga_count_c 13 = .ok (.iload_n 1, 1) := by decide +kernel
theorem d_Ga_count_14 : decode b_Ga_count_c 14 = .ok (.iconst 2, 1) := by decide +kernel
theorem d_Ga_count_15 : decode b_Ga_count_c 15 = .ok (.if_icmp .le 13, 3) := by decide +kernel
theorem d_Ga_count_18 : decode b_Ga_count_c 18 = .ok (.aload_n 0, 1) := by decide +kernel
theorem d_Ga_count_19 : decode b_Ga_count_c 19 = .ok (.invokevirtual 81, 3) := by decide +kernel
theorem d_Ga_count_22 : decode b_Ga_count_c 22 = .ok (.ifCond .eq 6, 3) := by decide +kernel
theorem d_Ga_count_25 : decode b_Ga_count_c 25 = .ok (.ldc 85, 2) := by decide +kernel
theorem d_Ga_count_27 : decode b_Ga_count_c 27 = .ok (.ireturn, 1) := by decide +kernel
theorem d_Ga_count_28 : decode b_Ga_count_c 28 = .ok (.iload_n 1, 1) := by decide +kernel
theorem d_Ga_count_29 : decode b_Ga_count_c 29 = .ok (.tableswitch 163 0 8 #[51, 59, 67, 78, 87, 96, 113, 130, 141], 51) := by decide +kernel
theorem d_Ga_count_80 : decode b_Ga_count_c 80 = .ok (.aload_n 0, 1) := by decide +kernel
theorem d_Ga_count_81 : decode b_Ga_count_c 81 = .ok (.getfield 10, 3) := by decide +kernel
theorem d_Ga_count_84 : decode b_Ga_count_c 84 = .ok (.getfield 86, 3) := by decide +kernel
theorem d_Ga_count_87 : decode b_Ga_count_c 87 = .ok (.ireturn, 1) := by decide +kernel
theorem d_Ga_count_88 : decode b_Ga_count_c 88 = .ok (.aload_n 0, 1) := by decide +kernel
theorem d_Ga_count_89 : decode b_Ga_count_c 89 = .ok (.getfield 10, 3) := by decide +kernel
theorem d_Ga_count_92 : decode b_Ga_count_c 92 = .ok (.getfield 90, 3) := by decide +kernel
theorem d_Ga_count_95 : decode b_Ga_count_c 95 = .ok (.ireturn, 1) := by decide +kernel
theorem d_Ga_count_96 : decode b_Ga_count_c 96 = .ok (.aload_n 0, 1) := by decide +kernel
theorem d_Ga_count_97 : decode b_Ga_count_c 97 = .ok (.getfield 10, 3) := by decide +kernel
theorem d_Ga_count_100 : decode b_Ga_count_c 100 = .ok (.invokevirtual 93, 3) := by decide +kernel
theorem d_Ga_count_103 : decode b_Ga_count_c 103 = .ok (.invokestatic 97, 3) := by decide +kernel
theorem d_Ga_count_106 : decode b_Ga_count_c 106 = .ok (.ireturn, 1) := by decide +kernel
theorem d_Ga_count_107 : decode b_Ga_count_c 107 = .ok (.aload_n 0, 1) := by decide +kernel
theorem d_Ga_count_108 : decode b_Ga_count_c 108 = .ok (.getfield 10, 3) := by decide +kernel
theorem d_Ga_count_111 : decode b_Ga_count_c 111 = .ok (.iconst 0, 1) := by decide +kernel
theorem d_Ga_count_112 : decode b_Ga_count_c 112 = .ok (.invokevirtual 103, 3) := by decide +kernel
theorem d_Ga_count_115 : decode b_Ga_count_c 115 = .ok (.ireturn, 1) := by decide +kernel
theorem d_Ga_count_116 : decode b_Ga_count_c 116 = .ok (.aload_n 0, 1) := by decide +kernel
theorem d_Ga_count_117 : decode b_Ga_count_c 117 = .ok (.getfield 10, 3) := by decide +kernel
theorem d_Ga_count_120 : decode b_Ga_count_c 120 = .ok (.iconst 1, 1) := by decide +kernel
theorem d_Ga_count_121 : decode b_Ga_count_c 121 = .ok (.invokevirtual 103, 3) := by decide +kernel
theorem d_Ga_count_124 : decode b_Ga_count_c 124 = .ok (.ireturn, 1) := by decide +kernel
theorem d_Ga_count_125 : decode b_Ga_count_c 125 = .ok (.aload_n 0, 1) := by decide +kernel
theorem d_Ga_count_126 : decode b_Ga_count_c 126 = .ok (.getfield 30, 3) := by decide +kernel
theorem d_Ga_count_129 : decode b_Ga_count_c 129 = .ok (.iconst 0, 1) := by decide +kernel
theorem d_Ga_count_130 : decode b_Ga_count_c 130 = .ok (.invokevirtual 107, 3) := by decide +kernel
theorem d_Ga_count_133 : decode b_Ga_count_c 133 = .ok (.aload_n 0, 1) := by decide +kernel
theorem d_Ga_count_134 : decode b_Ga_count_c 134 = .ok (.getfield 30, 3) := by decide +kernel
theorem d_Ga_count_137 : decode b_Ga_count_c 137 = .ok (.iconst 0, 1) := by decide +kernel
theorem d_Ga_count_138 : decode b_Ga_count_c 138 = .ok (.invokevirtual 111, 3) := by decide +kernel
theorem d_Ga_count_141 : decode b_Ga_count_c 141 = .ok (.ireturn, 1) := by decide +kernel
theorem d_Ga_count_142 : decode b_Ga_count_c 142 = .ok (.aload_n 0, 1) := by decide +kernel
theorem d_Ga_count_143 : decode b_Ga_count_c 143 = .ok (.getfield 30, 3) := by decide +kernel
theorem d_Ga_count_146 : decode b_Ga_count_c 146 = .ok (.iconst 1, 1) := by decide +kernel
theorem d_Ga_count_147 : decode b_Ga_count_c 147 = .ok (.invokevirtual 107, 3) := by decide +kernel
theorem d_Ga_count_150 : decode b_Ga_count_c 150 = .ok (.aload_n 0, 1) := by decide +kernel
theorem d_Ga_count_151 : decode b_Ga_count_c 151 = .ok (.getfield 30, 3) := by decide +kernel
theorem d_Ga_count_154 : decode b_Ga_count_c 154 = .ok (.iconst 1, 1) := by decide +kernel
theorem d_Ga_count_155 : decode b_Ga_count_c 155 = .ok (.invokevirtual 111, 3) := by decide +kernel
theorem d_Ga_count_158 : decode b_Ga_count_c 158 = .ok (.ireturn, 1) := by decide +kernel
theorem d_Ga_count_159 : decode b_Ga_count_c 159 = .ok (.aload_n 0, 1) := by decide +kernel
theorem d_Ga_count_160 : decode b_Ga_count_c 160 = .ok (.getfield 10, 3) := by decide +kernel
theorem d_Ga_count_163 : decode b_Ga_count_c 163 = .ok (.invokevirtual 115, 3) := by decide +kernel
theorem d_Ga_count_166 : decode b_Ga_count_c 166 = .ok (.invokestatic 97, 3) := by decide +kernel
theorem d_Ga_count_169 : decode b_Ga_count_c 169 = .ok (.ireturn, 1) := by decide +kernel
theorem d_Ga_count_170 : decode b_Ga_count_c 170 = .ok (.aload_n 0, 1) := by decide +kernel
theorem d_Ga_count_171 : decode b_Ga_count_c 171 = .ok (.getfield 21, 3) := by decide +kernel
theorem d_Ga_count_174 : decode b_Ga_count_c 174 = .ok (.invokevirtual 118, 3) := by decide +kernel
theorem d_Ga_count_177 : decode b_Ga_count_c 177 = .ok (.aload_n 0, 1) := by decide +kernel
theorem d_Ga_count_178 : decode b_Ga_count_c 178 = .ok (.getfield 37, 3) := by decide +kernel
theorem d_Ga_count_181 : decode b_Ga_count_c 181 = .ok (.invokevirtual 121, 3) := by decide +kernel
theorem d_Ga_count_184 : decode b_Ga_count_c 184 = .ok (.aload_n 0, 1) := by decide +kernel
theorem d_Ga_count_185 : decode b_Ga_count_c 185 = .ok (.getfield 37, 3) := by decide +kernel
theorem d_Ga_count_188 : decode b_Ga_count_c 188 = .ok (.invokevirtual 124, 3) := by decide +kernel
theorem d_Ga_count_191 : decode b_Ga_count_c 191 = .ok (.ireturn, 1) := by decide +kernel
theorem d_Ga_count_192 : decode b_Ga_count_c 192 = .ok (.aload_n 0, 1) := by decide +kernel
theorem d_Ga_count_193 : decode b_Ga_count_c 193 = .ok (.getfield 10, 3) := by decide +kernel
theorem d_Ga_count_196 : decode b_Ga_count_c 196 = .ok (.invokevirtual 127, 3) := by decide +kernel
theorem d_Ga_count_199 : decode b_Ga_count_c 199 = .ok (.ireturn, 1) := by decide +kernel
/-! GameRows.count(I)I -/
set_option maxHeartbeats 4000000 in
set_option maxRecDepth 100000 in
theorem t_Ga_count_28 {X : gX} {r : (Int32 × gS)} (C : gC X b_Ga_count_c R_Ga 2 6 147) (hR : ∀ pc lv, decode b_Ga_count_c pc = .ok (.ireturn, 1) → G X pc lv [.int r.1] r.2) (x1 : Int32) (σ : gS) (h : b_Ga_count_28 x1 σ = some r) : G X 28 [(0, .ref (gA X 0)), (1, .int x1)] [] σ := by
  unfold b_Ga_count_28 at h
  refine r_iload_n C 1 d_Ga_count_28 rfl rfl ?_
  by_cases hc_2 : x1 < 0
  · rw [if_pos hc_2] at h
    refine r_tabLo C (tgt := 192) d_Ga_count_29 hc_2 (by decide) (by decide) ?_
    refine r_aload_n C 0 d_Ga_count_192 rfl rfl ?_
    refine q_Ga_10 C d_Ga_count_193 ?_
    obtain ⟨r_1, er_1, h⟩ := bind_some h
    refine r_callV C (As := []) (rest := []) (st1 := [.int r_1]) (c_Fo_depthOfTree X.1.2.1 σ  er_1) k_Fo_depthOfTree m_251 (by decide) cel_Fo rfl rfl rfl rfl (Nat.le_of_ble_eq_true rfl) ⟨Nat.le_of_ble_eq_true rfl, Nat.le_of_ble_eq_true rfl⟩ d_Ga_count_196 rfl ?_
    cases h
    exact hR _ _ d_Ga_count_199
  rw [if_neg hc_2] at h
  by_cases hc_3 : 8 < x1
  · rw [if_pos hc_3] at h
    refine r_tabHi C (tgt := 192) d_Ga_count_29 hc_3 (by decide) (by decide) ?_
    refine r_aload_n C 0 d_Ga_count_192 rfl rfl ?_
    refine q_Ga_10 C d_Ga_count_193 ?_
    obtain ⟨r_4, er_4, h⟩ := bind_some h
    refine r_callV C (As := []) (rest := []) (st1 := [.int r_4]) (c_Fo_depthOfTree X.1.2.1 σ  er_4) k_Fo_depthOfTree m_251 (by decide) cel_Fo rfl rfl rfl rfl (Nat.le_of_ble_eq_true rfl) ⟨Nat.le_of_ble_eq_true rfl, Nat.le_of_ble_eq_true rfl⟩ d_Ga_count_196 rfl ?_
    cases h
    exact hR _ _ d_Ga_count_199
  rw [if_neg hc_3] at h
  by_cases hc_5 : x1 = 0
  · rw [if_pos hc_5] at h
    refine r_tabIn C (tgt := 80) d_Ga_count_29 hc_5 (by decide) (by decide) rfl (by decide) ?_
    refine r_aload_n C 0 d_Ga_count_80 rfl rfl ?_
    refine q_Ga_10 C d_Ga_count_81 ?_
    refine q_Ga_86 C d_Ga_count_84 ?_
    cases h
    exact hR _ _ d_Ga_count_87
  rw [if_neg hc_5] at h
  by_cases hc_6 : x1 = 1
  · rw [if_pos hc_6] at h
    refine r_tabIn C (tgt := 88) d_Ga_count_29 hc_6 (by decide) (by decide) rfl (by decide) ?_
    refine r_aload_n C 0 d_Ga_count_88 rfl rfl ?_
    refine q_Ga_10 C d_Ga_count_89 ?_
    refine q_Ga_90 C d_Ga_count_92 ?_
    cases h
    exact hR _ _ d_Ga_count_95
  rw [if_neg hc_6] at h
  by_cases hc_7 : x1 = 2
  · rw [if_pos hc_7] at h
    refine r_tabIn C (tgt := 96) d_Ga_count_29 hc_7 (by decide) (by decide) rfl (by decide) ?_
    refine r_aload_n C 0 d_Ga_count_96 rfl rfl ?_
    refine q_Ga_10 C d_Ga_count_97 ?_
    obtain ⟨r_8, er_8, h⟩ := bind_some h
    refine r_callV C (As := []) (rest := []) (st1 := [.long r_8]) (c_Fo_nodesInTree X.1.2.1 σ  er_8) k_Fo_nodesInTree m_256 (by decide) cel_Fo rfl rfl rfl rfl (Nat.le_of_ble_eq_true rfl) ⟨Nat.le_of_ble_eq_true rfl, Nat.le_of_ble_eq_true rfl⟩ d_Ga_count_100 rfl ?_
    obtain ⟨r_9, er_9, h⟩ := bind_some h
    refine r_callS C (As := [.long r_8]) (rest := []) (st1 := [.int r_9]) (c_Lo_bitCount X.1.2.1 σ r_8 er_9) k_Lo_bitCount m_257 rfl rfl rfl (Nat.le_of_ble_eq_true rfl) ⟨Nat.le_of_ble_eq_true rfl, Nat.le_of_ble_eq_true rfl⟩ d_Ga_count_103 rfl ?_
    cases h
    exact hR _ _ d_Ga_count_106
  rw [if_neg hc_7] at h
  by_cases hc_10 : x1 = 3
  · rw [if_pos hc_10] at h
    refine r_tabIn C (tgt := 107) d_Ga_count_29 hc_10 (by decide) (by decide) rfl (by decide) ?_
    refine r_aload_n C 0 d_Ga_count_107 rfl rfl ?_
    refine q_Ga_10 C d_Ga_count_108 ?_
    refine r_iconst C (v := 0) d_Ga_count_111 (by decide) ?_
    obtain ⟨r_11, er_11, h⟩ := bind_some h
    refine r_callV C (As := [.int 0]) (rest := []) (st1 := [.int r_11]) (c_Fo_plansOf X.1.2.1 σ 0 er_11) k_Fo_plansOf m_258 (by decide) cel_Fo rfl rfl rfl rfl (Nat.le_of_ble_eq_true rfl) ⟨Nat.le_of_ble_eq_true rfl, Nat.le_of_ble_eq_true rfl⟩ d_Ga_count_112 rfl ?_
    cases h
    exact hR _ _ d_Ga_count_115
  rw [if_neg hc_10] at h
  by_cases hc_12 : x1 = 4
  · rw [if_pos hc_12] at h
    refine r_tabIn C (tgt := 116) d_Ga_count_29 hc_12 (by decide) (by decide) rfl (by decide) ?_
    refine r_aload_n C 0 d_Ga_count_116 rfl rfl ?_
    refine q_Ga_10 C d_Ga_count_117 ?_
    refine r_iconst C (v := 1) d_Ga_count_120 (by decide) ?_
    obtain ⟨r_13, er_13, h⟩ := bind_some h
    refine r_callV C (As := [.int 1]) (rest := []) (st1 := [.int r_13]) (c_Fo_plansOf X.1.2.1 σ 1 er_13) k_Fo_plansOf m_258 (by decide) cel_Fo rfl rfl rfl rfl (Nat.le_of_ble_eq_true rfl) ⟨Nat.le_of_ble_eq_true rfl, Nat.le_of_ble_eq_true rfl⟩ d_Ga_count_121 rfl ?_
    cases h
    exact hR _ _ d_Ga_count_124
  rw [if_neg hc_12] at h
  by_cases hc_14 : x1 = 5
  · rw [if_pos hc_14] at h
    refine r_tabIn C (tgt := 125) d_Ga_count_29 hc_14 (by decide) (by decide) rfl (by decide) ?_
    refine r_aload_n C 0 d_Ga_count_125 rfl rfl ?_
    refine q_Ga_30 C d_Ga_count_126 ?_
    refine r_iconst C (v := 0) d_Ga_count_129 (by decide) ?_
    obtain ⟨r_15, er_15, h⟩ := bind_some h
    refine r_callV C (As := [.int 0]) (rest := []) (st1 := []) (c_Po_find X.1.2.1 σ 0 er_15) k_Po_find m_260 (by decide) cel_Po rfl rfl rfl rfl (Nat.le_of_ble_eq_true rfl) ⟨Nat.le_of_ble_eq_true rfl, Nat.le_of_ble_eq_true rfl⟩ d_Ga_count_130 rfl ?_
    refine r_aload_n C 0 d_Ga_count_133 rfl rfl ?_
    refine q_Ga_30 C d_Ga_count_134 ?_
    refine r_iconst C (v := 0) d_Ga_count_137 (by decide) ?_
    obtain ⟨r_16, er_16, h⟩ := bind_some h
    refine r_callV C (As := [.int 0]) (rest := []) (st1 := [.int r_16]) (c_Po_howMany X.1.2.1 r_15 0 er_16) k_Po_howMany m_264 (by decide) cel_Po rfl rfl rfl rfl (Nat.le_of_ble_eq_true rfl) ⟨Nat.le_of_ble_eq_true rfl, Nat.le_of_ble_eq_true rfl⟩ d_Ga_count_138 rfl ?_
    cases h
    exact hR _ _ d_Ga_count_141
  rw [if_neg hc_14] at h
  by_cases hc_17 : x1 = 6
  · rw [if_pos hc_17] at h
    refine r_tabIn C (tgt := 142) d_Ga_count_29 hc_17 (by decide) (by decide) rfl (by decide) ?_
    refine r_aload_n C 0 d_Ga_count_142 rfl rfl ?_
    refine q_Ga_30 C d_Ga_count_143 ?_
    refine r_iconst C (v := 1) d_Ga_count_146 (by decide) ?_
    obtain ⟨r_18, er_18, h⟩ := bind_some h
    refine r_callV C (As := [.int 1]) (rest := []) (st1 := []) (c_Po_find X.1.2.1 σ 1 er_18) k_Po_find m_260 (by decide) cel_Po rfl rfl rfl rfl (Nat.le_of_ble_eq_true rfl) ⟨Nat.le_of_ble_eq_true rfl, Nat.le_of_ble_eq_true rfl⟩ d_Ga_count_147 rfl ?_
    refine r_aload_n C 0 d_Ga_count_150 rfl rfl ?_
    refine q_Ga_30 C d_Ga_count_151 ?_
    refine r_iconst C (v := 1) d_Ga_count_154 (by decide) ?_
    obtain ⟨r_19, er_19, h⟩ := bind_some h
    refine r_callV C (As := [.int 1]) (rest := []) (st1 := [.int r_19]) (c_Po_howMany X.1.2.1 r_18 1 er_19) k_Po_howMany m_264 (by decide) cel_Po rfl rfl rfl rfl (Nat.le_of_ble_eq_true rfl) ⟨Nat.le_of_ble_eq_true rfl, Nat.le_of_ble_eq_true rfl⟩ d_Ga_count_155 rfl ?_
    cases h
    exact hR _ _ d_Ga_count_158
  rw [if_neg hc_17] at h
  by_cases hc_20 : x1 = 7
  · rw [if_pos hc_20] at h
    refine r_tabIn C (tgt := 159) d_Ga_count_29 hc_20 (by decide) (by decide) rfl (by decide) ?_
    refine r_aload_n C 0 d_Ga_count_159 rfl rfl ?_
    refine q_Ga_10 C d_Ga_count_160 ?_
    obtain ⟨r_21, er_21, h⟩ := bind_some h
    refine r_callV C (As := []) (rest := []) (st1 := [.long r_21]) (c_Fo_gamesWithin X.1.2.1 σ  er_21) k_Fo_gamesWithin m_268 (by decide) cel_Fo rfl rfl rfl rfl (Nat.le_of_ble_eq_true rfl) ⟨Nat.le_of_ble_eq_true rfl, Nat.le_of_ble_eq_true rfl⟩ d_Ga_count_163 rfl ?_
    obtain ⟨r_22, er_22, h⟩ := bind_some h
    refine r_callS C (As := [.long r_21]) (rest := []) (st1 := [.int r_22]) (c_Lo_bitCount X.1.2.1 σ r_21 er_22) k_Lo_bitCount m_257 rfl rfl rfl (Nat.le_of_ble_eq_true rfl) ⟨Nat.le_of_ble_eq_true rfl, Nat.le_of_ble_eq_true rfl⟩ d_Ga_count_166 rfl ?_
    cases h
    exact hR _ _ d_Ga_count_169
  rw [if_neg hc_20] at h
  by_cases hc_23 : x1 = 8
  · rw [if_pos hc_23] at h
    refine r_tabIn C (tgt := 170) d_Ga_count_29 hc_23 (by decide) (by decide) rfl (by decide) ?_
    refine r_aload_n C 0 d_Ga_count_170 rfl rfl ?_
    refine q_Ga_21 C d_Ga_count_171 ?_
    obtain ⟨r_24, er_24, h⟩ := bind_some h
    refine r_callV C (As := []) (rest := []) (st1 := []) (c_Ta_fillWhole X.1.2.1 σ  er_24) k_Ta_fillWhole m_270 (by decide) cel_Ta rfl rfl rfl rfl (Nat.le_of_ble_eq_true rfl) ⟨Nat.le_of_ble_eq_true rfl, Nat.le_of_ble_eq_true rfl⟩ d_Ga_count_174 rfl ?_
    refine r_aload_n C 0 d_Ga_count_177 rfl rfl ?_
    refine q_Ga_37 C d_Ga_count_178 ?_
    obtain ⟨r_25, er_25, h⟩ := bind_some h
    refine r_callV C (As := []) (rest := []) (st1 := []) (c_Le_playAll X.1.2.1 r_24  er_25) k_Le_playAll m_275 (by decide) cel_Le rfl rfl rfl rfl (Nat.le_of_ble_eq_true rfl) ⟨Nat.le_of_ble_eq_true rfl, Nat.le_of_ble_eq_true rfl⟩ d_Ga_count_181 rfl ?_
    refine r_aload_n C 0 d_Ga_count_184 rfl rfl ?_
    refine q_Ga_37 C d_Ga_count_185 ?_
    obtain ⟨r_26, er_26, h⟩ := bind_some h
    refine r_callV C (As := []) (rest := []) (st1 := [.int r_26]) (c_Le_pairsLeft X.1.2.1 r_25  er_26) k_Le_pairsLeft m_279 (by decide) cel_Le rfl rfl rfl rfl (Nat.le_of_ble_eq_true rfl) ⟨Nat.le_of_ble_eq_true rfl, Nat.le_of_ble_eq_true rfl⟩ d_Ga_count_188 rfl ?_
    cases h
    exact hR _ _ d_Ga_count_191
  rw [if_neg hc_23] at h
  cases h
set_option maxHeartbeats 4000000 in
set_option maxRecDepth 100000 in
theorem t_Ga_count_0 {X : gX} {r : (Int32 × gS)} (C : gC X b_Ga_count_c R_Ga 2 6 147) (hR : ∀ pc lv, decode b_Ga_count_c pc = .ok (.ireturn, 1) → G X pc lv [.int r.1] r.2) (x1 : Int32) (σ : gS) (h : b_Ga_count_0 x1 σ = some r) : G X 0 [(0, .ref (gA X 0)), (1, .int x1)] [] σ := by
  unfold b_Ga_count_0 at h
  refine r_iload_n C 1 d_Ga_count_0 rfl rfl ?_
  refine r_iconst C (v := 0) d_Ga_count_1 (by decide) ?_
  refine r_bipush C (v := 9) d_Ga_count_2 (by decide) ?_
  obtain ⟨r_1, er_1, h⟩ := bind_some h
  refine r_callS C (As := [.int x1, .int 0, .int 9]) (rest := []) (st1 := [.int r_1]) (c_Ga_isAmong X.1.2.1 σ x1 0 9 er_1) k_Ga_isAmong m_16 rfl rfl rfl (Nat.le_of_ble_eq_true rfl) ⟨Nat.le_of_ble_eq_true rfl, Nat.le_of_ble_eq_true rfl⟩ d_Ga_count_4 rfl ?_
  refine r_if_ne C (tgt := 13) d_Ga_count_7 (by decide) (fun hc_2 => ?_) (fun hc_2 => ?_)
  · rw [if_neg hc_2] at h
    refine r_iload_n C 1 d_Ga_count_13 rfl rfl ?_
    refine r_iconst C (v := 2) d_Ga_count_14 (by decide) ?_
    refine r_icmp_le C (tgt := 28) d_Ga_count_15 (by decide) (fun hc_3 => ?_) (fun hc_3 => ?_)
    · rw [if_pos hc_3] at h
      exact t_Ga_count_28 C hR x1 σ h
    · rw [if_neg hc_3] at h
      refine r_aload_n C 0 d_Ga_count_18 rfl rfl ?_
      obtain ⟨r_4, er_4, h⟩ := bind_some h
      refine r_callV C (As := []) (rest := []) (st1 := [.int r_4]) (c_Ga_isEmpty X.1.2.1 σ  er_4) k_Ga_isEmpty m_283 (by decide) cel_Ga rfl rfl rfl rfl (Nat.le_of_ble_eq_true rfl) ⟨Nat.le_of_ble_eq_true rfl, Nat.le_of_ble_eq_true rfl⟩ d_Ga_count_19 rfl ?_
      refine r_if_eq C (tgt := 28) d_Ga_count_22 (by decide) (fun hc_5 => ?_) (fun hc_5 => ?_)
      · rw [if_pos hc_5] at h
        exact t_Ga_count_28 C hR x1 σ h
      · rw [if_neg hc_5] at h
        refine r_ldc C (v := (-1000000)) m_287 d_Ga_count_25 ?_
        cases h
        exact hR _ _ d_Ga_count_27
  · rw [if_pos hc_2] at h
    refine r_bipush C (v := (-2)) d_Ga_count_10 (by decide) ?_
    cases h
    exact hR _ _ d_Ga_count_12
set_option maxHeartbeats 4000000 in
set_option maxRecDepth 100000 in
theorem c_Ga_count (l : Launch) (σ : gS) (x1 : Int32) {r : (Int32 × gS)} (h : f_Ga_count σ x1 = some r) : gMet l y_Ga_count b_Ga_count_c 2 (some .int) 6 147 (fun a => [.ref (a 0), .int x1]) σ (some (.int r.1)) r.2 := by
  refine gMet_i (by decide +kernel) (fun a => Nat.le_of_ble_eq_true rfl) (fun X _ C hR => ?_)
  refine r_sub [0, 1] (lv' := [(0, .ref (gA X 0)), (1, .int x1)]) rfl ?_
  exact t_Ga_count_0 C hR x1 σ h
theorem d_Ga_told_0 : decode b_Ga_told_c 0 = .ok (.aload_n 0, 1) := by decide +kernel
theorem d_Ga_told_1 : decode b_Ga_told_c 1 = .ok (.invokevirtual 81, 3) := by decide +kernel
theorem d_Ga_told_4 : decode b_Ga_told_c 4 = .ok (.ifCond .ne 23, 3) := by decide +kernel
theorem d_Ga_told_7 : decode b_Ga_told_c 7 = .ok (.aload_n 0, 1) := by decide +kernel
theorem d_Ga_told_8 : decode b_Ga_told_c 8 = .ok (.getfield 10, 3) := by decide +kernel
theorem d_Ga_told_11 : decode b_Ga_told_c 11 = .ok (.iload_n 1, 1) := by decide +kernel
theorem d_Ga_told_12 : decode b_Ga_told_c 12 = .ok (.invokevirtual 130, 3) := by decide +kernel
theorem d_Ga_told_15 : decode b_Ga_told_c 15 = .ok (.ifCond .eq 12, 3) := by decide +kernel
theorem d_Ga_told_18 : decode b_Ga_told_c 18 = .ok (.iload_n 2, 1) := by decide +kernel
theorem d_Ga_told_19 : decode b_Ga_told_c 19 = .ok (.iconst 0, 1) := by decide +kernel
theorem d_Ga_told_20 : decode b_Ga_told_c 20 = .ok (.iconst 5, 1) := by decide +kernel
theorem d_Ga_told_21 : decode b_Ga_told_c 21 = .ok (.invokestatic 56, 3) := by decide +kernel
theorem d_Ga_told_24 : decode b_Ga_told_c 24 = .ok (.ifCond .ne 6, 3) := by decide +kernel
theorem d_Ga_told_27 : decode b_Ga_told_c 27 = .ok (.ldc 85, 2) := by decide +kernel
theorem d_Ga_told_29 : decode b_Ga_told_c 29 = .ok (.ireturn, 1) := by decide +kernel
theorem d_Ga_told_30 : decode b_Ga_told_c 30 = .ok (.aload_n 0, 1) := by decide +kernel
theorem d_Ga_told_31 : decode b_Ga_told_c 31 = .ok (.getfield 10, 3) := by decide +kernel
theorem d_Ga_told_34 : decode b_Ga_told_c 34 = .ok (.getfield 133, 3) := by decide +kernel
theorem d_Ga_told_37 : decode b_Ga_told_c 37 = .ok (.iload_n 1, 1) := by decide +kernel
theorem d_Ga_told_38 : decode b_Ga_told_c 38 = .ok (.iaload, 1) := by decide +kernel
theorem d_Ga_told_39 : decode b_Ga_told_c 39 = .ok (.ifCond .ne 7, 3) := by decide +kernel
theorem d_Ga_told_42 : decode b_Ga_told_c 42 = .ok (.iconst 1, 1) := by decide +kernel
theorem d_Ga_told_43 : decode b_Ga_told_c 43 = .ok (.goto 4, 3) := by decide +kernel
theorem d_Ga_told_46 : decode b_Ga_told_c 46 = .ok (.iconst 0, 1) := by decide +kernel
theorem d_Ga_told_47 : decode b_Ga_told_c 47 = .ok (.istore_n 3, 1) := by decide +kernel
theorem d_Ga_told_48 : decode b_Ga_told_c 48 = .ok (.iload_n 2, 1) := by decide +kernel
theorem d_Ga_told_49 : decode b_Ga_told_c 49 = .ok (.ifCond .ne 13, 3) := by decide +kernel
theorem d_Ga_told_52 : decode b_Ga_told_c 52 = .ok (.aload_n 0, 1) := by decide +kernel
theorem d_Ga_told_53 : decode b_Ga_told_c 53 = .ok (.getfield 10, 3) := by decide +kernel
theorem d_Ga_told_56 : decode b_Ga_told_c 56 = .ok (.getfield 133, 3) := by decide +kernel
theorem d_Ga_told_59 : decode b_Ga_told_c 59 = .ok (.iload_n 1, 1) := by decide +kernel
theorem d_Ga_told_60 : decode b_Ga_told_c 60 = .ok (.iaload, 1) := by decide +kernel
theorem d_Ga_told_61 : decode b_Ga_told_c 61 = .ok (.ireturn, 1) := by decide +kernel
theorem d_Ga_told_62 : decode b_Ga_told_c 62 = .ok (.iload_n 2, 1) := by decide +kernel
theorem d_Ga_told_63 : decode b_Ga_told_c 63 = .ok (.iconst 1, 1) := by decide +kernel
theorem d_Ga_told_64 : decode b_Ga_told_c 64 = .ok (.if_icmp .ne 29, 3) := by decide +kernel
theorem d_Ga_told_67 : decode b_Ga_told_c 67 = .ok (.iload_n 3, 1) := by decide +kernel
theorem d_Ga_told_68 : decode b_Ga_told_c 68 = .ok (.ifCond .eq 15, 3) := by decide +kernel
theorem d_Ga_told_71 : decode b_Ga_told_c 71 = .ok (.aload_n 0, 1) := by decide +kernel
theorem d_Ga_told_72 : decode b_Ga_told_c 72 = .ok (.getfield 10, 3) := by decide +kernel
theorem d_Ga_told_75 : decode b_Ga_told_c 75 = .ok (.iload_n 1, 1) := by decide +kernel
theorem d_Ga_told_76 : decode b_Ga_told_c 76 = .ok (.iconst 0, 1) := by decide +kernel
theorem d_Ga_told_77 : decode b_Ga_told_c 77 = .ok (.invokevirtual 136, 3) := by decide +kernel
theorem d_Ga_told_80 : decode b_Ga_told_c 80 = .ok (.goto 12, 3) := by decide +kernel
theorem d_Ga_told_83 : decode b_Ga_told_c 83 = .ok (.aload_n 0, 1) := by decide +kernel
theorem d_Ga_told_84 : decode b_Ga_told_c 84 = .ok (.getfield 10, 3) := by decide +kernel
theorem d_Ga_told_87 : decode b_Ga_told_c 87 = .ok (.getfield 139, 3) := by decide +kernel
theorem d_Ga_told_90 : decode b_Ga_told_c 90 = .ok (.iload_n 1, 1) := by decide +kernel
theorem d_Ga_told_91 : decode b_Ga_told_c 91 = .ok (.iaload, 1) := by decide +kernel
theorem d_Ga_told_92 : decode b_Ga_told_c 92 = .ok (.ireturn, 1) := by decide +kernel
theorem d_Ga_told_93 : decode b_Ga_told_c 93 = .ok (.iload_n 2, 1) := by decide +kernel
theorem d_Ga_told_94 : decode b_Ga_told_c 94 = .ok (.iconst 2, 1) := by decide +kernel
theorem d_Ga_told_95 : decode b_Ga_told_c 95 = .ok (.if_icmp .ne 13, 3) := by decide +kernel
theorem d_Ga_told_98 : decode b_Ga_told_c 98 = .ok (.aload_n 0, 1) := by decide +kernel
theorem d_Ga_told_99 : decode b_Ga_told_c 99 = .ok (.getfield 10, 3) := by decide +kernel
theorem d_Ga_told_102 : decode b_Ga_told_c 102 = .ok (.getfield 142, 3) := by decide +kernel
theorem d_Ga_told_105 : decode b_Ga_told_c 105 = .ok (.iload_n 1, 1) := by decide +kernel
theorem d_Ga_told_106 : decode b_Ga_told_c 106 = .ok (.iaload, 1) := by decide +kernel
theorem d_Ga_told_107 : decode b_Ga_told_c 107 = .ok (.ireturn, 1) := by decide +kernel
theorem d_Ga_told_108 : decode b_Ga_told_c 108 = .ok (.iload_n 2, 1) := by decide +kernel
theorem d_Ga_told_109 : decode b_Ga_told_c 109 = .ok (.iconst 3, 1) := by decide +kernel
theorem d_Ga_told_110 : decode b_Ga_told_c 110 = .ok (.if_icmp .ne 17, 3) := by decide +kernel
theorem d_Ga_told_113 : decode b_Ga_told_c 113 = .ok (.iload_n 3, 1) := by decide +kernel
theorem d_Ga_told_114 : decode b_Ga_told_c 114 = .ok (.ifCond .eq 13, 3) := by decide +kernel
theorem d_Ga_told_117 : decode b_Ga_told_c 117 = .ok (.aload_n 0, 1) := by decide +kernel
theorem d_Ga_told_118 : decode b_Ga_told_c 118 = .ok (.getfield 10, 3) := by decide +kernel
theorem d_Ga_told_121 : decode b_Ga_told_c 121 = .ok (.iload_n 1, 1) := by decide +kernel
theorem d_Ga_told_122 : decode b_Ga_told_c 122 = .ok (.iconst 1, 1) := by decide +kernel
theorem d_Ga_told_123 : decode b_Ga_told_c 123 = .ok (.invokevirtual 136, 3) := by decide +kernel
theorem d_Ga_told_126 : decode b_Ga_told_c 126 = .ok (.ireturn, 1) := by decide +kernel
theorem d_Ga_told_127 : decode b_Ga_told_c 127 = .ok (.aload_n 0, 1) := by decide +kernel
theorem d_Ga_told_128 : decode b_Ga_told_c 128 = .ok (.getfield 10, 3) := by decide +kernel
theorem d_Ga_told_131 : decode b_Ga_told_c 131 = .ok (.iload_n 1, 1) := by decide +kernel
theorem d_Ga_told_132 : decode b_Ga_told_c 132 = .ok (.iload_n 2, 1) := by decide +kernel
theorem d_Ga_told_133 : decode b_Ga_told_c 133 = .ok (.iconst 3, 1) := by decide +kernel
theorem d_Ga_told_134 : decode b_Ga_told_c 134 = .ok (.isub, 1) := by decide +kernel
theorem d_Ga_told_135 : decode b_Ga_told_c 135 = .ok (.invokevirtual 145, 3) := by decide +kernel
theorem d_Ga_told_138 : decode b_Ga_told_c 138 = .ok (.ireturn, 1) := by decide +kernel
/-! GameRows.told(II)I -/
set_option maxHeartbeats 4000000 in
set_option maxRecDepth 100000 in
theorem t_Ga_told_127 {X : gX} {r : Int32} {σ : gS} (C : gC X b_Ga_told_c R_Ga 4 1 22) (hR : ∀ pc lv, decode b_Ga_told_c pc = .ok (.ireturn, 1) → G X pc lv [.int r] σ) (x1 : Int32) (x2 : Int32) (h : b_Ga_told_127 σ x1 x2 = some r) : G X 127 [(0, .ref (gA X 0)), (1, .int x1), (2, .int x2)] [] σ := by
  unfold b_Ga_told_127 at h
  refine r_aload_n C 0 d_Ga_told_127 rfl rfl ?_
  refine q_Ga_10 C d_Ga_told_128 ?_
  refine r_iload_n C 1 d_Ga_told_131 rfl rfl ?_
  refine r_iload_n C 2 d_Ga_told_132 rfl rfl ?_
  refine r_iconst C (v := 3) d_Ga_told_133 (by decide) ?_
  refine r_isub C d_Ga_told_134 ?_
  obtain ⟨r_1, er_1, h⟩ := bind_some h
  refine r_callV C (As := [.int x1, .int (x2 - 3)]) (rest := []) (st1 := [.int r_1]) (c_Fo_childAt X.1.2.1 σ x1 (x2 - 3) er_1) k_Fo_childAt m_288 (by decide) cel_Fo rfl rfl rfl rfl (Nat.le_of_ble_eq_true rfl) ⟨Nat.le_of_ble_eq_true rfl, Nat.le_of_ble_eq_true rfl⟩ d_Ga_told_135 rfl ?_
  cases h
  exact hR _ _ d_Ga_told_138
set_option maxHeartbeats 4000000 in
set_option maxRecDepth 100000 in
theorem t_Ga_told_47 {X : gX} {r : Int32} {σ : gS} (C : gC X b_Ga_told_c R_Ga 4 1 22) (hR : ∀ pc lv, decode b_Ga_told_c pc = .ok (.ireturn, 1) → G X pc lv [.int r] σ) (x1 : Int32) (x2 : Int32) (y0 : Int32) (h : b_Ga_told_47 σ x1 x2 y0 = some r) : G X 47 [(0, .ref (gA X 0)), (1, .int x1), (2, .int x2)] [.int y0] σ := by
  unfold b_Ga_told_47 at h
  refine r_istore_n C (lv' := [(3, .int y0), (0, .ref (gA X 0)), (1, .int x1), (2, .int x2)]) d_Ga_told_47 rfl (by decide) rfl rfl ?_
  refine r_iload_n C 3 d_Ga_told_48 rfl rfl ?_
  refine r_if_ne C (tgt := 62) d_Ga_told_49 (by decide) (fun hc_1 => ?_) (fun hc_1 => ?_)
  · rw [if_neg hc_1] at h
    refine r_iload_n C 3 d_Ga_told_62 rfl rfl ?_
    refine r_iconst C (v := 1) d_Ga_told_63 (by decide) ?_
    refine r_icmp_ne C (tgt := 93) d_Ga_told_64 (by decide) (fun hc_2 => ?_) (fun hc_2 => ?_)
    · rw [if_neg hc_2] at h
      refine r_iload_n C 3 d_Ga_told_93 rfl rfl ?_
      refine r_iconst C (v := 2) d_Ga_told_94 (by decide) ?_
      refine r_icmp_ne C (tgt := 108) d_Ga_told_95 (by decide) (fun hc_3 => ?_) (fun hc_3 => ?_)
      · rw [if_neg hc_3] at h
        refine r_iload_n C 3 d_Ga_told_108 rfl rfl ?_
        refine r_iconst C (v := 3) d_Ga_told_109 (by decide) ?_
        refine r_icmp_ne C (tgt := 127) d_Ga_told_110 (by decide) (fun hc_4 => ?_) (fun hc_4 => ?_)
        · rw [if_neg hc_4] at h
          refine r_sub [1, 2, 3] (lv' := [(0, .ref (gA X 0)), (1, .int x1), (2, .int x2)]) rfl ?_
          exact t_Ga_told_127 C hR x1 x2 h
        · rw [if_pos hc_4] at h
          refine r_iload_n C 0 d_Ga_told_113 rfl rfl ?_
          refine r_if_eq C (tgt := 127) d_Ga_told_114 (by decide) (fun hc_5 => ?_) (fun hc_5 => ?_)
          · rw [if_pos hc_5] at h
            refine r_sub [1, 2, 3] (lv' := [(0, .ref (gA X 0)), (1, .int x1), (2, .int x2)]) rfl ?_
            exact t_Ga_told_127 C hR x1 x2 h
          · rw [if_neg hc_5] at h
            refine r_aload_n C 1 d_Ga_told_117 rfl rfl ?_
            refine q_Ga_10 C d_Ga_told_118 ?_
            refine r_iload_n C 2 d_Ga_told_121 rfl rfl ?_
            refine r_iconst C (v := 1) d_Ga_told_122 (by decide) ?_
            obtain ⟨r_6, er_6, h⟩ := bind_some h
            refine r_callV C (As := [.int x1, .int 1]) (rest := []) (st1 := [.int r_6]) (c_Fo_worthAt X.1.2.1 σ x1 1 er_6) k_Fo_worthAt m_289 (by decide) cel_Fo rfl rfl rfl rfl (Nat.le_of_ble_eq_true rfl) ⟨Nat.le_of_ble_eq_true rfl, Nat.le_of_ble_eq_true rfl⟩ d_Ga_told_123 rfl ?_
            cases h
            exact hR _ _ d_Ga_told_126
      · rw [if_pos hc_3] at h
        refine r_aload_n C 1 d_Ga_told_98 rfl rfl ?_
        refine q_Ga_10 C d_Ga_told_99 ?_
        refine q_Ga_142 C d_Ga_told_102 ?_
        refine r_iload_n C 2 d_Ga_told_105 rfl rfl ?_
        obtain ⟨hi_7, h⟩ := ck_some h
        refine r_iald C hi_7 d_Ga_told_106 ?_
        cases h
        exact hR _ _ d_Ga_told_107
    · rw [if_pos hc_2] at h
      refine r_iload_n C 0 d_Ga_told_67 rfl rfl ?_
      refine r_if_eq C (tgt := 83) d_Ga_told_68 (by decide) (fun hc_8 => ?_) (fun hc_8 => ?_)
      · rw [if_pos hc_8] at h
        refine r_aload_n C 1 d_Ga_told_83 rfl rfl ?_
        refine q_Ga_10 C d_Ga_told_84 ?_
        refine q_Ga_139 C d_Ga_told_87 ?_
        refine r_iload_n C 2 d_Ga_told_90 rfl rfl ?_
        obtain ⟨hi_9, h⟩ := ck_some h
        refine r_iald C hi_9 d_Ga_told_91 ?_
        cases h
        exact hR _ _ d_Ga_told_92
      · rw [if_neg hc_8] at h
        refine r_aload_n C 1 d_Ga_told_71 rfl rfl ?_
        refine q_Ga_10 C d_Ga_told_72 ?_
        refine r_iload_n C 2 d_Ga_told_75 rfl rfl ?_
        refine r_iconst C (v := 0) d_Ga_told_76 (by decide) ?_
        obtain ⟨r_10, er_10, h⟩ := bind_some h
        refine r_callV C (As := [.int x1, .int 0]) (rest := []) (st1 := [.int r_10]) (c_Fo_worthAt X.1.2.1 σ x1 0 er_10) k_Fo_worthAt m_289 (by decide) cel_Fo rfl rfl rfl rfl (Nat.le_of_ble_eq_true rfl) ⟨Nat.le_of_ble_eq_true rfl, Nat.le_of_ble_eq_true rfl⟩ d_Ga_told_77 rfl ?_
        refine r_goto C (tgt := 92) d_Ga_told_80 (by decide) ?_
        cases h
        exact hR _ _ d_Ga_told_92
  · rw [if_pos hc_1] at h
    refine r_aload_n C 1 d_Ga_told_52 rfl rfl ?_
    refine q_Ga_10 C d_Ga_told_53 ?_
    refine q_Ga_133 C d_Ga_told_56 ?_
    refine r_iload_n C 2 d_Ga_told_59 rfl rfl ?_
    obtain ⟨hi_11, h⟩ := ck_some h
    refine r_iald C hi_11 d_Ga_told_60 ?_
    cases h
    exact hR _ _ d_Ga_told_61
set_option maxHeartbeats 4000000 in
set_option maxRecDepth 100000 in
theorem t_Ga_told_0 {X : gX} {r : Int32} {σ : gS} (C : gC X b_Ga_told_c R_Ga 4 1 22) (hR : ∀ pc lv, decode b_Ga_told_c pc = .ok (.ireturn, 1) → G X pc lv [.int r] σ) (x1 : Int32) (x2 : Int32) (h : b_Ga_told_0 σ x1 x2 = some r) : G X 0 [(0, .ref (gA X 0)), (1, .int x1), (2, .int x2)] [] σ := by
  unfold b_Ga_told_0 at h
  refine r_aload_n C 0 d_Ga_told_0 rfl rfl ?_
  obtain ⟨r_1, er_1, h⟩ := bind_some h
  refine r_callV C (As := []) (rest := []) (st1 := [.int r_1]) (c_Ga_isEmpty X.1.2.1 σ  er_1) k_Ga_isEmpty m_283 (by decide) cel_Ga rfl rfl rfl rfl (Nat.le_of_ble_eq_true rfl) ⟨Nat.le_of_ble_eq_true rfl, Nat.le_of_ble_eq_true rfl⟩ d_Ga_told_1 rfl ?_
  refine r_if_ne C (tgt := 27) d_Ga_told_4 (by decide) (fun hc_2 => ?_) (fun hc_2 => ?_)
  · rw [if_neg hc_2] at h
    refine r_ldc C (v := (-1000000)) m_287 d_Ga_told_27 ?_
    cases h
    exact hR _ _ d_Ga_told_29
  · rw [if_pos hc_2] at h
    refine r_aload_n C 0 d_Ga_told_7 rfl rfl ?_
    refine q_Ga_10 C d_Ga_told_8 ?_
    refine r_iload_n C 1 d_Ga_told_11 rfl rfl ?_
    obtain ⟨r_3, er_3, h⟩ := bind_some h
    refine r_callV C (As := [.int x1]) (rest := []) (st1 := [.int r_3]) (c_Fo_hasNode X.1.2.1 σ x1 er_3) k_Fo_hasNode m_293 (by decide) cel_Fo rfl rfl rfl rfl (Nat.le_of_ble_eq_true rfl) ⟨Nat.le_of_ble_eq_true rfl, Nat.le_of_ble_eq_true rfl⟩ d_Ga_told_12 rfl ?_
    refine r_if_eq C (tgt := 27) d_Ga_told_15 (by decide) (fun hc_4 => ?_) (fun hc_4 => ?_)
    · rw [if_pos hc_4] at h
      refine r_ldc C (v := (-1000000)) m_287 d_Ga_told_27 ?_
      cases h
      exact hR _ _ d_Ga_told_29
    · rw [if_neg hc_4] at h
      refine r_iload_n C 2 d_Ga_told_18 rfl rfl ?_
      refine r_iconst C (v := 0) d_Ga_told_19 (by decide) ?_
      refine r_iconst C (v := 5) d_Ga_told_20 (by decide) ?_
      obtain ⟨r_5, er_5, h⟩ := bind_some h
      refine r_callS C (As := [.int x2, .int 0, .int 5]) (rest := []) (st1 := [.int r_5]) (c_Ga_isAmong X.1.2.1 σ x2 0 5 er_5) k_Ga_isAmong m_16 rfl rfl rfl (Nat.le_of_ble_eq_true rfl) ⟨Nat.le_of_ble_eq_true rfl, Nat.le_of_ble_eq_true rfl⟩ d_Ga_told_21 rfl ?_
      refine r_if_ne C (tgt := 30) d_Ga_told_24 (by decide) (fun hc_6 => ?_) (fun hc_6 => ?_)
      · rw [if_neg hc_6] at h
        refine r_aload_n C 0 d_Ga_told_30 rfl rfl ?_
        refine q_Ga_10 C d_Ga_told_31 ?_
        refine q_Ga_133 C d_Ga_told_34 ?_
        refine r_iload_n C 1 d_Ga_told_37 rfl rfl ?_
        obtain ⟨hi_7, h⟩ := ck_some h
        refine r_iald C hi_7 d_Ga_told_38 ?_
        refine r_if_ne C (tgt := 46) d_Ga_told_39 (by decide) (fun hc_8 => ?_) (fun hc_8 => ?_)
        · rw [if_neg hc_8] at h
          refine r_iconst C (v := 0) d_Ga_told_46 (by decide) ?_
          exact t_Ga_told_47 C hR x1 x2 0 h
        · rw [if_pos hc_8] at h
          refine r_iconst C (v := 1) d_Ga_told_42 (by decide) ?_
          refine r_goto C (tgt := 47) d_Ga_told_43 (by decide) ?_
          exact t_Ga_told_47 C hR x1 x2 1 h
      · rw [if_pos hc_6] at h
        refine r_ldc C (v := (-1000000)) m_287 d_Ga_told_27 ?_
        cases h
        exact hR _ _ d_Ga_told_29
set_option maxHeartbeats 4000000 in
set_option maxRecDepth 100000 in
theorem c_Ga_told (l : Launch) (σ : gS) (x1 : Int32) (x2 : Int32) {r : Int32} (h : f_Ga_told σ x1 x2 = some r) : gMet l y_Ga_told b_Ga_told_c 4 (some .int) 1 22 (fun a => [.ref (a 0), .int x1, .int x2]) σ (some (.int r)) σ := by
  refine gMet_i (by decide +kernel) (fun a => Nat.le_of_ble_eq_true rfl) (fun X _ C hR => ?_)
  refine r_sub [0, 1, 2] (lv' := [(0, .ref (gA X 0)), (1, .int x1), (2, .int x2)]) rfl ?_
  exact t_Ga_told_0 C hR x1 x2 h
theorem d_Ga_isPlan_0 : decode b_Ga_isPlan_c 0 = .ok (.iload_n 1, 1) := by decide +kernel
theorem d_Ga_isPlan_1 : decode b_Ga_isPlan_c 1 = .ok (.invokestatic 52, 3) := by decide +kernel
theorem d_Ga_isPlan_4 : decode b_Ga_isPlan_c 4 = .ok (.ifCond .eq 23, 3) := by decide +kernel
theorem d_Ga_isPlan_7 : decode b_Ga_isPlan_c 7 = .ok (.iload_n 2, 1) := by decide +kernel
theorem d_Ga_isPlan_8 : decode b_Ga_isPlan_c 8 = .ok (.ifCond .lt 19, 3) := by decide +kernel
theorem d_Ga_isPlan_11 : decode b_Ga_isPlan_c 11 = .ok (.iload_n 2, 1) := by decide +kernel
theorem d_Ga_isPlan_12 : decode b_Ga_isPlan_c 12 = .ok (.aload_n 0, 1) := by decide +kernel
theorem d_Ga_isPlan_13 : decode b_Ga_isPlan_c 13 = .ok (.getfield 10, 3) := by decide +kernel
theorem d_Ga_isPlan_16 : decode b_Ga_isPlan_c 16 = .ok (.iload_n 1, 1) := by decide +kernel
theorem d_Ga_isPlan_17 : decode b_Ga_isPlan_c 17 = .ok (.invokevirtual 103, 3) := by decide +kernel
theorem d_Ga_isPlan_20 : decode b_Ga_isPlan_c 20 = .ok (.if_icmp .ge 7, 3) := by decide +kernel
theorem d_Ga_isPlan_23 : decode b_Ga_isPlan_c 23 = .ok (.iconst 1, 1) := by decide +kernel
theorem d_Ga_isPlan_24 : decode b_Ga_isPlan_c 24 = .ok (.goto 4, 3) := by decide +kernel
theorem d_Ga_isPlan_27 : decode b_Ga_isPlan_c 27 = .ok (.iconst 0, 1) := by decide +kernel
theorem d_Ga_isPlan_28 : decode b_Ga_isPlan_c 28 = .ok (.ireturn, 1) := by decide +kernel
/-! GameRows.isPlan(II)Z -/
set_option maxHeartbeats 4000000 in
set_option maxRecDepth 100000 in
theorem t_Ga_isPlan_0 {X : gX} {r : Int32} {σ : gS} (C : gC X b_Ga_isPlan_c R_Ga 3 3 67) (hR : ∀ pc lv, isB r = true → decode b_Ga_isPlan_c pc = .ok (.ireturn, 1) → G X pc lv [.int r] σ) (x1 : Int32) (x2 : Int32) (h : b_Ga_isPlan_0 σ x1 x2 = some r) : G X 0 [(0, .ref (gA X 0)), (1, .int x1), (2, .int x2)] [] σ := by
  unfold b_Ga_isPlan_0 at h
  refine r_iload_n C 1 d_Ga_isPlan_0 rfl rfl ?_
  obtain ⟨r_1, er_1, h⟩ := bind_some h
  refine r_callS C (As := [.int x1]) (rest := []) (st1 := [.int r_1]) (c_Ga_isPlayer X.1.2.1 σ x1 er_1) k_Ga_isPlayer m_12 rfl rfl rfl (Nat.le_of_ble_eq_true rfl) ⟨Nat.le_of_ble_eq_true rfl, Nat.le_of_ble_eq_true rfl⟩ d_Ga_isPlan_1 rfl ?_
  refine r_if_eq C (tgt := 27) d_Ga_isPlan_4 (by decide) (fun hc_2 => ?_) (fun hc_2 => ?_)
  · rw [if_pos hc_2] at h
    refine r_iconst C (v := 0) d_Ga_isPlan_27 (by decide) ?_
    obtain ⟨hB, h⟩ := ck_some h
    cases h
    exact hR _ _ hB d_Ga_isPlan_28
  · rw [if_neg hc_2] at h
    refine r_iload_n C 2 d_Ga_isPlan_7 rfl rfl ?_
    refine r_if_lt C (tgt := 27) d_Ga_isPlan_8 (by decide) (fun hc_3 => ?_) (fun hc_3 => ?_)
    · rw [if_pos hc_3] at h
      refine r_iconst C (v := 0) d_Ga_isPlan_27 (by decide) ?_
      obtain ⟨hB, h⟩ := ck_some h
      cases h
      exact hR _ _ hB d_Ga_isPlan_28
    · rw [if_neg hc_3] at h
      refine r_iload_n C 2 d_Ga_isPlan_11 rfl rfl ?_
      refine r_aload_n C 0 d_Ga_isPlan_12 rfl rfl ?_
      refine q_Ga_10 C d_Ga_isPlan_13 ?_
      refine r_iload_n C 1 d_Ga_isPlan_16 rfl rfl ?_
      obtain ⟨r_4, er_4, h⟩ := bind_some h
      refine r_callV C (As := [.int x1]) (rest := [.int x2]) (st1 := [.int r_4, .int x2]) (c_Fo_plansOf X.1.2.1 σ x1 er_4) k_Fo_plansOf m_258 (by decide) cel_Fo rfl rfl rfl rfl (Nat.le_of_ble_eq_true rfl) ⟨Nat.le_of_ble_eq_true rfl, Nat.le_of_ble_eq_true rfl⟩ d_Ga_isPlan_17 rfl ?_
      refine r_icmp_ge C (tgt := 27) d_Ga_isPlan_20 (by decide) (fun hc_5 => ?_) (fun hc_5 => ?_)
      · rw [if_pos hc_5] at h
        refine r_iconst C (v := 0) d_Ga_isPlan_27 (by decide) ?_
        obtain ⟨hB, h⟩ := ck_some h
        cases h
        exact hR _ _ hB d_Ga_isPlan_28
      · rw [if_neg hc_5] at h
        refine r_iconst C (v := 1) d_Ga_isPlan_23 (by decide) ?_
        refine r_goto C (tgt := 28) d_Ga_isPlan_24 (by decide) ?_
        obtain ⟨hB, h⟩ := ck_some h
        cases h
        exact hR _ _ hB d_Ga_isPlan_28
set_option maxHeartbeats 4000000 in
set_option maxRecDepth 100000 in
theorem c_Ga_isPlan (l : Launch) (σ : gS) (x1 : Int32) (x2 : Int32) {r : Int32} (h : f_Ga_isPlan σ x1 x2 = some r) : gMet l y_Ga_isPlan b_Ga_isPlan_c 3 (some .boolean) 3 67 (fun a => [.ref (a 0), .int x1, .int x2]) σ (some (.int r)) σ := by
  refine gMet_z (by decide +kernel) (fun a => Nat.le_of_ble_eq_true rfl) (fun X _ C hR => ?_)
  refine r_sub [0, 1, 2] (lv' := [(0, .ref (gA X 0)), (1, .int x1), (2, .int x2)]) rfl ?_
  exact t_Ga_isPlan_0 C hR x1 x2 h
theorem d_Fo_actNamed_0 : decode b_Fo_actNamed_c 0 = .ok (.iload_n 2, 1) := by decide +kernel
theorem d_Fo_actNamed_1 : decode b_Fo_actNamed_c 1 = .ok (.istore 4, 2) := by decide +kernel
theorem d_Fo_actNamed_3 : decode b_Fo_actNamed_c 3 = .ok (.aload_n 0, 1) := by decide +kernel
theorem d_Fo_actNamed_4 : decode b_Fo_actNamed_c 4 = .ok (.getfield 15, 3) := by decide +kernel
theorem d_Fo_actNamed_7 : decode b_Fo_actNamed_c 7 = .ok (.iconst 1, 1) := by decide +kernel
theorem d_Fo_actNamed_8 : decode b_Fo_actNamed_c 8 = .ok (.isub, 1) := by decide +kernel
theorem d_Fo_actNamed_9 : decode b_Fo_actNamed_c 9 = .ok (.istore 5, 2) := by decide +kernel
theorem d_Fo_actNamed_11 : decode b_Fo_actNamed_c 11 = .ok (.iload 5, 2) := by decide +kernel
theorem d_Fo_actNamed_13 : decode b_Fo_actNamed_c 13 = .ok (.ifCond .lt 62, 3) := by decide +kernel
theorem d_Fo_actNamed_16 : decode b_Fo_actNamed_c 16 = .ok (.aload_n 0, 1) := by decide +kernel
theorem d_Fo_actNamed_17 : decode b_Fo_actNamed_c 17 = .ok (.aload_n 0, 1) := by decide +kernel
theorem d_Fo_actNamed_18 : decode b_Fo_actNamed_c 18 = .ok (.invokevirtual 99, 3) := by decide +kernel
theorem d_Fo_actNamed_21 : decode b_Fo_actNamed_c 21 = .ok (.iload_n 1, 1) := by decide +kernel
theorem d_Fo_actNamed_22 : decode b_Fo_actNamed_c 22 = .ok (.iload 5, 2) := by decide +kernel
theorem d_Fo_actNamed_24 : decode b_Fo_actNamed_c 24 = .ok (.invokevirtual 110, 3) := by decide +kernel
theorem d_Fo_actNamed_27 : decode b_Fo_actNamed_c 27 = .ok (.ifCond .eq 42, 3) := by decide +kernel
theorem d_Fo_actNamed_30 : decode b_Fo_actNamed_c 30 = .ok (.aload_n 0, 1) := by decide +kernel
theorem d_Fo_actNamed_31 : decode b_Fo_actNamed_c 31 = .ok (.getfield 31, 3) := by decide +kernel
theorem d_Fo_actNamed_34 : decode b_Fo_actNamed_c 34 = .ok (.iload 5, 2) := by decide +kernel
theorem d_Fo_actNamed_36 : decode b_Fo_actNamed_c 36 = .ok (.iaload, 1) := by decide +kernel
theorem d_Fo_actNamed_37 : decode b_Fo_actNamed_c 37 = .ok (.ifCond .le 32, 3) := by decide +kernel
theorem d_Fo_actNamed_40 : decode b_Fo_actNamed_c 40 = .ok (.iload 5, 2) := by decide +kernel
theorem d_Fo_actNamed_42 : decode b_Fo_actNamed_c 42 = .ok (.iload_n 3, 1) := by decide +kernel
theorem d_Fo_actNamed_43 : decode b_Fo_actNamed_c 43 = .ok (.if_icmp .ne 14, 3) := by decide +kernel
theorem d_Fo_actNamed_46 : decode b_Fo_actNamed_c 46 = .ok (.iload 4, 2) := by decide +kernel
theorem d_Fo_actNamed_48 : decode b_Fo_actNamed_c 48 = .ok (.aload_n 0, 1) := by decide +kernel
theorem d_Fo_actNamed_49 : decode b_Fo_actNamed_c 49 = .ok (.getfield 31, 3) := by decide +kernel
theorem d_Fo_actNamed_52 : decode b_Fo_actNamed_c 52 = .ok (.iload 5, 2) := by decide +kernel
theorem d_Fo_actNamed_54 : decode b_Fo_actNamed_c 54 = .ok (.iaload, 1) := by decide +kernel
theorem d_Fo_actNamed_55 : decode b_Fo_actNamed_c 55 = .ok (.irem, 1) := by decide +kernel
theorem d_Fo_actNamed_56 : decode b_Fo_actNamed_c 56 = .ok (.ireturn, 1) := by decide +kernel
theorem d_Fo_actNamed_57 : decode b_Fo_actNamed_c 57 = .ok (.iload 4, 2) := by decide +kernel
theorem d_Fo_actNamed_59 : decode b_Fo_actNamed_c 59 = .ok (.aload_n 0, 1) := by decide +kernel
theorem d_Fo_actNamed_60 : decode b_Fo_actNamed_c 60 = .ok (.getfield 31, 3) := by decide +kernel
theorem d_Fo_actNamed_63 : decode b_Fo_actNamed_c 63 = .ok (.iload 5, 2) := by decide +kernel
theorem d_Fo_actNamed_65 : decode b_Fo_actNamed_c 65 = .ok (.iaload, 1) := by decide +kernel
theorem d_Fo_actNamed_66 : decode b_Fo_actNamed_c 66 = .ok (.idiv, 1) := by decide +kernel
theorem d_Fo_actNamed_67 : decode b_Fo_actNamed_c 67 = .ok (.istore 4, 2) := by decide +kernel
theorem d_Fo_actNamed_69 : decode b_Fo_actNamed_c 69 = .ok (.iinc 5 (-1), 3) := by decide +kernel
theorem d_Fo_actNamed_72 : decode b_Fo_actNamed_c 72 = .ok (.goto (-61), 3) := by decide +kernel
theorem d_Fo_actNamed_75 : decode b_Fo_actNamed_c 75 = .ok (.iconst (-1), 1) := by decide +kernel
theorem d_Fo_actNamed_76 : decode b_Fo_actNamed_c 76 = .ok (.ireturn, 1) := by decide +kernel
/-! GameRows$Forest.actNamed(III)I -/
set_option maxHeartbeats 4000000 in
set_option maxRecDepth 100000 in
theorem t_Fo_actNamed_69 {X : gX} {r : Int32} {σ : gS} (C : gC X b_Fo_actNamed_c R_Fo 6 2 45) (hR : ∀ pc lv, decode b_Fo_actNamed_c pc = .ok (.ireturn, 1) → G X pc lv [.int r] σ) {k11 : Int32 × Int32 × Int32 × Int32 → Option Int32}  (hk11 : ∀ x, k11 x = some r → G X 11 [(0, .ref (gA X 1)), (1, .int x.1), (3, .int x.2.1), (4, .int x.2.2.1), (5, .int x.2.2.2)] [] σ) (x1 : Int32) (x3 : Int32) (x4 : Int32) (x5 : Int32) (h : b_Fo_actNamed_69 σ k11 x1 x3 x4 x5 = some r) : G X 69 [(0, .ref (gA X 1)), (1, .int x1), (3, .int x3), (4, .int x4), (5, .int x5)] [] σ := by
  unfold b_Fo_actNamed_69 at h
  obtain ⟨x5_1, ex5_1, h⟩ := bnd_some h
  refine r_iinc C 4 (lv' := [(5, .int x5_1), (0, .ref (gA X 1)), (1, .int x1), (3, .int x3), (4, .int x4)]) d_Fo_actNamed_69 rfl (by rw [ex5_1]; rfl) (by decide) rfl ?_
  refine r_goto C (tgt := 11) d_Fo_actNamed_72 (by decide) ?_
  refine r_sub [1, 2, 3, 4, 0] (lv' := [(0, .ref (gA X 1)), (1, .int x1), (3, .int x3), (4, .int x4), (5, .int x5_1)]) rfl ?_
  exact hk11 _ h
set_option maxHeartbeats 4000000 in
set_option maxRecDepth 100000 in
theorem t_Fo_actNamed_11 {X : gX} {r : Int32} {σ : gS} (C : gC X b_Fo_actNamed_c R_Fo 6 2 45) (hR : ∀ pc lv, decode b_Fo_actNamed_c pc = .ok (.ireturn, 1) → G X pc lv [.int r] σ) {k11 : Int32 × Int32 × Int32 × Int32 → Option Int32}  (hk11 : ∀ x, k11 x = some r → G X 11 [(0, .ref (gA X 1)), (1, .int x.1), (3, .int x.2.1), (4, .int x.2.2.1), (5, .int x.2.2.2)] [] σ) (x1 : Int32) (x3 : Int32) (x4 : Int32) (x5 : Int32) (h : b_Fo_actNamed_11 σ k11 x1 x3 x4 x5 = some r) : G X 11 [(0, .ref (gA X 1)), (1, .int x1), (3, .int x3), (4, .int x4), (5, .int x5)] [] σ := by
  unfold b_Fo_actNamed_11 at h
  refine r_iload C 4 d_Fo_actNamed_11 rfl ?_
  refine r_if_lt C (tgt := 75) d_Fo_actNamed_13 (by decide) (fun hc_1 => ?_) (fun hc_1 => ?_)
  · rw [if_pos hc_1] at h
    refine r_iconst C (v := (-1)) d_Fo_actNamed_75 (by decide) ?_
    cases h
    exact hR _ _ d_Fo_actNamed_76
  · rw [if_neg hc_1] at h
    refine r_aload_n C 0 d_Fo_actNamed_16 rfl rfl ?_
    refine r_aload_n C 0 d_Fo_actNamed_17 rfl rfl ?_
    obtain ⟨r_2, er_2, h⟩ := bind_some h
    refine r_callV C (As := []) (rest := [.ref (gA X 1)]) (st1 := [.int r_2, .ref (gA X 1)]) (c_Fo_root X.1.2.1 σ  er_2) k_Fo_root m_90 (by decide) cel_Fo rfl rfl rfl rfl (Nat.le_of_ble_eq_true rfl) ⟨Nat.le_of_ble_eq_true rfl, Nat.le_of_ble_eq_true rfl⟩ d_Fo_actNamed_18 rfl ?_
    refine r_iload_n C 1 d_Fo_actNamed_21 rfl rfl ?_
    refine r_iload C 4 d_Fo_actNamed_22 rfl ?_
    obtain ⟨r_3, er_3, h⟩ := bind_some h
    refine r_callV C (As := [.int r_2, .int x1, .int x5]) (rest := []) (st1 := [.int r_3]) (c_Fo_isPlayedFrom X.1.2.1 σ r_2 x1 x5 er_3) k_Fo_isPlayedFrom m_131 (by decide) cel_Fo rfl rfl rfl rfl (Nat.le_of_ble_eq_true rfl) ⟨Nat.le_of_ble_eq_true rfl, Nat.le_of_ble_eq_true rfl⟩ d_Fo_actNamed_24 rfl ?_
    refine r_if_eq C (tgt := 69) d_Fo_actNamed_27 (by decide) (fun hc_4 => ?_) (fun hc_4 => ?_)
    · rw [if_pos hc_4] at h
      exact t_Fo_actNamed_69 C hR hk11 x1 x3 x4 x5 h
    · rw [if_neg hc_4] at h
      refine r_aload_n C 0 d_Fo_actNamed_30 rfl rfl ?_
      refine q_Fo_31 C d_Fo_actNamed_31 ?_
      refine r_iload C 4 d_Fo_actNamed_34 rfl ?_
      obtain ⟨hi_5, h⟩ := ck_some h
      refine r_iald C hi_5 d_Fo_actNamed_36 ?_
      refine r_if_le C (tgt := 69) d_Fo_actNamed_37 (by decide) (fun hc_6 => ?_) (fun hc_6 => ?_)
      · rw [if_pos hc_6] at h
        exact t_Fo_actNamed_69 C hR hk11 x1 x3 x4 x5 h
      · rw [if_neg hc_6] at h
        refine r_iload C 4 d_Fo_actNamed_40 rfl ?_
        refine r_iload_n C 2 d_Fo_actNamed_42 rfl rfl ?_
        refine r_icmp_ne C (tgt := 57) d_Fo_actNamed_43 (by decide) (fun hc_7 => ?_) (fun hc_7 => ?_)
        · rw [if_neg hc_7] at h
          refine r_iload C 3 d_Fo_actNamed_57 rfl ?_
          refine r_aload_n C 0 d_Fo_actNamed_59 rfl rfl ?_
          refine q_Fo_31 C d_Fo_actNamed_60 ?_
          refine r_iload C 4 d_Fo_actNamed_63 rfl ?_
          obtain ⟨hi_8, h⟩ := ck_some h
          refine r_iald C hi_8 d_Fo_actNamed_65 ?_
          obtain ⟨hz_9, h⟩ := ck_some h
          refine r_idiv C d_Fo_actNamed_66 hz_9 ?_
          obtain ⟨x4_10, ex4_10, h⟩ := bnd_some h
          refine r_istore C (lv' := [(4, .int x4_10), (0, .ref (gA X 1)), (1, .int x1), (3, .int x3), (5, .int x5)]) d_Fo_actNamed_67 (by decide) ex4_10 rfl ?_
          refine r_sub [1, 2, 3, 0, 4] (lv' := [(0, .ref (gA X 1)), (1, .int x1), (3, .int x3), (4, .int x4_10), (5, .int x5)]) rfl ?_
          exact t_Fo_actNamed_69 C hR hk11 x1 x3 x4_10 x5 h
        · rw [if_pos hc_7] at h
          refine r_iload C 3 d_Fo_actNamed_46 rfl ?_
          refine r_aload_n C 0 d_Fo_actNamed_48 rfl rfl ?_
          refine q_Fo_31 C d_Fo_actNamed_49 ?_
          refine r_iload C 4 d_Fo_actNamed_52 rfl ?_
          obtain ⟨hi_11, h⟩ := ck_some h
          refine r_iald C hi_11 d_Fo_actNamed_54 ?_
          obtain ⟨hz_12, h⟩ := ck_some h
          refine r_irem C d_Fo_actNamed_55 hz_12 ?_
          cases h
          exact hR _ _ d_Fo_actNamed_56
set_option maxHeartbeats 4000000 in
set_option maxRecDepth 100000 in
theorem u_Fo_actNamed_11 {X : gX} {r : Int32} {σ : gS} (C : gC X b_Fo_actNamed_c R_Fo 6 2 45) (hR : ∀ pc lv, decode b_Fo_actNamed_c pc = .ok (.ireturn, 1) → G X pc lv [.int r] σ)  (x : Int32 × Int32 × Int32 × Int32) (h : l_Fo_actNamed_11 σ x = some r) : G X 11 [(0, .ref (gA X 1)), (1, .int x.1), (3, .int x.2.1), (4, .int x.2.2.1), (5, .int x.2.2.2)] [] σ :=
  lpF_ind (P := fun x => G X 11 [(0, .ref (gA X 1)), (1, .int x.1), (3, .int x.2.1), (4, .int x.2.2.1), (5, .int x.2.2.2)] [] σ) (fun k hk x h => t_Fo_actNamed_11 C hR hk x.1 x.2.1 x.2.2.1 x.2.2.2 h) gF x h
set_option maxHeartbeats 4000000 in
set_option maxRecDepth 100000 in
theorem t_Fo_actNamed_0 {X : gX} {r : Int32} {σ : gS} (C : gC X b_Fo_actNamed_c R_Fo 6 2 45) (hR : ∀ pc lv, decode b_Fo_actNamed_c pc = .ok (.ireturn, 1) → G X pc lv [.int r] σ) (x1 : Int32) (x2 : Int32) (x3 : Int32) (h : b_Fo_actNamed_0 σ x1 x2 x3 = some r) : G X 0 [(0, .ref (gA X 1)), (1, .int x1), (2, .int x2), (3, .int x3)] [] σ := by
  unfold b_Fo_actNamed_0 at h
  refine r_iload_n C 2 d_Fo_actNamed_0 rfl rfl ?_
  refine r_istore C (lv' := [(4, .int x2), (0, .ref (gA X 1)), (1, .int x1), (2, .int x2), (3, .int x3)]) d_Fo_actNamed_1 (by decide) rfl rfl ?_
  refine r_aload_n C 1 d_Fo_actNamed_3 rfl rfl ?_
  refine q_Fo_15 C d_Fo_actNamed_4 ?_
  refine r_iconst C (v := 1) d_Fo_actNamed_7 (by decide) ?_
  refine r_isub C d_Fo_actNamed_8 ?_
  obtain ⟨x5_1, ex5_1, h⟩ := bnd_some h
  refine r_istore C (lv' := [(5, .int x5_1), (4, .int x2), (0, .ref (gA X 1)), (1, .int x1), (2, .int x2), (3, .int x3)]) d_Fo_actNamed_9 (by decide) ex5_1 rfl ?_
  refine r_sub [2, 3, 5, 1, 0] (lv' := [(0, .ref (gA X 1)), (1, .int x1), (3, .int x3), (4, .int x2), (5, .int x5_1)]) rfl ?_
  exact u_Fo_actNamed_11 C hR  (x1, x3, x2, x5_1) h
set_option maxHeartbeats 4000000 in
set_option maxRecDepth 100000 in
theorem c_Fo_actNamed (l : Launch) (σ : gS) (x1 : Int32) (x2 : Int32) (x3 : Int32) {r : Int32} (h : f_Fo_actNamed σ x1 x2 x3 = some r) : gMet l y_Fo_actNamed b_Fo_actNamed_c 6 (some .int) 2 45 (fun a => [.ref (a 1), .int x1, .int x2, .int x3]) σ (some (.int r)) σ := by
  refine gMet_i (by decide +kernel) (fun a => Nat.le_of_ble_eq_true rfl) (fun X _ C hR => ?_)
  refine r_sub [0, 1, 2, 3] (lv' := [(0, .ref (gA X 1)), (1, .int x1), (2, .int x2), (3, .int x3)]) rfl ?_
  exact t_Fo_actNamed_0 C hR x1 x2 x3 h
theorem d_Ga_act_0 : decode b_Ga_act_c 0 = .ok (.aload_n 0, 1) := by decide +kernel
theorem d_Ga_act_1 : decode b_Ga_act_c 1 = .ok (.invokevirtual 81, 3) := by decide +kernel
theorem d_Ga_act_4 : decode b_Ga_act_c 4 = .ok (.ifCond .eq 6, 3) := by decide +kernel
theorem d_Ga_act_7 : decode b_Ga_act_c 7 = .ok (.ldc 85, 2) := by decide +kernel
theorem d_Ga_act_9 : decode b_Ga_act_c 9 = .ok (.ireturn, 1) := by decide +kernel
theorem d_Ga_act_10 : decode b_Ga_act_c 10 = .ok (.aload_n 0, 1) := by decide +kernel
theorem d_Ga_act_11 : decode b_Ga_act_c 11 = .ok (.iload_n 1, 1) := by decide +kernel
theorem d_Ga_act_12 : decode b_Ga_act_c 12 = .ok (.iload_n 2, 1) := by decide +kernel
theorem d_Ga_act_13 : decode b_Ga_act_c 13 = .ok (.invokevirtual 148, 3) := by decide +kernel
theorem d_Ga_act_16 : decode b_Ga_act_c 16 = .ok (.ifCond .eq 14, 3) := by decide +kernel
theorem d_Ga_act_19 : decode b_Ga_act_c 19 = .ok (.aload_n 0, 1) := by decide +kernel
theorem d_Ga_act_20 : decode b_Ga_act_c 20 = .ok (.getfield 10, 3) := by decide +kernel
theorem d_Ga_act_23 : decode b_Ga_act_c 23 = .ok (.iload_n 3, 1) := by decide +kernel
theorem d_Ga_act_24 : decode b_Ga_act_c 24 = .ok (.invokevirtual 74, 3) := by decide +kernel
theorem d_Ga_act_27 : decode b_Ga_act_c 27 = .ok (.ifCond .ne 6, 3) := by decide +kernel
theorem d_Ga_act_30 : decode b_Ga_act_c 30 = .ok (.bipush (-2), 2) := by decide +kernel
theorem d_Ga_act_32 : decode b_Ga_act_c 32 = .ok (.ireturn, 1) := by decide +kernel
theorem d_Ga_act_33 : decode b_Ga_act_c 33 = .ok (.aload_n 0, 1) := by decide +kernel
theorem d_Ga_act_34 : decode b_Ga_act_c 34 = .ok (.getfield 10, 3) := by decide +kernel
theorem d_Ga_act_37 : decode b_Ga_act_c 37 = .ok (.iload_n 1, 1) := by decide +kernel
theorem d_Ga_act_38 : decode b_Ga_act_c 38 = .ok (.iload_n 2, 1) := by decide +kernel
theorem d_Ga_act_39 : decode b_Ga_act_c 39 = .ok (.iload_n 3, 1) := by decide +kernel
theorem d_Ga_act_40 : decode b_Ga_act_c 40 = .ok (.invokevirtual 152, 3) := by decide +kernel
theorem d_Ga_act_43 : decode b_Ga_act_c 43 = .ok (.ireturn, 1) := by decide +kernel
/-! GameRows.act(III)I -/
set_option maxHeartbeats 4000000 in
set_option maxRecDepth 100000 in
theorem t_Ga_act_0 {X : gX} {r : Int32} {σ : gS} (C : gC X b_Ga_act_c R_Ga 4 4 89) (hR : ∀ pc lv, decode b_Ga_act_c pc = .ok (.ireturn, 1) → G X pc lv [.int r] σ) (x1 : Int32) (x2 : Int32) (x3 : Int32) (h : b_Ga_act_0 σ x1 x2 x3 = some r) : G X 0 [(0, .ref (gA X 0)), (1, .int x1), (2, .int x2), (3, .int x3)] [] σ := by
  unfold b_Ga_act_0 at h
  refine r_aload_n C 0 d_Ga_act_0 rfl rfl ?_
  obtain ⟨r_1, er_1, h⟩ := bind_some h
  refine r_callV C (As := []) (rest := []) (st1 := [.int r_1]) (c_Ga_isEmpty X.1.2.1 σ  er_1) k_Ga_isEmpty m_283 (by decide) cel_Ga rfl rfl rfl rfl (Nat.le_of_ble_eq_true rfl) ⟨Nat.le_of_ble_eq_true rfl, Nat.le_of_ble_eq_true rfl⟩ d_Ga_act_1 rfl ?_
  refine r_if_eq C (tgt := 10) d_Ga_act_4 (by decide) (fun hc_2 => ?_) (fun hc_2 => ?_)
  · rw [if_pos hc_2] at h
    refine r_aload_n C 0 d_Ga_act_10 rfl rfl ?_
    refine r_iload_n C 1 d_Ga_act_11 rfl rfl ?_
    refine r_iload_n C 2 d_Ga_act_12 rfl rfl ?_
    obtain ⟨r_3, er_3, h⟩ := bind_some h
    refine r_callV C (As := [.int x1, .int x2]) (rest := []) (st1 := [.int r_3]) (c_Ga_isPlan X.1.2.1 σ x1 x2 er_3) k_Ga_isPlan m_294 (by decide) cel_Ga rfl rfl rfl rfl (Nat.le_of_ble_eq_true rfl) ⟨Nat.le_of_ble_eq_true rfl, Nat.le_of_ble_eq_true rfl⟩ d_Ga_act_13 rfl ?_
    refine r_if_eq C (tgt := 30) d_Ga_act_16 (by decide) (fun hc_4 => ?_) (fun hc_4 => ?_)
    · rw [if_pos hc_4] at h
      refine r_bipush C (v := (-2)) d_Ga_act_30 (by decide) ?_
      cases h
      exact hR _ _ d_Ga_act_32
    · rw [if_neg hc_4] at h
      refine r_aload_n C 0 d_Ga_act_19 rfl rfl ?_
      refine q_Ga_10 C d_Ga_act_20 ?_
      refine r_iload_n C 3 d_Ga_act_23 rfl rfl ?_
      obtain ⟨r_5, er_5, h⟩ := bind_some h
      refine r_callV C (As := [.int x3]) (rest := []) (st1 := [.int r_5]) (c_Fo_hasSet X.1.2.1 σ x3 er_5) k_Fo_hasSet m_84 (by decide) cel_Fo rfl rfl rfl rfl (Nat.le_of_ble_eq_true rfl) ⟨Nat.le_of_ble_eq_true rfl, Nat.le_of_ble_eq_true rfl⟩ d_Ga_act_24 rfl ?_
      refine r_if_ne C (tgt := 33) d_Ga_act_27 (by decide) (fun hc_6 => ?_) (fun hc_6 => ?_)
      · rw [if_neg hc_6] at h
        refine r_aload_n C 0 d_Ga_act_33 rfl rfl ?_
        refine q_Ga_10 C d_Ga_act_34 ?_
        refine r_iload_n C 1 d_Ga_act_37 rfl rfl ?_
        refine r_iload_n C 2 d_Ga_act_38 rfl rfl ?_
        refine r_iload_n C 3 d_Ga_act_39 rfl rfl ?_
        obtain ⟨r_7, er_7, h⟩ := bind_some h
        refine r_callV C (As := [.int x1, .int x2, .int x3]) (rest := []) (st1 := [.int r_7]) (c_Fo_actNamed X.1.2.1 σ x1 x2 x3 er_7) k_Fo_actNamed m_298 (by decide) cel_Fo rfl rfl rfl rfl (Nat.le_of_ble_eq_true rfl) ⟨Nat.le_of_ble_eq_true rfl, Nat.le_of_ble_eq_true rfl⟩ d_Ga_act_40 rfl ?_
        cases h
        exact hR _ _ d_Ga_act_43
      · rw [if_pos hc_6] at h
        refine r_bipush C (v := (-2)) d_Ga_act_30 (by decide) ?_
        cases h
        exact hR _ _ d_Ga_act_32
  · rw [if_neg hc_2] at h
    refine r_ldc C (v := (-1000000)) m_287 d_Ga_act_7 ?_
    cases h
    exact hR _ _ d_Ga_act_9
set_option maxHeartbeats 4000000 in
set_option maxRecDepth 100000 in
theorem c_Ga_act (l : Launch) (σ : gS) (x1 : Int32) (x2 : Int32) (x3 : Int32) {r : Int32} (h : f_Ga_act σ x1 x2 x3 = some r) : gMet l y_Ga_act b_Ga_act_c 4 (some .int) 4 89 (fun a => [.ref (a 0), .int x1, .int x2, .int x3]) σ (some (.int r)) σ := by
  refine gMet_i (by decide +kernel) (fun a => Nat.le_of_ble_eq_true rfl) (fun X _ C hR => ?_)
  refine r_sub [0, 1, 2, 3] (lv' := [(0, .ref (gA X 0)), (1, .int x1), (2, .int x2), (3, .int x3)]) rfl ?_
  exact t_Ga_act_0 C hR x1 x2 x3 h
theorem d_Ta_valueOfPair_0 : decode b_Ta_valueOfPair_c 0 = .ok (.aload_n 0, 1) := by decide +kernel
theorem d_Ta_valueOfPair_1 : decode b_Ta_valueOfPair_c 1 = .ok (.getfield 17, 3) := by decide +kernel
theorem d_Ta_valueOfPair_4 : decode b_Ta_valueOfPair_c 4 = .ok (.iload_n 1, 1) := by decide +kernel
theorem d_Ta_valueOfPair_5 : decode b_Ta_valueOfPair_c 5 = .ok (.aaload, 1) := by decide +kernel
theorem d_Ta_valueOfPair_6 : decode b_Ta_valueOfPair_c 6 = .ok (.bipush 64, 2) := by decide +kernel
theorem d_Ta_valueOfPair_8 : decode b_Ta_valueOfPair_c 8 = .ok (.iload_n 2, 1) := by decide +kernel
theorem d_Ta_valueOfPair_9 : decode b_Ta_valueOfPair_c 9 = .ok (.imul, 1) := by decide +kernel
theorem d_Ta_valueOfPair_10 : decode b_Ta_valueOfPair_c 10 = .ok (.iload_n 3, 1) := by decide +kernel
theorem d_Ta_valueOfPair_11 : decode b_Ta_valueOfPair_c 11 = .ok (.iadd, 1) := by decide +kernel
theorem d_Ta_valueOfPair_12 : decode b_Ta_valueOfPair_c 12 = .ok (.iaload, 1) := by decide +kernel
theorem d_Ta_valueOfPair_13 : decode b_Ta_valueOfPair_c 13 = .ok (.ireturn, 1) := by decide +kernel
/-! GameRows$Table.valueOfPair(III)I -/
set_option maxHeartbeats 4000000 in
set_option maxRecDepth 100000 in
theorem t_Ta_valueOfPair_0 {X : gX} {r : Int32} {σ : gS} (C : gC X b_Ta_valueOfPair_c R_Ta 4 0 0) (hR : ∀ pc lv, decode b_Ta_valueOfPair_c pc = .ok (.ireturn, 1) → G X pc lv [.int r] σ) (x1 : Int32) (x2 : Int32) (x3 : Int32) (h : b_Ta_valueOfPair_0 σ x1 x2 x3 = some r) : G X 0 [(0, .ref (gA X 16)), (1, .int x1), (2, .int x2), (3, .int x3)] [] σ := by
  unfold b_Ta_valueOfPair_0 at h
  refine r_aload_n C 0 d_Ta_valueOfPair_0 rfl rfl ?_
  refine q_Ta_17 C d_Ta_valueOfPair_1 ?_
  refine r_iload_n C 1 d_Ta_valueOfPair_4 rfl rfl ?_
  obtain ⟨hi_1, h⟩ := ck_some h
  refine o_18 C (k' := 18 + 1 + x1.toNatClampNeg) hi_1 rfl d_Ta_valueOfPair_5 ?_
  refine r_bipush C (v := 64) d_Ta_valueOfPair_6 (by decide) ?_
  refine r_iload_n C 2 d_Ta_valueOfPair_8 rfl rfl ?_
  refine r_imul C d_Ta_valueOfPair_9 ?_
  refine r_iload_n C 3 d_Ta_valueOfPair_10 rfl rfl ?_
  refine r_iadd C d_Ta_valueOfPair_11 ?_
  obtain ⟨hi_2, h⟩ := ck_some h
  refine r_iald C hi_2 d_Ta_valueOfPair_12 ?_
  cases h
  exact hR _ _ d_Ta_valueOfPair_13
set_option maxHeartbeats 4000000 in
set_option maxRecDepth 100000 in
theorem c_Ta_valueOfPair (l : Launch) (σ : gS) (x1 : Int32) (x2 : Int32) (x3 : Int32) {r : Int32} (h : f_Ta_valueOfPair σ x1 x2 x3 = some r) : gMet l y_Ta_valueOfPair b_Ta_valueOfPair_c 4 (some .int) 0 0 (fun a => [.ref (a 16), .int x1, .int x2, .int x3]) σ (some (.int r)) σ := by
  refine gMet_i (by decide +kernel) (fun a => Nat.le_of_ble_eq_true rfl) (fun X _ C hR => ?_)
  refine r_sub [0, 1, 2, 3] (lv' := [(0, .ref (gA X 16)), (1, .int x1), (2, .int x2), (3, .int x3)]) rfl ?_
  exact t_Ta_valueOfPair_0 C hR x1 x2 x3 h
theorem d_Ga_worth_0 : decode b_Ga_worth_c 0 = .ok (.aload_n 0, 1) := by decide +kernel
theorem d_Ga_worth_1 : decode b_Ga_worth_c 1 = .ok (.invokevirtual 81, 3) := by decide +kernel
theorem d_Ga_worth_4 : decode b_Ga_worth_c 4 = .ok (.ifCond .ne 28, 3) := by decide +kernel
theorem d_Ga_worth_7 : decode b_Ga_worth_c 7 = .ok (.aload_n 0, 1) := by decide +kernel
theorem d_Ga_worth_8 : decode b_Ga_worth_c 8 = .ok (.iconst 0, 1) := by decide +kernel
theorem d_Ga_worth_9 : decode b_Ga_worth_c 9 = .ok (.iload_n 1, 1) := by decide +kernel
theorem d_Ga_worth_10 : decode b_Ga_worth_c 10 = .ok (.invokevirtual 148, 3) := by decide +kernel
theorem d_Ga_worth_13 : decode b_Ga_worth_c 13 = .ok (.ifCond .eq 19, 3) := by decide +kernel
theorem d_Ga_worth_16 : decode b_Ga_worth_c 16 = .ok (.aload_n 0, 1) := by decide +kernel
theorem d_Ga_worth_17 : decode b_Ga_worth_c 17 = .ok (.iconst 1, 1) := by decide +kernel
theorem d_Ga_worth_18 : decode b_Ga_worth_c 18 = .ok (.iload_n 2, 1) := by decide +kernel
theorem d_Ga_worth_19 : decode b_Ga_worth_c 19 = .ok (.invokevirtual 148, 3) := by decide +kernel
theorem d_Ga_worth_22 : decode b_Ga_worth_c 22 = .ok (.ifCond .eq 10, 3) := by decide +kernel
theorem d_Ga_worth_25 : decode b_Ga_worth_c 25 = .ok (.iload_n 3, 1) := by decide +kernel
theorem d_Ga_worth_26 : decode b_Ga_worth_c 26 = .ok (.invokestatic 52, 3) := by decide +kernel
theorem d_Ga_worth_29 : decode b_Ga_worth_c 29 = .ok (.ifCond .ne 6, 3) := by decide +kernel
theorem d_Ga_worth_32 : decode b_Ga_worth_c 32 = .ok (.ldc 85, 2) := by decide +kernel
theorem d_Ga_worth_34 : decode b_Ga_worth_c 34 = .ok (.ireturn, 1) := by decide +kernel
theorem d_Ga_worth_35 : decode b_Ga_worth_c 35 = .ok (.aload_n 0, 1) := by decide +kernel
theorem d_Ga_worth_36 : decode b_Ga_worth_c 36 = .ok (.getfield 21, 3) := by decide +kernel
theorem d_Ga_worth_39 : decode b_Ga_worth_c 39 = .ok (.invokevirtual 118, 3) := by decide +kernel
theorem d_Ga_worth_42 : decode b_Ga_worth_c 42 = .ok (.aload_n 0, 1) := by decide +kernel
theorem d_Ga_worth_43 : decode b_Ga_worth_c 43 = .ok (.getfield 21, 3) := by decide +kernel
theorem d_Ga_worth_46 : decode b_Ga_worth_c 46 = .ok (.iload_n 3, 1) := by decide +kernel
theorem d_Ga_worth_47 : decode b_Ga_worth_c 47 = .ok (.iload_n 1, 1) := by decide +kernel
theorem d_Ga_worth_48 : decode b_Ga_worth_c 48 = .ok (.iload_n 2, 1) := by decide +kernel
theorem d_Ga_worth_49 : decode b_Ga_worth_c 49 = .ok (.invokevirtual 156, 3) := by decide +kernel
theorem d_Ga_worth_52 : decode b_Ga_worth_c 52 = .ok (.ireturn, 1) := by decide +kernel
/-! GameRows.worth(III)I -/
set_option maxHeartbeats 4000000 in
set_option maxRecDepth 100000 in
theorem t_Ga_worth_0 {X : gX} {r : (Int32 × gS)} (C : gC X b_Ga_worth_c R_Ga 4 5 115) (hR : ∀ pc lv, decode b_Ga_worth_c pc = .ok (.ireturn, 1) → G X pc lv [.int r.1] r.2) (x1 : Int32) (x2 : Int32) (x3 : Int32) (σ : gS) (h : b_Ga_worth_0 x1 x2 x3 σ = some r) : G X 0 [(0, .ref (gA X 0)), (1, .int x1), (2, .int x2), (3, .int x3)] [] σ := by
  unfold b_Ga_worth_0 at h
  refine r_aload_n C 0 d_Ga_worth_0 rfl rfl ?_
  obtain ⟨r_1, er_1, h⟩ := bind_some h
  refine r_callV C (As := []) (rest := []) (st1 := [.int r_1]) (c_Ga_isEmpty X.1.2.1 σ  er_1) k_Ga_isEmpty m_283 (by decide) cel_Ga rfl rfl rfl rfl (Nat.le_of_ble_eq_true rfl) ⟨Nat.le_of_ble_eq_true rfl, Nat.le_of_ble_eq_true rfl⟩ d_Ga_worth_1 rfl ?_
  refine r_if_ne C (tgt := 32) d_Ga_worth_4 (by decide) (fun hc_2 => ?_) (fun hc_2 => ?_)
  · rw [if_neg hc_2] at h
    refine r_ldc C (v := (-1000000)) m_287 d_Ga_worth_32 ?_
    cases h
    exact hR _ _ d_Ga_worth_34
  · rw [if_pos hc_2] at h
    refine r_aload_n C 0 d_Ga_worth_7 rfl rfl ?_
    refine r_iconst C (v := 0) d_Ga_worth_8 (by decide) ?_
    refine r_iload_n C 1 d_Ga_worth_9 rfl rfl ?_
    obtain ⟨r_3, er_3, h⟩ := bind_some h
    refine r_callV C (As := [.int 0, .int x1]) (rest := []) (st1 := [.int r_3]) (c_Ga_isPlan X.1.2.1 σ 0 x1 er_3) k_Ga_isPlan m_294 (by decide) cel_Ga rfl rfl rfl rfl (Nat.le_of_ble_eq_true rfl) ⟨Nat.le_of_ble_eq_true rfl, Nat.le_of_ble_eq_true rfl⟩ d_Ga_worth_10 rfl ?_
    refine r_if_eq C (tgt := 32) d_Ga_worth_13 (by decide) (fun hc_4 => ?_) (fun hc_4 => ?_)
    · rw [if_pos hc_4] at h
      refine r_ldc C (v := (-1000000)) m_287 d_Ga_worth_32 ?_
      cases h
      exact hR _ _ d_Ga_worth_34
    · rw [if_neg hc_4] at h
      refine r_aload_n C 0 d_Ga_worth_16 rfl rfl ?_
      refine r_iconst C (v := 1) d_Ga_worth_17 (by decide) ?_
      refine r_iload_n C 2 d_Ga_worth_18 rfl rfl ?_
      obtain ⟨r_5, er_5, h⟩ := bind_some h
      refine r_callV C (As := [.int 1, .int x2]) (rest := []) (st1 := [.int r_5]) (c_Ga_isPlan X.1.2.1 σ 1 x2 er_5) k_Ga_isPlan m_294 (by decide) cel_Ga rfl rfl rfl rfl (Nat.le_of_ble_eq_true rfl) ⟨Nat.le_of_ble_eq_true rfl, Nat.le_of_ble_eq_true rfl⟩ d_Ga_worth_19 rfl ?_
      refine r_if_eq C (tgt := 32) d_Ga_worth_22 (by decide) (fun hc_6 => ?_) (fun hc_6 => ?_)
      · rw [if_pos hc_6] at h
        refine r_ldc C (v := (-1000000)) m_287 d_Ga_worth_32 ?_
        cases h
        exact hR _ _ d_Ga_worth_34
      · rw [if_neg hc_6] at h
        refine r_iload_n C 3 d_Ga_worth_25 rfl rfl ?_
        obtain ⟨r_7, er_7, h⟩ := bind_some h
        refine r_callS C (As := [.int x3]) (rest := []) (st1 := [.int r_7]) (c_Ga_isPlayer X.1.2.1 σ x3 er_7) k_Ga_isPlayer m_12 rfl rfl rfl (Nat.le_of_ble_eq_true rfl) ⟨Nat.le_of_ble_eq_true rfl, Nat.le_of_ble_eq_true rfl⟩ d_Ga_worth_26 rfl ?_
        refine r_if_ne C (tgt := 35) d_Ga_worth_29 (by decide) (fun hc_8 => ?_) (fun hc_8 => ?_)
        · rw [if_neg hc_8] at h
          refine r_aload_n C 0 d_Ga_worth_35 rfl rfl ?_
          refine q_Ga_21 C d_Ga_worth_36 ?_
          obtain ⟨r_9, er_9, h⟩ := bind_some h
          refine r_callV C (As := []) (rest := []) (st1 := []) (c_Ta_fillWhole X.1.2.1 σ  er_9) k_Ta_fillWhole m_270 (by decide) cel_Ta rfl rfl rfl rfl (Nat.le_of_ble_eq_true rfl) ⟨Nat.le_of_ble_eq_true rfl, Nat.le_of_ble_eq_true rfl⟩ d_Ga_worth_39 rfl ?_
          refine r_aload_n C 0 d_Ga_worth_42 rfl rfl ?_
          refine q_Ga_21 C d_Ga_worth_43 ?_
          refine r_iload_n C 3 d_Ga_worth_46 rfl rfl ?_
          refine r_iload_n C 1 d_Ga_worth_47 rfl rfl ?_
          refine r_iload_n C 2 d_Ga_worth_48 rfl rfl ?_
          obtain ⟨r_10, er_10, h⟩ := bind_some h
          refine r_callV C (As := [.int x3, .int x1, .int x2]) (rest := []) (st1 := [.int r_10]) (c_Ta_valueOfPair X.1.2.1 r_9 x3 x1 x2 er_10) k_Ta_valueOfPair m_302 (by decide) cel_Ta rfl rfl rfl rfl (Nat.le_of_ble_eq_true rfl) ⟨Nat.le_of_ble_eq_true rfl, Nat.le_of_ble_eq_true rfl⟩ d_Ga_worth_49 rfl ?_
          cases h
          exact hR _ _ d_Ga_worth_52
        · rw [if_pos hc_8] at h
          refine r_ldc C (v := (-1000000)) m_287 d_Ga_worth_32 ?_
          cases h
          exact hR _ _ d_Ga_worth_34
set_option maxHeartbeats 4000000 in
set_option maxRecDepth 100000 in
theorem c_Ga_worth (l : Launch) (σ : gS) (x1 : Int32) (x2 : Int32) (x3 : Int32) {r : (Int32 × gS)} (h : f_Ga_worth σ x1 x2 x3 = some r) : gMet l y_Ga_worth b_Ga_worth_c 4 (some .int) 5 115 (fun a => [.ref (a 0), .int x1, .int x2, .int x3]) σ (some (.int r.1)) r.2 := by
  refine gMet_i (by decide +kernel) (fun a => Nat.le_of_ble_eq_true rfl) (fun X _ C hR => ?_)
  refine r_sub [0, 1, 2, 3] (lv' := [(0, .ref (gA X 0)), (1, .int x1), (2, .int x2), (3, .int x3)]) rfl ?_
  exact t_Ga_worth_0 C hR x1 x2 x3 σ h
theorem d_Ga_answer_0 : decode b_Ga_answer_c 0 = .ok (.aload_n 0, 1) := by decide +kernel
theorem d_Ga_answer_1 : decode b_Ga_answer_c 1 = .ok (.invokevirtual 81, 3) := by decide +kernel
theorem d_Ga_answer_4 : decode b_Ga_answer_c 4 = .ok (.ifCond .eq 6, 3) := by decide +kernel
theorem d_Ga_answer_7 : decode b_Ga_answer_c 7 = .ok (.ldc 85, 2) := by decide +kernel
theorem d_Ga_answer_9 : decode b_Ga_answer_c 9 = .ok (.ireturn, 1) := by decide +kernel
theorem d_Ga_answer_10 : decode b_Ga_answer_c 10 = .ok (.iload_n 1, 1) := by decide +kernel
theorem d_Ga_answer_11 : decode b_Ga_answer_c 11 = .ok (.invokestatic 52, 3) := by decide +kernel
theorem d_Ga_answer_14 : decode b_Ga_answer_c 14 = .ok (.ifCond .eq 15, 3) := by decide +kernel
theorem d_Ga_answer_17 : decode b_Ga_answer_c 17 = .ok (.aload_n 0, 1) := by decide +kernel
theorem d_Ga_answer_18 : decode b_Ga_answer_c 18 = .ok (.iload_n 1, 1) := by decide +kernel
theorem d_Ga_answer_19 : decode b_Ga_answer_c 19 = .ok (.invokestatic 159, 3) := by decide +kernel
theorem d_Ga_answer_22 : decode b_Ga_answer_c 22 = .ok (.iload_n 2, 1) := by decide +kernel
theorem d_Ga_answer_23 : decode b_Ga_answer_c 23 = .ok (.invokevirtual 148, 3) := by decide +kernel
theorem d_Ga_answer_26 : decode b_Ga_answer_c 26 = .ok (.ifCond .ne 6, 3) := by decide +kernel
theorem d_Ga_answer_29 : decode b_Ga_answer_c 29 = .ok (.bipush (-2), 2) := by decide +kernel
theorem d_Ga_answer_31 : decode b_Ga_answer_c 31 = .ok (.ireturn, 1) := by decide +kernel
theorem d_Ga_answer_32 : decode b_Ga_answer_c 32 = .ok (.aload_n 0, 1) := by decide +kernel
theorem d_Ga_answer_33 : decode b_Ga_answer_c 33 = .ok (.getfield 21, 3) := by decide +kernel
theorem d_Ga_answer_36 : decode b_Ga_answer_c 36 = .ok (.invokevirtual 118, 3) := by decide +kernel
theorem d_Ga_answer_39 : decode b_Ga_answer_c 39 = .ok (.aload_n 0, 1) := by decide +kernel
theorem d_Ga_answer_40 : decode b_Ga_answer_c 40 = .ok (.getfield 21, 3) := by decide +kernel
theorem d_Ga_answer_43 : decode b_Ga_answer_c 43 = .ok (.iload_n 1, 1) := by decide +kernel
theorem d_Ga_answer_44 : decode b_Ga_answer_c 44 = .ok (.iload_n 2, 1) := by decide +kernel
theorem d_Ga_answer_45 : decode b_Ga_answer_c 45 = .ok (.invokevirtual 162, 3) := by decide +kernel
theorem d_Ga_answer_48 : decode b_Ga_answer_c 48 = .ok (.ireturn, 1) := by decide +kernel
/-! GameRows.answer(II)I -/
set_option maxHeartbeats 4000000 in
set_option maxRecDepth 100000 in
theorem t_Ga_answer_0 {X : gX} {r : (Int32 × gS)} (C : gC X b_Ga_answer_c R_Ga 3 5 115) (hR : ∀ pc lv, decode b_Ga_answer_c pc = .ok (.ireturn, 1) → G X pc lv [.int r.1] r.2) (x1 : Int32) (x2 : Int32) (σ : gS) (h : b_Ga_answer_0 x1 x2 σ = some r) : G X 0 [(0, .ref (gA X 0)), (1, .int x1), (2, .int x2)] [] σ := by
  unfold b_Ga_answer_0 at h
  refine r_aload_n C 0 d_Ga_answer_0 rfl rfl ?_
  obtain ⟨r_1, er_1, h⟩ := bind_some h
  refine r_callV C (As := []) (rest := []) (st1 := [.int r_1]) (c_Ga_isEmpty X.1.2.1 σ  er_1) k_Ga_isEmpty m_283 (by decide) cel_Ga rfl rfl rfl rfl (Nat.le_of_ble_eq_true rfl) ⟨Nat.le_of_ble_eq_true rfl, Nat.le_of_ble_eq_true rfl⟩ d_Ga_answer_1 rfl ?_
  refine r_if_eq C (tgt := 10) d_Ga_answer_4 (by decide) (fun hc_2 => ?_) (fun hc_2 => ?_)
  · rw [if_pos hc_2] at h
    refine r_iload_n C 1 d_Ga_answer_10 rfl rfl ?_
    obtain ⟨r_3, er_3, h⟩ := bind_some h
    refine r_callS C (As := [.int x1]) (rest := []) (st1 := [.int r_3]) (c_Ga_isPlayer X.1.2.1 σ x1 er_3) k_Ga_isPlayer m_12 rfl rfl rfl (Nat.le_of_ble_eq_true rfl) ⟨Nat.le_of_ble_eq_true rfl, Nat.le_of_ble_eq_true rfl⟩ d_Ga_answer_11 rfl ?_
    refine r_if_eq C (tgt := 29) d_Ga_answer_14 (by decide) (fun hc_4 => ?_) (fun hc_4 => ?_)
    · rw [if_pos hc_4] at h
      refine r_bipush C (v := (-2)) d_Ga_answer_29 (by decide) ?_
      cases h
      exact hR _ _ d_Ga_answer_31
    · rw [if_neg hc_4] at h
      refine r_aload_n C 0 d_Ga_answer_17 rfl rfl ?_
      refine r_iload_n C 1 d_Ga_answer_18 rfl rfl ?_
      obtain ⟨r_5, er_5, h⟩ := bind_some h
      refine r_callS C (As := [.int x1]) (rest := [.ref (gA X 0)]) (st1 := [.int r_5, .ref (gA X 0)]) (c_Ga_otherThan X.1.2.1 σ x1 er_5) k_Ga_otherThan m_306 rfl rfl rfl (Nat.le_of_ble_eq_true rfl) ⟨Nat.le_of_ble_eq_true rfl, Nat.le_of_ble_eq_true rfl⟩ d_Ga_answer_19 rfl ?_
      refine r_iload_n C 2 d_Ga_answer_22 rfl rfl ?_
      obtain ⟨r_6, er_6, h⟩ := bind_some h
      refine r_callV C (As := [.int r_5, .int x2]) (rest := []) (st1 := [.int r_6]) (c_Ga_isPlan X.1.2.1 σ r_5 x2 er_6) k_Ga_isPlan m_294 (by decide) cel_Ga rfl rfl rfl rfl (Nat.le_of_ble_eq_true rfl) ⟨Nat.le_of_ble_eq_true rfl, Nat.le_of_ble_eq_true rfl⟩ d_Ga_answer_23 rfl ?_
      refine r_if_ne C (tgt := 32) d_Ga_answer_26 (by decide) (fun hc_7 => ?_) (fun hc_7 => ?_)
      · rw [if_neg hc_7] at h
        refine r_aload_n C 0 d_Ga_answer_32 rfl rfl ?_
        refine q_Ga_21 C d_Ga_answer_33 ?_
        obtain ⟨r_8, er_8, h⟩ := bind_some h
        refine r_callV C (As := []) (rest := []) (st1 := []) (c_Ta_fillWhole X.1.2.1 σ  er_8) k_Ta_fillWhole m_270 (by decide) cel_Ta rfl rfl rfl rfl (Nat.le_of_ble_eq_true rfl) ⟨Nat.le_of_ble_eq_true rfl, Nat.le_of_ble_eq_true rfl⟩ d_Ga_answer_36 rfl ?_
        refine r_aload_n C 0 d_Ga_answer_39 rfl rfl ?_
        refine q_Ga_21 C d_Ga_answer_40 ?_
        refine r_iload_n C 1 d_Ga_answer_43 rfl rfl ?_
        refine r_iload_n C 2 d_Ga_answer_44 rfl rfl ?_
        obtain ⟨r_9, er_9, h⟩ := bind_some h
        refine r_callV C (As := [.int x1, .int x2]) (rest := []) (st1 := [.int r_9]) (c_Ta_bestAgainst X.1.2.1 r_8 x1 x2 er_9) k_Ta_bestAgainst m_307 (by decide) cel_Ta rfl rfl rfl rfl (Nat.le_of_ble_eq_true rfl) ⟨Nat.le_of_ble_eq_true rfl, Nat.le_of_ble_eq_true rfl⟩ d_Ga_answer_45 rfl ?_
        cases h
        exact hR _ _ d_Ga_answer_48
      · rw [if_pos hc_7] at h
        refine r_bipush C (v := (-2)) d_Ga_answer_29 (by decide) ?_
        cases h
        exact hR _ _ d_Ga_answer_31
  · rw [if_neg hc_2] at h
    refine r_ldc C (v := (-1000000)) m_287 d_Ga_answer_7 ?_
    cases h
    exact hR _ _ d_Ga_answer_9
set_option maxHeartbeats 4000000 in
set_option maxRecDepth 100000 in
theorem c_Ga_answer (l : Launch) (σ : gS) (x1 : Int32) (x2 : Int32) {r : (Int32 × gS)} (h : f_Ga_answer σ x1 x2 = some r) : gMet l y_Ga_answer b_Ga_answer_c 3 (some .int) 5 115 (fun a => [.ref (a 0), .int x1, .int x2]) σ (some (.int r.1)) r.2 := by
  refine gMet_i (by decide +kernel) (fun a => Nat.le_of_ble_eq_true rfl) (fun X _ C hR => ?_)
  refine r_sub [0, 1, 2] (lv' := [(0, .ref (gA X 0)), (1, .int x1), (2, .int x2)]) rfl ?_
  exact t_Ga_answer_0 C hR x1 x2 σ h
theorem d_Ga_bitAt_0 : decode b_Ga_bitAt_c 0 = .ok (.iconst 0, 1) := by decide +kernel
theorem d_Ga_bitAt_1 : decode b_Ga_bitAt_c 1 = .ok (.istore_n 3, 1) := by decide +kernel
theorem d_Ga_bitAt_2 : decode b_Ga_bitAt_c 2 = .ok (.iconst 0, 1) := by decide +kernel
theorem d_Ga_bitAt_3 : decode b_Ga_bitAt_c 3 = .ok (.istore 4, 2) := by decide +kernel
theorem d_Ga_bitAt_5 : decode b_Ga_bitAt_c 5 = .ok (.iload 4, 2) := by decide +kernel
theorem d_Ga_bitAt_7 : decode b_Ga_bitAt_c 7 = .ok (.bipush 64, 2) := by decide +kernel
theorem d_Ga_bitAt_9 : decode b_Ga_bitAt_c 9 = .ok (.if_icmp .ge 29, 3) := by decide +kernel
theorem d_Ga_bitAt_12 : decode b_Ga_bitAt_c 12 = .ok (.lload_n 0, 1) := by decide +kernel
theorem d_Ga_bitAt_13 : decode b_Ga_bitAt_c 13 = .ok (.iload 4, 2) := by decide +kernel
theorem d_Ga_bitAt_15 : decode b_Ga_bitAt_c 15 = .ok (.invokestatic 206, 3) := by decide +kernel
theorem d_Ga_bitAt_18 : decode b_Ga_bitAt_c 18 = .ok (.ifCond .eq 14, 3) := by decide +kernel
theorem d_Ga_bitAt_21 : decode b_Ga_bitAt_c 21 = .ok (.iload_n 3, 1) := by decide +kernel
theorem d_Ga_bitAt_22 : decode b_Ga_bitAt_c 22 = .ok (.iload_n 2, 1) := by decide +kernel
theorem d_Ga_bitAt_23 : decode b_Ga_bitAt_c 23 = .ok (.if_icmp .ne 6, 3) := by decide +kernel
theorem d_Ga_bitAt_26 : decode b_Ga_bitAt_c 26 = .ok (.iload 4, 2) := by decide +kernel
theorem d_Ga_bitAt_28 : decode b_Ga_bitAt_c 28 = .ok (.ireturn, 1) := by decide +kernel
theorem d_Ga_bitAt_29 : decode b_Ga_bitAt_c 29 = .ok (.iinc 3 1, 3) := by decide +kernel
theorem d_Ga_bitAt_32 : decode b_Ga_bitAt_c 32 = .ok (.iinc 4 1, 3) := by decide +kernel
theorem d_Ga_bitAt_35 : decode b_Ga_bitAt_c 35 = .ok (.goto (-30), 3) := by decide +kernel
theorem d_Ga_bitAt_38 : decode b_Ga_bitAt_c 38 = .ok (.iconst (-1), 1) := by decide +kernel
theorem d_Ga_bitAt_39 : decode b_Ga_bitAt_c 39 = .ok (.ireturn, 1) := by decide +kernel
/-! GameRows.bitAt(JI)I -/
set_option maxHeartbeats 4000000 in
set_option maxRecDepth 100000 in
theorem t_Ga_bitAt_32 {X : gX} {r : Int32} {σ : gS} (C : gC X b_Ga_bitAt_c R_Ga 5 1 22) (hR : ∀ pc lv, decode b_Ga_bitAt_c pc = .ok (.ireturn, 1) → G X pc lv [.int r] σ) {k5 : Int64 × Int32 × Int32 × Int32 → Option Int32}  (hk5 : ∀ x, k5 x = some r → G X 5 [(0, .long x.1), (2, .int x.2.1), (3, .int x.2.2.1), (4, .int x.2.2.2)] [] σ) (x0 : Int64) (x2 : Int32) (x3 : Int32) (x4 : Int32) (h : b_Ga_bitAt_32 k5 x0 x2 x3 x4 = some r) : G X 32 [(0, .long x0), (2, .int x2), (3, .int x3), (4, .int x4)] [] σ := by
  unfold b_Ga_bitAt_32 at h
  obtain ⟨x4_1, ex4_1, h⟩ := bnd_some h
  refine r_iinc C 3 (lv' := [(4, .int x4_1), (0, .long x0), (2, .int x2), (3, .int x3)]) d_Ga_bitAt_32 rfl (by rw [ex4_1]; rfl) (by decide) rfl ?_
  refine r_goto C (tgt := 5) d_Ga_bitAt_35 (by decide) ?_
  refine r_sub [1, 2, 3, 0] (lv' := [(0, .long x0), (2, .int x2), (3, .int x3), (4, .int x4_1)]) rfl ?_
  exact hk5 _ h
set_option maxHeartbeats 4000000 in
set_option maxRecDepth 100000 in
theorem t_Ga_bitAt_5 {X : gX} {r : Int32} {σ : gS} (C : gC X b_Ga_bitAt_c R_Ga 5 1 22) (hR : ∀ pc lv, decode b_Ga_bitAt_c pc = .ok (.ireturn, 1) → G X pc lv [.int r] σ) {k5 : Int64 × Int32 × Int32 × Int32 → Option Int32}  (hk5 : ∀ x, k5 x = some r → G X 5 [(0, .long x.1), (2, .int x.2.1), (3, .int x.2.2.1), (4, .int x.2.2.2)] [] σ) (x0 : Int64) (x2 : Int32) (x3 : Int32) (x4 : Int32) (h : b_Ga_bitAt_5 k5 x0 x2 x3 x4 = some r) : G X 5 [(0, .long x0), (2, .int x2), (3, .int x3), (4, .int x4)] [] σ := by
  unfold b_Ga_bitAt_5 at h
  refine r_iload C 3 d_Ga_bitAt_5 rfl ?_
  refine r_bipush C (v := 64) d_Ga_bitAt_7 (by decide) ?_
  refine r_icmp_ge C (tgt := 38) d_Ga_bitAt_9 (by decide) (fun hc_1 => ?_) (fun hc_1 => ?_)
  · rw [if_pos hc_1] at h
    refine r_iconst C (v := (-1)) d_Ga_bitAt_38 (by decide) ?_
    cases h
    exact hR _ _ d_Ga_bitAt_39
  · rw [if_neg hc_1] at h
    refine r_lload_n C 0 d_Ga_bitAt_12 rfl rfl ?_
    refine r_iload C 3 d_Ga_bitAt_13 rfl ?_
    obtain ⟨r_2, er_2, h⟩ := bind_some h
    refine r_callS C (As := [.long x0, .int x4]) (rest := []) (st1 := [.int r_2]) (c_Ga_hasBit X.1.2.1 σ x0 x4 er_2) k_Ga_hasBit m_308 rfl rfl rfl (Nat.le_of_ble_eq_true rfl) ⟨Nat.le_of_ble_eq_true rfl, Nat.le_of_ble_eq_true rfl⟩ d_Ga_bitAt_15 rfl ?_
    refine r_if_eq C (tgt := 32) d_Ga_bitAt_18 (by decide) (fun hc_3 => ?_) (fun hc_3 => ?_)
    · rw [if_pos hc_3] at h
      exact t_Ga_bitAt_32 C hR hk5 x0 x2 x3 x4 h
    · rw [if_neg hc_3] at h
      refine r_iload_n C 2 d_Ga_bitAt_21 rfl rfl ?_
      refine r_iload_n C 1 d_Ga_bitAt_22 rfl rfl ?_
      refine r_icmp_ne C (tgt := 29) d_Ga_bitAt_23 (by decide) (fun hc_4 => ?_) (fun hc_4 => ?_)
      · rw [if_neg hc_4] at h
        obtain ⟨x3_5, ex3_5, h⟩ := bnd_some h
        refine r_iinc C 2 (lv' := [(3, .int x3_5), (0, .long x0), (2, .int x2), (4, .int x4)]) d_Ga_bitAt_29 rfl (by rw [ex3_5]; rfl) (by decide) rfl ?_
        refine r_sub [1, 2, 0, 3] (lv' := [(0, .long x0), (2, .int x2), (3, .int x3_5), (4, .int x4)]) rfl ?_
        exact t_Ga_bitAt_32 C hR hk5 x0 x2 x3_5 x4 h
      · rw [if_pos hc_4] at h
        refine r_iload C 3 d_Ga_bitAt_26 rfl ?_
        cases h
        exact hR _ _ d_Ga_bitAt_28
set_option maxHeartbeats 4000000 in
set_option maxRecDepth 100000 in
theorem u_Ga_bitAt_5 {X : gX} {r : Int32} {σ : gS} (C : gC X b_Ga_bitAt_c R_Ga 5 1 22) (hR : ∀ pc lv, decode b_Ga_bitAt_c pc = .ok (.ireturn, 1) → G X pc lv [.int r] σ)  (x : Int64 × Int32 × Int32 × Int32) (h : l_Ga_bitAt_5 x = some r) : G X 5 [(0, .long x.1), (2, .int x.2.1), (3, .int x.2.2.1), (4, .int x.2.2.2)] [] σ :=
  lpF_ind (P := fun x => G X 5 [(0, .long x.1), (2, .int x.2.1), (3, .int x.2.2.1), (4, .int x.2.2.2)] [] σ) (fun k hk x h => t_Ga_bitAt_5 C hR hk x.1 x.2.1 x.2.2.1 x.2.2.2 h) gF x h
set_option maxHeartbeats 4000000 in
set_option maxRecDepth 100000 in
theorem t_Ga_bitAt_0 {X : gX} {r : Int32} {σ : gS} (C : gC X b_Ga_bitAt_c R_Ga 5 1 22) (hR : ∀ pc lv, decode b_Ga_bitAt_c pc = .ok (.ireturn, 1) → G X pc lv [.int r] σ) (x0 : Int64) (x2 : Int32) (h : b_Ga_bitAt_0 x0 x2 = some r) : G X 0 [(0, .long x0), (2, .int x2)] [] σ := by
  unfold b_Ga_bitAt_0 at h
  refine r_iconst C (v := 0) d_Ga_bitAt_0 (by decide) ?_
  refine r_istore_n C (lv' := [(3, .int 0), (0, .long x0), (2, .int x2)]) d_Ga_bitAt_1 rfl (by decide) rfl rfl ?_
  refine r_iconst C (v := 0) d_Ga_bitAt_2 (by decide) ?_
  refine r_istore C (lv' := [(4, .int 0), (3, .int 0), (0, .long x0), (2, .int x2)]) d_Ga_bitAt_3 (by decide) rfl rfl ?_
  refine r_sub [2, 3, 1, 0] (lv' := [(0, .long x0), (2, .int x2), (3, .int 0), (4, .int 0)]) rfl ?_
  exact u_Ga_bitAt_5 C hR  (x0, x2, 0, 0) h
set_option maxHeartbeats 4000000 in
set_option maxRecDepth 100000 in
theorem c_Ga_bitAt (l : Launch) (σ : gS) (x0 : Int64) (x2 : Int32) {r : Int32} (h : f_Ga_bitAt x0 x2 = some r) : gMet l y_Ga_bitAt b_Ga_bitAt_c 5 (some .int) 1 22 (fun a => [.long x0, .int x2]) σ (some (.int r)) σ := by
  refine gMet_i (by decide +kernel) (fun a => Nat.le_of_ble_eq_true rfl) (fun X _ C hR => ?_)
  refine r_sub [0, 1] (lv' := [(0, .long x0), (2, .int x2)]) rfl ?_
  exact t_Ga_bitAt_0 C hR x0 x2 h
theorem d_Po_pointAt_0 : decode b_Po_pointAt_c 0 = .ok (.aload_n 0, 1) := by decide +kernel
theorem d_Po_pointAt_1 : decode b_Po_pointAt_c 1 = .ok (.getfield 11, 3) := by decide +kernel
theorem d_Po_pointAt_4 : decode b_Po_pointAt_c 4 = .ok (.iload_n 1, 1) := by decide +kernel
theorem d_Po_pointAt_5 : decode b_Po_pointAt_c 5 = .ok (.invokestatic 36, 3) := by decide +kernel
theorem d_Po_pointAt_8 : decode b_Po_pointAt_c 8 = .ok (.aaload, 1) := by decide +kernel
theorem d_Po_pointAt_9 : decode b_Po_pointAt_c 9 = .ok (.astore_n 3, 1) := by decide +kernel
theorem d_Po_pointAt_10 : decode b_Po_pointAt_c 10 = .ok (.aload_n 0, 1) := by decide +kernel
theorem d_Po_pointAt_11 : decode b_Po_pointAt_c 11 = .ok (.getfield 28, 3) := by decide +kernel
theorem d_Po_pointAt_14 : decode b_Po_pointAt_c 14 = .ok (.iconst 0, 1) := by decide +kernel
theorem d_Po_pointAt_15 : decode b_Po_pointAt_c 15 = .ok (.invokevirtual 46, 3) := by decide +kernel
theorem d_Po_pointAt_18 : decode b_Po_pointAt_c 18 = .ok (.istore 4, 2) := by decide +kernel
theorem d_Po_pointAt_20 : decode b_Po_pointAt_c 20 = .ok (.iload_n 2, 1) := by decide +kernel
theorem d_Po_pointAt_21 : decode b_Po_pointAt_c 21 = .ok (.istore 5, 2) := by decide +kernel
theorem d_Po_pointAt_23 : decode b_Po_pointAt_c 23 = .ok (.iconst 0, 1) := by decide +kernel
theorem d_Po_pointAt_24 : decode b_Po_pointAt_c 24 = .ok (.istore 6, 2) := by decide +kernel
theorem d_Po_pointAt_26 : decode b_Po_pointAt_c 26 = .ok (.iload 6, 2) := by decide +kernel
theorem d_Po_pointAt_28 : decode b_Po_pointAt_c 28 = .ok (.iload 4, 2) := by decide +kernel
theorem d_Po_pointAt_30 : decode b_Po_pointAt_c 30 = .ok (.if_icmp .ge 53, 3) := by decide +kernel
theorem d_Po_pointAt_33 : decode b_Po_pointAt_c 33 = .ok (.iload 5, 2) := by decide +kernel
theorem d_Po_pointAt_35 : decode b_Po_pointAt_c 35 = .ok (.ifCond .lt 48, 3) := by decide +kernel
theorem d_Po_pointAt_38 : decode b_Po_pointAt_c 38 = .ok (.aload_n 3, 1) := by decide +kernel
theorem d_Po_pointAt_39 : decode b_Po_pointAt_c 39 = .ok (.iload 6, 2) := by decide +kernel
theorem d_Po_pointAt_41 : decode b_Po_pointAt_c 41 = .ok (.laload, 1) := by decide +kernel
theorem d_Po_pointAt_42 : decode b_Po_pointAt_c 42 = .ok (.invokestatic 79, 3) := by decide +kernel
theorem d_Po_pointAt_45 : decode b_Po_pointAt_c 45 = .ok (.istore 7, 2) := by decide +kernel
theorem d_Po_pointAt_47 : decode b_Po_pointAt_c 47 = .ok (.iload 5, 2) := by decide +kernel
theorem d_Po_pointAt_49 : decode b_Po_pointAt_c 49 = .ok (.iload 7, 2) := by decide +kernel
theorem d_Po_pointAt_51 : decode b_Po_pointAt_c 51 = .ok (.if_icmp .ge 19, 3) := by decide +kernel
theorem d_Po_pointAt_54 : decode b_Po_pointAt_c 54 = .ok (.bipush 64, 2) := by decide +kernel
theorem d_Po_pointAt_56 : decode b_Po_pointAt_c 56 = .ok (.iload 6, 2) := by decide +kernel
theorem d_Po_pointAt_58 : decode b_Po_pointAt_c 58 = .ok (.imul, 1) := by decide +kernel
theorem d_Po_pointAt_59 : decode b_Po_pointAt_c 59 = .ok (.aload_n 3, 1) := by decide +kernel
theorem d_Po_pointAt_60 : decode b_Po_pointAt_c 60 = .ok (.iload 6, 2) := by decide +kernel
theorem d_Po_pointAt_62 : decode b_Po_pointAt_c 62 = .ok (.laload, 1) := by decide +kernel
theorem d_Po_pointAt_63 : decode b_Po_pointAt_c 63 = .ok (.iload 5, 2) := by decide +kernel
theorem d_Po_pointAt_65 : decode b_Po_pointAt_c 65 = .ok (.invokestatic 85, 3) := by decide +kernel
theorem d_Po_pointAt_68 : decode b_Po_pointAt_c 68 = .ok (.iadd, 1) := by decide +kernel
theorem d_Po_pointAt_69 : decode b_Po_pointAt_c 69 = .ok (.ireturn, 1) := by decide +kernel
theorem d_Po_pointAt_70 : decode b_Po_pointAt_c 70 = .ok (.iload 5, 2) := by decide +kernel
theorem d_Po_pointAt_72 : decode b_Po_pointAt_c 72 = .ok (.iload 7, 2) := by decide +kernel
theorem d_Po_pointAt_74 : decode b_Po_pointAt_c 74 = .ok (.isub, 1) := by decide +kernel
theorem d_Po_pointAt_75 : decode b_Po_pointAt_c 75 = .ok (.istore 5, 2) := by decide +kernel
theorem d_Po_pointAt_77 : decode b_Po_pointAt_c 77 = .ok (.iinc 6 1, 3) := by decide +kernel
theorem d_Po_pointAt_80 : decode b_Po_pointAt_c 80 = .ok (.goto (-54), 3) := by decide +kernel
theorem d_Po_pointAt_83 : decode b_Po_pointAt_c 83 = .ok (.iconst (-1), 1) := by decide +kernel
theorem d_Po_pointAt_84 : decode b_Po_pointAt_c 84 = .ok (.ireturn, 1) := by decide +kernel
/-! GameRows$Points.pointAt(ZI)I -/
set_option maxHeartbeats 4000000 in
set_option maxRecDepth 100000 in
theorem t_Po_pointAt_26 {X : gX} {r : Int32} {σ : gS} (C : gC X b_Po_pointAt_c R_Po 8 3 67) (hR : ∀ pc lv, decode b_Po_pointAt_c pc = .ok (.ireturn, 1) → G X pc lv [.int r] σ) {k26 : Nat × Int32 × Int32 × Int32 → Option Int32}  (hk26 : ∀ x, k26 x = some r → G X 26 [(3, .ref (gA X x.1)), (4, .int x.2.1), (5, .int x.2.2.1), (6, .int x.2.2.2)] [] σ) (x3 : Nat) (x4 : Int32) (x5 : Int32) (x6 : Int32) (h : b_Po_pointAt_26 σ k26 x3 x4 x5 x6 = some r) : G X 26 [(3, .ref (gA X x3)), (4, .int x4), (5, .int x5), (6, .int x6)] [] σ := by
  unfold b_Po_pointAt_26 at h
  refine r_iload C 3 d_Po_pointAt_26 rfl ?_
  refine r_iload C 1 d_Po_pointAt_28 rfl ?_
  refine r_icmp_ge C (tgt := 83) d_Po_pointAt_30 (by decide) (fun hc_1 => ?_) (fun hc_1 => ?_)
  · rw [if_pos hc_1] at h
    refine r_iconst C (v := (-1)) d_Po_pointAt_83 (by decide) ?_
    cases h
    exact hR _ _ d_Po_pointAt_84
  · rw [if_neg hc_1] at h
    refine r_iload C 2 d_Po_pointAt_33 rfl ?_
    refine r_if_lt C (tgt := 83) d_Po_pointAt_35 (by decide) (fun hc_2 => ?_) (fun hc_2 => ?_)
    · rw [if_pos hc_2] at h
      refine r_iconst C (v := (-1)) d_Po_pointAt_83 (by decide) ?_
      cases h
      exact hR _ _ d_Po_pointAt_84
    · rw [if_neg hc_2] at h
      refine r_aload_n C 0 d_Po_pointAt_38 rfl rfl ?_
      refine r_iload C 3 d_Po_pointAt_39 rfl ?_
      obtain ⟨hi_3, h⟩ := ck_some h
      refine r_lald C hi_3 d_Po_pointAt_41 ?_
      obtain ⟨r_4, er_4, h⟩ := bind_some h
      refine r_callS C (As := [.long (gL σ x3 x6.toNatClampNeg)]) (rest := []) (st1 := [.int r_4]) (c_Lo_bitCount X.1.2.1 σ (gL σ x3 x6.toNatClampNeg) er_4) k_Lo_bitCount m_218 rfl rfl rfl (Nat.le_of_ble_eq_true rfl) ⟨Nat.le_of_ble_eq_true rfl, Nat.le_of_ble_eq_true rfl⟩ d_Po_pointAt_42 rfl ?_
      refine r_istore C (lv' := [(7, .int r_4), (3, .ref (gA X x3)), (4, .int x4), (5, .int x5), (6, .int x6)]) d_Po_pointAt_45 (by decide) rfl rfl ?_
      refine r_iload C 3 d_Po_pointAt_47 rfl ?_
      refine r_iload C 0 d_Po_pointAt_49 rfl ?_
      refine r_icmp_ge C (tgt := 70) d_Po_pointAt_51 (by decide) (fun hc_5 => ?_) (fun hc_5 => ?_)
      · rw [if_pos hc_5] at h
        refine r_iload C 3 d_Po_pointAt_70 rfl ?_
        refine r_iload C 0 d_Po_pointAt_72 rfl ?_
        refine r_isub C d_Po_pointAt_74 ?_
        obtain ⟨x5_6, ex5_6, h⟩ := bnd_some h
        refine r_istore C (lv' := [(5, .int x5_6), (7, .int r_4), (3, .ref (gA X x3)), (4, .int x4), (6, .int x6)]) d_Po_pointAt_75 (by decide) ex5_6 rfl ?_
        obtain ⟨x6_7, ex6_7, h⟩ := bnd_some h
        refine r_iinc C 4 (lv' := [(6, .int x6_7), (5, .int x5_6), (7, .int r_4), (3, .ref (gA X x3)), (4, .int x4)]) d_Po_pointAt_77 rfl (by rw [ex6_7]; rfl) (by decide) rfl ?_
        refine r_goto C (tgt := 26) d_Po_pointAt_80 (by decide) ?_
        refine r_sub [3, 4, 1, 0] (lv' := [(3, .ref (gA X x3)), (4, .int x4), (5, .int x5_6), (6, .int x6_7)]) rfl ?_
        exact hk26 _ h
      · rw [if_neg hc_5] at h
        refine r_bipush C (v := 64) d_Po_pointAt_54 (by decide) ?_
        refine r_iload C 4 d_Po_pointAt_56 rfl ?_
        refine r_imul C d_Po_pointAt_58 ?_
        refine r_aload_n C 1 d_Po_pointAt_59 rfl rfl ?_
        refine r_iload C 4 d_Po_pointAt_60 rfl ?_
        obtain ⟨hi_8, h⟩ := ck_some h
        refine r_lald C hi_8 d_Po_pointAt_62 ?_
        refine r_iload C 3 d_Po_pointAt_63 rfl ?_
        obtain ⟨r_9, er_9, h⟩ := bind_some h
        refine r_callSN C (As := [.long (gL σ x3 x6.toNatClampNeg), .int x5]) (rest := [.int (64 * x6)]) (st1 := [.int r_9, .int (64 * x6)]) (c_Ga_bitAt X.1.2.1 σ (gL σ x3 x6.toNatClampNeg) x5 er_9) k_Ga_bitAt n_Po_85 rfl rfl rfl (Nat.le_of_ble_eq_true rfl) ⟨Nat.le_of_ble_eq_true rfl, Nat.le_of_ble_eq_true rfl⟩ d_Po_pointAt_65 rfl ?_
        refine r_iadd C d_Po_pointAt_68 ?_
        cases h
        exact hR _ _ d_Po_pointAt_69
set_option maxHeartbeats 4000000 in
set_option maxRecDepth 100000 in
theorem u_Po_pointAt_26 {X : gX} {r : Int32} {σ : gS} (C : gC X b_Po_pointAt_c R_Po 8 3 67) (hR : ∀ pc lv, decode b_Po_pointAt_c pc = .ok (.ireturn, 1) → G X pc lv [.int r] σ)  (x : Nat × Int32 × Int32 × Int32) (h : l_Po_pointAt_26 σ x = some r) : G X 26 [(3, .ref (gA X x.1)), (4, .int x.2.1), (5, .int x.2.2.1), (6, .int x.2.2.2)] [] σ :=
  lpF_ind (P := fun x => G X 26 [(3, .ref (gA X x.1)), (4, .int x.2.1), (5, .int x.2.2.1), (6, .int x.2.2.2)] [] σ) (fun k hk x h => t_Po_pointAt_26 C hR hk x.1 x.2.1 x.2.2.1 x.2.2.2 h) gF x h
set_option maxHeartbeats 4000000 in
set_option maxRecDepth 100000 in
theorem t_Po_pointAt_0 {X : gX} {r : Int32} {σ : gS} (C : gC X b_Po_pointAt_c R_Po 8 3 67) (hR : ∀ pc lv, decode b_Po_pointAt_c pc = .ok (.ireturn, 1) → G X pc lv [.int r] σ) (x1 : Int32) (x2 : Int32) (h : b_Po_pointAt_0 σ x1 x2 = some r) : G X 0 [(0, .ref (gA X 23)), (1, .int x1), (2, .int x2)] [] σ := by
  unfold b_Po_pointAt_0 at h
  refine r_aload_n C 0 d_Po_pointAt_0 rfl rfl ?_
  refine q_Po_11 C d_Po_pointAt_1 ?_
  refine r_iload_n C 1 d_Po_pointAt_4 rfl rfl ?_
  obtain ⟨r_1, er_1, h⟩ := bind_some h
  refine r_callS C (As := [.int x1]) (rest := [.ref (gA X 24)]) (st1 := [.int r_1, .ref (gA X 24)]) (c_Po_placeOf X.1.2.1 σ x1 er_1) k_Po_placeOf m_203 rfl rfl rfl (Nat.le_of_ble_eq_true rfl) ⟨Nat.le_of_ble_eq_true rfl, Nat.le_of_ble_eq_true rfl⟩ d_Po_pointAt_5 rfl ?_
  obtain ⟨hi_2, h⟩ := ck_some h
  refine o_24 C (k' := 24 + 1 + r_1.toNatClampNeg) hi_2 rfl d_Po_pointAt_8 ?_
  refine r_astore_n C (lv' := [(3, .ref (gA X (24 + 1 + r_1.toNatClampNeg))), (0, .ref (gA X 23)), (1, .int x1), (2, .int x2)]) d_Po_pointAt_9 rfl (by decide) rfl ?_
  refine r_aload_n C 1 d_Po_pointAt_10 rfl rfl ?_
  refine q_Po_28 C d_Po_pointAt_11 ?_
  refine r_iconst C (v := 0) d_Po_pointAt_14 (by decide) ?_
  obtain ⟨r_3, er_3, h⟩ := bind_some h
  refine r_callV C (As := [.int 0]) (rest := []) (st1 := [.int r_3]) (c_Fo_plansOf X.1.2.1 σ 0 er_3) k_Fo_plansOf m_161 (by decide) cel_Fo rfl rfl rfl rfl (Nat.le_of_ble_eq_true rfl) ⟨Nat.le_of_ble_eq_true rfl, Nat.le_of_ble_eq_true rfl⟩ d_Po_pointAt_15 rfl ?_
  refine r_istore C (lv' := [(4, .int r_3), (3, .ref (gA X (24 + 1 + r_1.toNatClampNeg))), (0, .ref (gA X 23)), (1, .int x1), (2, .int x2)]) d_Po_pointAt_18 (by decide) rfl rfl ?_
  refine r_iload_n C 4 d_Po_pointAt_20 rfl rfl ?_
  refine r_istore C (lv' := [(5, .int x2), (4, .int r_3), (3, .ref (gA X (24 + 1 + r_1.toNatClampNeg))), (0, .ref (gA X 23)), (1, .int x1), (2, .int x2)]) d_Po_pointAt_21 (by decide) rfl rfl ?_
  refine r_iconst C (v := 0) d_Po_pointAt_23 (by decide) ?_
  refine r_istore C (lv' := [(6, .int 0), (5, .int x2), (4, .int r_3), (3, .ref (gA X (24 + 1 + r_1.toNatClampNeg))), (0, .ref (gA X 23)), (1, .int x1), (2, .int x2)]) d_Po_pointAt_24 (by decide) rfl rfl ?_
  refine r_sub [3, 2, 1, 0] (lv' := [(3, .ref (gA X (24 + 1 + r_1.toNatClampNeg))), (4, .int r_3), (5, .int x2), (6, .int 0)]) rfl ?_
  exact u_Po_pointAt_26 C hR  ((24 + 1 + r_1.toNatClampNeg), r_3, x2, 0) h
set_option maxHeartbeats 4000000 in
set_option maxRecDepth 100000 in
theorem c_Po_pointAt (l : Launch) (σ : gS) (x1 : Int32) (x2 : Int32) {r : Int32} (h : f_Po_pointAt σ x1 x2 = some r) : gMet l y_Po_pointAt b_Po_pointAt_c 8 (some .int) 3 67 (fun a => [.ref (a 23), .int x1, .int x2]) σ (some (.int r)) σ := by
  refine gMet_i (by decide +kernel) (fun a => Nat.le_of_ble_eq_true rfl) (fun X _ C hR => ?_)
  refine r_sub [0, 1, 2] (lv' := [(0, .ref (gA X 23)), (1, .int x1), (2, .int x2)]) rfl ?_
  exact t_Po_pointAt_0 C hR x1 x2 h
