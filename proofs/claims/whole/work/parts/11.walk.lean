theorem d_Fo_setsInTree_0 : decode b_Fo_setsInTree_c 0 = .ok (.aload_n 0, 1) := by decide +kernel
theorem d_Fo_setsInTree_1 : decode b_Fo_setsInTree_c 1 = .ok (.getfield 9, 3) := by decide +kernel
theorem d_Fo_setsInTree_4 : decode b_Fo_setsInTree_c 4 = .ok (.ifCond .ne 7, 3) := by decide +kernel
theorem d_Fo_setsInTree_7 : decode b_Fo_setsInTree_c 7 = .ok (.iconst 0, 1) := by decide +kernel
theorem d_Fo_setsInTree_8 : decode b_Fo_setsInTree_c 8 = .ok (.goto 12, 3) := by decide +kernel
theorem d_Fo_setsInTree_11 : decode b_Fo_setsInTree_c 11 = .ok (.aload_n 0, 1) := by decide +kernel
theorem d_Fo_setsInTree_12 : decode b_Fo_setsInTree_c 12 = .ok (.getfield 53, 3) := by decide +kernel
theorem d_Fo_setsInTree_15 : decode b_Fo_setsInTree_c 15 = .ok (.aload_n 0, 1) := by decide +kernel
theorem d_Fo_setsInTree_16 : decode b_Fo_setsInTree_c 16 = .ok (.invokevirtual 99, 3) := by decide +kernel
theorem d_Fo_setsInTree_19 : decode b_Fo_setsInTree_c 19 = .ok (.iaload, 1) := by decide +kernel
theorem d_Fo_setsInTree_20 : decode b_Fo_setsInTree_c 20 = .ok (.ireturn, 1) := by decide +kernel
/-! GameRows$Forest.setsInTree()I -/
set_option maxHeartbeats 4000000 in
set_option maxRecDepth 100000 in
theorem t_Fo_setsInTree_0 {X : gX} {r : Int32} {σ : gS} (C : gC X b_Fo_setsInTree_c R_Fo 1 1 20) (hR : ∀ pc lv, decode b_Fo_setsInTree_c pc = .ok (.ireturn, 1) → G X pc lv [.int r] σ)  (h : b_Fo_setsInTree_0 σ = some r) : G X 0 [(0, .ref (gA X 1))] [] σ := by
  unfold b_Fo_setsInTree_0 at h
  refine r_aload_n C 0 d_Fo_setsInTree_0 rfl rfl ?_
  refine q_Fo_9 C d_Fo_setsInTree_1 ?_
  refine r_if_ne C (tgt := 11) d_Fo_setsInTree_4 (by decide) (fun hc_1 => ?_) (fun hc_1 => ?_)
  · rw [if_neg hc_1] at h
    refine r_aload_n C 0 d_Fo_setsInTree_11 rfl rfl ?_
    refine q_Fo_53 C d_Fo_setsInTree_12 ?_
    refine r_aload_n C 0 d_Fo_setsInTree_15 rfl rfl ?_
    obtain ⟨r_2, er_2, h⟩ := bind_some h
    refine r_callV C (As := []) (rest := [.ref (gA X 12)]) (st1 := [.int r_2, .ref (gA X 12)]) (c_Fo_root X.1.2.1 σ  er_2) k_Fo_root m_90 (by decide) cel_Fo rfl rfl rfl rfl (Nat.le_of_ble_eq_true rfl) ⟨Nat.le_of_ble_eq_true rfl, Nat.le_of_ble_eq_true rfl⟩ d_Fo_setsInTree_16 rfl ?_
    obtain ⟨hi_3, h⟩ := ck_some h
    refine r_iald C hi_3 d_Fo_setsInTree_19 ?_
    cases h
    exact hR _ _ d_Fo_setsInTree_20
  · rw [if_pos hc_1] at h
    refine r_iconst C (v := 0) d_Fo_setsInTree_7 (by decide) ?_
    refine r_goto C (tgt := 20) d_Fo_setsInTree_8 (by decide) ?_
    cases h
    exact hR _ _ d_Fo_setsInTree_20
set_option maxHeartbeats 4000000 in
set_option maxRecDepth 100000 in
theorem c_Fo_setsInTree (l : Launch) (σ : gS)  {r : Int32} (h : f_Fo_setsInTree σ = some r) : gMet l y_Fo_setsInTree b_Fo_setsInTree_c 1 (some .int) 1 20 (fun a => [.ref (a 1)]) σ (some (.int r)) σ := by
  refine gMet_i (by decide +kernel) (fun a => Nat.le_of_ble_eq_true rfl) (fun X _ C hR => ?_)
  refine r_sub [0] (lv' := [(0, .ref (gA X 1))]) rfl ?_
  exact t_Fo_setsInTree_0 C hR  h
theorem d_Fo_plansOf_0 : decode b_Fo_plansOf_c 0 = .ok (.aload_n 0, 1) := by decide +kernel
theorem d_Fo_plansOf_1 : decode b_Fo_plansOf_c 1 = .ok (.iload_n 1, 1) := by decide +kernel
theorem d_Fo_plansOf_2 : decode b_Fo_plansOf_c 2 = .ok (.aload_n 0, 1) := by decide +kernel
theorem d_Fo_plansOf_3 : decode b_Fo_plansOf_c 3 = .ok (.invokevirtual 103, 3) := by decide +kernel
theorem d_Fo_plansOf_6 : decode b_Fo_plansOf_c 6 = .ok (.invokevirtual 84, 3) := by decide +kernel
theorem d_Fo_plansOf_9 : decode b_Fo_plansOf_c 9 = .ok (.ireturn, 1) := by decide +kernel
/-! GameRows$Forest.plansOf(I)I -/
set_option maxHeartbeats 4000000 in
set_option maxRecDepth 100000 in
theorem t_Fo_plansOf_0 {X : gX} {r : Int32} {σ : gS} (C : gC X b_Fo_plansOf_c R_Fo 2 2 46) (hR : ∀ pc lv, decode b_Fo_plansOf_c pc = .ok (.ireturn, 1) → G X pc lv [.int r] σ) (x1 : Int32) (h : b_Fo_plansOf_0 σ x1 = some r) : G X 0 [(0, .ref (gA X 1)), (1, .int x1)] [] σ := by
  unfold b_Fo_plansOf_0 at h
  refine r_aload_n C 0 d_Fo_plansOf_0 rfl rfl ?_
  refine r_iload_n C 1 d_Fo_plansOf_1 rfl rfl ?_
  refine r_aload_n C 0 d_Fo_plansOf_2 rfl rfl ?_
  obtain ⟨r_1, er_1, h⟩ := bind_some h
  refine r_callV C (As := []) (rest := [.int x1, .ref (gA X 1)]) (st1 := [.int r_1, .int x1, .ref (gA X 1)]) (c_Fo_setsInTree X.1.2.1 σ  er_1) k_Fo_setsInTree m_97 (by decide) cel_Fo rfl rfl rfl rfl (Nat.le_of_ble_eq_true rfl) ⟨Nat.le_of_ble_eq_true rfl, Nat.le_of_ble_eq_true rfl⟩ d_Fo_plansOf_3 rfl ?_
  obtain ⟨r_2, er_2, h⟩ := bind_some h
  refine r_callV C (As := [.int x1, .int r_1]) (rest := []) (st1 := [.int r_2]) (c_Fo_plansWith X.1.2.1 σ x1 r_1 er_2) k_Fo_plansWith m_56 (by decide) cel_Fo rfl rfl rfl rfl (Nat.le_of_ble_eq_true rfl) ⟨Nat.le_of_ble_eq_true rfl, Nat.le_of_ble_eq_true rfl⟩ d_Fo_plansOf_6 rfl ?_
  cases h
  exact hR _ _ d_Fo_plansOf_9
set_option maxHeartbeats 4000000 in
set_option maxRecDepth 100000 in
theorem c_Fo_plansOf (l : Launch) (σ : gS) (x1 : Int32) {r : Int32} (h : f_Fo_plansOf σ x1 = some r) : gMet l y_Fo_plansOf b_Fo_plansOf_c 2 (some .int) 2 46 (fun a => [.ref (a 1), .int x1]) σ (some (.int r)) σ := by
  refine gMet_i (by decide +kernel) (fun a => Nat.le_of_ble_eq_true rfl) (fun X _ C hR => ?_)
  refine r_sub [0, 1] (lv' := [(0, .ref (gA X 1)), (1, .int x1)]) rfl ?_
  exact t_Fo_plansOf_0 C hR x1 h
theorem d_Po_placeOf_0 : decode b_Po_placeOf_c 0 = .ok (.iload_n 0, 1) := by decide +kernel
theorem d_Po_placeOf_1 : decode b_Po_placeOf_c 1 = .ok (.ifCond .eq 7, 3) := by decide +kernel
theorem d_Po_placeOf_4 : decode b_Po_placeOf_c 4 = .ok (.iconst 1, 1) := by decide +kernel
theorem d_Po_placeOf_5 : decode b_Po_placeOf_c 5 = .ok (.goto 4, 3) := by decide +kernel
theorem d_Po_placeOf_8 : decode b_Po_placeOf_c 8 = .ok (.iconst 0, 1) := by decide +kernel
theorem d_Po_placeOf_9 : decode b_Po_placeOf_c 9 = .ok (.ireturn, 1) := by decide +kernel
/-! GameRows$Points.placeOf(Z)I -/
set_option maxHeartbeats 4000000 in
set_option maxRecDepth 100000 in
theorem t_Po_placeOf_0 {X : gX} {r : Int32} {σ : gS} (C : gC X b_Po_placeOf_c R_Po 1 0 0) (hR : ∀ pc lv, decode b_Po_placeOf_c pc = .ok (.ireturn, 1) → G X pc lv [.int r] σ) (x0 : Int32) (h : b_Po_placeOf_0 x0 = some r) : G X 0 [(0, .int x0)] [] σ := by
  unfold b_Po_placeOf_0 at h
  refine r_iload_n C 0 d_Po_placeOf_0 rfl rfl ?_
  refine r_if_eq C (tgt := 8) d_Po_placeOf_1 (by decide) (fun hc_1 => ?_) (fun hc_1 => ?_)
  · rw [if_pos hc_1] at h
    refine r_iconst C (v := 0) d_Po_placeOf_8 (by decide) ?_
    cases h
    exact hR _ _ d_Po_placeOf_9
  · rw [if_neg hc_1] at h
    refine r_iconst C (v := 1) d_Po_placeOf_4 (by decide) ?_
    refine r_goto C (tgt := 9) d_Po_placeOf_5 (by decide) ?_
    cases h
    exact hR _ _ d_Po_placeOf_9
set_option maxHeartbeats 4000000 in
set_option maxRecDepth 100000 in
theorem c_Po_placeOf (l : Launch) (σ : gS) (x0 : Int32) {r : Int32} (h : f_Po_placeOf x0 = some r) : gMet l y_Po_placeOf b_Po_placeOf_c 1 (some .int) 0 0 (fun a => [.int x0]) σ (some (.int r)) σ := by
  refine gMet_i (by decide +kernel) (fun a => Nat.le_of_ble_eq_true rfl) (fun X _ C hR => ?_)
  refine r_sub [0] (lv' := [(0, .int x0)]) rfl ?_
  exact t_Po_placeOf_0 C hR x0 h
theorem d_Ga_firstBits_0 : decode b_Ga_firstBits_c 0 = .ok (.ldc2_w 204, 3) := by decide +kernel
theorem d_Ga_firstBits_3 : decode b_Ga_firstBits_c 3 = .ok (.bipush 64, 2) := by decide +kernel
theorem d_Ga_firstBits_5 : decode b_Ga_firstBits_c 5 = .ok (.iload_n 0, 1) := by decide +kernel
theorem d_Ga_firstBits_6 : decode b_Ga_firstBits_c 6 = .ok (.isub, 1) := by decide +kernel
theorem d_Ga_firstBits_7 : decode b_Ga_firstBits_c 7 = .ok (.lushr, 1) := by decide +kernel
theorem d_Ga_firstBits_8 : decode b_Ga_firstBits_c 8 = .ok (.lreturn, 1) := by decide +kernel
/-! GameRows.firstBits(I)J -/
set_option maxHeartbeats 4000000 in
set_option maxRecDepth 100000 in
theorem t_Ga_firstBits_0 {X : gX} {r : Int64} {σ : gS} (C : gC X b_Ga_firstBits_c R_Ga 1 0 0) (hR : ∀ pc lv, decode b_Ga_firstBits_c pc = .ok (.lreturn, 1) → G X pc lv [.long r] σ) (x0 : Int32) (h : b_Ga_firstBits_0 x0 = some r) : G X 0 [(0, .int x0)] [] σ := by
  unfold b_Ga_firstBits_0 at h
  refine r_ldc2 C (v := (-1)) m_101 d_Ga_firstBits_0 ?_
  refine r_bipush C (v := 64) d_Ga_firstBits_3 (by decide) ?_
  refine r_iload_n C 0 d_Ga_firstBits_5 rfl rfl ?_
  refine r_isub C d_Ga_firstBits_6 ?_
  refine r_lushr C d_Ga_firstBits_7 ?_
  cases h
  exact hR _ _ d_Ga_firstBits_8
set_option maxHeartbeats 4000000 in
set_option maxRecDepth 100000 in
theorem c_Ga_firstBits (l : Launch) (σ : gS) (x0 : Int32) {r : Int64} (h : f_Ga_firstBits x0 = some r) : gMet l y_Ga_firstBits b_Ga_firstBits_c 1 (some .long) 0 0 (fun a => [.int x0]) σ (some (.long r)) σ := by
  refine gMet_l (by decide +kernel) (fun a => Nat.le_of_ble_eq_true rfl) (fun X _ C hR => ?_)
  refine r_sub [0] (lv' := [(0, .int x0)]) rfl ?_
  exact t_Ga_firstBits_0 C hR x0 h
theorem d_Ar_fillJ_0 : decode b_Ar_fillJ_c 0 = .ok (.iconst 0, 1) := by decide +kernel
theorem d_Ar_fillJ_1 : decode b_Ar_fillJ_c 1 = .ok (.istore_n 3, 1) := by decide +kernel
theorem d_Ar_fillJ_2 : decode b_Ar_fillJ_c 2 = .ok (.aload_n 0, 1) := by decide +kernel
theorem d_Ar_fillJ_3 : decode b_Ar_fillJ_c 3 = .ok (.arraylength, 1) := by decide +kernel
theorem d_Ar_fillJ_4 : decode b_Ar_fillJ_c 4 = .ok (.istore 4, 2) := by decide +kernel
theorem d_Ar_fillJ_6 : decode b_Ar_fillJ_c 6 = .ok (.iload_n 3, 1) := by decide +kernel
theorem d_Ar_fillJ_7 : decode b_Ar_fillJ_c 7 = .ok (.iload 4, 2) := by decide +kernel
theorem d_Ar_fillJ_9 : decode b_Ar_fillJ_c 9 = .ok (.if_icmp .ge 13, 3) := by decide +kernel
theorem d_Ar_fillJ_12 : decode b_Ar_fillJ_c 12 = .ok (.aload_n 0, 1) := by decide +kernel
theorem d_Ar_fillJ_13 : decode b_Ar_fillJ_c 13 = .ok (.iload_n 3, 1) := by decide +kernel
theorem d_Ar_fillJ_14 : decode b_Ar_fillJ_c 14 = .ok (.lload_n 1, 1) := by decide +kernel
theorem d_Ar_fillJ_15 : decode b_Ar_fillJ_c 15 = .ok (.lastore, 1) := by decide +kernel
theorem d_Ar_fillJ_16 : decode b_Ar_fillJ_c 16 = .ok (.iinc 3 1, 3) := by decide +kernel
theorem d_Ar_fillJ_19 : decode b_Ar_fillJ_c 19 = .ok (.goto (-13), 3) := by decide +kernel
theorem d_Ar_fillJ_22 : decode b_Ar_fillJ_c 22 = .ok (.return_, 1) := by decide +kernel
/-! java/util/Arrays.fill([JJ)V -/
set_option maxHeartbeats 4000000 in
set_option maxRecDepth 100000 in
theorem t_Ar_fillJ_6 {X : gX} {r : gS} (C : gC X b_Ar_fillJ_c R_Ar 5 0 0) (hR : ∀ pc lv, decode b_Ar_fillJ_c pc = .ok (.return_, 1) → G X pc lv [] r) {k6 : Nat × Int64 × Int32 × Int32 × gS → Option gS}  (hk6 : ∀ x, k6 x = some r → G X 6 [(0, .ref (gA X x.1)), (1, .long x.2.1), (3, .int x.2.2.1), (4, .int x.2.2.2.1)] [] x.2.2.2.2) (x0 : Nat) (x1 : Int64) (x3 : Int32) (x4 : Int32) (σ : gS) (h : b_Ar_fillJ_6 k6 x0 x1 x3 x4 σ = some r) : G X 6 [(0, .ref (gA X x0)), (1, .long x1), (3, .int x3), (4, .int x4)] [] σ := by
  unfold b_Ar_fillJ_6 at h
  refine r_iload_n C 2 d_Ar_fillJ_6 rfl rfl ?_
  refine r_iload C 3 d_Ar_fillJ_7 rfl ?_
  refine r_icmp_ge C (tgt := 22) d_Ar_fillJ_9 (by decide) (fun hc_1 => ?_) (fun hc_1 => ?_)
  · rw [if_pos hc_1] at h
    cases h
    exact hR _ _ d_Ar_fillJ_22
  · rw [if_neg hc_1] at h
    refine r_aload_n C 0 d_Ar_fillJ_12 rfl rfl ?_
    refine r_iload_n C 2 d_Ar_fillJ_13 rfl rfl ?_
    refine r_lload_n C 1 d_Ar_fillJ_14 rfl rfl ?_
    obtain ⟨hi_2, h⟩ := ck_some h
    obtain ⟨σ_3, eσ_3, h⟩ := bnd_some h
    refine r_last C hi_2 eσ_3 d_Ar_fillJ_15 ?_
    obtain ⟨x3_4, ex3_4, h⟩ := bnd_some h
    refine r_iinc C 2 (lv' := [(3, .int x3_4), (0, .ref (gA X x0)), (1, .long x1), (4, .int x4)]) d_Ar_fillJ_16 rfl (by rw [ex3_4]; rfl) (by decide) rfl ?_
    refine r_goto C (tgt := 6) d_Ar_fillJ_19 (by decide) ?_
    refine r_sub [1, 2, 0, 3] (lv' := [(0, .ref (gA X x0)), (1, .long x1), (3, .int x3_4), (4, .int x4)]) rfl ?_
    exact hk6 _ h
set_option maxHeartbeats 4000000 in
set_option maxRecDepth 100000 in
theorem u_Ar_fillJ_6 {X : gX} {r : gS} (C : gC X b_Ar_fillJ_c R_Ar 5 0 0) (hR : ∀ pc lv, decode b_Ar_fillJ_c pc = .ok (.return_, 1) → G X pc lv [] r)  (x : Nat × Int64 × Int32 × Int32 × gS) (h : l_Ar_fillJ_6 x = some r) : G X 6 [(0, .ref (gA X x.1)), (1, .long x.2.1), (3, .int x.2.2.1), (4, .int x.2.2.2.1)] [] x.2.2.2.2 :=
  lpF_ind (P := fun x => G X 6 [(0, .ref (gA X x.1)), (1, .long x.2.1), (3, .int x.2.2.1), (4, .int x.2.2.2.1)] [] x.2.2.2.2) (fun k hk x h => t_Ar_fillJ_6 C hR hk x.1 x.2.1 x.2.2.1 x.2.2.2.1 x.2.2.2.2 h) gF x h
set_option maxHeartbeats 4000000 in
set_option maxRecDepth 100000 in
theorem t_Ar_fillJ_0 {X : gX} {r : gS} (C : gC X b_Ar_fillJ_c R_Ar 5 0 0) (hR : ∀ pc lv, decode b_Ar_fillJ_c pc = .ok (.return_, 1) → G X pc lv [] r) (x0 : Nat) (x1 : Int64) (σ : gS) (h : b_Ar_fillJ_0 x0 x1 σ = some r) : G X 0 [(0, .ref (gA X x0)), (1, .long x1)] [] σ := by
  unfold b_Ar_fillJ_0 at h
  refine r_iconst C (v := 0) d_Ar_fillJ_0 (by decide) ?_
  refine r_istore_n C (lv' := [(3, .int 0), (0, .ref (gA X x0)), (1, .long x1)]) d_Ar_fillJ_1 rfl (by decide) rfl rfl ?_
  refine r_aload_n C 1 d_Ar_fillJ_2 rfl rfl ?_
  obtain ⟨hi_1, h⟩ := ck_some h
  refine r_alenJ C hi_1 rfl d_Ar_fillJ_3 ?_
  obtain ⟨x4_2, ex4_2, h⟩ := bnd_some h
  refine r_istore C (lv' := [(4, .int x4_2), (3, .int 0), (0, .ref (gA X x0)), (1, .long x1)]) d_Ar_fillJ_4 (by decide) ex4_2 rfl ?_
  refine r_sub [2, 3, 1, 0] (lv' := [(0, .ref (gA X x0)), (1, .long x1), (3, .int 0), (4, .int x4_2)]) rfl ?_
  exact u_Ar_fillJ_6 C hR  (x0, x1, 0, x4_2, σ) h
set_option maxHeartbeats 4000000 in
set_option maxRecDepth 100000 in
theorem c_Ar_fillJ (l : Launch) (σ : gS) (x0 : Nat) (x1 : Int64) {r : gS} (h : f_Ar_fillJ σ x0 x1 = some r) : gMet l y_Ar_fillJ b_Ar_fillJ_c 5 (none) 0 0 (fun a => [.ref (a x0), .long x1]) σ (none) r := by
  refine gMet_v (by decide +kernel) (fun a => Nat.le_of_ble_eq_true rfl) (fun X _ C hR => ?_)
  refine r_sub [0, 1] (lv' := [(0, .ref (gA X x0)), (1, .long x1)]) rfl ?_
  exact t_Ar_fillJ_0 C hR x0 x1 σ h
theorem d_Fo_isGameWithin_0 : decode b_Fo_isGameWithin_c 0 = .ok (.aload_n 0, 1) := by decide +kernel
theorem d_Fo_isGameWithin_1 : decode b_Fo_isGameWithin_c 1 = .ok (.getfield 59, 3) := by decide +kernel
theorem d_Fo_isGameWithin_4 : decode b_Fo_isGameWithin_c 4 = .ok (.aload_n 0, 1) := by decide +kernel
theorem d_Fo_isGameWithin_5 : decode b_Fo_isGameWithin_c 5 = .ok (.getfield 25, 3) := by decide +kernel
theorem d_Fo_isGameWithin_8 : decode b_Fo_isGameWithin_c 8 = .ok (.iload_n 1, 1) := by decide +kernel
theorem d_Fo_isGameWithin_9 : decode b_Fo_isGameWithin_c 9 = .ok (.iaload, 1) := by decide +kernel
theorem d_Fo_isGameWithin_10 : decode b_Fo_isGameWithin_c 10 = .ok (.laload, 1) := by decide +kernel
theorem d_Fo_isGameWithin_11 : decode b_Fo_isGameWithin_c 11 = .ok (.aload_n 0, 1) := by decide +kernel
theorem d_Fo_isGameWithin_12 : decode b_Fo_isGameWithin_c 12 = .ok (.invokevirtual 114, 3) := by decide +kernel
theorem d_Fo_isGameWithin_15 : decode b_Fo_isGameWithin_c 15 = .ok (.land, 1) := by decide +kernel
theorem d_Fo_isGameWithin_16 : decode b_Fo_isGameWithin_c 16 = .ok (.lconst 1, 1) := by decide +kernel
theorem d_Fo_isGameWithin_17 : decode b_Fo_isGameWithin_c 17 = .ok (.iload_n 1, 1) := by decide +kernel
theorem d_Fo_isGameWithin_18 : decode b_Fo_isGameWithin_c 18 = .ok (.lshl, 1) := by decide +kernel
theorem d_Fo_isGameWithin_19 : decode b_Fo_isGameWithin_c 19 = .ok (.lcmp, 1) := by decide +kernel
theorem d_Fo_isGameWithin_20 : decode b_Fo_isGameWithin_c 20 = .ok (.ifCond .eq 5, 3) := by decide +kernel
theorem d_Fo_isGameWithin_23 : decode b_Fo_isGameWithin_c 23 = .ok (.iconst 0, 1) := by decide +kernel
theorem d_Fo_isGameWithin_24 : decode b_Fo_isGameWithin_c 24 = .ok (.ireturn, 1) := by decide +kernel
theorem d_Fo_isGameWithin_25 : decode b_Fo_isGameWithin_c 25 = .ok (.aload_n 0, 1) := by decide +kernel
theorem d_Fo_isGameWithin_26 : decode b_Fo_isGameWithin_c 26 = .ok (.invokevirtual 114, 3) := by decide +kernel
theorem d_Fo_isGameWithin_29 : decode b_Fo_isGameWithin_c 29 = .ok (.aload_n 0, 1) := by decide +kernel
theorem d_Fo_isGameWithin_30 : decode b_Fo_isGameWithin_c 30 = .ok (.getfield 49, 3) := by decide +kernel
theorem d_Fo_isGameWithin_33 : decode b_Fo_isGameWithin_c 33 = .ok (.iload_n 1, 1) := by decide +kernel
theorem d_Fo_isGameWithin_34 : decode b_Fo_isGameWithin_c 34 = .ok (.laload, 1) := by decide +kernel
theorem d_Fo_isGameWithin_35 : decode b_Fo_isGameWithin_c 35 = .ok (.ldc2_w 121, 3) := by decide +kernel
theorem d_Fo_isGameWithin_38 : decode b_Fo_isGameWithin_c 38 = .ok (.lxor, 1) := by decide +kernel
theorem d_Fo_isGameWithin_39 : decode b_Fo_isGameWithin_c 39 = .ok (.land, 1) := by decide +kernel
theorem d_Fo_isGameWithin_40 : decode b_Fo_isGameWithin_c 40 = .ok (.lstore_n 2, 1) := by decide +kernel
theorem d_Fo_isGameWithin_41 : decode b_Fo_isGameWithin_c 41 = .ok (.iconst 0, 1) := by decide +kernel
theorem d_Fo_isGameWithin_42 : decode b_Fo_isGameWithin_c 42 = .ok (.istore 4, 2) := by decide +kernel
theorem d_Fo_isGameWithin_44 : decode b_Fo_isGameWithin_c 44 = .ok (.iload 4, 2) := by decide +kernel
theorem d_Fo_isGameWithin_46 : decode b_Fo_isGameWithin_c 46 = .ok (.aload_n 0, 1) := by decide +kernel
theorem d_Fo_isGameWithin_47 : decode b_Fo_isGameWithin_c 47 = .ok (.getfield 15, 3) := by decide +kernel
theorem d_Fo_isGameWithin_50 : decode b_Fo_isGameWithin_c 50 = .ok (.if_icmp .ge 40, 3) := by decide +kernel
theorem d_Fo_isGameWithin_53 : decode b_Fo_isGameWithin_c 53 = .ok (.aload_n 0, 1) := by decide +kernel
theorem d_Fo_isGameWithin_54 : decode b_Fo_isGameWithin_c 54 = .ok (.getfield 53, 3) := by decide +kernel
theorem d_Fo_isGameWithin_57 : decode b_Fo_isGameWithin_c 57 = .ok (.iload_n 1, 1) := by decide +kernel
theorem d_Fo_isGameWithin_58 : decode b_Fo_isGameWithin_c 58 = .ok (.iaload, 1) := by decide +kernel
theorem d_Fo_isGameWithin_59 : decode b_Fo_isGameWithin_c 59 = .ok (.i2l, 1) := by decide +kernel
theorem d_Fo_isGameWithin_60 : decode b_Fo_isGameWithin_c 60 = .ok (.iload 4, 2) := by decide +kernel
theorem d_Fo_isGameWithin_62 : decode b_Fo_isGameWithin_c 62 = .ok (.invokestatic 106, 3) := by decide +kernel
theorem d_Fo_isGameWithin_65 : decode b_Fo_isGameWithin_c 65 = .ok (.ifCond .eq 19, 3) := by decide +kernel
theorem d_Fo_isGameWithin_68 : decode b_Fo_isGameWithin_c 68 = .ok (.aload_n 0, 1) := by decide +kernel
theorem d_Fo_isGameWithin_69 : decode b_Fo_isGameWithin_c 69 = .ok (.getfield 59, 3) := by decide +kernel
theorem d_Fo_isGameWithin_72 : decode b_Fo_isGameWithin_c 72 = .ok (.iload 4, 2) := by decide +kernel
theorem d_Fo_isGameWithin_74 : decode b_Fo_isGameWithin_c 74 = .ok (.laload, 1) := by decide +kernel
theorem d_Fo_isGameWithin_75 : decode b_Fo_isGameWithin_c 75 = .ok (.lload_n 2, 1) := by decide +kernel
theorem d_Fo_isGameWithin_76 : decode b_Fo_isGameWithin_c 76 = .ok (.land, 1) := by decide +kernel
theorem d_Fo_isGameWithin_77 : decode b_Fo_isGameWithin_c 77 = .ok (.lconst 0, 1) := by decide +kernel
theorem d_Fo_isGameWithin_78 : decode b_Fo_isGameWithin_c 78 = .ok (.lcmp, 1) := by decide +kernel
theorem d_Fo_isGameWithin_79 : decode b_Fo_isGameWithin_c 79 = .ok (.ifCond .eq 5, 3) := by decide +kernel
theorem d_Fo_isGameWithin_82 : decode b_Fo_isGameWithin_c 82 = .ok (.iconst 0, 1) := by decide +kernel
theorem d_Fo_isGameWithin_83 : decode b_Fo_isGameWithin_c 83 = .ok (.ireturn, 1) := by decide +kernel
theorem d_Fo_isGameWithin_84 : decode b_Fo_isGameWithin_c 84 = .ok (.iinc 4 1, 3) := by decide +kernel
theorem d_Fo_isGameWithin_87 : decode b_Fo_isGameWithin_c 87 = .ok (.goto (-43), 3) := by decide +kernel
theorem d_Fo_isGameWithin_90 : decode b_Fo_isGameWithin_c 90 = .ok (.iconst 1, 1) := by decide +kernel
theorem d_Fo_isGameWithin_91 : decode b_Fo_isGameWithin_c 91 = .ok (.ireturn, 1) := by decide +kernel
/-! GameRows$Forest.isGameWithin(I)Z -/
set_option maxHeartbeats 4000000 in
set_option maxRecDepth 100000 in
theorem t_Fo_isGameWithin_84 {X : gX} {r : Int32} {σ : gS} (C : gC X b_Fo_isGameWithin_c R_Fo 5 2 40) (hR : ∀ pc lv, isB r = true → decode b_Fo_isGameWithin_c pc = .ok (.ireturn, 1) → G X pc lv [.int r] σ) {k44 : Int32 × Int64 × Int32 → Option Int32}  (hk44 : ∀ x, k44 x = some r → G X 44 [(0, .ref (gA X 1)), (1, .int x.1), (2, .long x.2.1), (4, .int x.2.2)] [] σ) (x1 : Int32) (x2 : Int64) (x4 : Int32) (h : b_Fo_isGameWithin_84 σ k44 x1 x2 x4 = some r) : G X 84 [(0, .ref (gA X 1)), (1, .int x1), (2, .long x2), (4, .int x4)] [] σ := by
  unfold b_Fo_isGameWithin_84 at h
  obtain ⟨x4_1, ex4_1, h⟩ := bnd_some h
  refine r_iinc C 3 (lv' := [(4, .int x4_1), (0, .ref (gA X 1)), (1, .int x1), (2, .long x2)]) d_Fo_isGameWithin_84 rfl (by rw [ex4_1]; rfl) (by decide) rfl ?_
  refine r_goto C (tgt := 44) d_Fo_isGameWithin_87 (by decide) ?_
  refine r_sub [1, 2, 3, 0] (lv' := [(0, .ref (gA X 1)), (1, .int x1), (2, .long x2), (4, .int x4_1)]) rfl ?_
  exact hk44 _ h
set_option maxHeartbeats 4000000 in
set_option maxRecDepth 100000 in
theorem t_Fo_isGameWithin_44 {X : gX} {r : Int32} {σ : gS} (C : gC X b_Fo_isGameWithin_c R_Fo 5 2 40) (hR : ∀ pc lv, isB r = true → decode b_Fo_isGameWithin_c pc = .ok (.ireturn, 1) → G X pc lv [.int r] σ) {k44 : Int32 × Int64 × Int32 → Option Int32}  (hk44 : ∀ x, k44 x = some r → G X 44 [(0, .ref (gA X 1)), (1, .int x.1), (2, .long x.2.1), (4, .int x.2.2)] [] σ) (x1 : Int32) (x2 : Int64) (x4 : Int32) (h : b_Fo_isGameWithin_44 σ k44 x1 x2 x4 = some r) : G X 44 [(0, .ref (gA X 1)), (1, .int x1), (2, .long x2), (4, .int x4)] [] σ := by
  unfold b_Fo_isGameWithin_44 at h
  refine r_iload C 3 d_Fo_isGameWithin_44 rfl ?_
  refine r_aload_n C 0 d_Fo_isGameWithin_46 rfl rfl ?_
  refine q_Fo_15 C d_Fo_isGameWithin_47 ?_
  refine r_icmp_ge C (tgt := 90) d_Fo_isGameWithin_50 (by decide) (fun hc_1 => ?_) (fun hc_1 => ?_)
  · rw [if_pos hc_1] at h
    refine r_iconst C (v := 1) d_Fo_isGameWithin_90 (by decide) ?_
    obtain ⟨hB, h⟩ := ck_some h
    cases h
    exact hR _ _ hB d_Fo_isGameWithin_91
  · rw [if_neg hc_1] at h
    refine r_aload_n C 0 d_Fo_isGameWithin_53 rfl rfl ?_
    refine q_Fo_53 C d_Fo_isGameWithin_54 ?_
    refine r_iload_n C 1 d_Fo_isGameWithin_57 rfl rfl ?_
    obtain ⟨hi_2, h⟩ := ck_some h
    refine r_iald C hi_2 d_Fo_isGameWithin_58 ?_
    refine r_i2l C d_Fo_isGameWithin_59 ?_
    refine r_iload C 3 d_Fo_isGameWithin_60 rfl ?_
    obtain ⟨r_3, er_3, h⟩ := bind_some h
    refine r_callSN C (As := [.long ((gI σ 12 x1.toNatClampNeg).toInt64), .int x4]) (rest := []) (st1 := [.int r_3]) (c_Ga_hasBit X.1.2.1 σ ((gI σ 12 x1.toNatClampNeg).toInt64) x4 er_3) k_Ga_hasBit n_Fo_106 rfl rfl rfl (Nat.le_of_ble_eq_true rfl) ⟨Nat.le_of_ble_eq_true rfl, Nat.le_of_ble_eq_true rfl⟩ d_Fo_isGameWithin_62 rfl ?_
    refine r_if_eq C (tgt := 84) d_Fo_isGameWithin_65 (by decide) (fun hc_4 => ?_) (fun hc_4 => ?_)
    · rw [if_pos hc_4] at h
      exact t_Fo_isGameWithin_84 C hR hk44 x1 x2 x4 h
    · rw [if_neg hc_4] at h
      refine r_aload_n C 0 d_Fo_isGameWithin_68 rfl rfl ?_
      refine q_Fo_59 C d_Fo_isGameWithin_69 ?_
      refine r_iload C 3 d_Fo_isGameWithin_72 rfl ?_
      obtain ⟨hi_5, h⟩ := ck_some h
      refine r_lald C hi_5 d_Fo_isGameWithin_74 ?_
      refine r_lload_n C 2 d_Fo_isGameWithin_75 rfl rfl ?_
      refine r_land C d_Fo_isGameWithin_76 ?_
      refine r_lconst C (v := 0) d_Fo_isGameWithin_77 (by decide) ?_
      refine r_lcmp C d_Fo_isGameWithin_78 ?_
      refine r_if_eq C (tgt := 84) d_Fo_isGameWithin_79 (by decide) (fun hc_6 => ?_) (fun hc_6 => ?_)
      · rw [if_pos hc_6] at h
        exact t_Fo_isGameWithin_84 C hR hk44 x1 x2 x4 h
      · rw [if_neg hc_6] at h
        refine r_iconst C (v := 0) d_Fo_isGameWithin_82 (by decide) ?_
        obtain ⟨hB, h⟩ := ck_some h
        cases h
        exact hR _ _ hB d_Fo_isGameWithin_83
set_option maxHeartbeats 4000000 in
set_option maxRecDepth 100000 in
theorem u_Fo_isGameWithin_44 {X : gX} {r : Int32} {σ : gS} (C : gC X b_Fo_isGameWithin_c R_Fo 5 2 40) (hR : ∀ pc lv, isB r = true → decode b_Fo_isGameWithin_c pc = .ok (.ireturn, 1) → G X pc lv [.int r] σ)  (x : Int32 × Int64 × Int32) (h : l_Fo_isGameWithin_44 σ x = some r) : G X 44 [(0, .ref (gA X 1)), (1, .int x.1), (2, .long x.2.1), (4, .int x.2.2)] [] σ :=
  lpF_ind (P := fun x => G X 44 [(0, .ref (gA X 1)), (1, .int x.1), (2, .long x.2.1), (4, .int x.2.2)] [] σ) (fun k hk x h => t_Fo_isGameWithin_44 C hR hk x.1 x.2.1 x.2.2 h) gF x h
set_option maxHeartbeats 4000000 in
set_option maxRecDepth 100000 in
theorem t_Fo_isGameWithin_0 {X : gX} {r : Int32} {σ : gS} (C : gC X b_Fo_isGameWithin_c R_Fo 5 2 40) (hR : ∀ pc lv, isB r = true → decode b_Fo_isGameWithin_c pc = .ok (.ireturn, 1) → G X pc lv [.int r] σ) (x1 : Int32) (h : b_Fo_isGameWithin_0 σ x1 = some r) : G X 0 [(0, .ref (gA X 1)), (1, .int x1)] [] σ := by
  unfold b_Fo_isGameWithin_0 at h
  refine r_aload_n C 0 d_Fo_isGameWithin_0 rfl rfl ?_
  refine q_Fo_59 C d_Fo_isGameWithin_1 ?_
  refine r_aload_n C 0 d_Fo_isGameWithin_4 rfl rfl ?_
  refine q_Fo_25 C d_Fo_isGameWithin_5 ?_
  refine r_iload_n C 1 d_Fo_isGameWithin_8 rfl rfl ?_
  obtain ⟨hi_1, h⟩ := ck_some h
  refine r_iald C hi_1 d_Fo_isGameWithin_9 ?_
  obtain ⟨hi_2, h⟩ := ck_some h
  refine r_lald C hi_2 d_Fo_isGameWithin_10 ?_
  refine r_aload_n C 0 d_Fo_isGameWithin_11 rfl rfl ?_
  obtain ⟨r_3, er_3, h⟩ := bind_some h
  refine r_callV C (As := []) (rest := [.long (gL σ 14 (gI σ 3 x1.toNatClampNeg).toNatClampNeg)]) (st1 := [.long r_3, .long (gL σ 14 (gI σ 3 x1.toNatClampNeg).toNatClampNeg)]) (c_Fo_nodesInTree X.1.2.1 σ  er_3) k_Fo_nodesInTree m_102 (by decide) cel_Fo rfl rfl rfl rfl (Nat.le_of_ble_eq_true rfl) ⟨Nat.le_of_ble_eq_true rfl, Nat.le_of_ble_eq_true rfl⟩ d_Fo_isGameWithin_12 rfl ?_
  refine r_land C d_Fo_isGameWithin_15 ?_
  refine r_lconst C (v := 1) d_Fo_isGameWithin_16 (by decide) ?_
  refine r_iload_n C 1 d_Fo_isGameWithin_17 rfl rfl ?_
  refine r_lshl C d_Fo_isGameWithin_18 ?_
  refine r_lcmp C d_Fo_isGameWithin_19 ?_
  refine r_if_eq C (tgt := 25) d_Fo_isGameWithin_20 (by decide) (fun hc_4 => ?_) (fun hc_4 => ?_)
  · rw [if_pos hc_4] at h
    refine r_aload_n C 0 d_Fo_isGameWithin_25 rfl rfl ?_
    obtain ⟨r_5, er_5, h⟩ := bind_some h
    refine r_callV C (As := []) (rest := []) (st1 := [.long r_5]) (c_Fo_nodesInTree X.1.2.1 σ  er_5) k_Fo_nodesInTree m_102 (by decide) cel_Fo rfl rfl rfl rfl (Nat.le_of_ble_eq_true rfl) ⟨Nat.le_of_ble_eq_true rfl, Nat.le_of_ble_eq_true rfl⟩ d_Fo_isGameWithin_26 rfl ?_
    refine r_aload_n C 0 d_Fo_isGameWithin_29 rfl rfl ?_
    refine q_Fo_49 C d_Fo_isGameWithin_30 ?_
    refine r_iload_n C 1 d_Fo_isGameWithin_33 rfl rfl ?_
    obtain ⟨hi_6, h⟩ := ck_some h
    refine r_lald C hi_6 d_Fo_isGameWithin_34 ?_
    refine r_ldc2 C (v := (-1)) m_106 d_Fo_isGameWithin_35 ?_
    refine r_lxor C d_Fo_isGameWithin_38 ?_
    refine r_land C d_Fo_isGameWithin_39 ?_
    obtain ⟨x2_7, ex2_7, h⟩ := bnd_some h
    refine r_lstore_n C (lv' := [(2, .long x2_7), (0, .ref (gA X 1)), (1, .int x1)]) d_Fo_isGameWithin_40 rfl (by decide) ex2_7 rfl ?_
    refine r_iconst C (v := 0) d_Fo_isGameWithin_41 (by decide) ?_
    refine r_istore C (lv' := [(4, .int 0), (2, .long x2_7), (0, .ref (gA X 1)), (1, .int x1)]) d_Fo_isGameWithin_42 (by decide) rfl rfl ?_
    refine r_sub [2, 3, 1, 0] (lv' := [(0, .ref (gA X 1)), (1, .int x1), (2, .long x2_7), (4, .int 0)]) rfl ?_
    exact u_Fo_isGameWithin_44 C hR  (x1, x2_7, 0) h
  · rw [if_neg hc_4] at h
    refine r_iconst C (v := 0) d_Fo_isGameWithin_23 (by decide) ?_
    obtain ⟨hB, h⟩ := ck_some h
    cases h
    exact hR _ _ hB d_Fo_isGameWithin_24
set_option maxHeartbeats 4000000 in
set_option maxRecDepth 100000 in
theorem c_Fo_isGameWithin (l : Launch) (σ : gS) (x1 : Int32) {r : Int32} (h : f_Fo_isGameWithin σ x1 = some r) : gMet l y_Fo_isGameWithin b_Fo_isGameWithin_c 5 (some .boolean) 2 40 (fun a => [.ref (a 1), .int x1]) σ (some (.int r)) σ := by
  refine gMet_z (by decide +kernel) (fun a => Nat.le_of_ble_eq_true rfl) (fun X _ C hR => ?_)
  refine r_sub [0, 1] (lv' := [(0, .ref (gA X 1)), (1, .int x1)]) rfl ?_
  exact t_Fo_isGameWithin_0 C hR x1 h
theorem d_Fo_gamesWithin_0 : decode b_Fo_gamesWithin_c 0 = .ok (.aload_n 0, 1) := by decide +kernel
theorem d_Fo_gamesWithin_1 : decode b_Fo_gamesWithin_c 1 = .ok (.getfield 9, 3) := by decide +kernel
theorem d_Fo_gamesWithin_4 : decode b_Fo_gamesWithin_c 4 = .ok (.ifCond .ne 7, 3) := by decide +kernel
theorem d_Fo_gamesWithin_7 : decode b_Fo_gamesWithin_c 7 = .ok (.lconst 0, 1) := by decide +kernel
theorem d_Fo_gamesWithin_8 : decode b_Fo_gamesWithin_c 8 = .ok (.goto 9, 3) := by decide +kernel
theorem d_Fo_gamesWithin_11 : decode b_Fo_gamesWithin_c 11 = .ok (.lconst 1, 1) := by decide +kernel
theorem d_Fo_gamesWithin_12 : decode b_Fo_gamesWithin_c 12 = .ok (.aload_n 0, 1) := by decide +kernel
theorem d_Fo_gamesWithin_13 : decode b_Fo_gamesWithin_c 13 = .ok (.invokevirtual 99, 3) := by decide +kernel
theorem d_Fo_gamesWithin_16 : decode b_Fo_gamesWithin_c 16 = .ok (.lshl, 1) := by decide +kernel
theorem d_Fo_gamesWithin_17 : decode b_Fo_gamesWithin_c 17 = .ok (.lstore_n 1, 1) := by decide +kernel
theorem d_Fo_gamesWithin_18 : decode b_Fo_gamesWithin_c 18 = .ok (.iconst 0, 1) := by decide +kernel
theorem d_Fo_gamesWithin_19 : decode b_Fo_gamesWithin_c 19 = .ok (.istore_n 3, 1) := by decide +kernel
theorem d_Fo_gamesWithin_20 : decode b_Fo_gamesWithin_c 20 = .ok (.iload_n 3, 1) := by decide +kernel
theorem d_Fo_gamesWithin_21 : decode b_Fo_gamesWithin_c 21 = .ok (.aload_n 0, 1) := by decide +kernel
theorem d_Fo_gamesWithin_22 : decode b_Fo_gamesWithin_c 22 = .ok (.invokevirtual 99, 3) := by decide +kernel
theorem d_Fo_gamesWithin_25 : decode b_Fo_gamesWithin_c 25 = .ok (.if_icmp .ge 44, 3) := by decide +kernel
theorem d_Fo_gamesWithin_28 : decode b_Fo_gamesWithin_c 28 = .ok (.aload_n 0, 1) := by decide +kernel
theorem d_Fo_gamesWithin_29 : decode b_Fo_gamesWithin_c 29 = .ok (.invokevirtual 114, 3) := by decide +kernel
theorem d_Fo_gamesWithin_32 : decode b_Fo_gamesWithin_c 32 = .ok (.iload_n 3, 1) := by decide +kernel
theorem d_Fo_gamesWithin_33 : decode b_Fo_gamesWithin_c 33 = .ok (.invokestatic 106, 3) := by decide +kernel
theorem d_Fo_gamesWithin_36 : decode b_Fo_gamesWithin_c 36 = .ok (.ifCond .eq 27, 3) := by decide +kernel
theorem d_Fo_gamesWithin_39 : decode b_Fo_gamesWithin_c 39 = .ok (.aload_n 0, 1) := by decide +kernel
theorem d_Fo_gamesWithin_40 : decode b_Fo_gamesWithin_c 40 = .ok (.getfield 21, 3) := by decide +kernel
theorem d_Fo_gamesWithin_43 : decode b_Fo_gamesWithin_c 43 = .ok (.iload_n 3, 1) := by decide +kernel
theorem d_Fo_gamesWithin_44 : decode b_Fo_gamesWithin_c 44 = .ok (.iaload, 1) := by decide +kernel
theorem d_Fo_gamesWithin_45 : decode b_Fo_gamesWithin_c 45 = .ok (.iconst 2, 1) := by decide +kernel
theorem d_Fo_gamesWithin_46 : decode b_Fo_gamesWithin_c 46 = .ok (.if_icmp .ne 17, 3) := by decide +kernel
theorem d_Fo_gamesWithin_49 : decode b_Fo_gamesWithin_c 49 = .ok (.aload_n 0, 1) := by decide +kernel
theorem d_Fo_gamesWithin_50 : decode b_Fo_gamesWithin_c 50 = .ok (.iload_n 3, 1) := by decide +kernel
theorem d_Fo_gamesWithin_51 : decode b_Fo_gamesWithin_c 51 = .ok (.invokevirtual 118, 3) := by decide +kernel
theorem d_Fo_gamesWithin_54 : decode b_Fo_gamesWithin_c 54 = .ok (.ifCond .eq 9, 3) := by decide +kernel
theorem d_Fo_gamesWithin_57 : decode b_Fo_gamesWithin_c 57 = .ok (.lload_n 1, 1) := by decide +kernel
theorem d_Fo_gamesWithin_58 : decode b_Fo_gamesWithin_c 58 = .ok (.lconst 1, 1) := by decide +kernel
theorem d_Fo_gamesWithin_59 : decode b_Fo_gamesWithin_c 59 = .ok (.iload_n 3, 1) := by decide +kernel
theorem d_Fo_gamesWithin_60 : decode b_Fo_gamesWithin_c 60 = .ok (.lshl, 1) := by decide +kernel
theorem d_Fo_gamesWithin_61 : decode b_Fo_gamesWithin_c 61 = .ok (.lor, 1) := by decide +kernel
theorem d_Fo_gamesWithin_62 : decode b_Fo_gamesWithin_c 62 = .ok (.lstore_n 1, 1) := by decide +kernel
theorem d_Fo_gamesWithin_63 : decode b_Fo_gamesWithin_c 63 = .ok (.iinc 3 1, 3) := by decide +kernel
theorem d_Fo_gamesWithin_66 : decode b_Fo_gamesWithin_c 66 = .ok (.goto (-46), 3) := by decide +kernel
theorem d_Fo_gamesWithin_69 : decode b_Fo_gamesWithin_c 69 = .ok (.lload_n 1, 1) := by decide +kernel
theorem d_Fo_gamesWithin_70 : decode b_Fo_gamesWithin_c 70 = .ok (.lreturn, 1) := by decide +kernel
/-! GameRows$Forest.gamesWithin()J -/
set_option maxHeartbeats 4000000 in
set_option maxRecDepth 100000 in
theorem t_Fo_gamesWithin_63 {X : gX} {r : Int64} {σ : gS} (C : gC X b_Fo_gamesWithin_c R_Fo 4 3 64) (hR : ∀ pc lv, decode b_Fo_gamesWithin_c pc = .ok (.lreturn, 1) → G X pc lv [.long r] σ) {k20 : Int64 × Int32 → Option Int64}  (hk20 : ∀ x, k20 x = some r → G X 20 [(0, .ref (gA X 1)), (1, .long x.1), (3, .int x.2)] [] σ) (x1 : Int64) (x3 : Int32) (h : b_Fo_gamesWithin_63 σ k20 x1 x3 = some r) : G X 63 [(0, .ref (gA X 1)), (1, .long x1), (3, .int x3)] [] σ := by
  unfold b_Fo_gamesWithin_63 at h
  obtain ⟨x3_1, ex3_1, h⟩ := bnd_some h
  refine r_iinc C 2 (lv' := [(3, .int x3_1), (0, .ref (gA X 1)), (1, .long x1)]) d_Fo_gamesWithin_63 rfl (by rw [ex3_1]; rfl) (by decide) rfl ?_
  refine r_goto C (tgt := 20) d_Fo_gamesWithin_66 (by decide) ?_
  refine r_sub [1, 2, 0] (lv' := [(0, .ref (gA X 1)), (1, .long x1), (3, .int x3_1)]) rfl ?_
  exact hk20 _ h
set_option maxHeartbeats 4000000 in
set_option maxRecDepth 100000 in
theorem t_Fo_gamesWithin_20 {X : gX} {r : Int64} {σ : gS} (C : gC X b_Fo_gamesWithin_c R_Fo 4 3 64) (hR : ∀ pc lv, decode b_Fo_gamesWithin_c pc = .ok (.lreturn, 1) → G X pc lv [.long r] σ) {k20 : Int64 × Int32 → Option Int64}  (hk20 : ∀ x, k20 x = some r → G X 20 [(0, .ref (gA X 1)), (1, .long x.1), (3, .int x.2)] [] σ) (x1 : Int64) (x3 : Int32) (h : b_Fo_gamesWithin_20 σ k20 x1 x3 = some r) : G X 20 [(0, .ref (gA X 1)), (1, .long x1), (3, .int x3)] [] σ := by
  unfold b_Fo_gamesWithin_20 at h
  refine r_iload_n C 2 d_Fo_gamesWithin_20 rfl rfl ?_
  refine r_aload_n C 0 d_Fo_gamesWithin_21 rfl rfl ?_
  obtain ⟨r_1, er_1, h⟩ := bind_some h
  refine r_callV C (As := []) (rest := [.int x3]) (st1 := [.int r_1, .int x3]) (c_Fo_root X.1.2.1 σ  er_1) k_Fo_root m_90 (by decide) cel_Fo rfl rfl rfl rfl (Nat.le_of_ble_eq_true rfl) ⟨Nat.le_of_ble_eq_true rfl, Nat.le_of_ble_eq_true rfl⟩ d_Fo_gamesWithin_22 rfl ?_
  refine r_icmp_ge C (tgt := 69) d_Fo_gamesWithin_25 (by decide) (fun hc_2 => ?_) (fun hc_2 => ?_)
  · rw [if_pos hc_2] at h
    refine r_lload_n C 1 d_Fo_gamesWithin_69 rfl rfl ?_
    cases h
    exact hR _ _ d_Fo_gamesWithin_70
  · rw [if_neg hc_2] at h
    refine r_aload_n C 0 d_Fo_gamesWithin_28 rfl rfl ?_
    obtain ⟨r_3, er_3, h⟩ := bind_some h
    refine r_callV C (As := []) (rest := []) (st1 := [.long r_3]) (c_Fo_nodesInTree X.1.2.1 σ  er_3) k_Fo_nodesInTree m_102 (by decide) cel_Fo rfl rfl rfl rfl (Nat.le_of_ble_eq_true rfl) ⟨Nat.le_of_ble_eq_true rfl, Nat.le_of_ble_eq_true rfl⟩ d_Fo_gamesWithin_29 rfl ?_
    refine r_iload_n C 2 d_Fo_gamesWithin_32 rfl rfl ?_
    obtain ⟨r_4, er_4, h⟩ := bind_some h
    refine r_callSN C (As := [.long r_3, .int x3]) (rest := []) (st1 := [.int r_4]) (c_Ga_hasBit X.1.2.1 σ r_3 x3 er_4) k_Ga_hasBit n_Fo_106 rfl rfl rfl (Nat.le_of_ble_eq_true rfl) ⟨Nat.le_of_ble_eq_true rfl, Nat.le_of_ble_eq_true rfl⟩ d_Fo_gamesWithin_33 rfl ?_
    refine r_if_eq C (tgt := 63) d_Fo_gamesWithin_36 (by decide) (fun hc_5 => ?_) (fun hc_5 => ?_)
    · rw [if_pos hc_5] at h
      exact t_Fo_gamesWithin_63 C hR hk20 x1 x3 h
    · rw [if_neg hc_5] at h
      refine r_aload_n C 0 d_Fo_gamesWithin_39 rfl rfl ?_
      refine q_Fo_21 C d_Fo_gamesWithin_40 ?_
      refine r_iload_n C 2 d_Fo_gamesWithin_43 rfl rfl ?_
      obtain ⟨hi_6, h⟩ := ck_some h
      refine r_iald C hi_6 d_Fo_gamesWithin_44 ?_
      refine r_iconst C (v := 2) d_Fo_gamesWithin_45 (by decide) ?_
      refine r_icmp_ne C (tgt := 63) d_Fo_gamesWithin_46 (by decide) (fun hc_7 => ?_) (fun hc_7 => ?_)
      · rw [if_neg hc_7] at h
        exact t_Fo_gamesWithin_63 C hR hk20 x1 x3 h
      · rw [if_pos hc_7] at h
        refine r_aload_n C 0 d_Fo_gamesWithin_49 rfl rfl ?_
        refine r_iload_n C 2 d_Fo_gamesWithin_50 rfl rfl ?_
        obtain ⟨r_8, er_8, h⟩ := bind_some h
        refine r_callV C (As := [.int x3]) (rest := []) (st1 := [.int r_8]) (c_Fo_isGameWithin X.1.2.1 σ x3 er_8) k_Fo_isGameWithin m_107 (by decide) cel_Fo rfl rfl rfl rfl (Nat.le_of_ble_eq_true rfl) ⟨Nat.le_of_ble_eq_true rfl, Nat.le_of_ble_eq_true rfl⟩ d_Fo_gamesWithin_51 rfl ?_
        refine r_if_eq C (tgt := 63) d_Fo_gamesWithin_54 (by decide) (fun hc_9 => ?_) (fun hc_9 => ?_)
        · rw [if_pos hc_9] at h
          exact t_Fo_gamesWithin_63 C hR hk20 x1 x3 h
        · rw [if_neg hc_9] at h
          refine r_lload_n C 1 d_Fo_gamesWithin_57 rfl rfl ?_
          refine r_lconst C (v := 1) d_Fo_gamesWithin_58 (by decide) ?_
          refine r_iload_n C 2 d_Fo_gamesWithin_59 rfl rfl ?_
          refine r_lshl C d_Fo_gamesWithin_60 ?_
          refine r_lor C d_Fo_gamesWithin_61 ?_
          obtain ⟨x1_10, ex1_10, h⟩ := bnd_some h
          refine r_lstore_n C (lv' := [(1, .long x1_10), (0, .ref (gA X 1)), (3, .int x3)]) d_Fo_gamesWithin_62 rfl (by decide) ex1_10 rfl ?_
          refine r_sub [1, 0, 2] (lv' := [(0, .ref (gA X 1)), (1, .long x1_10), (3, .int x3)]) rfl ?_
          exact t_Fo_gamesWithin_63 C hR hk20 x1_10 x3 h
set_option maxHeartbeats 4000000 in
set_option maxRecDepth 100000 in
theorem u_Fo_gamesWithin_20 {X : gX} {r : Int64} {σ : gS} (C : gC X b_Fo_gamesWithin_c R_Fo 4 3 64) (hR : ∀ pc lv, decode b_Fo_gamesWithin_c pc = .ok (.lreturn, 1) → G X pc lv [.long r] σ)  (x : Int64 × Int32) (h : l_Fo_gamesWithin_20 σ x = some r) : G X 20 [(0, .ref (gA X 1)), (1, .long x.1), (3, .int x.2)] [] σ :=
  lpF_ind (P := fun x => G X 20 [(0, .ref (gA X 1)), (1, .long x.1), (3, .int x.2)] [] σ) (fun k hk x h => t_Fo_gamesWithin_20 C hR hk x.1 x.2 h) gF x h
set_option maxHeartbeats 4000000 in
set_option maxRecDepth 100000 in
theorem t_Fo_gamesWithin_17 {X : gX} {r : Int64} {σ : gS} (C : gC X b_Fo_gamesWithin_c R_Fo 4 3 64) (hR : ∀ pc lv, decode b_Fo_gamesWithin_c pc = .ok (.lreturn, 1) → G X pc lv [.long r] σ) (y0 : Int64) (h : b_Fo_gamesWithin_17 σ y0 = some r) : G X 17 [(0, .ref (gA X 1))] [.long y0] σ := by
  unfold b_Fo_gamesWithin_17 at h
  refine r_lstore_n C (lv' := [(1, .long y0), (0, .ref (gA X 1))]) d_Fo_gamesWithin_17 rfl (by decide) rfl rfl ?_
  refine r_iconst C (v := 0) d_Fo_gamesWithin_18 (by decide) ?_
  refine r_istore_n C (lv' := [(3, .int 0), (1, .long y0), (0, .ref (gA X 1))]) d_Fo_gamesWithin_19 rfl (by decide) rfl rfl ?_
  refine r_sub [2, 1, 0] (lv' := [(0, .ref (gA X 1)), (1, .long y0), (3, .int 0)]) rfl ?_
  exact u_Fo_gamesWithin_20 C hR  (y0, 0) h
set_option maxHeartbeats 4000000 in
set_option maxRecDepth 100000 in
theorem t_Fo_gamesWithin_0 {X : gX} {r : Int64} {σ : gS} (C : gC X b_Fo_gamesWithin_c R_Fo 4 3 64) (hR : ∀ pc lv, decode b_Fo_gamesWithin_c pc = .ok (.lreturn, 1) → G X pc lv [.long r] σ)  (h : b_Fo_gamesWithin_0 σ = some r) : G X 0 [(0, .ref (gA X 1))] [] σ := by
  unfold b_Fo_gamesWithin_0 at h
  refine r_aload_n C 0 d_Fo_gamesWithin_0 rfl rfl ?_
  refine q_Fo_9 C d_Fo_gamesWithin_1 ?_
  refine r_if_ne C (tgt := 11) d_Fo_gamesWithin_4 (by decide) (fun hc_1 => ?_) (fun hc_1 => ?_)
  · rw [if_neg hc_1] at h
    refine r_lconst C (v := 1) d_Fo_gamesWithin_11 (by decide) ?_
    refine r_aload_n C 0 d_Fo_gamesWithin_12 rfl rfl ?_
    obtain ⟨r_2, er_2, h⟩ := bind_some h
    refine r_callV C (As := []) (rest := [.long 1]) (st1 := [.int r_2, .long 1]) (c_Fo_root X.1.2.1 σ  er_2) k_Fo_root m_90 (by decide) cel_Fo rfl rfl rfl rfl (Nat.le_of_ble_eq_true rfl) ⟨Nat.le_of_ble_eq_true rfl, Nat.le_of_ble_eq_true rfl⟩ d_Fo_gamesWithin_13 rfl ?_
    refine r_lshl C d_Fo_gamesWithin_16 ?_
    exact t_Fo_gamesWithin_17 C hR ((1 : Int64) <<< (r_2.toInt64 &&& 63)) h
  · rw [if_pos hc_1] at h
    refine r_lconst C (v := 0) d_Fo_gamesWithin_7 (by decide) ?_
    refine r_goto C (tgt := 17) d_Fo_gamesWithin_8 (by decide) ?_
    exact t_Fo_gamesWithin_17 C hR 0 h
set_option maxHeartbeats 4000000 in
set_option maxRecDepth 100000 in
theorem c_Fo_gamesWithin (l : Launch) (σ : gS)  {r : Int64} (h : f_Fo_gamesWithin σ = some r) : gMet l y_Fo_gamesWithin b_Fo_gamesWithin_c 4 (some .long) 3 64 (fun a => [.ref (a 1)]) σ (some (.long r)) σ := by
  refine gMet_l (by decide +kernel) (fun a => Nat.le_of_ble_eq_true rfl) (fun X _ C hR => ?_)
  refine r_sub [0] (lv' := [(0, .ref (gA X 1))]) rfl ?_
  exact t_Fo_gamesWithin_0 C hR  h
theorem d_Fo_plansFrom_0 : decode b_Fo_plansFrom_c 0 = .ok (.aload_n 0, 1) := by decide +kernel
theorem d_Fo_plansFrom_1 : decode b_Fo_plansFrom_c 1 = .ok (.iload_n 2, 1) := by decide +kernel
theorem d_Fo_plansFrom_2 : decode b_Fo_plansFrom_c 2 = .ok (.aload_n 0, 1) := by decide +kernel
theorem d_Fo_plansFrom_3 : decode b_Fo_plansFrom_c 3 = .ok (.getfield 53, 3) := by decide +kernel
theorem d_Fo_plansFrom_6 : decode b_Fo_plansFrom_c 6 = .ok (.iload_n 1, 1) := by decide +kernel
theorem d_Fo_plansFrom_7 : decode b_Fo_plansFrom_c 7 = .ok (.iaload, 1) := by decide +kernel
theorem d_Fo_plansFrom_8 : decode b_Fo_plansFrom_c 8 = .ok (.invokevirtual 84, 3) := by decide +kernel
theorem d_Fo_plansFrom_11 : decode b_Fo_plansFrom_c 11 = .ok (.ireturn, 1) := by decide +kernel
/-! GameRows$Forest.plansFrom(II)I -/
set_option maxHeartbeats 4000000 in
set_option maxRecDepth 100000 in
theorem t_Fo_plansFrom_0 {X : gX} {r : Int32} {σ : gS} (C : gC X b_Fo_plansFrom_c R_Fo 3 2 46) (hR : ∀ pc lv, decode b_Fo_plansFrom_c pc = .ok (.ireturn, 1) → G X pc lv [.int r] σ) (x1 : Int32) (x2 : Int32) (h : b_Fo_plansFrom_0 σ x1 x2 = some r) : G X 0 [(0, .ref (gA X 1)), (1, .int x1), (2, .int x2)] [] σ := by
  unfold b_Fo_plansFrom_0 at h
  refine r_aload_n C 0 d_Fo_plansFrom_0 rfl rfl ?_
  refine r_iload_n C 2 d_Fo_plansFrom_1 rfl rfl ?_
  refine r_aload_n C 0 d_Fo_plansFrom_2 rfl rfl ?_
  refine q_Fo_53 C d_Fo_plansFrom_3 ?_
  refine r_iload_n C 1 d_Fo_plansFrom_6 rfl rfl ?_
  obtain ⟨hi_1, h⟩ := ck_some h
  refine r_iald C hi_1 d_Fo_plansFrom_7 ?_
  obtain ⟨r_2, er_2, h⟩ := bind_some h
  refine r_callV C (As := [.int x2, .int (gI σ 12 x1.toNatClampNeg)]) (rest := []) (st1 := [.int r_2]) (c_Fo_plansWith X.1.2.1 σ x2 (gI σ 12 x1.toNatClampNeg) er_2) k_Fo_plansWith m_56 (by decide) cel_Fo rfl rfl rfl rfl (Nat.le_of_ble_eq_true rfl) ⟨Nat.le_of_ble_eq_true rfl, Nat.le_of_ble_eq_true rfl⟩ d_Fo_plansFrom_8 rfl ?_
  cases h
  exact hR _ _ d_Fo_plansFrom_11
set_option maxHeartbeats 4000000 in
set_option maxRecDepth 100000 in
theorem c_Fo_plansFrom (l : Launch) (σ : gS) (x1 : Int32) (x2 : Int32) {r : Int32} (h : f_Fo_plansFrom σ x1 x2 = some r) : gMet l y_Fo_plansFrom b_Fo_plansFrom_c 3 (some .int) 2 46 (fun a => [.ref (a 1), .int x1, .int x2]) σ (some (.int r)) σ := by
  refine gMet_i (by decide +kernel) (fun a => Nat.le_of_ble_eq_true rfl) (fun X _ C hR => ?_)
  refine r_sub [0, 1, 2] (lv' := [(0, .ref (gA X 1)), (1, .int x1), (2, .int x2)]) rfl ?_
  exact t_Fo_plansFrom_0 C hR x1 x2 h
theorem d_Ar_fillI_0 : decode b_Ar_fillI_c 0 = .ok (.iconst 0, 1) := by decide +kernel
theorem d_Ar_fillI_1 : decode b_Ar_fillI_c 1 = .ok (.istore_n 2, 1) := by decide +kernel
theorem d_Ar_fillI_2 : decode b_Ar_fillI_c 2 = .ok (.aload_n 0, 1) := by decide +kernel
theorem d_Ar_fillI_3 : decode b_Ar_fillI_c 3 = .ok (.arraylength, 1) := by decide +kernel
theorem d_Ar_fillI_4 : decode b_Ar_fillI_c 4 = .ok (.istore_n 3, 1) := by decide +kernel
theorem d_Ar_fillI_5 : decode b_Ar_fillI_c 5 = .ok (.iload_n 2, 1) := by decide +kernel
theorem d_Ar_fillI_6 : decode b_Ar_fillI_c 6 = .ok (.iload_n 3, 1) := by decide +kernel
theorem d_Ar_fillI_7 : decode b_Ar_fillI_c 7 = .ok (.if_icmp .ge 13, 3) := by decide +kernel
theorem d_Ar_fillI_10 : decode b_Ar_fillI_c 10 = .ok (.aload_n 0, 1) := by decide +kernel
theorem d_Ar_fillI_11 : decode b_Ar_fillI_c 11 = .ok (.iload_n 2, 1) := by decide +kernel
theorem d_Ar_fillI_12 : decode b_Ar_fillI_c 12 = .ok (.iload_n 1, 1) := by decide +kernel
theorem d_Ar_fillI_13 : decode b_Ar_fillI_c 13 = .ok (.iastore, 1) := by decide +kernel
theorem d_Ar_fillI_14 : decode b_Ar_fillI_c 14 = .ok (.iinc 2 1, 3) := by decide +kernel
theorem d_Ar_fillI_17 : decode b_Ar_fillI_c 17 = .ok (.goto (-12), 3) := by decide +kernel
theorem d_Ar_fillI_20 : decode b_Ar_fillI_c 20 = .ok (.return_, 1) := by decide +kernel
/-! java/util/Arrays.fill([II)V -/
set_option maxHeartbeats 4000000 in
set_option maxRecDepth 100000 in
theorem t_Ar_fillI_5 {X : gX} {r : gS} (C : gC X b_Ar_fillI_c R_Ar 4 0 0) (hR : ∀ pc lv, decode b_Ar_fillI_c pc = .ok (.return_, 1) → G X pc lv [] r) {k5 : Nat × Int32 × Int32 × Int32 × gS → Option gS}  (hk5 : ∀ x, k5 x = some r → G X 5 [(0, .ref (gA X x.1)), (1, .int x.2.1), (2, .int x.2.2.1), (3, .int x.2.2.2.1)] [] x.2.2.2.2) (x0 : Nat) (x1 : Int32) (x2 : Int32) (x3 : Int32) (σ : gS) (h : b_Ar_fillI_5 k5 x0 x1 x2 x3 σ = some r) : G X 5 [(0, .ref (gA X x0)), (1, .int x1), (2, .int x2), (3, .int x3)] [] σ := by
  unfold b_Ar_fillI_5 at h
  refine r_iload_n C 2 d_Ar_fillI_5 rfl rfl ?_
  refine r_iload_n C 3 d_Ar_fillI_6 rfl rfl ?_
  refine r_icmp_ge C (tgt := 20) d_Ar_fillI_7 (by decide) (fun hc_1 => ?_) (fun hc_1 => ?_)
  · rw [if_pos hc_1] at h
    cases h
    exact hR _ _ d_Ar_fillI_20
  · rw [if_neg hc_1] at h
    refine r_aload_n C 0 d_Ar_fillI_10 rfl rfl ?_
    refine r_iload_n C 2 d_Ar_fillI_11 rfl rfl ?_
    refine r_iload_n C 1 d_Ar_fillI_12 rfl rfl ?_
    obtain ⟨hi_2, h⟩ := ck_some h
    obtain ⟨σ_3, eσ_3, h⟩ := bnd_some h
    refine r_iast C hi_2 eσ_3 d_Ar_fillI_13 ?_
    obtain ⟨x2_4, ex2_4, h⟩ := bnd_some h
    refine r_iinc C 2 (lv' := [(2, .int x2_4), (0, .ref (gA X x0)), (1, .int x1), (3, .int x3)]) d_Ar_fillI_14 rfl (by rw [ex2_4]; rfl) (by decide) rfl ?_
    refine r_goto C (tgt := 5) d_Ar_fillI_17 (by decide) ?_
    refine r_sub [1, 2, 0, 3] (lv' := [(0, .ref (gA X x0)), (1, .int x1), (2, .int x2_4), (3, .int x3)]) rfl ?_
    exact hk5 _ h
set_option maxHeartbeats 4000000 in
set_option maxRecDepth 100000 in
theorem u_Ar_fillI_5 {X : gX} {r : gS} (C : gC X b_Ar_fillI_c R_Ar 4 0 0) (hR : ∀ pc lv, decode b_Ar_fillI_c pc = .ok (.return_, 1) → G X pc lv [] r)  (x : Nat × Int32 × Int32 × Int32 × gS) (h : l_Ar_fillI_5 x = some r) : G X 5 [(0, .ref (gA X x.1)), (1, .int x.2.1), (2, .int x.2.2.1), (3, .int x.2.2.2.1)] [] x.2.2.2.2 :=
  lpF_ind (P := fun x => G X 5 [(0, .ref (gA X x.1)), (1, .int x.2.1), (2, .int x.2.2.1), (3, .int x.2.2.2.1)] [] x.2.2.2.2) (fun k hk x h => t_Ar_fillI_5 C hR hk x.1 x.2.1 x.2.2.1 x.2.2.2.1 x.2.2.2.2 h) gF x h
set_option maxHeartbeats 4000000 in
set_option maxRecDepth 100000 in
theorem t_Ar_fillI_0 {X : gX} {r : gS} (C : gC X b_Ar_fillI_c R_Ar 4 0 0) (hR : ∀ pc lv, decode b_Ar_fillI_c pc = .ok (.return_, 1) → G X pc lv [] r) (x0 : Nat) (x1 : Int32) (σ : gS) (h : b_Ar_fillI_0 x0 x1 σ = some r) : G X 0 [(0, .ref (gA X x0)), (1, .int x1)] [] σ := by
  unfold b_Ar_fillI_0 at h
  refine r_iconst C (v := 0) d_Ar_fillI_0 (by decide) ?_
  refine r_istore_n C (lv' := [(2, .int 0), (0, .ref (gA X x0)), (1, .int x1)]) d_Ar_fillI_1 rfl (by decide) rfl rfl ?_
  refine r_aload_n C 1 d_Ar_fillI_2 rfl rfl ?_
  obtain ⟨hi_1, h⟩ := ck_some h
  refine r_alenI C hi_1 rfl d_Ar_fillI_3 ?_
  obtain ⟨x3_2, ex3_2, h⟩ := bnd_some h
  refine r_istore_n C (lv' := [(3, .int x3_2), (2, .int 0), (0, .ref (gA X x0)), (1, .int x1)]) d_Ar_fillI_4 rfl (by decide) ex3_2 rfl ?_
  refine r_sub [2, 3, 1, 0] (lv' := [(0, .ref (gA X x0)), (1, .int x1), (2, .int 0), (3, .int x3_2)]) rfl ?_
  exact u_Ar_fillI_5 C hR  (x0, x1, 0, x3_2, σ) h
set_option maxHeartbeats 4000000 in
set_option maxRecDepth 100000 in
theorem c_Ar_fillI (l : Launch) (σ : gS) (x0 : Nat) (x1 : Int32) {r : gS} (h : f_Ar_fillI σ x0 x1 = some r) : gMet l y_Ar_fillI b_Ar_fillI_c 4 (none) 0 0 (fun a => [.ref (a x0), .int x1]) σ (none) r := by
  refine gMet_v (by decide +kernel) (fun a => Nat.le_of_ble_eq_true rfl) (fun X _ C hR => ?_)
  refine r_sub [0, 1] (lv' := [(0, .ref (gA X x0)), (1, .int x1)]) rfl ?_
  exact t_Ar_fillI_0 C hR x0 x1 σ h
theorem d_Fo_worthAt_0 : decode b_Fo_worthAt_c 0 = .ok (.aload_n 0, 1) := by decide +kernel
theorem d_Fo_worthAt_1 : decode b_Fo_worthAt_c 1 = .ok (.getfield 34, 3) := by decide +kernel
theorem d_Fo_worthAt_4 : decode b_Fo_worthAt_c 4 = .ok (.iconst 2, 1) := by decide +kernel
theorem d_Fo_worthAt_5 : decode b_Fo_worthAt_c 5 = .ok (.iload_n 1, 1) := by decide +kernel
theorem d_Fo_worthAt_6 : decode b_Fo_worthAt_c 6 = .ok (.imul, 1) := by decide +kernel
theorem d_Fo_worthAt_7 : decode b_Fo_worthAt_c 7 = .ok (.iload_n 2, 1) := by decide +kernel
theorem d_Fo_worthAt_8 : decode b_Fo_worthAt_c 8 = .ok (.iadd, 1) := by decide +kernel
theorem d_Fo_worthAt_9 : decode b_Fo_worthAt_c 9 = .ok (.iaload, 1) := by decide +kernel
theorem d_Fo_worthAt_10 : decode b_Fo_worthAt_c 10 = .ok (.ireturn, 1) := by decide +kernel
/-! GameRows$Forest.worthAt(II)I -/
set_option maxHeartbeats 4000000 in
set_option maxRecDepth 100000 in
theorem t_Fo_worthAt_0 {X : gX} {r : Int32} {σ : gS} (C : gC X b_Fo_worthAt_c R_Fo 3 0 0) (hR : ∀ pc lv, decode b_Fo_worthAt_c pc = .ok (.ireturn, 1) → G X pc lv [.int r] σ) (x1 : Int32) (x2 : Int32) (h : b_Fo_worthAt_0 σ x1 x2 = some r) : G X 0 [(0, .ref (gA X 1)), (1, .int x1), (2, .int x2)] [] σ := by
  unfold b_Fo_worthAt_0 at h
  refine r_aload_n C 0 d_Fo_worthAt_0 rfl rfl ?_
  refine q_Fo_34 C d_Fo_worthAt_1 ?_
  refine r_iconst C (v := 2) d_Fo_worthAt_4 (by decide) ?_
  refine r_iload_n C 1 d_Fo_worthAt_5 rfl rfl ?_
  refine r_imul C d_Fo_worthAt_6 ?_
  refine r_iload_n C 2 d_Fo_worthAt_7 rfl rfl ?_
  refine r_iadd C d_Fo_worthAt_8 ?_
  obtain ⟨hi_1, h⟩ := ck_some h
  refine r_iald C hi_1 d_Fo_worthAt_9 ?_
  cases h
  exact hR _ _ d_Fo_worthAt_10
set_option maxHeartbeats 4000000 in
set_option maxRecDepth 100000 in
theorem c_Fo_worthAt (l : Launch) (σ : gS) (x1 : Int32) (x2 : Int32) {r : Int32} (h : f_Fo_worthAt σ x1 x2 = some r) : gMet l y_Fo_worthAt b_Fo_worthAt_c 3 (some .int) 0 0 (fun a => [.ref (a 1), .int x1, .int x2]) σ (some (.int r)) σ := by
  refine gMet_i (by decide +kernel) (fun a => Nat.le_of_ble_eq_true rfl) (fun X _ C hR => ?_)
  refine r_sub [0, 1, 2] (lv' := [(0, .ref (gA X 1)), (1, .int x1), (2, .int x2)]) rfl ?_
  exact t_Fo_worthAt_0 C hR x1 x2 h
theorem d_Fo_childAt_0 : decode b_Fo_childAt_c 0 = .ok (.aload_n 0, 1) := by decide +kernel
theorem d_Fo_childAt_1 : decode b_Fo_childAt_c 1 = .ok (.getfield 37, 3) := by decide +kernel
theorem d_Fo_childAt_4 : decode b_Fo_childAt_c 4 = .ok (.iconst 3, 1) := by decide +kernel
theorem d_Fo_childAt_5 : decode b_Fo_childAt_c 5 = .ok (.iload_n 1, 1) := by decide +kernel
theorem d_Fo_childAt_6 : decode b_Fo_childAt_c 6 = .ok (.imul, 1) := by decide +kernel
theorem d_Fo_childAt_7 : decode b_Fo_childAt_c 7 = .ok (.iload_n 2, 1) := by decide +kernel
theorem d_Fo_childAt_8 : decode b_Fo_childAt_c 8 = .ok (.iadd, 1) := by decide +kernel
theorem d_Fo_childAt_9 : decode b_Fo_childAt_c 9 = .ok (.iaload, 1) := by decide +kernel
theorem d_Fo_childAt_10 : decode b_Fo_childAt_c 10 = .ok (.ireturn, 1) := by decide +kernel
/-! GameRows$Forest.childAt(II)I -/
set_option maxHeartbeats 4000000 in
set_option maxRecDepth 100000 in
theorem t_Fo_childAt_0 {X : gX} {r : Int32} {σ : gS} (C : gC X b_Fo_childAt_c R_Fo 3 0 0) (hR : ∀ pc lv, decode b_Fo_childAt_c pc = .ok (.ireturn, 1) → G X pc lv [.int r] σ) (x1 : Int32) (x2 : Int32) (h : b_Fo_childAt_0 σ x1 x2 = some r) : G X 0 [(0, .ref (gA X 1)), (1, .int x1), (2, .int x2)] [] σ := by
  unfold b_Fo_childAt_0 at h
  refine r_aload_n C 0 d_Fo_childAt_0 rfl rfl ?_
  refine q_Fo_37 C d_Fo_childAt_1 ?_
  refine r_iconst C (v := 3) d_Fo_childAt_4 (by decide) ?_
  refine r_iload_n C 1 d_Fo_childAt_5 rfl rfl ?_
  refine r_imul C d_Fo_childAt_6 ?_
  refine r_iload_n C 2 d_Fo_childAt_7 rfl rfl ?_
  refine r_iadd C d_Fo_childAt_8 ?_
  obtain ⟨hi_1, h⟩ := ck_some h
  refine r_iald C hi_1 d_Fo_childAt_9 ?_
  cases h
  exact hR _ _ d_Fo_childAt_10
set_option maxHeartbeats 4000000 in
set_option maxRecDepth 100000 in
theorem c_Fo_childAt (l : Launch) (σ : gS) (x1 : Int32) (x2 : Int32) {r : Int32} (h : f_Fo_childAt σ x1 x2 = some r) : gMet l y_Fo_childAt b_Fo_childAt_c 3 (some .int) 0 0 (fun a => [.ref (a 1), .int x1, .int x2]) σ (some (.int r)) σ := by
  refine gMet_i (by decide +kernel) (fun a => Nat.le_of_ble_eq_true rfl) (fun X _ C hR => ?_)
  refine r_sub [0, 1, 2] (lv' := [(0, .ref (gA X 1)), (1, .int x1), (2, .int x2)]) rfl ?_
  exact t_Fo_childAt_0 C hR x1 x2 h
theorem d_Ta_shareAmongAll_0 : decode b_Ta_shareAmongAll_c 0 = .ok (.aload_n 0, 1) := by decide +kernel
theorem d_Ta_shareAmongAll_1 : decode b_Ta_shareAmongAll_c 1 = .ok (.getfield 33, 3) := by decide +kernel
theorem d_Ta_shareAmongAll_4 : decode b_Ta_shareAmongAll_c 4 = .ok (.getfield 83, 3) := by decide +kernel
theorem d_Ta_shareAmongAll_7 : decode b_Ta_shareAmongAll_c 7 = .ok (.iload_n 1, 1) := by decide +kernel
theorem d_Ta_shareAmongAll_8 : decode b_Ta_shareAmongAll_c 8 = .ok (.iaload, 1) := by decide +kernel
theorem d_Ta_shareAmongAll_9 : decode b_Ta_shareAmongAll_c 9 = .ok (.istore_n 3, 1) := by decide +kernel
theorem d_Ta_shareAmongAll_10 : decode b_Ta_shareAmongAll_c 10 = .ok (.iconst 0, 1) := by decide +kernel
theorem d_Ta_shareAmongAll_11 : decode b_Ta_shareAmongAll_c 11 = .ok (.istore 4, 2) := by decide +kernel
theorem d_Ta_shareAmongAll_13 : decode b_Ta_shareAmongAll_c 13 = .ok (.iload 4, 2) := by decide +kernel
theorem d_Ta_shareAmongAll_15 : decode b_Ta_shareAmongAll_c 15 = .ok (.iload_n 3, 1) := by decide +kernel
theorem d_Ta_shareAmongAll_16 : decode b_Ta_shareAmongAll_c 16 = .ok (.if_icmp .ge 27, 3) := by decide +kernel
theorem d_Ta_shareAmongAll_19 : decode b_Ta_shareAmongAll_c 19 = .ok (.aload_n 0, 1) := by decide +kernel
theorem d_Ta_shareAmongAll_20 : decode b_Ta_shareAmongAll_c 20 = .ok (.getfield 23, 3) := by decide +kernel
theorem d_Ta_shareAmongAll_23 : decode b_Ta_shareAmongAll_c 23 = .ok (.aload_n 0, 1) := by decide +kernel
theorem d_Ta_shareAmongAll_24 : decode b_Ta_shareAmongAll_c 24 = .ok (.getfield 33, 3) := by decide +kernel
theorem d_Ta_shareAmongAll_27 : decode b_Ta_shareAmongAll_c 27 = .ok (.iload_n 1, 1) := by decide +kernel
theorem d_Ta_shareAmongAll_28 : decode b_Ta_shareAmongAll_c 28 = .ok (.iload 4, 2) := by decide +kernel
theorem d_Ta_shareAmongAll_30 : decode b_Ta_shareAmongAll_c 30 = .ok (.invokevirtual 80, 3) := by decide +kernel
theorem d_Ta_shareAmongAll_33 : decode b_Ta_shareAmongAll_c 33 = .ok (.iload_n 2, 1) := by decide +kernel
theorem d_Ta_shareAmongAll_34 : decode b_Ta_shareAmongAll_c 34 = .ok (.iload_n 3, 1) := by decide +kernel
theorem d_Ta_shareAmongAll_35 : decode b_Ta_shareAmongAll_c 35 = .ok (.idiv, 1) := by decide +kernel
theorem d_Ta_shareAmongAll_36 : decode b_Ta_shareAmongAll_c 36 = .ok (.iastore, 1) := by decide +kernel
theorem d_Ta_shareAmongAll_37 : decode b_Ta_shareAmongAll_c 37 = .ok (.iinc 4 1, 3) := by decide +kernel
theorem d_Ta_shareAmongAll_40 : decode b_Ta_shareAmongAll_c 40 = .ok (.goto (-27), 3) := by decide +kernel
theorem d_Ta_shareAmongAll_43 : decode b_Ta_shareAmongAll_c 43 = .ok (.return_, 1) := by decide +kernel
/-! GameRows$Table.shareAmongAll(II)V -/
set_option maxHeartbeats 4000000 in
set_option maxRecDepth 100000 in
theorem t_Ta_shareAmongAll_13 {X : gX} {r : gS} (C : gC X b_Ta_shareAmongAll_c R_Ta 5 1 22) (hR : ∀ pc lv, decode b_Ta_shareAmongAll_c pc = .ok (.return_, 1) → G X pc lv [] r) {k13 : Int32 × Int32 × Int32 × Int32 × gS → Option gS}  (hk13 : ∀ x, k13 x = some r → G X 13 [(0, .ref (gA X 16)), (1, .int x.1), (2, .int x.2.1), (3, .int x.2.2.1), (4, .int x.2.2.2.1)] [] x.2.2.2.2) (x1 : Int32) (x2 : Int32) (x3 : Int32) (x4 : Int32) (σ : gS) (h : b_Ta_shareAmongAll_13 k13 x1 x2 x3 x4 σ = some r) : G X 13 [(0, .ref (gA X 16)), (1, .int x1), (2, .int x2), (3, .int x3), (4, .int x4)] [] σ := by
  unfold b_Ta_shareAmongAll_13 at h
  refine r_iload C 4 d_Ta_shareAmongAll_13 rfl ?_
  refine r_iload_n C 3 d_Ta_shareAmongAll_15 rfl rfl ?_
  refine r_icmp_ge C (tgt := 43) d_Ta_shareAmongAll_16 (by decide) (fun hc_1 => ?_) (fun hc_1 => ?_)
  · rw [if_pos hc_1] at h
    cases h
    exact hR _ _ d_Ta_shareAmongAll_43
  · rw [if_neg hc_1] at h
    refine r_aload_n C 0 d_Ta_shareAmongAll_19 rfl rfl ?_
    refine q_Ta_23 C d_Ta_shareAmongAll_20 ?_
    refine r_aload_n C 0 d_Ta_shareAmongAll_23 rfl rfl ?_
    refine q_Ta_33 C d_Ta_shareAmongAll_24 ?_
    refine r_iload_n C 1 d_Ta_shareAmongAll_27 rfl rfl ?_
    refine r_iload C 4 d_Ta_shareAmongAll_28 rfl ?_
    obtain ⟨r_2, er_2, h⟩ := bind_some h
    refine r_callV C (As := [.int x1, .int x4]) (rest := [.ref (gA X 22)]) (st1 := [.int r_2, .ref (gA X 22)]) (c_Fo_childAt X.1.2.1 σ x1 x4 er_2) k_Fo_childAt m_113 (by decide) cel_Fo rfl rfl rfl rfl (Nat.le_of_ble_eq_true rfl) ⟨Nat.le_of_ble_eq_true rfl, Nat.le_of_ble_eq_true rfl⟩ d_Ta_shareAmongAll_30 rfl ?_
    refine r_iload_n C 2 d_Ta_shareAmongAll_33 rfl rfl ?_
    refine r_iload_n C 3 d_Ta_shareAmongAll_34 rfl rfl ?_
    obtain ⟨hz_3, h⟩ := ck_some h
    refine r_idiv C d_Ta_shareAmongAll_35 hz_3 ?_
    obtain ⟨hi_4, h⟩ := ck_some h
    obtain ⟨σ_5, eσ_5, h⟩ := bnd_some h
    refine r_iast C hi_4 eσ_5 d_Ta_shareAmongAll_36 ?_
    obtain ⟨x4_6, ex4_6, h⟩ := bnd_some h
    refine r_iinc C 4 (lv' := [(4, .int x4_6), (0, .ref (gA X 16)), (1, .int x1), (2, .int x2), (3, .int x3)]) d_Ta_shareAmongAll_37 rfl (by rw [ex4_6]; rfl) (by decide) rfl ?_
    refine r_goto C (tgt := 13) d_Ta_shareAmongAll_40 (by decide) ?_
    refine r_sub [1, 2, 3, 4, 0] (lv' := [(0, .ref (gA X 16)), (1, .int x1), (2, .int x2), (3, .int x3), (4, .int x4_6)]) rfl ?_
    exact hk13 _ h
set_option maxHeartbeats 4000000 in
set_option maxRecDepth 100000 in
theorem u_Ta_shareAmongAll_13 {X : gX} {r : gS} (C : gC X b_Ta_shareAmongAll_c R_Ta 5 1 22) (hR : ∀ pc lv, decode b_Ta_shareAmongAll_c pc = .ok (.return_, 1) → G X pc lv [] r)  (x : Int32 × Int32 × Int32 × Int32 × gS) (h : l_Ta_shareAmongAll_13 x = some r) : G X 13 [(0, .ref (gA X 16)), (1, .int x.1), (2, .int x.2.1), (3, .int x.2.2.1), (4, .int x.2.2.2.1)] [] x.2.2.2.2 :=
  lpF_ind (P := fun x => G X 13 [(0, .ref (gA X 16)), (1, .int x.1), (2, .int x.2.1), (3, .int x.2.2.1), (4, .int x.2.2.2.1)] [] x.2.2.2.2) (fun k hk x h => t_Ta_shareAmongAll_13 C hR hk x.1 x.2.1 x.2.2.1 x.2.2.2.1 x.2.2.2.2 h) gF x h
set_option maxHeartbeats 4000000 in
set_option maxRecDepth 100000 in
theorem t_Ta_shareAmongAll_0 {X : gX} {r : gS} (C : gC X b_Ta_shareAmongAll_c R_Ta 5 1 22) (hR : ∀ pc lv, decode b_Ta_shareAmongAll_c pc = .ok (.return_, 1) → G X pc lv [] r) (x1 : Int32) (x2 : Int32) (σ : gS) (h : b_Ta_shareAmongAll_0 x1 x2 σ = some r) : G X 0 [(0, .ref (gA X 16)), (1, .int x1), (2, .int x2)] [] σ := by
  unfold b_Ta_shareAmongAll_0 at h
  refine r_aload_n C 0 d_Ta_shareAmongAll_0 rfl rfl ?_
  refine q_Ta_33 C d_Ta_shareAmongAll_1 ?_
  refine q_Ta_83 C d_Ta_shareAmongAll_4 ?_
  refine r_iload_n C 1 d_Ta_shareAmongAll_7 rfl rfl ?_
  obtain ⟨hi_1, h⟩ := ck_some h
  refine r_iald C hi_1 d_Ta_shareAmongAll_8 ?_
  obtain ⟨x3_2, ex3_2, h⟩ := bnd_some h
  refine r_istore_n C (lv' := [(3, .int x3_2), (0, .ref (gA X 16)), (1, .int x1), (2, .int x2)]) d_Ta_shareAmongAll_9 rfl (by decide) ex3_2 rfl ?_
  refine r_iconst C (v := 0) d_Ta_shareAmongAll_10 (by decide) ?_
  refine r_istore C (lv' := [(4, .int 0), (3, .int x3_2), (0, .ref (gA X 16)), (1, .int x1), (2, .int x2)]) d_Ta_shareAmongAll_11 (by decide) rfl rfl ?_
  refine r_sub [2, 3, 4, 1, 0] (lv' := [(0, .ref (gA X 16)), (1, .int x1), (2, .int x2), (3, .int x3_2), (4, .int 0)]) rfl ?_
  exact u_Ta_shareAmongAll_13 C hR  (x1, x2, x3_2, 0, σ) h
set_option maxHeartbeats 4000000 in
set_option maxRecDepth 100000 in
theorem c_Ta_shareAmongAll (l : Launch) (σ : gS) (x1 : Int32) (x2 : Int32) {r : gS} (h : f_Ta_shareAmongAll σ x1 x2 = some r) : gMet l y_Ta_shareAmongAll b_Ta_shareAmongAll_c 5 (none) 1 22 (fun a => [.ref (a 16), .int x1, .int x2]) σ (none) r := by
  refine gMet_v (by decide +kernel) (fun a => Nat.le_of_ble_eq_true rfl) (fun X _ C hR => ?_)
  refine r_sub [0, 1, 2] (lv' := [(0, .ref (gA X 16)), (1, .int x1), (2, .int x2)]) rfl ?_
  exact t_Ta_shareAmongAll_0 C hR x1 x2 σ h
theorem d_Ta_weighPair_0 : decode b_Ta_weighPair_c 0 = .ok (.iconst 0, 1) := by decide +kernel
theorem d_Ta_weighPair_1 : decode b_Ta_weighPair_c 1 = .ok (.istore_n 3, 1) := by decide +kernel
theorem d_Ta_weighPair_2 : decode b_Ta_weighPair_c 2 = .ok (.iconst 0, 1) := by decide +kernel
theorem d_Ta_weighPair_3 : decode b_Ta_weighPair_c 3 = .ok (.istore 4, 2) := by decide +kernel
theorem d_Ta_weighPair_5 : decode b_Ta_weighPair_c 5 = .ok (.aload_n 0, 1) := by decide +kernel
theorem d_Ta_weighPair_6 : decode b_Ta_weighPair_c 6 = .ok (.getfield 23, 3) := by decide +kernel
theorem d_Ta_weighPair_9 : decode b_Ta_weighPair_c 9 = .ok (.iload_n 1, 1) := by decide +kernel
theorem d_Ta_weighPair_10 : decode b_Ta_weighPair_c 10 = .ok (.sipush 7776, 3) := by decide +kernel
theorem d_Ta_weighPair_13 : decode b_Ta_weighPair_c 13 = .ok (.iastore, 1) := by decide +kernel
theorem d_Ta_weighPair_14 : decode b_Ta_weighPair_c 14 = .ok (.iload_n 1, 1) := by decide +kernel
theorem d_Ta_weighPair_15 : decode b_Ta_weighPair_c 15 = .ok (.istore 5, 2) := by decide +kernel
theorem d_Ta_weighPair_17 : decode b_Ta_weighPair_c 17 = .ok (.iload 5, 2) := by decide +kernel
theorem d_Ta_weighPair_19 : decode b_Ta_weighPair_c 19 = .ok (.ifCond .lt 137, 3) := by decide +kernel
theorem d_Ta_weighPair_22 : decode b_Ta_weighPair_c 22 = .ok (.aload_n 0, 1) := by decide +kernel
theorem d_Ta_weighPair_23 : decode b_Ta_weighPair_c 23 = .ok (.getfield 23, 3) := by decide +kernel
theorem d_Ta_weighPair_26 : decode b_Ta_weighPair_c 26 = .ok (.iload 5, 2) := by decide +kernel
theorem d_Ta_weighPair_28 : decode b_Ta_weighPair_c 28 = .ok (.iaload, 1) := by decide +kernel
theorem d_Ta_weighPair_29 : decode b_Ta_weighPair_c 29 = .ok (.istore 6, 2) := by decide +kernel
theorem d_Ta_weighPair_31 : decode b_Ta_weighPair_c 31 = .ok (.iload 6, 2) := by decide +kernel
theorem d_Ta_weighPair_33 : decode b_Ta_weighPair_c 33 = .ok (.ifCond .eq 117, 3) := by decide +kernel
theorem d_Ta_weighPair_36 : decode b_Ta_weighPair_c 36 = .ok (.aload_n 0, 1) := by decide +kernel
theorem d_Ta_weighPair_37 : decode b_Ta_weighPair_c 37 = .ok (.getfield 23, 3) := by decide +kernel
theorem d_Ta_weighPair_40 : decode b_Ta_weighPair_c 40 = .ok (.iload 5, 2) := by decide +kernel
theorem d_Ta_weighPair_42 : decode b_Ta_weighPair_c 42 = .ok (.iconst 0, 1) := by decide +kernel
theorem d_Ta_weighPair_43 : decode b_Ta_weighPair_c 43 = .ok (.iastore, 1) := by decide +kernel
theorem d_Ta_weighPair_44 : decode b_Ta_weighPair_c 44 = .ok (.aload_n 0, 1) := by decide +kernel
theorem d_Ta_weighPair_45 : decode b_Ta_weighPair_c 45 = .ok (.getfield 33, 3) := by decide +kernel
theorem d_Ta_weighPair_48 : decode b_Ta_weighPair_c 48 = .ok (.getfield 68, 3) := by decide +kernel
theorem d_Ta_weighPair_51 : decode b_Ta_weighPair_c 51 = .ok (.iload 5, 2) := by decide +kernel
theorem d_Ta_weighPair_53 : decode b_Ta_weighPair_c 53 = .ok (.iaload, 1) := by decide +kernel
theorem d_Ta_weighPair_54 : decode b_Ta_weighPair_c 54 = .ok (.ifCond .ne 40, 3) := by decide +kernel
theorem d_Ta_weighPair_57 : decode b_Ta_weighPair_c 57 = .ok (.iload_n 3, 1) := by decide +kernel
theorem d_Ta_weighPair_58 : decode b_Ta_weighPair_c 58 = .ok (.iload 6, 2) := by decide +kernel
theorem d_Ta_weighPair_60 : decode b_Ta_weighPair_c 60 = .ok (.aload_n 0, 1) := by decide +kernel
theorem d_Ta_weighPair_61 : decode b_Ta_weighPair_c 61 = .ok (.getfield 33, 3) := by decide +kernel
theorem d_Ta_weighPair_64 : decode b_Ta_weighPair_c 64 = .ok (.iload 5, 2) := by decide +kernel
theorem d_Ta_weighPair_66 : decode b_Ta_weighPair_c 66 = .ok (.iconst 0, 1) := by decide +kernel
theorem d_Ta_weighPair_67 : decode b_Ta_weighPair_c 67 = .ok (.invokevirtual 71, 3) := by decide +kernel
theorem d_Ta_weighPair_70 : decode b_Ta_weighPair_c 70 = .ok (.imul, 1) := by decide +kernel
theorem d_Ta_weighPair_71 : decode b_Ta_weighPair_c 71 = .ok (.iadd, 1) := by decide +kernel
theorem d_Ta_weighPair_72 : decode b_Ta_weighPair_c 72 = .ok (.istore_n 3, 1) := by decide +kernel
theorem d_Ta_weighPair_73 : decode b_Ta_weighPair_c 73 = .ok (.iload 4, 2) := by decide +kernel
theorem d_Ta_weighPair_75 : decode b_Ta_weighPair_c 75 = .ok (.iload 6, 2) := by decide +kernel
theorem d_Ta_weighPair_77 : decode b_Ta_weighPair_c 77 = .ok (.aload_n 0, 1) := by decide +kernel
theorem d_Ta_weighPair_78 : decode b_Ta_weighPair_c 78 = .ok (.getfield 33, 3) := by decide +kernel
theorem d_Ta_weighPair_81 : decode b_Ta_weighPair_c 81 = .ok (.iload 5, 2) := by decide +kernel
theorem d_Ta_weighPair_83 : decode b_Ta_weighPair_c 83 = .ok (.iconst 1, 1) := by decide +kernel
theorem d_Ta_weighPair_84 : decode b_Ta_weighPair_c 84 = .ok (.invokevirtual 71, 3) := by decide +kernel
theorem d_Ta_weighPair_87 : decode b_Ta_weighPair_c 87 = .ok (.imul, 1) := by decide +kernel
theorem d_Ta_weighPair_88 : decode b_Ta_weighPair_c 88 = .ok (.iadd, 1) := by decide +kernel
theorem d_Ta_weighPair_89 : decode b_Ta_weighPair_c 89 = .ok (.istore 4, 2) := by decide +kernel
theorem d_Ta_weighPair_91 : decode b_Ta_weighPair_c 91 = .ok (.goto 59, 3) := by decide +kernel
theorem d_Ta_weighPair_94 : decode b_Ta_weighPair_c 94 = .ok (.aload_n 0, 1) := by decide +kernel
theorem d_Ta_weighPair_95 : decode b_Ta_weighPair_c 95 = .ok (.getfield 33, 3) := by decide +kernel
theorem d_Ta_weighPair_98 : decode b_Ta_weighPair_c 98 = .ok (.getfield 68, 3) := by decide +kernel
theorem d_Ta_weighPair_101 : decode b_Ta_weighPair_c 101 = .ok (.iload 5, 2) := by decide +kernel
theorem d_Ta_weighPair_103 : decode b_Ta_weighPair_c 103 = .ok (.iaload, 1) := by decide +kernel
theorem d_Ta_weighPair_104 : decode b_Ta_weighPair_c 104 = .ok (.iconst 1, 1) := by decide +kernel
theorem d_Ta_weighPair_105 : decode b_Ta_weighPair_c 105 = .ok (.if_icmp .ne 14, 3) := by decide +kernel
theorem d_Ta_weighPair_108 : decode b_Ta_weighPair_c 108 = .ok (.aload_n 0, 1) := by decide +kernel
theorem d_Ta_weighPair_109 : decode b_Ta_weighPair_c 109 = .ok (.iload 5, 2) := by decide +kernel
theorem d_Ta_weighPair_111 : decode b_Ta_weighPair_c 111 = .ok (.iload 6, 2) := by decide +kernel
theorem d_Ta_weighPair_113 : decode b_Ta_weighPair_c 113 = .ok (.invokevirtual 74, 3) := by decide +kernel
theorem d_Ta_weighPair_116 : decode b_Ta_weighPair_c 116 = .ok (.goto 34, 3) := by decide +kernel
theorem d_Ta_weighPair_119 : decode b_Ta_weighPair_c 119 = .ok (.aload_n 0, 1) := by decide +kernel
theorem d_Ta_weighPair_120 : decode b_Ta_weighPair_c 120 = .ok (.getfield 23, 3) := by decide +kernel
theorem d_Ta_weighPair_123 : decode b_Ta_weighPair_c 123 = .ok (.aload_n 0, 1) := by decide +kernel
theorem d_Ta_weighPair_124 : decode b_Ta_weighPair_c 124 = .ok (.getfield 33, 3) := by decide +kernel
theorem d_Ta_weighPair_127 : decode b_Ta_weighPair_c 127 = .ok (.iload 5, 2) := by decide +kernel
theorem d_Ta_weighPair_129 : decode b_Ta_weighPair_c 129 = .ok (.aload_n 0, 1) := by decide +kernel
theorem d_Ta_weighPair_130 : decode b_Ta_weighPair_c 130 = .ok (.getfield 20, 3) := by decide +kernel
theorem d_Ta_weighPair_133 : decode b_Ta_weighPair_c 133 = .ok (.aload_n 0, 1) := by decide +kernel
theorem d_Ta_weighPair_134 : decode b_Ta_weighPair_c 134 = .ok (.getfield 33, 3) := by decide +kernel
theorem d_Ta_weighPair_137 : decode b_Ta_weighPair_c 137 = .ok (.getfield 77, 3) := by decide +kernel
theorem d_Ta_weighPair_140 : decode b_Ta_weighPair_c 140 = .ok (.iload 5, 2) := by decide +kernel
theorem d_Ta_weighPair_142 : decode b_Ta_weighPair_c 142 = .ok (.iaload, 1) := by decide +kernel
theorem d_Ta_weighPair_143 : decode b_Ta_weighPair_c 143 = .ok (.iaload, 1) := by decide +kernel
theorem d_Ta_weighPair_144 : decode b_Ta_weighPair_c 144 = .ok (.invokevirtual 80, 3) := by decide +kernel
theorem d_Ta_weighPair_147 : decode b_Ta_weighPair_c 147 = .ok (.iload 6, 2) := by decide +kernel
theorem d_Ta_weighPair_149 : decode b_Ta_weighPair_c 149 = .ok (.iastore, 1) := by decide +kernel
theorem d_Ta_weighPair_150 : decode b_Ta_weighPair_c 150 = .ok (.iinc 5 (-1), 3) := by decide +kernel
theorem d_Ta_weighPair_153 : decode b_Ta_weighPair_c 153 = .ok (.goto (-136), 3) := by decide +kernel
theorem d_Ta_weighPair_156 : decode b_Ta_weighPair_c 156 = .ok (.aload_n 0, 1) := by decide +kernel
theorem d_Ta_weighPair_157 : decode b_Ta_weighPair_c 157 = .ok (.getfield 17, 3) := by decide +kernel
theorem d_Ta_weighPair_160 : decode b_Ta_weighPair_c 160 = .ok (.iconst 0, 1) := by decide +kernel
theorem d_Ta_weighPair_161 : decode b_Ta_weighPair_c 161 = .ok (.aaload, 1) := by decide +kernel
theorem d_Ta_weighPair_162 : decode b_Ta_weighPair_c 162 = .ok (.iload_n 2, 1) := by decide +kernel
theorem d_Ta_weighPair_163 : decode b_Ta_weighPair_c 163 = .ok (.iload_n 3, 1) := by decide +kernel
theorem d_Ta_weighPair_164 : decode b_Ta_weighPair_c 164 = .ok (.iastore, 1) := by decide +kernel
theorem d_Ta_weighPair_165 : decode b_Ta_weighPair_c 165 = .ok (.aload_n 0, 1) := by decide +kernel
theorem d_Ta_weighPair_166 : decode b_Ta_weighPair_c 166 = .ok (.getfield 17, 3) := by decide +kernel
theorem d_Ta_weighPair_169 : decode b_Ta_weighPair_c 169 = .ok (.iconst 1, 1) := by decide +kernel
theorem d_Ta_weighPair_170 : decode b_Ta_weighPair_c 170 = .ok (.aaload, 1) := by decide +kernel
theorem d_Ta_weighPair_171 : decode b_Ta_weighPair_c 171 = .ok (.iload_n 2, 1) := by decide +kernel
theorem d_Ta_weighPair_172 : decode b_Ta_weighPair_c 172 = .ok (.iload 4, 2) := by decide +kernel
theorem d_Ta_weighPair_174 : decode b_Ta_weighPair_c 174 = .ok (.iastore, 1) := by decide +kernel
theorem d_Ta_weighPair_175 : decode b_Ta_weighPair_c 175 = .ok (.return_, 1) := by decide +kernel
/-! GameRows$Table.weighPair(II)V -/
set_option maxHeartbeats 4000000 in
set_option maxRecDepth 100000 in
theorem t_Ta_weighPair_150 {X : gX} {r : gS} (C : gC X b_Ta_weighPair_c R_Ta 7 2 46) (hR : ∀ pc lv, decode b_Ta_weighPair_c pc = .ok (.return_, 1) → G X pc lv [] r) {k17 : Int32 × Int32 × Int32 × Int32 × gS → Option gS}  (hk17 : ∀ x, k17 x = some r → G X 17 [(0, .ref (gA X 16)), (2, .int x.1), (3, .int x.2.1), (4, .int x.2.2.1), (5, .int x.2.2.2.1)] [] x.2.2.2.2) (x2 : Int32) (x3 : Int32) (x4 : Int32) (x5 : Int32) (σ : gS) (h : b_Ta_weighPair_150 k17 x2 x3 x4 x5 σ = some r) : G X 150 [(0, .ref (gA X 16)), (2, .int x2), (3, .int x3), (4, .int x4), (5, .int x5)] [] σ := by
  unfold b_Ta_weighPair_150 at h
  obtain ⟨x5_1, ex5_1, h⟩ := bnd_some h
  refine r_iinc C 4 (lv' := [(5, .int x5_1), (0, .ref (gA X 16)), (2, .int x2), (3, .int x3), (4, .int x4)]) d_Ta_weighPair_150 rfl (by rw [ex5_1]; rfl) (by decide) rfl ?_
  refine r_goto C (tgt := 17) d_Ta_weighPair_153 (by decide) ?_
  refine r_sub [1, 2, 3, 4, 0] (lv' := [(0, .ref (gA X 16)), (2, .int x2), (3, .int x3), (4, .int x4), (5, .int x5_1)]) rfl ?_
  exact hk17 _ h
set_option maxHeartbeats 4000000 in
set_option maxRecDepth 100000 in
theorem t_Ta_weighPair_17 {X : gX} {r : gS} (C : gC X b_Ta_weighPair_c R_Ta 7 2 46) (hR : ∀ pc lv, decode b_Ta_weighPair_c pc = .ok (.return_, 1) → G X pc lv [] r) {k17 : Int32 × Int32 × Int32 × Int32 × gS → Option gS}  (hk17 : ∀ x, k17 x = some r → G X 17 [(0, .ref (gA X 16)), (2, .int x.1), (3, .int x.2.1), (4, .int x.2.2.1), (5, .int x.2.2.2.1)] [] x.2.2.2.2) (x2 : Int32) (x3 : Int32) (x4 : Int32) (x5 : Int32) (σ : gS) (h : b_Ta_weighPair_17 k17 x2 x3 x4 x5 σ = some r) : G X 17 [(0, .ref (gA X 16)), (2, .int x2), (3, .int x3), (4, .int x4), (5, .int x5)] [] σ := by
  unfold b_Ta_weighPair_17 at h
  refine r_iload C 4 d_Ta_weighPair_17 rfl ?_
  refine r_if_lt C (tgt := 156) d_Ta_weighPair_19 (by decide) (fun hc_1 => ?_) (fun hc_1 => ?_)
  · rw [if_pos hc_1] at h
    refine r_aload_n C 0 d_Ta_weighPair_156 rfl rfl ?_
    refine q_Ta_17 C d_Ta_weighPair_157 ?_
    refine r_iconst C (v := 0) d_Ta_weighPair_160 (by decide) ?_
    obtain ⟨hi_2, h⟩ := ck_some h
    refine o_18 C (k' := 19) hi_2 rfl d_Ta_weighPair_161 ?_
    refine r_iload_n C 1 d_Ta_weighPair_162 rfl rfl ?_
    refine r_iload_n C 2 d_Ta_weighPair_163 rfl rfl ?_
    obtain ⟨hi_3, h⟩ := ck_some h
    obtain ⟨σ_4, eσ_4, h⟩ := bnd_some h
    refine r_iast C hi_3 eσ_4 d_Ta_weighPair_164 ?_
    refine r_aload_n C 0 d_Ta_weighPair_165 rfl rfl ?_
    refine q_Ta_17 C d_Ta_weighPair_166 ?_
    refine r_iconst C (v := 1) d_Ta_weighPair_169 (by decide) ?_
    obtain ⟨hi_5, h⟩ := ck_some h
    refine o_18 C (k' := 20) hi_5 rfl d_Ta_weighPair_170 ?_
    refine r_iload_n C 1 d_Ta_weighPair_171 rfl rfl ?_
    refine r_iload C 3 d_Ta_weighPair_172 rfl ?_
    obtain ⟨hi_6, h⟩ := ck_some h
    obtain ⟨σ_7, eσ_7, h⟩ := bnd_some h
    refine r_iast C hi_6 eσ_7 d_Ta_weighPair_174 ?_
    cases h
    exact hR _ _ d_Ta_weighPair_175
  · rw [if_neg hc_1] at h
    refine r_aload_n C 0 d_Ta_weighPair_22 rfl rfl ?_
    refine q_Ta_23 C d_Ta_weighPair_23 ?_
    refine r_iload C 4 d_Ta_weighPair_26 rfl ?_
    obtain ⟨hi_8, h⟩ := ck_some h
    refine r_iald C hi_8 d_Ta_weighPair_28 ?_
    obtain ⟨x6_9, ex6_9, h⟩ := bnd_some h
    refine r_istore C (lv' := [(6, .int x6_9), (0, .ref (gA X 16)), (2, .int x2), (3, .int x3), (4, .int x4), (5, .int x5)]) d_Ta_weighPair_29 (by decide) ex6_9 rfl ?_
    refine r_iload C 0 d_Ta_weighPair_31 rfl ?_
    refine r_if_eq C (tgt := 150) d_Ta_weighPair_33 (by decide) (fun hc_10 => ?_) (fun hc_10 => ?_)
    · rw [if_pos hc_10] at h
      refine r_sub [1, 2, 3, 4, 5] (lv' := [(0, .ref (gA X 16)), (2, .int x2), (3, .int x3), (4, .int x4), (5, .int x5)]) rfl ?_
      exact t_Ta_weighPair_150 C hR hk17 x2 x3 x4 x5 σ h
    · rw [if_neg hc_10] at h
      refine r_aload_n C 1 d_Ta_weighPair_36 rfl rfl ?_
      refine q_Ta_23 C d_Ta_weighPair_37 ?_
      refine r_iload C 5 d_Ta_weighPair_40 rfl ?_
      refine r_iconst C (v := 0) d_Ta_weighPair_42 (by decide) ?_
      obtain ⟨hi_11, h⟩ := ck_some h
      obtain ⟨σ_12, eσ_12, h⟩ := bnd_some h
      refine r_iast C hi_11 eσ_12 d_Ta_weighPair_43 ?_
      refine r_aload_n C 1 d_Ta_weighPair_44 rfl rfl ?_
      refine q_Ta_33 C d_Ta_weighPair_45 ?_
      refine q_Ta_68 C d_Ta_weighPair_48 ?_
      refine r_iload C 5 d_Ta_weighPair_51 rfl ?_
      obtain ⟨hi_13, h⟩ := ck_some h
      refine r_iald C hi_13 d_Ta_weighPair_53 ?_
      refine r_if_ne C (tgt := 94) d_Ta_weighPair_54 (by decide) (fun hc_14 => ?_) (fun hc_14 => ?_)
      · rw [if_neg hc_14] at h
        refine r_aload_n C 1 d_Ta_weighPair_94 rfl rfl ?_
        refine q_Ta_33 C d_Ta_weighPair_95 ?_
        refine q_Ta_68 C d_Ta_weighPair_98 ?_
        refine r_iload C 5 d_Ta_weighPair_101 rfl ?_
        obtain ⟨hi_15, h⟩ := ck_some h
        refine r_iald C hi_15 d_Ta_weighPair_103 ?_
        refine r_iconst C (v := 1) d_Ta_weighPair_104 (by decide) ?_
        refine r_icmp_ne C (tgt := 119) d_Ta_weighPair_105 (by decide) (fun hc_16 => ?_) (fun hc_16 => ?_)
        · rw [if_neg hc_16] at h
          refine r_aload_n C 1 d_Ta_weighPair_119 rfl rfl ?_
          refine q_Ta_23 C d_Ta_weighPair_120 ?_
          refine r_aload_n C 1 d_Ta_weighPair_123 rfl rfl ?_
          refine q_Ta_33 C d_Ta_weighPair_124 ?_
          refine r_iload C 5 d_Ta_weighPair_127 rfl ?_
          refine r_aload_n C 1 d_Ta_weighPair_129 rfl rfl ?_
          refine q_Ta_20 C d_Ta_weighPair_130 ?_
          refine r_aload_n C 1 d_Ta_weighPair_133 rfl rfl ?_
          refine q_Ta_33 C d_Ta_weighPair_134 ?_
          refine q_Ta_77 C d_Ta_weighPair_137 ?_
          refine r_iload C 5 d_Ta_weighPair_140 rfl ?_
          obtain ⟨hi_17, h⟩ := ck_some h
          refine r_iald C hi_17 d_Ta_weighPair_142 ?_
          obtain ⟨hi_18, h⟩ := ck_some h
          refine r_iald C hi_18 d_Ta_weighPair_143 ?_
          obtain ⟨r_19, er_19, h⟩ := bind_some h
          refine r_callV C (As := [.int x5, .int (gI σ_12 21 (gI σ_12 3 x5.toNatClampNeg).toNatClampNeg)]) (rest := [.ref (gA X 22)]) (st1 := [.int r_19, .ref (gA X 22)]) (c_Fo_childAt X.1.2.1 σ_12 x5 (gI σ_12 21 (gI σ_12 3 x5.toNatClampNeg).toNatClampNeg) er_19) k_Fo_childAt m_113 (by decide) cel_Fo rfl rfl rfl rfl (Nat.le_of_ble_eq_true rfl) ⟨Nat.le_of_ble_eq_true rfl, Nat.le_of_ble_eq_true rfl⟩ d_Ta_weighPair_144 rfl ?_
          refine r_iload C 0 d_Ta_weighPair_147 rfl ?_
          obtain ⟨hi_20, h⟩ := ck_some h
          obtain ⟨σ_21, eσ_21, h⟩ := bnd_some h
          refine r_iast C hi_20 eσ_21 d_Ta_weighPair_149 ?_
          refine r_sub [1, 2, 3, 4, 5] (lv' := [(0, .ref (gA X 16)), (2, .int x2), (3, .int x3), (4, .int x4), (5, .int x5)]) rfl ?_
          exact t_Ta_weighPair_150 C hR hk17 x2 x3 x4 x5 σ_21 h
        · rw [if_pos hc_16] at h
          refine r_aload_n C 1 d_Ta_weighPair_108 rfl rfl ?_
          refine r_iload C 5 d_Ta_weighPair_109 rfl ?_
          refine r_iload C 0 d_Ta_weighPair_111 rfl ?_
          obtain ⟨r_22, er_22, h⟩ := bind_some h
          refine r_callV C (As := [.int x5, .int x6_9]) (rest := []) (st1 := []) (c_Ta_shareAmongAll X.1.2.1 σ_12 x5 x6_9 er_22) k_Ta_shareAmongAll m_122 (by decide) cel_Ta rfl rfl rfl rfl (Nat.le_of_ble_eq_true rfl) ⟨Nat.le_of_ble_eq_true rfl, Nat.le_of_ble_eq_true rfl⟩ d_Ta_weighPair_113 rfl ?_
          refine r_goto C (tgt := 150) d_Ta_weighPair_116 (by decide) ?_
          refine r_sub [1, 2, 3, 4, 5] (lv' := [(0, .ref (gA X 16)), (2, .int x2), (3, .int x3), (4, .int x4), (5, .int x5)]) rfl ?_
          exact t_Ta_weighPair_150 C hR hk17 x2 x3 x4 x5 r_22 h
      · rw [if_pos hc_14] at h
        refine r_iload_n C 3 d_Ta_weighPair_57 rfl rfl ?_
        refine r_iload C 0 d_Ta_weighPair_58 rfl ?_
        refine r_aload_n C 1 d_Ta_weighPair_60 rfl rfl ?_
        refine q_Ta_33 C d_Ta_weighPair_61 ?_
        refine r_iload C 5 d_Ta_weighPair_64 rfl ?_
        refine r_iconst C (v := 0) d_Ta_weighPair_66 (by decide) ?_
        obtain ⟨r_23, er_23, h⟩ := bind_some h
        refine r_callV C (As := [.int x5, .int 0]) (rest := [.int x6_9, .int x3]) (st1 := [.int r_23, .int x6_9, .int x3]) (c_Fo_worthAt X.1.2.1 σ_12 x5 0 er_23) k_Fo_worthAt m_127 (by decide) cel_Fo rfl rfl rfl rfl (Nat.le_of_ble_eq_true rfl) ⟨Nat.le_of_ble_eq_true rfl, Nat.le_of_ble_eq_true rfl⟩ d_Ta_weighPair_67 rfl ?_
        refine r_imul C d_Ta_weighPair_70 ?_
        refine r_iadd C d_Ta_weighPair_71 ?_
        obtain ⟨x3_24, ex3_24, h⟩ := bnd_some h
        refine r_istore_n C (lv' := [(3, .int x3_24), (6, .int x6_9), (0, .ref (gA X 16)), (2, .int x2), (4, .int x4), (5, .int x5)]) d_Ta_weighPair_72 rfl (by decide) ex3_24 rfl ?_
        refine r_iload C 4 d_Ta_weighPair_73 rfl ?_
        refine r_iload C 1 d_Ta_weighPair_75 rfl ?_
        refine r_aload_n C 2 d_Ta_weighPair_77 rfl rfl ?_
        refine q_Ta_33 C d_Ta_weighPair_78 ?_
        refine r_iload C 5 d_Ta_weighPair_81 rfl ?_
        refine r_iconst C (v := 1) d_Ta_weighPair_83 (by decide) ?_
        obtain ⟨r_25, er_25, h⟩ := bind_some h
        refine r_callV C (As := [.int x5, .int 1]) (rest := [.int x6_9, .int x4]) (st1 := [.int r_25, .int x6_9, .int x4]) (c_Fo_worthAt X.1.2.1 σ_12 x5 1 er_25) k_Fo_worthAt m_127 (by decide) cel_Fo rfl rfl rfl rfl (Nat.le_of_ble_eq_true rfl) ⟨Nat.le_of_ble_eq_true rfl, Nat.le_of_ble_eq_true rfl⟩ d_Ta_weighPair_84 rfl ?_
        refine r_imul C d_Ta_weighPair_87 ?_
        refine r_iadd C d_Ta_weighPair_88 ?_
        obtain ⟨x4_26, ex4_26, h⟩ := bnd_some h
        refine r_istore C (lv' := [(4, .int x4_26), (3, .int x3_24), (6, .int x6_9), (0, .ref (gA X 16)), (2, .int x2), (5, .int x5)]) d_Ta_weighPair_89 (by decide) ex4_26 rfl ?_
        refine r_goto C (tgt := 150) d_Ta_weighPair_91 (by decide) ?_
        refine r_sub [3, 4, 1, 0, 5] (lv' := [(0, .ref (gA X 16)), (2, .int x2), (3, .int x3_24), (4, .int x4_26), (5, .int x5)]) rfl ?_
        exact t_Ta_weighPair_150 C hR hk17 x2 x3_24 x4_26 x5 σ_12 h
set_option maxHeartbeats 4000000 in
set_option maxRecDepth 100000 in
theorem u_Ta_weighPair_17 {X : gX} {r : gS} (C : gC X b_Ta_weighPair_c R_Ta 7 2 46) (hR : ∀ pc lv, decode b_Ta_weighPair_c pc = .ok (.return_, 1) → G X pc lv [] r)  (x : Int32 × Int32 × Int32 × Int32 × gS) (h : l_Ta_weighPair_17 x = some r) : G X 17 [(0, .ref (gA X 16)), (2, .int x.1), (3, .int x.2.1), (4, .int x.2.2.1), (5, .int x.2.2.2.1)] [] x.2.2.2.2 :=
  lpF_ind (P := fun x => G X 17 [(0, .ref (gA X 16)), (2, .int x.1), (3, .int x.2.1), (4, .int x.2.2.1), (5, .int x.2.2.2.1)] [] x.2.2.2.2) (fun k hk x h => t_Ta_weighPair_17 C hR hk x.1 x.2.1 x.2.2.1 x.2.2.2.1 x.2.2.2.2 h) gF x h
set_option maxHeartbeats 4000000 in
set_option maxRecDepth 100000 in
theorem t_Ta_weighPair_0 {X : gX} {r : gS} (C : gC X b_Ta_weighPair_c R_Ta 7 2 46) (hR : ∀ pc lv, decode b_Ta_weighPair_c pc = .ok (.return_, 1) → G X pc lv [] r) (x1 : Int32) (x2 : Int32) (σ : gS) (h : b_Ta_weighPair_0 x1 x2 σ = some r) : G X 0 [(0, .ref (gA X 16)), (1, .int x1), (2, .int x2)] [] σ := by
  unfold b_Ta_weighPair_0 at h
  refine r_iconst C (v := 0) d_Ta_weighPair_0 (by decide) ?_
  refine r_istore_n C (lv' := [(3, .int 0), (0, .ref (gA X 16)), (1, .int x1), (2, .int x2)]) d_Ta_weighPair_1 rfl (by decide) rfl rfl ?_
  refine r_iconst C (v := 0) d_Ta_weighPair_2 (by decide) ?_
  refine r_istore C (lv' := [(4, .int 0), (3, .int 0), (0, .ref (gA X 16)), (1, .int x1), (2, .int x2)]) d_Ta_weighPair_3 (by decide) rfl rfl ?_
  refine r_aload_n C 2 d_Ta_weighPair_5 rfl rfl ?_
  refine q_Ta_23 C d_Ta_weighPair_6 ?_
  refine r_iload_n C 3 d_Ta_weighPair_9 rfl rfl ?_
  refine r_sipush C (v := 7776) d_Ta_weighPair_10 (by decide) ?_
  obtain ⟨hi_1, h⟩ := ck_some h
  obtain ⟨σ_2, eσ_2, h⟩ := bnd_some h
  refine r_iast C hi_1 eσ_2 d_Ta_weighPair_13 ?_
  refine r_iload_n C 3 d_Ta_weighPair_14 rfl rfl ?_
  refine r_istore C (lv' := [(5, .int x1), (4, .int 0), (3, .int 0), (0, .ref (gA X 16)), (1, .int x1), (2, .int x2)]) d_Ta_weighPair_15 (by decide) rfl rfl ?_
  refine r_sub [3, 5, 2, 1, 0] (lv' := [(0, .ref (gA X 16)), (2, .int x2), (3, .int 0), (4, .int 0), (5, .int x1)]) rfl ?_
  exact u_Ta_weighPair_17 C hR  (x2, 0, 0, x1, σ_2) h
set_option maxHeartbeats 4000000 in
set_option maxRecDepth 100000 in
theorem c_Ta_weighPair (l : Launch) (σ : gS) (x1 : Int32) (x2 : Int32) {r : gS} (h : f_Ta_weighPair σ x1 x2 = some r) : gMet l y_Ta_weighPair b_Ta_weighPair_c 7 (none) 2 46 (fun a => [.ref (a 16), .int x1, .int x2]) σ (none) r := by
  refine gMet_v (by decide +kernel) (fun a => Nat.le_of_ble_eq_true rfl) (fun X _ C hR => ?_)
  refine r_sub [0, 1, 2] (lv' := [(0, .ref (gA X 16)), (1, .int x1), (2, .int x2)]) rfl ?_
  exact t_Ta_weighPair_0 C hR x1 x2 σ h
theorem d_Fo_isPlayedFrom_0 : decode b_Fo_isPlayedFrom_c 0 = .ok (.aload_n 0, 1) := by decide +kernel
theorem d_Fo_isPlayedFrom_1 : decode b_Fo_isPlayedFrom_c 1 = .ok (.getfield 56, 3) := by decide +kernel
theorem d_Fo_isPlayedFrom_4 : decode b_Fo_isPlayedFrom_c 4 = .ok (.iload_n 3, 1) := by decide +kernel
theorem d_Fo_isPlayedFrom_5 : decode b_Fo_isPlayedFrom_c 5 = .ok (.iaload, 1) := by decide +kernel
theorem d_Fo_isPlayedFrom_6 : decode b_Fo_isPlayedFrom_c 6 = .ok (.iload_n 2, 1) := by decide +kernel
theorem d_Fo_isPlayedFrom_7 : decode b_Fo_isPlayedFrom_c 7 = .ok (.if_icmp .ne 21, 3) := by decide +kernel
theorem d_Fo_isPlayedFrom_10 : decode b_Fo_isPlayedFrom_c 10 = .ok (.aload_n 0, 1) := by decide +kernel
theorem d_Fo_isPlayedFrom_11 : decode b_Fo_isPlayedFrom_c 11 = .ok (.getfield 53, 3) := by decide +kernel
theorem d_Fo_isPlayedFrom_14 : decode b_Fo_isPlayedFrom_c 14 = .ok (.iload_n 1, 1) := by decide +kernel
theorem d_Fo_isPlayedFrom_15 : decode b_Fo_isPlayedFrom_c 15 = .ok (.iaload, 1) := by decide +kernel
theorem d_Fo_isPlayedFrom_16 : decode b_Fo_isPlayedFrom_c 16 = .ok (.i2l, 1) := by decide +kernel
theorem d_Fo_isPlayedFrom_17 : decode b_Fo_isPlayedFrom_c 17 = .ok (.iload_n 3, 1) := by decide +kernel
theorem d_Fo_isPlayedFrom_18 : decode b_Fo_isPlayedFrom_c 18 = .ok (.invokestatic 106, 3) := by decide +kernel
theorem d_Fo_isPlayedFrom_21 : decode b_Fo_isPlayedFrom_c 21 = .ok (.ifCond .eq 7, 3) := by decide +kernel
theorem d_Fo_isPlayedFrom_24 : decode b_Fo_isPlayedFrom_c 24 = .ok (.iconst 1, 1) := by decide +kernel
theorem d_Fo_isPlayedFrom_25 : decode b_Fo_isPlayedFrom_c 25 = .ok (.goto 4, 3) := by decide +kernel
theorem d_Fo_isPlayedFrom_28 : decode b_Fo_isPlayedFrom_c 28 = .ok (.iconst 0, 1) := by decide +kernel
theorem d_Fo_isPlayedFrom_29 : decode b_Fo_isPlayedFrom_c 29 = .ok (.ireturn, 1) := by decide +kernel
/-! GameRows$Forest.isPlayedFrom(III)Z -/
set_option maxHeartbeats 4000000 in
set_option maxRecDepth 100000 in
theorem t_Fo_isPlayedFrom_0 {X : gX} {r : Int32} {σ : gS} (C : gC X b_Fo_isPlayedFrom_c R_Fo 4 1 22) (hR : ∀ pc lv, isB r = true → decode b_Fo_isPlayedFrom_c pc = .ok (.ireturn, 1) → G X pc lv [.int r] σ) (x1 : Int32) (x2 : Int32) (x3 : Int32) (h : b_Fo_isPlayedFrom_0 σ x1 x2 x3 = some r) : G X 0 [(0, .ref (gA X 1)), (1, .int x1), (2, .int x2), (3, .int x3)] [] σ := by
  unfold b_Fo_isPlayedFrom_0 at h
  refine r_aload_n C 0 d_Fo_isPlayedFrom_0 rfl rfl ?_
  refine q_Fo_56 C d_Fo_isPlayedFrom_1 ?_
  refine r_iload_n C 3 d_Fo_isPlayedFrom_4 rfl rfl ?_
  obtain ⟨hi_1, h⟩ := ck_some h
  refine r_iald C hi_1 d_Fo_isPlayedFrom_5 ?_
  refine r_iload_n C 2 d_Fo_isPlayedFrom_6 rfl rfl ?_
  refine r_icmp_ne C (tgt := 28) d_Fo_isPlayedFrom_7 (by decide) (fun hc_2 => ?_) (fun hc_2 => ?_)
  · rw [if_neg hc_2] at h
    refine r_iconst C (v := 0) d_Fo_isPlayedFrom_28 (by decide) ?_
    obtain ⟨hB, h⟩ := ck_some h
    cases h
    exact hR _ _ hB d_Fo_isPlayedFrom_29
  · rw [if_pos hc_2] at h
    refine r_aload_n C 0 d_Fo_isPlayedFrom_10 rfl rfl ?_
    refine q_Fo_53 C d_Fo_isPlayedFrom_11 ?_
    refine r_iload_n C 1 d_Fo_isPlayedFrom_14 rfl rfl ?_
    obtain ⟨hi_3, h⟩ := ck_some h
    refine r_iald C hi_3 d_Fo_isPlayedFrom_15 ?_
    refine r_i2l C d_Fo_isPlayedFrom_16 ?_
    refine r_iload_n C 3 d_Fo_isPlayedFrom_17 rfl rfl ?_
    obtain ⟨r_4, er_4, h⟩ := bind_some h
    refine r_callSN C (As := [.long ((gI σ 12 x1.toNatClampNeg).toInt64), .int x3]) (rest := []) (st1 := [.int r_4]) (c_Ga_hasBit X.1.2.1 σ ((gI σ 12 x1.toNatClampNeg).toInt64) x3 er_4) k_Ga_hasBit n_Fo_106 rfl rfl rfl (Nat.le_of_ble_eq_true rfl) ⟨Nat.le_of_ble_eq_true rfl, Nat.le_of_ble_eq_true rfl⟩ d_Fo_isPlayedFrom_18 rfl ?_
    refine r_if_eq C (tgt := 28) d_Fo_isPlayedFrom_21 (by decide) (fun hc_5 => ?_) (fun hc_5 => ?_)
    · rw [if_pos hc_5] at h
      refine r_iconst C (v := 0) d_Fo_isPlayedFrom_28 (by decide) ?_
      obtain ⟨hB, h⟩ := ck_some h
      cases h
      exact hR _ _ hB d_Fo_isPlayedFrom_29
    · rw [if_neg hc_5] at h
      refine r_iconst C (v := 1) d_Fo_isPlayedFrom_24 (by decide) ?_
      refine r_goto C (tgt := 29) d_Fo_isPlayedFrom_25 (by decide) ?_
      obtain ⟨hB, h⟩ := ck_some h
      cases h
      exact hR _ _ hB d_Fo_isPlayedFrom_29
set_option maxHeartbeats 4000000 in
set_option maxRecDepth 100000 in
theorem c_Fo_isPlayedFrom (l : Launch) (σ : gS) (x1 : Int32) (x2 : Int32) (x3 : Int32) {r : Int32} (h : f_Fo_isPlayedFrom σ x1 x2 x3 = some r) : gMet l y_Fo_isPlayedFrom b_Fo_isPlayedFrom_c 4 (some .boolean) 1 22 (fun a => [.ref (a 1), .int x1, .int x2, .int x3]) σ (some (.int r)) σ := by
  refine gMet_z (by decide +kernel) (fun a => Nat.le_of_ble_eq_true rfl) (fun X _ C hR => ?_)
  refine r_sub [0, 1, 2, 3] (lv' := [(0, .ref (gA X 1)), (1, .int x1), (2, .int x2), (3, .int x3)]) rfl ?_
  exact t_Fo_isPlayedFrom_0 C hR x1 x2 x3 h
theorem d_Fo_stepPlan_0 : decode b_Fo_stepPlan_c 0 = .ok (.aload_n 0, 1) := by decide +kernel
theorem d_Fo_stepPlan_1 : decode b_Fo_stepPlan_c 1 = .ok (.getfield 15, 3) := by decide +kernel
theorem d_Fo_stepPlan_4 : decode b_Fo_stepPlan_c 4 = .ok (.iconst 1, 1) := by decide +kernel
theorem d_Fo_stepPlan_5 : decode b_Fo_stepPlan_c 5 = .ok (.isub, 1) := by decide +kernel
theorem d_Fo_stepPlan_6 : decode b_Fo_stepPlan_c 6 = .ok (.istore 4, 2) := by decide +kernel
theorem d_Fo_stepPlan_8 : decode b_Fo_stepPlan_c 8 = .ok (.iload 4, 2) := by decide +kernel
theorem d_Fo_stepPlan_10 : decode b_Fo_stepPlan_c 10 = .ok (.ifCond .lt 48, 3) := by decide +kernel
theorem d_Fo_stepPlan_13 : decode b_Fo_stepPlan_c 13 = .ok (.aload_n 0, 1) := by decide +kernel
theorem d_Fo_stepPlan_14 : decode b_Fo_stepPlan_c 14 = .ok (.iload_n 1, 1) := by decide +kernel
theorem d_Fo_stepPlan_15 : decode b_Fo_stepPlan_c 15 = .ok (.iload_n 2, 1) := by decide +kernel
theorem d_Fo_stepPlan_16 : decode b_Fo_stepPlan_c 16 = .ok (.iload 4, 2) := by decide +kernel
theorem d_Fo_stepPlan_18 : decode b_Fo_stepPlan_c 18 = .ok (.invokevirtual 110, 3) := by decide +kernel
theorem d_Fo_stepPlan_21 : decode b_Fo_stepPlan_c 21 = .ok (.ifCond .eq 31, 3) := by decide +kernel
theorem d_Fo_stepPlan_24 : decode b_Fo_stepPlan_c 24 = .ok (.aload_n 3, 1) := by decide +kernel
theorem d_Fo_stepPlan_25 : decode b_Fo_stepPlan_c 25 = .ok (.iload 4, 2) := by decide +kernel
theorem d_Fo_stepPlan_27 : decode b_Fo_stepPlan_c 27 = .ok (.dup2, 1) := by decide +kernel
theorem d_Fo_stepPlan_28 : decode b_Fo_stepPlan_c 28 = .ok (.iaload, 1) := by decide +kernel
theorem d_Fo_stepPlan_29 : decode b_Fo_stepPlan_c 29 = .ok (.iconst 1, 1) := by decide +kernel
theorem d_Fo_stepPlan_30 : decode b_Fo_stepPlan_c 30 = .ok (.iadd, 1) := by decide +kernel
theorem d_Fo_stepPlan_31 : decode b_Fo_stepPlan_c 31 = .ok (.iastore, 1) := by decide +kernel
theorem d_Fo_stepPlan_32 : decode b_Fo_stepPlan_c 32 = .ok (.aload_n 3, 1) := by decide +kernel
theorem d_Fo_stepPlan_33 : decode b_Fo_stepPlan_c 33 = .ok (.iload 4, 2) := by decide +kernel
theorem d_Fo_stepPlan_35 : decode b_Fo_stepPlan_c 35 = .ok (.iaload, 1) := by decide +kernel
theorem d_Fo_stepPlan_36 : decode b_Fo_stepPlan_c 36 = .ok (.aload_n 0, 1) := by decide +kernel
theorem d_Fo_stepPlan_37 : decode b_Fo_stepPlan_c 37 = .ok (.getfield 31, 3) := by decide +kernel
theorem d_Fo_stepPlan_40 : decode b_Fo_stepPlan_c 40 = .ok (.iload 4, 2) := by decide +kernel
theorem d_Fo_stepPlan_42 : decode b_Fo_stepPlan_c 42 = .ok (.iaload, 1) := by decide +kernel
theorem d_Fo_stepPlan_43 : decode b_Fo_stepPlan_c 43 = .ok (.if_icmp .ge 4, 3) := by decide +kernel
theorem d_Fo_stepPlan_46 : decode b_Fo_stepPlan_c 46 = .ok (.return_, 1) := by decide +kernel
theorem d_Fo_stepPlan_47 : decode b_Fo_stepPlan_c 47 = .ok (.aload_n 3, 1) := by decide +kernel
theorem d_Fo_stepPlan_48 : decode b_Fo_stepPlan_c 48 = .ok (.iload 4, 2) := by decide +kernel
theorem d_Fo_stepPlan_50 : decode b_Fo_stepPlan_c 50 = .ok (.iconst 0, 1) := by decide +kernel
theorem d_Fo_stepPlan_51 : decode b_Fo_stepPlan_c 51 = .ok (.iastore, 1) := by decide +kernel
theorem d_Fo_stepPlan_52 : decode b_Fo_stepPlan_c 52 = .ok (.iinc 4 (-1), 3) := by decide +kernel
theorem d_Fo_stepPlan_55 : decode b_Fo_stepPlan_c 55 = .ok (.goto (-47), 3) := by decide +kernel
theorem d_Fo_stepPlan_58 : decode b_Fo_stepPlan_c 58 = .ok (.return_, 1) := by decide +kernel
/-! GameRows$Forest.stepPlan(II[I)V -/
set_option maxHeartbeats 4000000 in
set_option maxRecDepth 100000 in
theorem t_Fo_stepPlan_52 {X : gX} {r : gS} (C : gC X b_Fo_stepPlan_c R_Fo 5 2 45) (hR : ∀ pc lv, decode b_Fo_stepPlan_c pc = .ok (.return_, 1) → G X pc lv [] r) {k8 : Int32 × Int32 × Nat × Int32 × gS → Option gS}  (hk8 : ∀ x, k8 x = some r → G X 8 [(0, .ref (gA X 1)), (1, .int x.1), (2, .int x.2.1), (3, .ref (gA X x.2.2.1)), (4, .int x.2.2.2.1)] [] x.2.2.2.2) (x1 : Int32) (x2 : Int32) (x3 : Nat) (x4 : Int32) (σ : gS) (h : b_Fo_stepPlan_52 k8 x1 x2 x3 x4 σ = some r) : G X 52 [(0, .ref (gA X 1)), (1, .int x1), (2, .int x2), (3, .ref (gA X x3)), (4, .int x4)] [] σ := by
  unfold b_Fo_stepPlan_52 at h
  obtain ⟨x4_1, ex4_1, h⟩ := bnd_some h
  refine r_iinc C 4 (lv' := [(4, .int x4_1), (0, .ref (gA X 1)), (1, .int x1), (2, .int x2), (3, .ref (gA X x3))]) d_Fo_stepPlan_52 rfl (by rw [ex4_1]; rfl) (by decide) rfl ?_
  refine r_goto C (tgt := 8) d_Fo_stepPlan_55 (by decide) ?_
  refine r_sub [1, 2, 3, 4, 0] (lv' := [(0, .ref (gA X 1)), (1, .int x1), (2, .int x2), (3, .ref (gA X x3)), (4, .int x4_1)]) rfl ?_
  exact hk8 _ h
set_option maxHeartbeats 4000000 in
set_option maxRecDepth 100000 in
theorem t_Fo_stepPlan_8 {X : gX} {r : gS} (C : gC X b_Fo_stepPlan_c R_Fo 5 2 45) (hR : ∀ pc lv, decode b_Fo_stepPlan_c pc = .ok (.return_, 1) → G X pc lv [] r) {k8 : Int32 × Int32 × Nat × Int32 × gS → Option gS}  (hk8 : ∀ x, k8 x = some r → G X 8 [(0, .ref (gA X 1)), (1, .int x.1), (2, .int x.2.1), (3, .ref (gA X x.2.2.1)), (4, .int x.2.2.2.1)] [] x.2.2.2.2) (x1 : Int32) (x2 : Int32) (x3 : Nat) (x4 : Int32) (σ : gS) (h : b_Fo_stepPlan_8 k8 x1 x2 x3 x4 σ = some r) : G X 8 [(0, .ref (gA X 1)), (1, .int x1), (2, .int x2), (3, .ref (gA X x3)), (4, .int x4)] [] σ := by
  unfold b_Fo_stepPlan_8 at h
  refine r_iload C 4 d_Fo_stepPlan_8 rfl ?_
  refine r_if_lt C (tgt := 58) d_Fo_stepPlan_10 (by decide) (fun hc_1 => ?_) (fun hc_1 => ?_)
  · rw [if_pos hc_1] at h
    cases h
    exact hR _ _ d_Fo_stepPlan_58
  · rw [if_neg hc_1] at h
    refine r_aload_n C 0 d_Fo_stepPlan_13 rfl rfl ?_
    refine r_iload_n C 1 d_Fo_stepPlan_14 rfl rfl ?_
    refine r_iload_n C 2 d_Fo_stepPlan_15 rfl rfl ?_
    refine r_iload C 4 d_Fo_stepPlan_16 rfl ?_
    obtain ⟨r_2, er_2, h⟩ := bind_some h
    refine r_callV C (As := [.int x1, .int x2, .int x4]) (rest := []) (st1 := [.int r_2]) (c_Fo_isPlayedFrom X.1.2.1 σ x1 x2 x4 er_2) k_Fo_isPlayedFrom m_131 (by decide) cel_Fo rfl rfl rfl rfl (Nat.le_of_ble_eq_true rfl) ⟨Nat.le_of_ble_eq_true rfl, Nat.le_of_ble_eq_true rfl⟩ d_Fo_stepPlan_18 rfl ?_
    refine r_if_eq C (tgt := 52) d_Fo_stepPlan_21 (by decide) (fun hc_3 => ?_) (fun hc_3 => ?_)
    · rw [if_pos hc_3] at h
      exact t_Fo_stepPlan_52 C hR hk8 x1 x2 x3 x4 σ h
    · rw [if_neg hc_3] at h
      refine r_aload_n C 3 d_Fo_stepPlan_24 rfl rfl ?_
      refine r_iload C 4 d_Fo_stepPlan_25 rfl ?_
      refine r_dup2_11 C d_Fo_stepPlan_27 rfl rfl ?_
      obtain ⟨hi_4, h⟩ := ck_some h
      refine r_iald C hi_4 d_Fo_stepPlan_28 ?_
      refine r_iconst C (v := 1) d_Fo_stepPlan_29 (by decide) ?_
      refine r_iadd C d_Fo_stepPlan_30 ?_
      obtain ⟨hi_5, h⟩ := ck_some h
      obtain ⟨σ_6, eσ_6, h⟩ := bnd_some h
      refine r_iast C hi_5 eσ_6 d_Fo_stepPlan_31 ?_
      refine r_aload_n C 3 d_Fo_stepPlan_32 rfl rfl ?_
      refine r_iload C 4 d_Fo_stepPlan_33 rfl ?_
      obtain ⟨hi_7, h⟩ := ck_some h
      refine r_iald C hi_7 d_Fo_stepPlan_35 ?_
      refine r_aload_n C 0 d_Fo_stepPlan_36 rfl rfl ?_
      refine q_Fo_31 C d_Fo_stepPlan_37 ?_
      refine r_iload C 4 d_Fo_stepPlan_40 rfl ?_
      obtain ⟨hi_8, h⟩ := ck_some h
      refine r_iald C hi_8 d_Fo_stepPlan_42 ?_
      refine r_icmp_ge C (tgt := 47) d_Fo_stepPlan_43 (by decide) (fun hc_9 => ?_) (fun hc_9 => ?_)
      · rw [if_pos hc_9] at h
        refine r_aload_n C 3 d_Fo_stepPlan_47 rfl rfl ?_
        refine r_iload C 4 d_Fo_stepPlan_48 rfl ?_
        refine r_iconst C (v := 0) d_Fo_stepPlan_50 (by decide) ?_
        obtain ⟨hi_10, h⟩ := ck_some h
        obtain ⟨σ_11, eσ_11, h⟩ := bnd_some h
        refine r_iast C hi_10 eσ_11 d_Fo_stepPlan_51 ?_
        exact t_Fo_stepPlan_52 C hR hk8 x1 x2 x3 x4 σ_11 h
      · rw [if_neg hc_9] at h
        cases h
        exact hR _ _ d_Fo_stepPlan_46
set_option maxHeartbeats 4000000 in
set_option maxRecDepth 100000 in
theorem u_Fo_stepPlan_8 {X : gX} {r : gS} (C : gC X b_Fo_stepPlan_c R_Fo 5 2 45) (hR : ∀ pc lv, decode b_Fo_stepPlan_c pc = .ok (.return_, 1) → G X pc lv [] r)  (x : Int32 × Int32 × Nat × Int32 × gS) (h : l_Fo_stepPlan_8 x = some r) : G X 8 [(0, .ref (gA X 1)), (1, .int x.1), (2, .int x.2.1), (3, .ref (gA X x.2.2.1)), (4, .int x.2.2.2.1)] [] x.2.2.2.2 :=
  lpF_ind (P := fun x => G X 8 [(0, .ref (gA X 1)), (1, .int x.1), (2, .int x.2.1), (3, .ref (gA X x.2.2.1)), (4, .int x.2.2.2.1)] [] x.2.2.2.2) (fun k hk x h => t_Fo_stepPlan_8 C hR hk x.1 x.2.1 x.2.2.1 x.2.2.2.1 x.2.2.2.2 h) gF x h
set_option maxHeartbeats 4000000 in
set_option maxRecDepth 100000 in
theorem t_Fo_stepPlan_0 {X : gX} {r : gS} (C : gC X b_Fo_stepPlan_c R_Fo 5 2 45) (hR : ∀ pc lv, decode b_Fo_stepPlan_c pc = .ok (.return_, 1) → G X pc lv [] r) (x1 : Int32) (x2 : Int32) (x3 : Nat) (σ : gS) (h : b_Fo_stepPlan_0 x1 x2 x3 σ = some r) : G X 0 [(0, .ref (gA X 1)), (1, .int x1), (2, .int x2), (3, .ref (gA X x3))] [] σ := by
  unfold b_Fo_stepPlan_0 at h
  refine r_aload_n C 0 d_Fo_stepPlan_0 rfl rfl ?_
  refine q_Fo_15 C d_Fo_stepPlan_1 ?_
  refine r_iconst C (v := 1) d_Fo_stepPlan_4 (by decide) ?_
  refine r_isub C d_Fo_stepPlan_5 ?_
  obtain ⟨x4_1, ex4_1, h⟩ := bnd_some h
  refine r_istore C (lv' := [(4, .int x4_1), (0, .ref (gA X 1)), (1, .int x1), (2, .int x2), (3, .ref (gA X x3))]) d_Fo_stepPlan_6 (by decide) ex4_1 rfl ?_
  refine r_sub [1, 2, 3, 4, 0] (lv' := [(0, .ref (gA X 1)), (1, .int x1), (2, .int x2), (3, .ref (gA X x3)), (4, .int x4_1)]) rfl ?_
  exact u_Fo_stepPlan_8 C hR  (x1, x2, x3, x4_1, σ) h
set_option maxHeartbeats 4000000 in
set_option maxRecDepth 100000 in
theorem c_Fo_stepPlan (l : Launch) (σ : gS) (x1 : Int32) (x2 : Int32) (x3 : Nat) {r : gS} (h : f_Fo_stepPlan σ x1 x2 x3 = some r) : gMet l y_Fo_stepPlan b_Fo_stepPlan_c 5 (none) 2 45 (fun a => [.ref (a 1), .int x1, .int x2, .ref (a x3)]) σ (none) r := by
  refine gMet_v (by decide +kernel) (fun a => Nat.le_of_ble_eq_true rfl) (fun X _ C hR => ?_)
  refine r_sub [0, 1, 2, 3] (lv' := [(0, .ref (gA X 1)), (1, .int x1), (2, .int x2), (3, .ref (gA X x3))]) rfl ?_
  exact t_Fo_stepPlan_0 C hR x1 x2 x3 σ h
theorem d_Ta_fillFrom_0 : decode b_Ta_fillFrom_c 0 = .ok (.aload_n 0, 1) := by decide +kernel
theorem d_Ta_fillFrom_1 : decode b_Ta_fillFrom_c 1 = .ok (.getfield 26, 3) := by decide +kernel
theorem d_Ta_fillFrom_4 : decode b_Ta_fillFrom_c 4 = .ok (.aload_n 0, 1) := by decide +kernel
theorem d_Ta_fillFrom_5 : decode b_Ta_fillFrom_c 5 = .ok (.getfield 33, 3) := by decide +kernel
theorem d_Ta_fillFrom_8 : decode b_Ta_fillFrom_c 8 = .ok (.getfield 47, 3) := by decide +kernel
theorem d_Ta_fillFrom_11 : decode b_Ta_fillFrom_c 11 = .ok (.if_icmp .ne 12, 3) := by decide +kernel
theorem d_Ta_fillFrom_14 : decode b_Ta_fillFrom_c 14 = .ok (.aload_n 0, 1) := by decide +kernel
theorem d_Ta_fillFrom_15 : decode b_Ta_fillFrom_c 15 = .ok (.getfield 30, 3) := by decide +kernel
theorem d_Ta_fillFrom_18 : decode b_Ta_fillFrom_c 18 = .ok (.iload_n 1, 1) := by decide +kernel
theorem d_Ta_fillFrom_19 : decode b_Ta_fillFrom_c 19 = .ok (.if_icmp .ne 4, 3) := by decide +kernel
theorem d_Ta_fillFrom_22 : decode b_Ta_fillFrom_c 22 = .ok (.return_, 1) := by decide +kernel
theorem d_Ta_fillFrom_23 : decode b_Ta_fillFrom_c 23 = .ok (.aload_n 0, 1) := by decide +kernel
theorem d_Ta_fillFrom_24 : decode b_Ta_fillFrom_c 24 = .ok (.aload_n 0, 1) := by decide +kernel
theorem d_Ta_fillFrom_25 : decode b_Ta_fillFrom_c 25 = .ok (.getfield 33, 3) := by decide +kernel
theorem d_Ta_fillFrom_28 : decode b_Ta_fillFrom_c 28 = .ok (.getfield 47, 3) := by decide +kernel
theorem d_Ta_fillFrom_31 : decode b_Ta_fillFrom_c 31 = .ok (.putfield 26, 3) := by decide +kernel
theorem d_Ta_fillFrom_34 : decode b_Ta_fillFrom_c 34 = .ok (.aload_n 0, 1) := by decide +kernel
theorem d_Ta_fillFrom_35 : decode b_Ta_fillFrom_c 35 = .ok (.iload_n 1, 1) := by decide +kernel
theorem d_Ta_fillFrom_36 : decode b_Ta_fillFrom_c 36 = .ok (.putfield 30, 3) := by decide +kernel
theorem d_Ta_fillFrom_39 : decode b_Ta_fillFrom_c 39 = .ok (.aload_n 0, 1) := by decide +kernel
theorem d_Ta_fillFrom_40 : decode b_Ta_fillFrom_c 40 = .ok (.getfield 9, 3) := by decide +kernel
theorem d_Ta_fillFrom_43 : decode b_Ta_fillFrom_c 43 = .ok (.iconst 0, 1) := by decide +kernel
theorem d_Ta_fillFrom_44 : decode b_Ta_fillFrom_c 44 = .ok (.aload_n 0, 1) := by decide +kernel
theorem d_Ta_fillFrom_45 : decode b_Ta_fillFrom_c 45 = .ok (.getfield 33, 3) := by decide +kernel
theorem d_Ta_fillFrom_48 : decode b_Ta_fillFrom_c 48 = .ok (.iload_n 1, 1) := by decide +kernel
theorem d_Ta_fillFrom_49 : decode b_Ta_fillFrom_c 49 = .ok (.iconst 0, 1) := by decide +kernel
theorem d_Ta_fillFrom_50 : decode b_Ta_fillFrom_c 50 = .ok (.invokevirtual 50, 3) := by decide +kernel
theorem d_Ta_fillFrom_53 : decode b_Ta_fillFrom_c 53 = .ok (.iastore, 1) := by decide +kernel
theorem d_Ta_fillFrom_54 : decode b_Ta_fillFrom_c 54 = .ok (.aload_n 0, 1) := by decide +kernel
theorem d_Ta_fillFrom_55 : decode b_Ta_fillFrom_c 55 = .ok (.getfield 9, 3) := by decide +kernel
theorem d_Ta_fillFrom_58 : decode b_Ta_fillFrom_c 58 = .ok (.iconst 1, 1) := by decide +kernel
theorem d_Ta_fillFrom_59 : decode b_Ta_fillFrom_c 59 = .ok (.aload_n 0, 1) := by decide +kernel
theorem d_Ta_fillFrom_60 : decode b_Ta_fillFrom_c 60 = .ok (.getfield 33, 3) := by decide +kernel
theorem d_Ta_fillFrom_63 : decode b_Ta_fillFrom_c 63 = .ok (.iload_n 1, 1) := by decide +kernel
theorem d_Ta_fillFrom_64 : decode b_Ta_fillFrom_c 64 = .ok (.iconst 1, 1) := by decide +kernel
theorem d_Ta_fillFrom_65 : decode b_Ta_fillFrom_c 65 = .ok (.invokevirtual 50, 3) := by decide +kernel
theorem d_Ta_fillFrom_68 : decode b_Ta_fillFrom_c 68 = .ok (.iastore, 1) := by decide +kernel
theorem d_Ta_fillFrom_69 : decode b_Ta_fillFrom_c 69 = .ok (.aload_n 0, 1) := by decide +kernel
theorem d_Ta_fillFrom_70 : decode b_Ta_fillFrom_c 70 = .ok (.getfield 20, 3) := by decide +kernel
theorem d_Ta_fillFrom_73 : decode b_Ta_fillFrom_c 73 = .ok (.iconst 0, 1) := by decide +kernel
theorem d_Ta_fillFrom_74 : decode b_Ta_fillFrom_c 74 = .ok (.invokestatic 54, 3) := by decide +kernel
theorem d_Ta_fillFrom_77 : decode b_Ta_fillFrom_c 77 = .ok (.iconst 0, 1) := by decide +kernel
theorem d_Ta_fillFrom_78 : decode b_Ta_fillFrom_c 78 = .ok (.istore_n 2, 1) := by decide +kernel
theorem d_Ta_fillFrom_79 : decode b_Ta_fillFrom_c 79 = .ok (.iload_n 2, 1) := by decide +kernel
theorem d_Ta_fillFrom_80 : decode b_Ta_fillFrom_c 80 = .ok (.aload_n 0, 1) := by decide +kernel
theorem d_Ta_fillFrom_81 : decode b_Ta_fillFrom_c 81 = .ok (.getfield 9, 3) := by decide +kernel
theorem d_Ta_fillFrom_84 : decode b_Ta_fillFrom_c 84 = .ok (.iconst 0, 1) := by decide +kernel
theorem d_Ta_fillFrom_85 : decode b_Ta_fillFrom_c 85 = .ok (.iaload, 1) := by decide +kernel
theorem d_Ta_fillFrom_86 : decode b_Ta_fillFrom_c 86 = .ok (.if_icmp .ge 64, 3) := by decide +kernel
theorem d_Ta_fillFrom_89 : decode b_Ta_fillFrom_c 89 = .ok (.iconst 0, 1) := by decide +kernel
theorem d_Ta_fillFrom_90 : decode b_Ta_fillFrom_c 90 = .ok (.istore_n 3, 1) := by decide +kernel
theorem d_Ta_fillFrom_91 : decode b_Ta_fillFrom_c 91 = .ok (.iload_n 3, 1) := by decide +kernel
theorem d_Ta_fillFrom_92 : decode b_Ta_fillFrom_c 92 = .ok (.aload_n 0, 1) := by decide +kernel
theorem d_Ta_fillFrom_93 : decode b_Ta_fillFrom_c 93 = .ok (.getfield 9, 3) := by decide +kernel
theorem d_Ta_fillFrom_96 : decode b_Ta_fillFrom_c 96 = .ok (.iconst 1, 1) := by decide +kernel
theorem d_Ta_fillFrom_97 : decode b_Ta_fillFrom_c 97 = .ok (.iaload, 1) := by decide +kernel
theorem d_Ta_fillFrom_98 : decode b_Ta_fillFrom_c 98 = .ok (.if_icmp .ge 33, 3) := by decide +kernel
theorem d_Ta_fillFrom_101 : decode b_Ta_fillFrom_c 101 = .ok (.aload_n 0, 1) := by decide +kernel
theorem d_Ta_fillFrom_102 : decode b_Ta_fillFrom_c 102 = .ok (.iload_n 1, 1) := by decide +kernel
theorem d_Ta_fillFrom_103 : decode b_Ta_fillFrom_c 103 = .ok (.bipush 64, 2) := by decide +kernel
theorem d_Ta_fillFrom_105 : decode b_Ta_fillFrom_c 105 = .ok (.iload_n 2, 1) := by decide +kernel
theorem d_Ta_fillFrom_106 : decode b_Ta_fillFrom_c 106 = .ok (.imul, 1) := by decide +kernel
theorem d_Ta_fillFrom_107 : decode b_Ta_fillFrom_c 107 = .ok (.iload_n 3, 1) := by decide +kernel
theorem d_Ta_fillFrom_108 : decode b_Ta_fillFrom_c 108 = .ok (.iadd, 1) := by decide +kernel
theorem d_Ta_fillFrom_109 : decode b_Ta_fillFrom_c 109 = .ok (.invokevirtual 60, 3) := by decide +kernel
theorem d_Ta_fillFrom_112 : decode b_Ta_fillFrom_c 112 = .ok (.aload_n 0, 1) := by decide +kernel
theorem d_Ta_fillFrom_113 : decode b_Ta_fillFrom_c 113 = .ok (.getfield 33, 3) := by decide +kernel
theorem d_Ta_fillFrom_116 : decode b_Ta_fillFrom_c 116 = .ok (.iload_n 1, 1) := by decide +kernel
theorem d_Ta_fillFrom_117 : decode b_Ta_fillFrom_c 117 = .ok (.iconst 1, 1) := by decide +kernel
theorem d_Ta_fillFrom_118 : decode b_Ta_fillFrom_c 118 = .ok (.aload_n 0, 1) := by decide +kernel
theorem d_Ta_fillFrom_119 : decode b_Ta_fillFrom_c 119 = .ok (.getfield 20, 3) := by decide +kernel
theorem d_Ta_fillFrom_122 : decode b_Ta_fillFrom_c 122 = .ok (.invokevirtual 64, 3) := by decide +kernel
theorem d_Ta_fillFrom_125 : decode b_Ta_fillFrom_c 125 = .ok (.iinc 3 1, 3) := by decide +kernel
theorem d_Ta_fillFrom_128 : decode b_Ta_fillFrom_c 128 = .ok (.goto (-37), 3) := by decide +kernel
theorem d_Ta_fillFrom_131 : decode b_Ta_fillFrom_c 131 = .ok (.aload_n 0, 1) := by decide +kernel
theorem d_Ta_fillFrom_132 : decode b_Ta_fillFrom_c 132 = .ok (.getfield 33, 3) := by decide +kernel
theorem d_Ta_fillFrom_135 : decode b_Ta_fillFrom_c 135 = .ok (.iload_n 1, 1) := by decide +kernel
theorem d_Ta_fillFrom_136 : decode b_Ta_fillFrom_c 136 = .ok (.iconst 0, 1) := by decide +kernel
theorem d_Ta_fillFrom_137 : decode b_Ta_fillFrom_c 137 = .ok (.aload_n 0, 1) := by decide +kernel
theorem d_Ta_fillFrom_138 : decode b_Ta_fillFrom_c 138 = .ok (.getfield 20, 3) := by decide +kernel
theorem d_Ta_fillFrom_141 : decode b_Ta_fillFrom_c 141 = .ok (.invokevirtual 64, 3) := by decide +kernel
theorem d_Ta_fillFrom_144 : decode b_Ta_fillFrom_c 144 = .ok (.iinc 2 1, 3) := by decide +kernel
theorem d_Ta_fillFrom_147 : decode b_Ta_fillFrom_c 147 = .ok (.goto (-68), 3) := by decide +kernel
theorem d_Ta_fillFrom_150 : decode b_Ta_fillFrom_c 150 = .ok (.return_, 1) := by decide +kernel
/-! GameRows$Table.fillFrom(I)V -/
set_option maxHeartbeats 4000000 in
set_option maxRecDepth 100000 in
theorem t_Ta_fillFrom_91 {X : gX} {r : gS} (C : gC X b_Ta_fillFrom_c R_Ta 4 3 72) (hR : ∀ pc lv, decode b_Ta_fillFrom_c pc = .ok (.return_, 1) → G X pc lv [] r) {k79 : Int32 × Int32 × gS → Option gS}  {k91 : Int32 × Int32 × Int32 × gS → Option gS}  (hk79 : ∀ x, k79 x = some r → G X 79 [(0, .ref (gA X 16)), (1, .int x.1), (2, .int x.2.1)] [] x.2.2) (hk91 : ∀ x, k91 x = some r → G X 91 [(0, .ref (gA X 16)), (1, .int x.1), (2, .int x.2.1), (3, .int x.2.2.1)] [] x.2.2.2) (x1 : Int32) (x2 : Int32) (x3 : Int32) (σ : gS) (h : b_Ta_fillFrom_91 k79 k91 x1 x2 x3 σ = some r) : G X 91 [(0, .ref (gA X 16)), (1, .int x1), (2, .int x2), (3, .int x3)] [] σ := by
  unfold b_Ta_fillFrom_91 at h
  refine r_iload_n C 3 d_Ta_fillFrom_91 rfl rfl ?_
  refine r_aload_n C 0 d_Ta_fillFrom_92 rfl rfl ?_
  refine q_Ta_9 C d_Ta_fillFrom_93 ?_
  refine r_iconst C (v := 1) d_Ta_fillFrom_96 (by decide) ?_
  obtain ⟨hi_1, h⟩ := ck_some h
  refine r_iald C hi_1 d_Ta_fillFrom_97 ?_
  refine r_icmp_ge C (tgt := 131) d_Ta_fillFrom_98 (by decide) (fun hc_2 => ?_) (fun hc_2 => ?_)
  · rw [if_pos hc_2] at h
    refine r_aload_n C 0 d_Ta_fillFrom_131 rfl rfl ?_
    refine q_Ta_33 C d_Ta_fillFrom_132 ?_
    refine r_iload_n C 1 d_Ta_fillFrom_135 rfl rfl ?_
    refine r_iconst C (v := 0) d_Ta_fillFrom_136 (by decide) ?_
    refine r_aload_n C 0 d_Ta_fillFrom_137 rfl rfl ?_
    refine q_Ta_20 C d_Ta_fillFrom_138 ?_
    obtain ⟨r_3, er_3, h⟩ := bind_some h
    refine r_callV C (As := [.int x1, .int 0, .ref (gA X 21)]) (rest := []) (st1 := []) (c_Fo_stepPlan X.1.2.1 σ x1 0 21 er_3) k_Fo_stepPlan m_136 (by decide) cel_Fo rfl rfl rfl rfl (Nat.le_of_ble_eq_true rfl) ⟨Nat.le_of_ble_eq_true rfl, Nat.le_of_ble_eq_true rfl⟩ d_Ta_fillFrom_141 rfl ?_
    obtain ⟨x2_4, ex2_4, h⟩ := bnd_some h
    refine r_iinc C 2 (lv' := [(2, .int x2_4), (0, .ref (gA X 16)), (1, .int x1), (3, .int x3)]) d_Ta_fillFrom_144 rfl (by rw [ex2_4]; rfl) (by decide) rfl ?_
    refine r_goto C (tgt := 79) d_Ta_fillFrom_147 (by decide) ?_
    refine r_sub [1, 2, 0] (lv' := [(0, .ref (gA X 16)), (1, .int x1), (2, .int x2_4)]) rfl ?_
    exact hk79 _ h
  · rw [if_neg hc_2] at h
    refine r_aload_n C 0 d_Ta_fillFrom_101 rfl rfl ?_
    refine r_iload_n C 1 d_Ta_fillFrom_102 rfl rfl ?_
    refine r_bipush C (v := 64) d_Ta_fillFrom_103 (by decide) ?_
    refine r_iload_n C 2 d_Ta_fillFrom_105 rfl rfl ?_
    refine r_imul C d_Ta_fillFrom_106 ?_
    refine r_iload_n C 3 d_Ta_fillFrom_107 rfl rfl ?_
    refine r_iadd C d_Ta_fillFrom_108 ?_
    obtain ⟨r_5, er_5, h⟩ := bind_some h
    refine r_callV C (As := [.int x1, .int ((64 * x2) + x3)]) (rest := []) (st1 := []) (c_Ta_weighPair X.1.2.1 σ x1 ((64 * x2) + x3) er_5) k_Ta_weighPair m_140 (by decide) cel_Ta rfl rfl rfl rfl (Nat.le_of_ble_eq_true rfl) ⟨Nat.le_of_ble_eq_true rfl, Nat.le_of_ble_eq_true rfl⟩ d_Ta_fillFrom_109 rfl ?_
    refine r_aload_n C 0 d_Ta_fillFrom_112 rfl rfl ?_
    refine q_Ta_33 C d_Ta_fillFrom_113 ?_
    refine r_iload_n C 1 d_Ta_fillFrom_116 rfl rfl ?_
    refine r_iconst C (v := 1) d_Ta_fillFrom_117 (by decide) ?_
    refine r_aload_n C 0 d_Ta_fillFrom_118 rfl rfl ?_
    refine q_Ta_20 C d_Ta_fillFrom_119 ?_
    obtain ⟨r_6, er_6, h⟩ := bind_some h
    refine r_callV C (As := [.int x1, .int 1, .ref (gA X 21)]) (rest := []) (st1 := []) (c_Fo_stepPlan X.1.2.1 r_5 x1 1 21 er_6) k_Fo_stepPlan m_136 (by decide) cel_Fo rfl rfl rfl rfl (Nat.le_of_ble_eq_true rfl) ⟨Nat.le_of_ble_eq_true rfl, Nat.le_of_ble_eq_true rfl⟩ d_Ta_fillFrom_122 rfl ?_
    obtain ⟨x3_7, ex3_7, h⟩ := bnd_some h
    refine r_iinc C 3 (lv' := [(3, .int x3_7), (0, .ref (gA X 16)), (1, .int x1), (2, .int x2)]) d_Ta_fillFrom_125 rfl (by rw [ex3_7]; rfl) (by decide) rfl ?_
    refine r_goto C (tgt := 91) d_Ta_fillFrom_128 (by decide) ?_
    refine r_sub [1, 2, 3, 0] (lv' := [(0, .ref (gA X 16)), (1, .int x1), (2, .int x2), (3, .int x3_7)]) rfl ?_
    exact hk91 _ h
set_option maxHeartbeats 4000000 in
set_option maxRecDepth 100000 in
theorem u_Ta_fillFrom_91 {X : gX} {r : gS} (C : gC X b_Ta_fillFrom_c R_Ta 4 3 72) (hR : ∀ pc lv, decode b_Ta_fillFrom_c pc = .ok (.return_, 1) → G X pc lv [] r) {k79 : Int32 × Int32 × gS → Option gS}  (hk79 : ∀ x, k79 x = some r → G X 79 [(0, .ref (gA X 16)), (1, .int x.1), (2, .int x.2.1)] [] x.2.2) (x : Int32 × Int32 × Int32 × gS) (h : l_Ta_fillFrom_91 k79 x = some r) : G X 91 [(0, .ref (gA X 16)), (1, .int x.1), (2, .int x.2.1), (3, .int x.2.2.1)] [] x.2.2.2 :=
  lpF_ind (P := fun x => G X 91 [(0, .ref (gA X 16)), (1, .int x.1), (2, .int x.2.1), (3, .int x.2.2.1)] [] x.2.2.2) (fun k hk x h => t_Ta_fillFrom_91 C hR hk79 hk x.1 x.2.1 x.2.2.1 x.2.2.2 h) gF x h
set_option maxHeartbeats 4000000 in
set_option maxRecDepth 100000 in
theorem t_Ta_fillFrom_79 {X : gX} {r : gS} (C : gC X b_Ta_fillFrom_c R_Ta 4 3 72) (hR : ∀ pc lv, decode b_Ta_fillFrom_c pc = .ok (.return_, 1) → G X pc lv [] r) {k79 : Int32 × Int32 × gS → Option gS}  (hk79 : ∀ x, k79 x = some r → G X 79 [(0, .ref (gA X 16)), (1, .int x.1), (2, .int x.2.1)] [] x.2.2) (x1 : Int32) (x2 : Int32) (σ : gS) (h : b_Ta_fillFrom_79 k79 x1 x2 σ = some r) : G X 79 [(0, .ref (gA X 16)), (1, .int x1), (2, .int x2)] [] σ := by
  unfold b_Ta_fillFrom_79 at h
  refine r_iload_n C 2 d_Ta_fillFrom_79 rfl rfl ?_
  refine r_aload_n C 0 d_Ta_fillFrom_80 rfl rfl ?_
  refine q_Ta_9 C d_Ta_fillFrom_81 ?_
  refine r_iconst C (v := 0) d_Ta_fillFrom_84 (by decide) ?_
  obtain ⟨hi_1, h⟩ := ck_some h
  refine r_iald C hi_1 d_Ta_fillFrom_85 ?_
  refine r_icmp_ge C (tgt := 150) d_Ta_fillFrom_86 (by decide) (fun hc_2 => ?_) (fun hc_2 => ?_)
  · rw [if_pos hc_2] at h
    cases h
    exact hR _ _ d_Ta_fillFrom_150
  · rw [if_neg hc_2] at h
    refine r_iconst C (v := 0) d_Ta_fillFrom_89 (by decide) ?_
    refine r_istore_n C (lv' := [(3, .int 0), (0, .ref (gA X 16)), (1, .int x1), (2, .int x2)]) d_Ta_fillFrom_90 rfl (by decide) rfl rfl ?_
    refine r_sub [1, 2, 3, 0] (lv' := [(0, .ref (gA X 16)), (1, .int x1), (2, .int x2), (3, .int 0)]) rfl ?_
    exact u_Ta_fillFrom_91 C hR hk79 (x1, x2, 0, σ) h
set_option maxHeartbeats 4000000 in
set_option maxRecDepth 100000 in
theorem u_Ta_fillFrom_79 {X : gX} {r : gS} (C : gC X b_Ta_fillFrom_c R_Ta 4 3 72) (hR : ∀ pc lv, decode b_Ta_fillFrom_c pc = .ok (.return_, 1) → G X pc lv [] r)  (x : Int32 × Int32 × gS) (h : l_Ta_fillFrom_79 x = some r) : G X 79 [(0, .ref (gA X 16)), (1, .int x.1), (2, .int x.2.1)] [] x.2.2 :=
  lpF_ind (P := fun x => G X 79 [(0, .ref (gA X 16)), (1, .int x.1), (2, .int x.2.1)] [] x.2.2) (fun k hk x h => t_Ta_fillFrom_79 C hR hk x.1 x.2.1 x.2.2 h) gF x h
set_option maxHeartbeats 4000000 in
set_option maxRecDepth 100000 in
theorem t_Ta_fillFrom_23 {X : gX} {r : gS} (C : gC X b_Ta_fillFrom_c R_Ta 4 3 72) (hR : ∀ pc lv, decode b_Ta_fillFrom_c pc = .ok (.return_, 1) → G X pc lv [] r) (x1 : Int32) (σ : gS) (h : b_Ta_fillFrom_23 x1 σ = some r) : G X 23 [(0, .ref (gA X 16)), (1, .int x1)] [] σ := by
  unfold b_Ta_fillFrom_23 at h
  refine r_aload_n C 0 d_Ta_fillFrom_23 rfl rfl ?_
  refine r_aload_n C 0 d_Ta_fillFrom_24 rfl rfl ?_
  refine q_Ta_33 C d_Ta_fillFrom_25 ?_
  refine q_Ta_47 C d_Ta_fillFrom_28 ?_
  obtain ⟨σ_1, eσ_1, h⟩ := bnd_some h
  refine p_Ta_26 C eσ_1 d_Ta_fillFrom_31 ?_
  refine r_aload_n C 0 d_Ta_fillFrom_34 rfl rfl ?_
  refine r_iload_n C 1 d_Ta_fillFrom_35 rfl rfl ?_
  obtain ⟨σ_2, eσ_2, h⟩ := bnd_some h
  refine p_Ta_30 C eσ_2 d_Ta_fillFrom_36 ?_
  refine r_aload_n C 0 d_Ta_fillFrom_39 rfl rfl ?_
  refine q_Ta_9 C d_Ta_fillFrom_40 ?_
  refine r_iconst C (v := 0) d_Ta_fillFrom_43 (by decide) ?_
  refine r_aload_n C 0 d_Ta_fillFrom_44 rfl rfl ?_
  refine q_Ta_33 C d_Ta_fillFrom_45 ?_
  refine r_iload_n C 1 d_Ta_fillFrom_48 rfl rfl ?_
  refine r_iconst C (v := 0) d_Ta_fillFrom_49 (by decide) ?_
  obtain ⟨r_3, er_3, h⟩ := bind_some h
  refine r_callV C (As := [.int x1, .int 0]) (rest := [.int 0, .ref (gA X 17)]) (st1 := [.int r_3, .int 0, .ref (gA X 17)]) (c_Fo_plansFrom X.1.2.1 σ_2 x1 0 er_3) k_Fo_plansFrom m_147 (by decide) cel_Fo rfl rfl rfl rfl (Nat.le_of_ble_eq_true rfl) ⟨Nat.le_of_ble_eq_true rfl, Nat.le_of_ble_eq_true rfl⟩ d_Ta_fillFrom_50 rfl ?_
  obtain ⟨hi_4, h⟩ := ck_some h
  obtain ⟨σ_5, eσ_5, h⟩ := bnd_some h
  refine r_iast C hi_4 eσ_5 d_Ta_fillFrom_53 ?_
  refine r_aload_n C 0 d_Ta_fillFrom_54 rfl rfl ?_
  refine q_Ta_9 C d_Ta_fillFrom_55 ?_
  refine r_iconst C (v := 1) d_Ta_fillFrom_58 (by decide) ?_
  refine r_aload_n C 0 d_Ta_fillFrom_59 rfl rfl ?_
  refine q_Ta_33 C d_Ta_fillFrom_60 ?_
  refine r_iload_n C 1 d_Ta_fillFrom_63 rfl rfl ?_
  refine r_iconst C (v := 1) d_Ta_fillFrom_64 (by decide) ?_
  obtain ⟨r_6, er_6, h⟩ := bind_some h
  refine r_callV C (As := [.int x1, .int 1]) (rest := [.int 1, .ref (gA X 17)]) (st1 := [.int r_6, .int 1, .ref (gA X 17)]) (c_Fo_plansFrom X.1.2.1 σ_5 x1 1 er_6) k_Fo_plansFrom m_147 (by decide) cel_Fo rfl rfl rfl rfl (Nat.le_of_ble_eq_true rfl) ⟨Nat.le_of_ble_eq_true rfl, Nat.le_of_ble_eq_true rfl⟩ d_Ta_fillFrom_65 rfl ?_
  obtain ⟨hi_7, h⟩ := ck_some h
  obtain ⟨σ_8, eσ_8, h⟩ := bnd_some h
  refine r_iast C hi_7 eσ_8 d_Ta_fillFrom_68 ?_
  refine r_aload_n C 0 d_Ta_fillFrom_69 rfl rfl ?_
  refine q_Ta_20 C d_Ta_fillFrom_70 ?_
  refine r_iconst C (v := 0) d_Ta_fillFrom_73 (by decide) ?_
  obtain ⟨r_9, er_9, h⟩ := bind_some h
  refine r_callS C (As := [.ref (gA X 21), .int 0]) (rest := []) (st1 := []) (c_Ar_fillI X.1.2.1 σ_8 21 0 er_9) k_Ar_fillI m_151 rfl rfl rfl (Nat.le_of_ble_eq_true rfl) ⟨Nat.le_of_ble_eq_true rfl, Nat.le_of_ble_eq_true rfl⟩ d_Ta_fillFrom_74 rfl ?_
  refine r_iconst C (v := 0) d_Ta_fillFrom_77 (by decide) ?_
  refine r_istore_n C (lv' := [(2, .int 0), (0, .ref (gA X 16)), (1, .int x1)]) d_Ta_fillFrom_78 rfl (by decide) rfl rfl ?_
  refine r_sub [1, 2, 0] (lv' := [(0, .ref (gA X 16)), (1, .int x1), (2, .int 0)]) rfl ?_
  exact u_Ta_fillFrom_79 C hR  (x1, 0, r_9) h
set_option maxHeartbeats 4000000 in
set_option maxRecDepth 100000 in
theorem t_Ta_fillFrom_0 {X : gX} {r : gS} (C : gC X b_Ta_fillFrom_c R_Ta 4 3 72) (hR : ∀ pc lv, decode b_Ta_fillFrom_c pc = .ok (.return_, 1) → G X pc lv [] r) (x1 : Int32) (σ : gS) (h : b_Ta_fillFrom_0 x1 σ = some r) : G X 0 [(0, .ref (gA X 16)), (1, .int x1)] [] σ := by
  unfold b_Ta_fillFrom_0 at h
  refine r_aload_n C 0 d_Ta_fillFrom_0 rfl rfl ?_
  refine q_Ta_26 C d_Ta_fillFrom_1 ?_
  refine r_aload_n C 0 d_Ta_fillFrom_4 rfl rfl ?_
  refine q_Ta_33 C d_Ta_fillFrom_5 ?_
  refine q_Ta_47 C d_Ta_fillFrom_8 ?_
  refine r_icmp_ne C (tgt := 23) d_Ta_fillFrom_11 (by decide) (fun hc_1 => ?_) (fun hc_1 => ?_)
  · rw [if_neg hc_1] at h
    exact t_Ta_fillFrom_23 C hR x1 σ h
  · rw [if_pos hc_1] at h
    refine r_aload_n C 0 d_Ta_fillFrom_14 rfl rfl ?_
    refine q_Ta_30 C d_Ta_fillFrom_15 ?_
    refine r_iload_n C 1 d_Ta_fillFrom_18 rfl rfl ?_
    refine r_icmp_ne C (tgt := 23) d_Ta_fillFrom_19 (by decide) (fun hc_2 => ?_) (fun hc_2 => ?_)
    · rw [if_neg hc_2] at h
      exact t_Ta_fillFrom_23 C hR x1 σ h
    · rw [if_pos hc_2] at h
      cases h
      exact hR _ _ d_Ta_fillFrom_22
set_option maxHeartbeats 4000000 in
set_option maxRecDepth 100000 in
theorem c_Ta_fillFrom (l : Launch) (σ : gS) (x1 : Int32) {r : gS} (h : f_Ta_fillFrom σ x1 = some r) : gMet l y_Ta_fillFrom b_Ta_fillFrom_c 4 (none) 3 72 (fun a => [.ref (a 16), .int x1]) σ (none) r := by
  refine gMet_v (by decide +kernel) (fun a => Nat.le_of_ble_eq_true rfl) (fun X _ C hR => ?_)
  refine r_sub [0, 1] (lv' := [(0, .ref (gA X 16)), (1, .int x1)]) rfl ?_
  exact t_Ta_fillFrom_0 C hR x1 σ h
theorem d_Fo_planFrom_0 : decode b_Fo_planFrom_c 0 = .ok (.iload_n 3, 1) := by decide +kernel
theorem d_Fo_planFrom_1 : decode b_Fo_planFrom_c 1 = .ok (.istore 4, 2) := by decide +kernel
theorem d_Fo_planFrom_3 : decode b_Fo_planFrom_c 3 = .ok (.iconst 0, 1) := by decide +kernel
theorem d_Fo_planFrom_4 : decode b_Fo_planFrom_c 4 = .ok (.istore 5, 2) := by decide +kernel
theorem d_Fo_planFrom_6 : decode b_Fo_planFrom_c 6 = .ok (.iconst 1, 1) := by decide +kernel
theorem d_Fo_planFrom_7 : decode b_Fo_planFrom_c 7 = .ok (.istore 6, 2) := by decide +kernel
theorem d_Fo_planFrom_9 : decode b_Fo_planFrom_c 9 = .ok (.aload_n 0, 1) := by decide +kernel
theorem d_Fo_planFrom_10 : decode b_Fo_planFrom_c 10 = .ok (.getfield 15, 3) := by decide +kernel
theorem d_Fo_planFrom_13 : decode b_Fo_planFrom_c 13 = .ok (.iconst 1, 1) := by decide +kernel
theorem d_Fo_planFrom_14 : decode b_Fo_planFrom_c 14 = .ok (.isub, 1) := by decide +kernel
theorem d_Fo_planFrom_15 : decode b_Fo_planFrom_c 15 = .ok (.istore 7, 2) := by decide +kernel
theorem d_Fo_planFrom_17 : decode b_Fo_planFrom_c 17 = .ok (.iload 7, 2) := by decide +kernel
theorem d_Fo_planFrom_19 : decode b_Fo_planFrom_c 19 = .ok (.ifCond .lt 90, 3) := by decide +kernel
theorem d_Fo_planFrom_22 : decode b_Fo_planFrom_c 22 = .ok (.aload_n 0, 1) := by decide +kernel
theorem d_Fo_planFrom_23 : decode b_Fo_planFrom_c 23 = .ok (.aload_n 0, 1) := by decide +kernel
theorem d_Fo_planFrom_24 : decode b_Fo_planFrom_c 24 = .ok (.invokevirtual 99, 3) := by decide +kernel
theorem d_Fo_planFrom_27 : decode b_Fo_planFrom_c 27 = .ok (.iload_n 2, 1) := by decide +kernel
theorem d_Fo_planFrom_28 : decode b_Fo_planFrom_c 28 = .ok (.iload 7, 2) := by decide +kernel
theorem d_Fo_planFrom_30 : decode b_Fo_planFrom_c 30 = .ok (.invokevirtual 110, 3) := by decide +kernel
theorem d_Fo_planFrom_33 : decode b_Fo_planFrom_c 33 = .ok (.ifCond .eq 70, 3) := by decide +kernel
theorem d_Fo_planFrom_36 : decode b_Fo_planFrom_c 36 = .ok (.aload_n 0, 1) := by decide +kernel
theorem d_Fo_planFrom_37 : decode b_Fo_planFrom_c 37 = .ok (.getfield 31, 3) := by decide +kernel
theorem d_Fo_planFrom_40 : decode b_Fo_planFrom_c 40 = .ok (.iload 7, 2) := by decide +kernel
theorem d_Fo_planFrom_42 : decode b_Fo_planFrom_c 42 = .ok (.iaload, 1) := by decide +kernel
theorem d_Fo_planFrom_43 : decode b_Fo_planFrom_c 43 = .ok (.ifCond .le 60, 3) := by decide +kernel
theorem d_Fo_planFrom_46 : decode b_Fo_planFrom_c 46 = .ok (.aload_n 0, 1) := by decide +kernel
theorem d_Fo_planFrom_47 : decode b_Fo_planFrom_c 47 = .ok (.getfield 53, 3) := by decide +kernel
theorem d_Fo_planFrom_50 : decode b_Fo_planFrom_c 50 = .ok (.iload_n 1, 1) := by decide +kernel
theorem d_Fo_planFrom_51 : decode b_Fo_planFrom_c 51 = .ok (.iaload, 1) := by decide +kernel
theorem d_Fo_planFrom_52 : decode b_Fo_planFrom_c 52 = .ok (.i2l, 1) := by decide +kernel
theorem d_Fo_planFrom_53 : decode b_Fo_planFrom_c 53 = .ok (.iload 7, 2) := by decide +kernel
theorem d_Fo_planFrom_55 : decode b_Fo_planFrom_c 55 = .ok (.invokestatic 106, 3) := by decide +kernel
theorem d_Fo_planFrom_58 : decode b_Fo_planFrom_c 58 = .ok (.ifCond .eq 33, 3) := by decide +kernel
theorem d_Fo_planFrom_61 : decode b_Fo_planFrom_c 61 = .ok (.iload 5, 2) := by decide +kernel
theorem d_Fo_planFrom_63 : decode b_Fo_planFrom_c 63 = .ok (.iload 4, 2) := by decide +kernel
theorem d_Fo_planFrom_65 : decode b_Fo_planFrom_c 65 = .ok (.aload_n 0, 1) := by decide +kernel
theorem d_Fo_planFrom_66 : decode b_Fo_planFrom_c 66 = .ok (.getfield 31, 3) := by decide +kernel
theorem d_Fo_planFrom_69 : decode b_Fo_planFrom_c 69 = .ok (.iload 7, 2) := by decide +kernel
theorem d_Fo_planFrom_71 : decode b_Fo_planFrom_c 71 = .ok (.iaload, 1) := by decide +kernel
theorem d_Fo_planFrom_72 : decode b_Fo_planFrom_c 72 = .ok (.irem, 1) := by decide +kernel
theorem d_Fo_planFrom_73 : decode b_Fo_planFrom_c 73 = .ok (.iload 6, 2) := by decide +kernel
theorem d_Fo_planFrom_75 : decode b_Fo_planFrom_c 75 = .ok (.imul, 1) := by decide +kernel
theorem d_Fo_planFrom_76 : decode b_Fo_planFrom_c 76 = .ok (.iadd, 1) := by decide +kernel
theorem d_Fo_planFrom_77 : decode b_Fo_planFrom_c 77 = .ok (.istore 5, 2) := by decide +kernel
theorem d_Fo_planFrom_79 : decode b_Fo_planFrom_c 79 = .ok (.iload 6, 2) := by decide +kernel
theorem d_Fo_planFrom_81 : decode b_Fo_planFrom_c 81 = .ok (.aload_n 0, 1) := by decide +kernel
theorem d_Fo_planFrom_82 : decode b_Fo_planFrom_c 82 = .ok (.getfield 31, 3) := by decide +kernel
theorem d_Fo_planFrom_85 : decode b_Fo_planFrom_c 85 = .ok (.iload 7, 2) := by decide +kernel
theorem d_Fo_planFrom_87 : decode b_Fo_planFrom_c 87 = .ok (.iaload, 1) := by decide +kernel
theorem d_Fo_planFrom_88 : decode b_Fo_planFrom_c 88 = .ok (.imul, 1) := by decide +kernel
theorem d_Fo_planFrom_89 : decode b_Fo_planFrom_c 89 = .ok (.istore 6, 2) := by decide +kernel
theorem d_Fo_planFrom_91 : decode b_Fo_planFrom_c 91 = .ok (.iload 4, 2) := by decide +kernel
theorem d_Fo_planFrom_93 : decode b_Fo_planFrom_c 93 = .ok (.aload_n 0, 1) := by decide +kernel
theorem d_Fo_planFrom_94 : decode b_Fo_planFrom_c 94 = .ok (.getfield 31, 3) := by decide +kernel
theorem d_Fo_planFrom_97 : decode b_Fo_planFrom_c 97 = .ok (.iload 7, 2) := by decide +kernel
theorem d_Fo_planFrom_99 : decode b_Fo_planFrom_c 99 = .ok (.iaload, 1) := by decide +kernel
theorem d_Fo_planFrom_100 : decode b_Fo_planFrom_c 100 = .ok (.idiv, 1) := by decide +kernel
theorem d_Fo_planFrom_101 : decode b_Fo_planFrom_c 101 = .ok (.istore 4, 2) := by decide +kernel
theorem d_Fo_planFrom_103 : decode b_Fo_planFrom_c 103 = .ok (.iinc 7 (-1), 3) := by decide +kernel
theorem d_Fo_planFrom_106 : decode b_Fo_planFrom_c 106 = .ok (.goto (-89), 3) := by decide +kernel
theorem d_Fo_planFrom_109 : decode b_Fo_planFrom_c 109 = .ok (.iload 5, 2) := by decide +kernel
theorem d_Fo_planFrom_111 : decode b_Fo_planFrom_c 111 = .ok (.ireturn, 1) := by decide +kernel
/-! GameRows$Forest.planFrom(III)I -/
set_option maxHeartbeats 4000000 in
set_option maxRecDepth 100000 in
theorem t_Fo_planFrom_103 {X : gX} {r : Int32} {σ : gS} (C : gC X b_Fo_planFrom_c R_Fo 8 2 45) (hR : ∀ pc lv, decode b_Fo_planFrom_c pc = .ok (.ireturn, 1) → G X pc lv [.int r] σ) {k17 : Int32 × Int32 × Int32 × Int32 × Int32 × Int32 → Option Int32}  (hk17 : ∀ x, k17 x = some r → G X 17 [(0, .ref (gA X 1)), (1, .int x.1), (2, .int x.2.1), (4, .int x.2.2.1), (5, .int x.2.2.2.1), (6, .int x.2.2.2.2.1), (7, .int x.2.2.2.2.2)] [] σ) (x1 : Int32) (x2 : Int32) (x4 : Int32) (x5 : Int32) (x6 : Int32) (x7 : Int32) (h : b_Fo_planFrom_103 σ k17 x1 x2 x4 x5 x6 x7 = some r) : G X 103 [(0, .ref (gA X 1)), (1, .int x1), (2, .int x2), (4, .int x4), (5, .int x5), (6, .int x6), (7, .int x7)] [] σ := by
  unfold b_Fo_planFrom_103 at h
  obtain ⟨x7_1, ex7_1, h⟩ := bnd_some h
  refine r_iinc C 6 (lv' := [(7, .int x7_1), (0, .ref (gA X 1)), (1, .int x1), (2, .int x2), (4, .int x4), (5, .int x5), (6, .int x6)]) d_Fo_planFrom_103 rfl (by rw [ex7_1]; rfl) (by decide) rfl ?_
  refine r_goto C (tgt := 17) d_Fo_planFrom_106 (by decide) ?_
  refine r_sub [1, 2, 3, 4, 5, 6, 0] (lv' := [(0, .ref (gA X 1)), (1, .int x1), (2, .int x2), (4, .int x4), (5, .int x5), (6, .int x6), (7, .int x7_1)]) rfl ?_
  exact hk17 _ h
set_option maxHeartbeats 4000000 in
set_option maxRecDepth 100000 in
theorem t_Fo_planFrom_91 {X : gX} {r : Int32} {σ : gS} (C : gC X b_Fo_planFrom_c R_Fo 8 2 45) (hR : ∀ pc lv, decode b_Fo_planFrom_c pc = .ok (.ireturn, 1) → G X pc lv [.int r] σ) {k17 : Int32 × Int32 × Int32 × Int32 × Int32 × Int32 → Option Int32}  (hk17 : ∀ x, k17 x = some r → G X 17 [(0, .ref (gA X 1)), (1, .int x.1), (2, .int x.2.1), (4, .int x.2.2.1), (5, .int x.2.2.2.1), (6, .int x.2.2.2.2.1), (7, .int x.2.2.2.2.2)] [] σ) (x1 : Int32) (x2 : Int32) (x4 : Int32) (x5 : Int32) (x6 : Int32) (x7 : Int32) (h : b_Fo_planFrom_91 σ k17 x1 x2 x4 x5 x6 x7 = some r) : G X 91 [(0, .ref (gA X 1)), (1, .int x1), (2, .int x2), (4, .int x4), (5, .int x5), (6, .int x6), (7, .int x7)] [] σ := by
  unfold b_Fo_planFrom_91 at h
  refine r_iload C 3 d_Fo_planFrom_91 rfl ?_
  refine r_aload_n C 0 d_Fo_planFrom_93 rfl rfl ?_
  refine q_Fo_31 C d_Fo_planFrom_94 ?_
  refine r_iload C 6 d_Fo_planFrom_97 rfl ?_
  obtain ⟨hi_1, h⟩ := ck_some h
  refine r_iald C hi_1 d_Fo_planFrom_99 ?_
  obtain ⟨hz_2, h⟩ := ck_some h
  refine r_idiv C d_Fo_planFrom_100 hz_2 ?_
  obtain ⟨x4_3, ex4_3, h⟩ := bnd_some h
  refine r_istore C (lv' := [(4, .int x4_3), (0, .ref (gA X 1)), (1, .int x1), (2, .int x2), (5, .int x5), (6, .int x6), (7, .int x7)]) d_Fo_planFrom_101 (by decide) ex4_3 rfl ?_
  refine r_sub [1, 2, 3, 0, 4, 5, 6] (lv' := [(0, .ref (gA X 1)), (1, .int x1), (2, .int x2), (4, .int x4_3), (5, .int x5), (6, .int x6), (7, .int x7)]) rfl ?_
  exact t_Fo_planFrom_103 C hR hk17 x1 x2 x4_3 x5 x6 x7 h
set_option maxHeartbeats 4000000 in
set_option maxRecDepth 100000 in
theorem t_Fo_planFrom_17 {X : gX} {r : Int32} {σ : gS} (C : gC X b_Fo_planFrom_c R_Fo 8 2 45) (hR : ∀ pc lv, decode b_Fo_planFrom_c pc = .ok (.ireturn, 1) → G X pc lv [.int r] σ) {k17 : Int32 × Int32 × Int32 × Int32 × Int32 × Int32 → Option Int32}  (hk17 : ∀ x, k17 x = some r → G X 17 [(0, .ref (gA X 1)), (1, .int x.1), (2, .int x.2.1), (4, .int x.2.2.1), (5, .int x.2.2.2.1), (6, .int x.2.2.2.2.1), (7, .int x.2.2.2.2.2)] [] σ) (x1 : Int32) (x2 : Int32) (x4 : Int32) (x5 : Int32) (x6 : Int32) (x7 : Int32) (h : b_Fo_planFrom_17 σ k17 x1 x2 x4 x5 x6 x7 = some r) : G X 17 [(0, .ref (gA X 1)), (1, .int x1), (2, .int x2), (4, .int x4), (5, .int x5), (6, .int x6), (7, .int x7)] [] σ := by
  unfold b_Fo_planFrom_17 at h
  refine r_iload C 6 d_Fo_planFrom_17 rfl ?_
  refine r_if_lt C (tgt := 109) d_Fo_planFrom_19 (by decide) (fun hc_1 => ?_) (fun hc_1 => ?_)
  · rw [if_pos hc_1] at h
    refine r_iload C 4 d_Fo_planFrom_109 rfl ?_
    cases h
    exact hR _ _ d_Fo_planFrom_111
  · rw [if_neg hc_1] at h
    refine r_aload_n C 0 d_Fo_planFrom_22 rfl rfl ?_
    refine r_aload_n C 0 d_Fo_planFrom_23 rfl rfl ?_
    obtain ⟨r_2, er_2, h⟩ := bind_some h
    refine r_callV C (As := []) (rest := [.ref (gA X 1)]) (st1 := [.int r_2, .ref (gA X 1)]) (c_Fo_root X.1.2.1 σ  er_2) k_Fo_root m_90 (by decide) cel_Fo rfl rfl rfl rfl (Nat.le_of_ble_eq_true rfl) ⟨Nat.le_of_ble_eq_true rfl, Nat.le_of_ble_eq_true rfl⟩ d_Fo_planFrom_24 rfl ?_
    refine r_iload_n C 2 d_Fo_planFrom_27 rfl rfl ?_
    refine r_iload C 6 d_Fo_planFrom_28 rfl ?_
    obtain ⟨r_3, er_3, h⟩ := bind_some h
    refine r_callV C (As := [.int r_2, .int x2, .int x7]) (rest := []) (st1 := [.int r_3]) (c_Fo_isPlayedFrom X.1.2.1 σ r_2 x2 x7 er_3) k_Fo_isPlayedFrom m_131 (by decide) cel_Fo rfl rfl rfl rfl (Nat.le_of_ble_eq_true rfl) ⟨Nat.le_of_ble_eq_true rfl, Nat.le_of_ble_eq_true rfl⟩ d_Fo_planFrom_30 rfl ?_
    refine r_if_eq C (tgt := 103) d_Fo_planFrom_33 (by decide) (fun hc_4 => ?_) (fun hc_4 => ?_)
    · rw [if_pos hc_4] at h
      exact t_Fo_planFrom_103 C hR hk17 x1 x2 x4 x5 x6 x7 h
    · rw [if_neg hc_4] at h
      refine r_aload_n C 0 d_Fo_planFrom_36 rfl rfl ?_
      refine q_Fo_31 C d_Fo_planFrom_37 ?_
      refine r_iload C 6 d_Fo_planFrom_40 rfl ?_
      obtain ⟨hi_5, h⟩ := ck_some h
      refine r_iald C hi_5 d_Fo_planFrom_42 ?_
      refine r_if_le C (tgt := 103) d_Fo_planFrom_43 (by decide) (fun hc_6 => ?_) (fun hc_6 => ?_)
      · rw [if_pos hc_6] at h
        exact t_Fo_planFrom_103 C hR hk17 x1 x2 x4 x5 x6 x7 h
      · rw [if_neg hc_6] at h
        refine r_aload_n C 0 d_Fo_planFrom_46 rfl rfl ?_
        refine q_Fo_53 C d_Fo_planFrom_47 ?_
        refine r_iload_n C 1 d_Fo_planFrom_50 rfl rfl ?_
        obtain ⟨hi_7, h⟩ := ck_some h
        refine r_iald C hi_7 d_Fo_planFrom_51 ?_
        refine r_i2l C d_Fo_planFrom_52 ?_
        refine r_iload C 6 d_Fo_planFrom_53 rfl ?_
        obtain ⟨r_8, er_8, h⟩ := bind_some h
        refine r_callSN C (As := [.long ((gI σ 12 x1.toNatClampNeg).toInt64), .int x7]) (rest := []) (st1 := [.int r_8]) (c_Ga_hasBit X.1.2.1 σ ((gI σ 12 x1.toNatClampNeg).toInt64) x7 er_8) k_Ga_hasBit n_Fo_106 rfl rfl rfl (Nat.le_of_ble_eq_true rfl) ⟨Nat.le_of_ble_eq_true rfl, Nat.le_of_ble_eq_true rfl⟩ d_Fo_planFrom_55 rfl ?_
        refine r_if_eq C (tgt := 91) d_Fo_planFrom_58 (by decide) (fun hc_9 => ?_) (fun hc_9 => ?_)
        · rw [if_pos hc_9] at h
          exact t_Fo_planFrom_91 C hR hk17 x1 x2 x4 x5 x6 x7 h
        · rw [if_neg hc_9] at h
          refine r_iload C 4 d_Fo_planFrom_61 rfl ?_
          refine r_iload C 3 d_Fo_planFrom_63 rfl ?_
          refine r_aload_n C 0 d_Fo_planFrom_65 rfl rfl ?_
          refine q_Fo_31 C d_Fo_planFrom_66 ?_
          refine r_iload C 6 d_Fo_planFrom_69 rfl ?_
          obtain ⟨hi_10, h⟩ := ck_some h
          refine r_iald C hi_10 d_Fo_planFrom_71 ?_
          obtain ⟨hz_11, h⟩ := ck_some h
          refine r_irem C d_Fo_planFrom_72 hz_11 ?_
          refine r_iload C 5 d_Fo_planFrom_73 rfl ?_
          refine r_imul C d_Fo_planFrom_75 ?_
          refine r_iadd C d_Fo_planFrom_76 ?_
          obtain ⟨x5_12, ex5_12, h⟩ := bnd_some h
          refine r_istore C (lv' := [(5, .int x5_12), (0, .ref (gA X 1)), (1, .int x1), (2, .int x2), (4, .int x4), (6, .int x6), (7, .int x7)]) d_Fo_planFrom_77 (by decide) ex5_12 rfl ?_
          refine r_iload C 5 d_Fo_planFrom_79 rfl ?_
          refine r_aload_n C 1 d_Fo_planFrom_81 rfl rfl ?_
          refine q_Fo_31 C d_Fo_planFrom_82 ?_
          refine r_iload C 6 d_Fo_planFrom_85 rfl ?_
          obtain ⟨hi_13, h⟩ := ck_some h
          refine r_iald C hi_13 d_Fo_planFrom_87 ?_
          refine r_imul C d_Fo_planFrom_88 ?_
          obtain ⟨x6_14, ex6_14, h⟩ := bnd_some h
          refine r_istore C (lv' := [(6, .int x6_14), (5, .int x5_12), (0, .ref (gA X 1)), (1, .int x1), (2, .int x2), (4, .int x4), (7, .int x7)]) d_Fo_planFrom_89 (by decide) ex6_14 rfl ?_
          refine r_sub [2, 3, 4, 5, 1, 0, 6] (lv' := [(0, .ref (gA X 1)), (1, .int x1), (2, .int x2), (4, .int x4), (5, .int x5_12), (6, .int x6_14), (7, .int x7)]) rfl ?_
          exact t_Fo_planFrom_91 C hR hk17 x1 x2 x4 x5_12 x6_14 x7 h
set_option maxHeartbeats 4000000 in
set_option maxRecDepth 100000 in
theorem u_Fo_planFrom_17 {X : gX} {r : Int32} {σ : gS} (C : gC X b_Fo_planFrom_c R_Fo 8 2 45) (hR : ∀ pc lv, decode b_Fo_planFrom_c pc = .ok (.ireturn, 1) → G X pc lv [.int r] σ)  (x : Int32 × Int32 × Int32 × Int32 × Int32 × Int32) (h : l_Fo_planFrom_17 σ x = some r) : G X 17 [(0, .ref (gA X 1)), (1, .int x.1), (2, .int x.2.1), (4, .int x.2.2.1), (5, .int x.2.2.2.1), (6, .int x.2.2.2.2.1), (7, .int x.2.2.2.2.2)] [] σ :=
  lpF_ind (P := fun x => G X 17 [(0, .ref (gA X 1)), (1, .int x.1), (2, .int x.2.1), (4, .int x.2.2.1), (5, .int x.2.2.2.1), (6, .int x.2.2.2.2.1), (7, .int x.2.2.2.2.2)] [] σ) (fun k hk x h => t_Fo_planFrom_17 C hR hk x.1 x.2.1 x.2.2.1 x.2.2.2.1 x.2.2.2.2.1 x.2.2.2.2.2 h) gF x h
set_option maxHeartbeats 4000000 in
set_option maxRecDepth 100000 in
theorem t_Fo_planFrom_0 {X : gX} {r : Int32} {σ : gS} (C : gC X b_Fo_planFrom_c R_Fo 8 2 45) (hR : ∀ pc lv, decode b_Fo_planFrom_c pc = .ok (.ireturn, 1) → G X pc lv [.int r] σ) (x1 : Int32) (x2 : Int32) (x3 : Int32) (h : b_Fo_planFrom_0 σ x1 x2 x3 = some r) : G X 0 [(0, .ref (gA X 1)), (1, .int x1), (2, .int x2), (3, .int x3)] [] σ := by
  unfold b_Fo_planFrom_0 at h
  refine r_iload_n C 3 d_Fo_planFrom_0 rfl rfl ?_
  refine r_istore C (lv' := [(4, .int x3), (0, .ref (gA X 1)), (1, .int x1), (2, .int x2), (3, .int x3)]) d_Fo_planFrom_1 (by decide) rfl rfl ?_
  refine r_iconst C (v := 0) d_Fo_planFrom_3 (by decide) ?_
  refine r_istore C (lv' := [(5, .int 0), (4, .int x3), (0, .ref (gA X 1)), (1, .int x1), (2, .int x2), (3, .int x3)]) d_Fo_planFrom_4 (by decide) rfl rfl ?_
  refine r_iconst C (v := 1) d_Fo_planFrom_6 (by decide) ?_
  refine r_istore C (lv' := [(6, .int 1), (5, .int 0), (4, .int x3), (0, .ref (gA X 1)), (1, .int x1), (2, .int x2), (3, .int x3)]) d_Fo_planFrom_7 (by decide) rfl rfl ?_
  refine r_aload_n C 3 d_Fo_planFrom_9 rfl rfl ?_
  refine q_Fo_15 C d_Fo_planFrom_10 ?_
  refine r_iconst C (v := 1) d_Fo_planFrom_13 (by decide) ?_
  refine r_isub C d_Fo_planFrom_14 ?_
  obtain ⟨x7_1, ex7_1, h⟩ := bnd_some h
  refine r_istore C (lv' := [(7, .int x7_1), (6, .int 1), (5, .int 0), (4, .int x3), (0, .ref (gA X 1)), (1, .int x1), (2, .int x2), (3, .int x3)]) d_Fo_planFrom_15 (by decide) ex7_1 rfl ?_
  refine r_sub [4, 5, 6, 3, 2, 1, 0] (lv' := [(0, .ref (gA X 1)), (1, .int x1), (2, .int x2), (4, .int x3), (5, .int 0), (6, .int 1), (7, .int x7_1)]) rfl ?_
  exact u_Fo_planFrom_17 C hR  (x1, x2, x3, 0, 1, x7_1) h
set_option maxHeartbeats 4000000 in
set_option maxRecDepth 100000 in
theorem c_Fo_planFrom (l : Launch) (σ : gS) (x1 : Int32) (x2 : Int32) (x3 : Int32) {r : Int32} (h : f_Fo_planFrom σ x1 x2 x3 = some r) : gMet l y_Fo_planFrom b_Fo_planFrom_c 8 (some .int) 2 45 (fun a => [.ref (a 1), .int x1, .int x2, .int x3]) σ (some (.int r)) σ := by
  refine gMet_i (by decide +kernel) (fun a => Nat.le_of_ble_eq_true rfl) (fun X _ C hR => ?_)
  refine r_sub [0, 1, 2, 3] (lv' := [(0, .ref (gA X 1)), (1, .int x1), (2, .int x2), (3, .int x3)]) rfl ?_
  exact t_Fo_planFrom_0 C hR x1 x2 x3 h
theorem d_Po_findInner_0 : decode b_Po_findInner_c 0 = .ok (.aload_n 0, 1) := by decide +kernel
theorem d_Po_findInner_1 : decode b_Po_findInner_c 1 = .ok (.getfield 28, 3) := by decide +kernel
theorem d_Po_findInner_4 : decode b_Po_findInner_c 4 = .ok (.iload_n 1, 1) := by decide +kernel
theorem d_Po_findInner_5 : decode b_Po_findInner_c 5 = .ok (.invokevirtual 46, 3) := by decide +kernel
theorem d_Po_findInner_8 : decode b_Po_findInner_c 8 = .ok (.istore_n 3, 1) := by decide +kernel
theorem d_Po_findInner_9 : decode b_Po_findInner_c 9 = .ok (.iconst 0, 1) := by decide +kernel
theorem d_Po_findInner_10 : decode b_Po_findInner_c 10 = .ok (.istore 4, 2) := by decide +kernel
theorem d_Po_findInner_12 : decode b_Po_findInner_c 12 = .ok (.iload 4, 2) := by decide +kernel
theorem d_Po_findInner_14 : decode b_Po_findInner_c 14 = .ok (.iload_n 3, 1) := by decide +kernel
theorem d_Po_findInner_15 : decode b_Po_findInner_c 15 = .ok (.if_icmp .ge 29, 3) := by decide +kernel
theorem d_Po_findInner_18 : decode b_Po_findInner_c 18 = .ok (.aload_n 0, 1) := by decide +kernel
theorem d_Po_findInner_19 : decode b_Po_findInner_c 19 = .ok (.getfield 25, 3) := by decide +kernel
theorem d_Po_findInner_22 : decode b_Po_findInner_c 22 = .ok (.iload_n 1, 1) := by decide +kernel
theorem d_Po_findInner_23 : decode b_Po_findInner_c 23 = .ok (.aaload, 1) := by decide +kernel
theorem d_Po_findInner_24 : decode b_Po_findInner_c 24 = .ok (.iload 4, 2) := by decide +kernel
theorem d_Po_findInner_26 : decode b_Po_findInner_c 26 = .ok (.aload_n 0, 1) := by decide +kernel
theorem d_Po_findInner_27 : decode b_Po_findInner_c 27 = .ok (.getfield 28, 3) := by decide +kernel
theorem d_Po_findInner_30 : decode b_Po_findInner_c 30 = .ok (.iload_n 2, 1) := by decide +kernel
theorem d_Po_findInner_31 : decode b_Po_findInner_c 31 = .ok (.iload_n 1, 1) := by decide +kernel
theorem d_Po_findInner_32 : decode b_Po_findInner_c 32 = .ok (.iload 4, 2) := by decide +kernel
theorem d_Po_findInner_34 : decode b_Po_findInner_c 34 = .ok (.invokevirtual 108, 3) := by decide +kernel
theorem d_Po_findInner_37 : decode b_Po_findInner_c 37 = .ok (.iastore, 1) := by decide +kernel
theorem d_Po_findInner_38 : decode b_Po_findInner_c 38 = .ok (.iinc 4 1, 3) := by decide +kernel
theorem d_Po_findInner_41 : decode b_Po_findInner_c 41 = .ok (.goto (-29), 3) := by decide +kernel
theorem d_Po_findInner_44 : decode b_Po_findInner_c 44 = .ok (.iload_n 3, 1) := by decide +kernel
theorem d_Po_findInner_45 : decode b_Po_findInner_c 45 = .ok (.ireturn, 1) := by decide +kernel
/-! GameRows$Points.findInner(II)I -/
set_option maxHeartbeats 4000000 in
set_option maxRecDepth 100000 in
theorem t_Po_findInner_12 {X : gX} {r : (Int32 × gS)} (C : gC X b_Po_findInner_c R_Po 5 3 72) (hR : ∀ pc lv, decode b_Po_findInner_c pc = .ok (.ireturn, 1) → G X pc lv [.int r.1] r.2) {k12 : Int32 × Int32 × Int32 × Int32 × gS → Option (Int32 × gS)}  (hk12 : ∀ x, k12 x = some r → G X 12 [(0, .ref (gA X 23)), (1, .int x.1), (2, .int x.2.1), (3, .int x.2.2.1), (4, .int x.2.2.2.1)] [] x.2.2.2.2) (x1 : Int32) (x2 : Int32) (x3 : Int32) (x4 : Int32) (σ : gS) (h : b_Po_findInner_12 k12 x1 x2 x3 x4 σ = some r) : G X 12 [(0, .ref (gA X 23)), (1, .int x1), (2, .int x2), (3, .int x3), (4, .int x4)] [] σ := by
  unfold b_Po_findInner_12 at h
  refine r_iload C 4 d_Po_findInner_12 rfl ?_
  refine r_iload_n C 3 d_Po_findInner_14 rfl rfl ?_
  refine r_icmp_ge C (tgt := 44) d_Po_findInner_15 (by decide) (fun hc_1 => ?_) (fun hc_1 => ?_)
  · rw [if_pos hc_1] at h
    refine r_iload_n C 3 d_Po_findInner_44 rfl rfl ?_
    cases h
    exact hR _ _ d_Po_findInner_45
  · rw [if_neg hc_1] at h
    refine r_aload_n C 0 d_Po_findInner_18 rfl rfl ?_
    refine q_Po_25 C d_Po_findInner_19 ?_
    refine r_iload_n C 1 d_Po_findInner_22 rfl rfl ?_
    obtain ⟨hi_2, h⟩ := ck_some h
    refine o_31 C (k' := 31 + 1 + x1.toNatClampNeg) hi_2 rfl d_Po_findInner_23 ?_
    refine r_iload C 4 d_Po_findInner_24 rfl ?_
    refine r_aload_n C 0 d_Po_findInner_26 rfl rfl ?_
    refine q_Po_28 C d_Po_findInner_27 ?_
    refine r_iload_n C 2 d_Po_findInner_30 rfl rfl ?_
    refine r_iload_n C 1 d_Po_findInner_31 rfl rfl ?_
    refine r_iload C 4 d_Po_findInner_32 rfl ?_
    obtain ⟨r_3, er_3, h⟩ := bind_some h
    refine r_callV C (As := [.int x2, .int x1, .int x4]) (rest := [.int x4, .ref (gA X (31 + 1 + x1.toNatClampNeg))]) (st1 := [.int r_3, .int x4, .ref (gA X (31 + 1 + x1.toNatClampNeg))]) (c_Fo_planFrom X.1.2.1 σ x2 x1 x4 er_3) k_Fo_planFrom m_157 (by decide) cel_Fo rfl rfl rfl rfl (Nat.le_of_ble_eq_true rfl) ⟨Nat.le_of_ble_eq_true rfl, Nat.le_of_ble_eq_true rfl⟩ d_Po_findInner_34 rfl ?_
    obtain ⟨hi_4, h⟩ := ck_some h
    obtain ⟨σ_5, eσ_5, h⟩ := bnd_some h
    refine r_iast C hi_4 eσ_5 d_Po_findInner_37 ?_
    obtain ⟨x4_6, ex4_6, h⟩ := bnd_some h
    refine r_iinc C 4 (lv' := [(4, .int x4_6), (0, .ref (gA X 23)), (1, .int x1), (2, .int x2), (3, .int x3)]) d_Po_findInner_38 rfl (by rw [ex4_6]; rfl) (by decide) rfl ?_
    refine r_goto C (tgt := 12) d_Po_findInner_41 (by decide) ?_
    refine r_sub [1, 2, 3, 4, 0] (lv' := [(0, .ref (gA X 23)), (1, .int x1), (2, .int x2), (3, .int x3), (4, .int x4_6)]) rfl ?_
    exact hk12 _ h
set_option maxHeartbeats 4000000 in
set_option maxRecDepth 100000 in
theorem u_Po_findInner_12 {X : gX} {r : (Int32 × gS)} (C : gC X b_Po_findInner_c R_Po 5 3 72) (hR : ∀ pc lv, decode b_Po_findInner_c pc = .ok (.ireturn, 1) → G X pc lv [.int r.1] r.2)  (x : Int32 × Int32 × Int32 × Int32 × gS) (h : l_Po_findInner_12 x = some r) : G X 12 [(0, .ref (gA X 23)), (1, .int x.1), (2, .int x.2.1), (3, .int x.2.2.1), (4, .int x.2.2.2.1)] [] x.2.2.2.2 :=
  lpF_ind (P := fun x => G X 12 [(0, .ref (gA X 23)), (1, .int x.1), (2, .int x.2.1), (3, .int x.2.2.1), (4, .int x.2.2.2.1)] [] x.2.2.2.2) (fun k hk x h => t_Po_findInner_12 C hR hk x.1 x.2.1 x.2.2.1 x.2.2.2.1 x.2.2.2.2 h) gF x h
set_option maxHeartbeats 4000000 in
set_option maxRecDepth 100000 in
theorem t_Po_findInner_0 {X : gX} {r : (Int32 × gS)} (C : gC X b_Po_findInner_c R_Po 5 3 72) (hR : ∀ pc lv, decode b_Po_findInner_c pc = .ok (.ireturn, 1) → G X pc lv [.int r.1] r.2) (x1 : Int32) (x2 : Int32) (σ : gS) (h : b_Po_findInner_0 x1 x2 σ = some r) : G X 0 [(0, .ref (gA X 23)), (1, .int x1), (2, .int x2)] [] σ := by
  unfold b_Po_findInner_0 at h
  refine r_aload_n C 0 d_Po_findInner_0 rfl rfl ?_
  refine q_Po_28 C d_Po_findInner_1 ?_
  refine r_iload_n C 1 d_Po_findInner_4 rfl rfl ?_
  obtain ⟨r_1, er_1, h⟩ := bind_some h
  refine r_callV C (As := [.int x1]) (rest := []) (st1 := [.int r_1]) (c_Fo_plansOf X.1.2.1 σ x1 er_1) k_Fo_plansOf m_161 (by decide) cel_Fo rfl rfl rfl rfl (Nat.le_of_ble_eq_true rfl) ⟨Nat.le_of_ble_eq_true rfl, Nat.le_of_ble_eq_true rfl⟩ d_Po_findInner_5 rfl ?_
  refine r_istore_n C (lv' := [(3, .int r_1), (0, .ref (gA X 23)), (1, .int x1), (2, .int x2)]) d_Po_findInner_8 rfl (by decide) rfl rfl ?_
  refine r_iconst C (v := 0) d_Po_findInner_9 (by decide) ?_
  refine r_istore C (lv' := [(4, .int 0), (3, .int r_1), (0, .ref (gA X 23)), (1, .int x1), (2, .int x2)]) d_Po_findInner_10 (by decide) rfl rfl ?_
  refine r_sub [2, 3, 4, 1, 0] (lv' := [(0, .ref (gA X 23)), (1, .int x1), (2, .int x2), (3, .int r_1), (4, .int 0)]) rfl ?_
  exact u_Po_findInner_12 C hR  (x1, x2, r_1, 0, σ) h
set_option maxHeartbeats 4000000 in
set_option maxRecDepth 100000 in
theorem c_Po_findInner (l : Launch) (σ : gS) (x1 : Int32) (x2 : Int32) {r : (Int32 × gS)} (h : f_Po_findInner σ x1 x2 = some r) : gMet l y_Po_findInner b_Po_findInner_c 5 (some .int) 3 72 (fun a => [.ref (a 23), .int x1, .int x2]) σ (some (.int r.1)) r.2 := by
  refine gMet_i (by decide +kernel) (fun a => Nat.le_of_ble_eq_true rfl) (fun X _ C hR => ?_)
  refine r_sub [0, 1, 2] (lv' := [(0, .ref (gA X 23)), (1, .int x1), (2, .int x2)]) rfl ?_
  exact t_Po_findInner_0 C hR x1 x2 σ h
theorem d_Ga_otherThan_0 : decode b_Ga_otherThan_c 0 = .ok (.iconst 1, 1) := by decide +kernel
theorem d_Ga_otherThan_1 : decode b_Ga_otherThan_c 1 = .ok (.iload_n 0, 1) := by decide +kernel
theorem d_Ga_otherThan_2 : decode b_Ga_otherThan_c 2 = .ok (.isub, 1) := by decide +kernel
theorem d_Ga_otherThan_3 : decode b_Ga_otherThan_c 3 = .ok (.ireturn, 1) := by decide +kernel
/-! GameRows.otherThan(I)I -/
set_option maxHeartbeats 4000000 in
set_option maxRecDepth 100000 in
theorem t_Ga_otherThan_0 {X : gX} {r : Int32} {σ : gS} (C : gC X b_Ga_otherThan_c R_Ga 1 0 0) (hR : ∀ pc lv, decode b_Ga_otherThan_c pc = .ok (.ireturn, 1) → G X pc lv [.int r] σ) (x0 : Int32) (h : b_Ga_otherThan_0 x0 = some r) : G X 0 [(0, .int x0)] [] σ := by
  unfold b_Ga_otherThan_0 at h
  refine r_iconst C (v := 1) d_Ga_otherThan_0 (by decide) ?_
  refine r_iload_n C 0 d_Ga_otherThan_1 rfl rfl ?_
  refine r_isub C d_Ga_otherThan_2 ?_
  cases h
  exact hR _ _ d_Ga_otherThan_3
set_option maxHeartbeats 4000000 in
set_option maxRecDepth 100000 in
theorem c_Ga_otherThan (l : Launch) (σ : gS) (x0 : Int32) {r : Int32} (h : f_Ga_otherThan x0 = some r) : gMet l y_Ga_otherThan b_Ga_otherThan_c 1 (some .int) 0 0 (fun a => [.int x0]) σ (some (.int r)) σ := by
  refine gMet_i (by decide +kernel) (fun a => Nat.le_of_ble_eq_true rfl) (fun X _ C hR => ?_)
  refine r_sub [0] (lv' := [(0, .int x0)]) rfl ?_
  exact t_Ga_otherThan_0 C hR x0 h
theorem d_Ta_value_0 : decode b_Ta_value_c 0 = .ok (.iload_n 1, 1) := by decide +kernel
theorem d_Ta_value_1 : decode b_Ta_value_c 1 = .ok (.ifCond .ne 19, 3) := by decide +kernel
theorem d_Ta_value_4 : decode b_Ta_value_c 4 = .ok (.aload_n 0, 1) := by decide +kernel
theorem d_Ta_value_5 : decode b_Ta_value_c 5 = .ok (.getfield 17, 3) := by decide +kernel
theorem d_Ta_value_8 : decode b_Ta_value_c 8 = .ok (.iconst 0, 1) := by decide +kernel
theorem d_Ta_value_9 : decode b_Ta_value_c 9 = .ok (.aaload, 1) := by decide +kernel
theorem d_Ta_value_10 : decode b_Ta_value_c 10 = .ok (.bipush 64, 2) := by decide +kernel
theorem d_Ta_value_12 : decode b_Ta_value_c 12 = .ok (.iload_n 2, 1) := by decide +kernel
theorem d_Ta_value_13 : decode b_Ta_value_c 13 = .ok (.imul, 1) := by decide +kernel
theorem d_Ta_value_14 : decode b_Ta_value_c 14 = .ok (.iload_n 3, 1) := by decide +kernel
theorem d_Ta_value_15 : decode b_Ta_value_c 15 = .ok (.iadd, 1) := by decide +kernel
theorem d_Ta_value_16 : decode b_Ta_value_c 16 = .ok (.iaload, 1) := by decide +kernel
theorem d_Ta_value_17 : decode b_Ta_value_c 17 = .ok (.goto 16, 3) := by decide +kernel
theorem d_Ta_value_20 : decode b_Ta_value_c 20 = .ok (.aload_n 0, 1) := by decide +kernel
theorem d_Ta_value_21 : decode b_Ta_value_c 21 = .ok (.getfield 17, 3) := by decide +kernel
theorem d_Ta_value_24 : decode b_Ta_value_c 24 = .ok (.iconst 1, 1) := by decide +kernel
theorem d_Ta_value_25 : decode b_Ta_value_c 25 = .ok (.aaload, 1) := by decide +kernel
theorem d_Ta_value_26 : decode b_Ta_value_c 26 = .ok (.bipush 64, 2) := by decide +kernel
theorem d_Ta_value_28 : decode b_Ta_value_c 28 = .ok (.iload_n 3, 1) := by decide +kernel
theorem d_Ta_value_29 : decode b_Ta_value_c 29 = .ok (.imul, 1) := by decide +kernel
theorem d_Ta_value_30 : decode b_Ta_value_c 30 = .ok (.iload_n 2, 1) := by decide +kernel
theorem d_Ta_value_31 : decode b_Ta_value_c 31 = .ok (.iadd, 1) := by decide +kernel
theorem d_Ta_value_32 : decode b_Ta_value_c 32 = .ok (.iaload, 1) := by decide +kernel
theorem d_Ta_value_33 : decode b_Ta_value_c 33 = .ok (.ireturn, 1) := by decide +kernel
/-! GameRows$Table.value(III)I -/
set_option maxHeartbeats 4000000 in
set_option maxRecDepth 100000 in
theorem t_Ta_value_0 {X : gX} {r : Int32} {σ : gS} (C : gC X b_Ta_value_c R_Ta 4 0 0) (hR : ∀ pc lv, decode b_Ta_value_c pc = .ok (.ireturn, 1) → G X pc lv [.int r] σ) (x1 : Int32) (x2 : Int32) (x3 : Int32) (h : b_Ta_value_0 σ x1 x2 x3 = some r) : G X 0 [(0, .ref (gA X 16)), (1, .int x1), (2, .int x2), (3, .int x3)] [] σ := by
  unfold b_Ta_value_0 at h
  refine r_iload_n C 1 d_Ta_value_0 rfl rfl ?_
  refine r_if_ne C (tgt := 20) d_Ta_value_1 (by decide) (fun hc_1 => ?_) (fun hc_1 => ?_)
  · rw [if_neg hc_1] at h
    refine r_aload_n C 0 d_Ta_value_20 rfl rfl ?_
    refine q_Ta_17 C d_Ta_value_21 ?_
    refine r_iconst C (v := 1) d_Ta_value_24 (by decide) ?_
    obtain ⟨hi_2, h⟩ := ck_some h
    refine o_18 C (k' := 20) hi_2 rfl d_Ta_value_25 ?_
    refine r_bipush C (v := 64) d_Ta_value_26 (by decide) ?_
    refine r_iload_n C 3 d_Ta_value_28 rfl rfl ?_
    refine r_imul C d_Ta_value_29 ?_
    refine r_iload_n C 2 d_Ta_value_30 rfl rfl ?_
    refine r_iadd C d_Ta_value_31 ?_
    obtain ⟨hi_3, h⟩ := ck_some h
    refine r_iald C hi_3 d_Ta_value_32 ?_
    cases h
    exact hR _ _ d_Ta_value_33
  · rw [if_pos hc_1] at h
    refine r_aload_n C 0 d_Ta_value_4 rfl rfl ?_
    refine q_Ta_17 C d_Ta_value_5 ?_
    refine r_iconst C (v := 0) d_Ta_value_8 (by decide) ?_
    obtain ⟨hi_4, h⟩ := ck_some h
    refine o_18 C (k' := 19) hi_4 rfl d_Ta_value_9 ?_
    refine r_bipush C (v := 64) d_Ta_value_10 (by decide) ?_
    refine r_iload_n C 2 d_Ta_value_12 rfl rfl ?_
    refine r_imul C d_Ta_value_13 ?_
    refine r_iload_n C 3 d_Ta_value_14 rfl rfl ?_
    refine r_iadd C d_Ta_value_15 ?_
    obtain ⟨hi_5, h⟩ := ck_some h
    refine r_iald C hi_5 d_Ta_value_16 ?_
    refine r_goto C (tgt := 33) d_Ta_value_17 (by decide) ?_
    cases h
    exact hR _ _ d_Ta_value_33
set_option maxHeartbeats 4000000 in
set_option maxRecDepth 100000 in
theorem c_Ta_value (l : Launch) (σ : gS) (x1 : Int32) (x2 : Int32) (x3 : Int32) {r : Int32} (h : f_Ta_value σ x1 x2 x3 = some r) : gMet l y_Ta_value b_Ta_value_c 4 (some .int) 0 0 (fun a => [.ref (a 16), .int x1, .int x2, .int x3]) σ (some (.int r)) σ := by
  refine gMet_i (by decide +kernel) (fun a => Nat.le_of_ble_eq_true rfl) (fun X _ C hR => ?_)
  refine r_sub [0, 1, 2, 3] (lv' := [(0, .ref (gA X 16)), (1, .int x1), (2, .int x2), (3, .int x3)]) rfl ?_
  exact t_Ta_value_0 C hR x1 x2 x3 h
theorem d_Ta_bestAgainst_0 : decode b_Ta_bestAgainst_c 0 = .ok (.iconst 0, 1) := by decide +kernel
theorem d_Ta_bestAgainst_1 : decode b_Ta_bestAgainst_c 1 = .ok (.istore_n 3, 1) := by decide +kernel
theorem d_Ta_bestAgainst_2 : decode b_Ta_bestAgainst_c 2 = .ok (.iconst 1, 1) := by decide +kernel
theorem d_Ta_bestAgainst_3 : decode b_Ta_bestAgainst_c 3 = .ok (.istore 4, 2) := by decide +kernel
theorem d_Ta_bestAgainst_5 : decode b_Ta_bestAgainst_c 5 = .ok (.iload 4, 2) := by decide +kernel
theorem d_Ta_bestAgainst_7 : decode b_Ta_bestAgainst_c 7 = .ok (.aload_n 0, 1) := by decide +kernel
theorem d_Ta_bestAgainst_8 : decode b_Ta_bestAgainst_c 8 = .ok (.getfield 9, 3) := by decide +kernel
theorem d_Ta_bestAgainst_11 : decode b_Ta_bestAgainst_c 11 = .ok (.iload_n 1, 1) := by decide +kernel
theorem d_Ta_bestAgainst_12 : decode b_Ta_bestAgainst_c 12 = .ok (.iaload, 1) := by decide +kernel
theorem d_Ta_bestAgainst_13 : decode b_Ta_bestAgainst_c 13 = .ok (.if_icmp .ge 30, 3) := by decide +kernel
theorem d_Ta_bestAgainst_16 : decode b_Ta_bestAgainst_c 16 = .ok (.aload_n 0, 1) := by decide +kernel
theorem d_Ta_bestAgainst_17 : decode b_Ta_bestAgainst_c 17 = .ok (.iload_n 1, 1) := by decide +kernel
theorem d_Ta_bestAgainst_18 : decode b_Ta_bestAgainst_c 18 = .ok (.iload 4, 2) := by decide +kernel
theorem d_Ta_bestAgainst_20 : decode b_Ta_bestAgainst_c 20 = .ok (.iload_n 2, 1) := by decide +kernel
theorem d_Ta_bestAgainst_21 : decode b_Ta_bestAgainst_c 21 = .ok (.invokevirtual 86, 3) := by decide +kernel
theorem d_Ta_bestAgainst_24 : decode b_Ta_bestAgainst_c 24 = .ok (.aload_n 0, 1) := by decide +kernel
theorem d_Ta_bestAgainst_25 : decode b_Ta_bestAgainst_c 25 = .ok (.iload_n 1, 1) := by decide +kernel
theorem d_Ta_bestAgainst_26 : decode b_Ta_bestAgainst_c 26 = .ok (.iload_n 3, 1) := by decide +kernel
theorem d_Ta_bestAgainst_27 : decode b_Ta_bestAgainst_c 27 = .ok (.iload_n 2, 1) := by decide +kernel
theorem d_Ta_bestAgainst_28 : decode b_Ta_bestAgainst_c 28 = .ok (.invokevirtual 86, 3) := by decide +kernel
theorem d_Ta_bestAgainst_31 : decode b_Ta_bestAgainst_c 31 = .ok (.if_icmp .le 6, 3) := by decide +kernel
theorem d_Ta_bestAgainst_34 : decode b_Ta_bestAgainst_c 34 = .ok (.iload 4, 2) := by decide +kernel
theorem d_Ta_bestAgainst_36 : decode b_Ta_bestAgainst_c 36 = .ok (.istore_n 3, 1) := by decide +kernel
theorem d_Ta_bestAgainst_37 : decode b_Ta_bestAgainst_c 37 = .ok (.iinc 4 1, 3) := by decide +kernel
theorem d_Ta_bestAgainst_40 : decode b_Ta_bestAgainst_c 40 = .ok (.goto (-35), 3) := by decide +kernel
theorem d_Ta_bestAgainst_43 : decode b_Ta_bestAgainst_c 43 = .ok (.iload_n 3, 1) := by decide +kernel
theorem d_Ta_bestAgainst_44 : decode b_Ta_bestAgainst_c 44 = .ok (.ireturn, 1) := by decide +kernel
/-! GameRows$Table.bestAgainst(II)I -/
set_option maxHeartbeats 4000000 in
set_option maxRecDepth 100000 in
theorem t_Ta_bestAgainst_37 {X : gX} {r : Int32} {σ : gS} (C : gC X b_Ta_bestAgainst_c R_Ta 5 1 23) (hR : ∀ pc lv, decode b_Ta_bestAgainst_c pc = .ok (.ireturn, 1) → G X pc lv [.int r] σ) {k5 : Int32 × Int32 × Int32 × Int32 → Option Int32}  (hk5 : ∀ x, k5 x = some r → G X 5 [(0, .ref (gA X 16)), (1, .int x.1), (2, .int x.2.1), (3, .int x.2.2.1), (4, .int x.2.2.2)] [] σ) (x1 : Int32) (x2 : Int32) (x3 : Int32) (x4 : Int32) (h : b_Ta_bestAgainst_37 σ k5 x1 x2 x3 x4 = some r) : G X 37 [(0, .ref (gA X 16)), (1, .int x1), (2, .int x2), (3, .int x3), (4, .int x4)] [] σ := by
  unfold b_Ta_bestAgainst_37 at h
  obtain ⟨x4_1, ex4_1, h⟩ := bnd_some h
  refine r_iinc C 4 (lv' := [(4, .int x4_1), (0, .ref (gA X 16)), (1, .int x1), (2, .int x2), (3, .int x3)]) d_Ta_bestAgainst_37 rfl (by rw [ex4_1]; rfl) (by decide) rfl ?_
  refine r_goto C (tgt := 5) d_Ta_bestAgainst_40 (by decide) ?_
  refine r_sub [1, 2, 3, 4, 0] (lv' := [(0, .ref (gA X 16)), (1, .int x1), (2, .int x2), (3, .int x3), (4, .int x4_1)]) rfl ?_
  exact hk5 _ h
set_option maxHeartbeats 4000000 in
set_option maxRecDepth 100000 in
theorem t_Ta_bestAgainst_5 {X : gX} {r : Int32} {σ : gS} (C : gC X b_Ta_bestAgainst_c R_Ta 5 1 23) (hR : ∀ pc lv, decode b_Ta_bestAgainst_c pc = .ok (.ireturn, 1) → G X pc lv [.int r] σ) {k5 : Int32 × Int32 × Int32 × Int32 → Option Int32}  (hk5 : ∀ x, k5 x = some r → G X 5 [(0, .ref (gA X 16)), (1, .int x.1), (2, .int x.2.1), (3, .int x.2.2.1), (4, .int x.2.2.2)] [] σ) (x1 : Int32) (x2 : Int32) (x3 : Int32) (x4 : Int32) (h : b_Ta_bestAgainst_5 σ k5 x1 x2 x3 x4 = some r) : G X 5 [(0, .ref (gA X 16)), (1, .int x1), (2, .int x2), (3, .int x3), (4, .int x4)] [] σ := by
  unfold b_Ta_bestAgainst_5 at h
  refine r_iload C 4 d_Ta_bestAgainst_5 rfl ?_
  refine r_aload_n C 0 d_Ta_bestAgainst_7 rfl rfl ?_
  refine q_Ta_9 C d_Ta_bestAgainst_8 ?_
  refine r_iload_n C 1 d_Ta_bestAgainst_11 rfl rfl ?_
  obtain ⟨hi_1, h⟩ := ck_some h
  refine r_iald C hi_1 d_Ta_bestAgainst_12 ?_
  refine r_icmp_ge C (tgt := 43) d_Ta_bestAgainst_13 (by decide) (fun hc_2 => ?_) (fun hc_2 => ?_)
  · rw [if_pos hc_2] at h
    refine r_iload_n C 3 d_Ta_bestAgainst_43 rfl rfl ?_
    cases h
    exact hR _ _ d_Ta_bestAgainst_44
  · rw [if_neg hc_2] at h
    refine r_aload_n C 0 d_Ta_bestAgainst_16 rfl rfl ?_
    refine r_iload_n C 1 d_Ta_bestAgainst_17 rfl rfl ?_
    refine r_iload C 4 d_Ta_bestAgainst_18 rfl ?_
    refine r_iload_n C 2 d_Ta_bestAgainst_20 rfl rfl ?_
    obtain ⟨r_3, er_3, h⟩ := bind_some h
    refine r_callV C (As := [.int x1, .int x4, .int x2]) (rest := []) (st1 := [.int r_3]) (c_Ta_value X.1.2.1 σ x1 x4 x2 er_3) k_Ta_value m_165 (by decide) cel_Ta rfl rfl rfl rfl (Nat.le_of_ble_eq_true rfl) ⟨Nat.le_of_ble_eq_true rfl, Nat.le_of_ble_eq_true rfl⟩ d_Ta_bestAgainst_21 rfl ?_
    refine r_aload_n C 0 d_Ta_bestAgainst_24 rfl rfl ?_
    refine r_iload_n C 1 d_Ta_bestAgainst_25 rfl rfl ?_
    refine r_iload_n C 3 d_Ta_bestAgainst_26 rfl rfl ?_
    refine r_iload_n C 2 d_Ta_bestAgainst_27 rfl rfl ?_
    obtain ⟨r_4, er_4, h⟩ := bind_some h
    refine r_callV C (As := [.int x1, .int x3, .int x2]) (rest := [.int r_3]) (st1 := [.int r_4, .int r_3]) (c_Ta_value X.1.2.1 σ x1 x3 x2 er_4) k_Ta_value m_165 (by decide) cel_Ta rfl rfl rfl rfl (Nat.le_of_ble_eq_true rfl) ⟨Nat.le_of_ble_eq_true rfl, Nat.le_of_ble_eq_true rfl⟩ d_Ta_bestAgainst_28 rfl ?_
    refine r_icmp_le C (tgt := 37) d_Ta_bestAgainst_31 (by decide) (fun hc_5 => ?_) (fun hc_5 => ?_)
    · rw [if_pos hc_5] at h
      exact t_Ta_bestAgainst_37 C hR hk5 x1 x2 x3 x4 h
    · rw [if_neg hc_5] at h
      refine r_iload C 4 d_Ta_bestAgainst_34 rfl ?_
      refine r_istore_n C (lv' := [(3, .int x4), (0, .ref (gA X 16)), (1, .int x1), (2, .int x2), (4, .int x4)]) d_Ta_bestAgainst_36 rfl (by decide) rfl rfl ?_
      refine r_sub [1, 2, 3, 0, 4] (lv' := [(0, .ref (gA X 16)), (1, .int x1), (2, .int x2), (3, .int x4), (4, .int x4)]) rfl ?_
      exact t_Ta_bestAgainst_37 C hR hk5 x1 x2 x4 x4 h
set_option maxHeartbeats 4000000 in
set_option maxRecDepth 100000 in
theorem u_Ta_bestAgainst_5 {X : gX} {r : Int32} {σ : gS} (C : gC X b_Ta_bestAgainst_c R_Ta 5 1 23) (hR : ∀ pc lv, decode b_Ta_bestAgainst_c pc = .ok (.ireturn, 1) → G X pc lv [.int r] σ)  (x : Int32 × Int32 × Int32 × Int32) (h : l_Ta_bestAgainst_5 σ x = some r) : G X 5 [(0, .ref (gA X 16)), (1, .int x.1), (2, .int x.2.1), (3, .int x.2.2.1), (4, .int x.2.2.2)] [] σ :=
  lpF_ind (P := fun x => G X 5 [(0, .ref (gA X 16)), (1, .int x.1), (2, .int x.2.1), (3, .int x.2.2.1), (4, .int x.2.2.2)] [] σ) (fun k hk x h => t_Ta_bestAgainst_5 C hR hk x.1 x.2.1 x.2.2.1 x.2.2.2 h) gF x h
set_option maxHeartbeats 4000000 in
set_option maxRecDepth 100000 in
theorem t_Ta_bestAgainst_0 {X : gX} {r : Int32} {σ : gS} (C : gC X b_Ta_bestAgainst_c R_Ta 5 1 23) (hR : ∀ pc lv, decode b_Ta_bestAgainst_c pc = .ok (.ireturn, 1) → G X pc lv [.int r] σ) (x1 : Int32) (x2 : Int32) (h : b_Ta_bestAgainst_0 σ x1 x2 = some r) : G X 0 [(0, .ref (gA X 16)), (1, .int x1), (2, .int x2)] [] σ := by
  unfold b_Ta_bestAgainst_0 at h
  refine r_iconst C (v := 0) d_Ta_bestAgainst_0 (by decide) ?_
  refine r_istore_n C (lv' := [(3, .int 0), (0, .ref (gA X 16)), (1, .int x1), (2, .int x2)]) d_Ta_bestAgainst_1 rfl (by decide) rfl rfl ?_
  refine r_iconst C (v := 1) d_Ta_bestAgainst_2 (by decide) ?_
  refine r_istore C (lv' := [(4, .int 1), (3, .int 0), (0, .ref (gA X 16)), (1, .int x1), (2, .int x2)]) d_Ta_bestAgainst_3 (by decide) rfl rfl ?_
  refine r_sub [2, 3, 4, 1, 0] (lv' := [(0, .ref (gA X 16)), (1, .int x1), (2, .int x2), (3, .int 0), (4, .int 1)]) rfl ?_
  exact u_Ta_bestAgainst_5 C hR  (x1, x2, 0, 1) h
set_option maxHeartbeats 4000000 in
set_option maxRecDepth 100000 in
theorem c_Ta_bestAgainst (l : Launch) (σ : gS) (x1 : Int32) (x2 : Int32) {r : Int32} (h : f_Ta_bestAgainst σ x1 x2 = some r) : gMet l y_Ta_bestAgainst b_Ta_bestAgainst_c 5 (some .int) 1 23 (fun a => [.ref (a 16), .int x1, .int x2]) σ (some (.int r)) σ := by
  refine gMet_i (by decide +kernel) (fun a => Nat.le_of_ble_eq_true rfl) (fun X _ C hR => ?_)
  refine r_sub [0, 1, 2] (lv' := [(0, .ref (gA X 16)), (1, .int x1), (2, .int x2)]) rfl ?_
  exact t_Ta_bestAgainst_0 C hR x1 x2 h
theorem d_Po_findBest_0 : decode b_Po_findBest_c 0 = .ok (.iconst 0, 1) := by decide +kernel
theorem d_Po_findBest_1 : decode b_Po_findBest_c 1 = .ok (.istore_n 2, 1) := by decide +kernel
theorem d_Po_findBest_2 : decode b_Po_findBest_c 2 = .ok (.iload_n 2, 1) := by decide +kernel
theorem d_Po_findBest_3 : decode b_Po_findBest_c 3 = .ok (.aload_n 0, 1) := by decide +kernel
theorem d_Po_findBest_4 : decode b_Po_findBest_c 4 = .ok (.getfield 32, 3) := by decide +kernel
theorem d_Po_findBest_7 : decode b_Po_findBest_c 7 = .ok (.getfield 115, 3) := by decide +kernel
theorem d_Po_findBest_10 : decode b_Po_findBest_c 10 = .ok (.iload_n 1, 1) := by decide +kernel
theorem d_Po_findBest_11 : decode b_Po_findBest_c 11 = .ok (.invokestatic 118, 3) := by decide +kernel
theorem d_Po_findBest_14 : decode b_Po_findBest_c 14 = .ok (.iaload, 1) := by decide +kernel
theorem d_Po_findBest_15 : decode b_Po_findBest_c 15 = .ok (.if_icmp .ge 35, 3) := by decide +kernel
theorem d_Po_findBest_18 : decode b_Po_findBest_c 18 = .ok (.aload_n 0, 1) := by decide +kernel
theorem d_Po_findBest_19 : decode b_Po_findBest_c 19 = .ok (.getfield 22, 3) := by decide +kernel
theorem d_Po_findBest_22 : decode b_Po_findBest_c 22 = .ok (.iload_n 1, 1) := by decide +kernel
theorem d_Po_findBest_23 : decode b_Po_findBest_c 23 = .ok (.aaload, 1) := by decide +kernel
theorem d_Po_findBest_24 : decode b_Po_findBest_c 24 = .ok (.iload_n 2, 1) := by decide +kernel
theorem d_Po_findBest_25 : decode b_Po_findBest_c 25 = .ok (.aload_n 0, 1) := by decide +kernel
theorem d_Po_findBest_26 : decode b_Po_findBest_c 26 = .ok (.getfield 32, 3) := by decide +kernel
theorem d_Po_findBest_29 : decode b_Po_findBest_c 29 = .ok (.iload_n 1, 1) := by decide +kernel
theorem d_Po_findBest_30 : decode b_Po_findBest_c 30 = .ok (.aload_n 0, 1) := by decide +kernel
theorem d_Po_findBest_31 : decode b_Po_findBest_c 31 = .ok (.getfield 32, 3) := by decide +kernel
theorem d_Po_findBest_34 : decode b_Po_findBest_c 34 = .ok (.iload_n 1, 1) := by decide +kernel
theorem d_Po_findBest_35 : decode b_Po_findBest_c 35 = .ok (.iload_n 2, 1) := by decide +kernel
theorem d_Po_findBest_36 : decode b_Po_findBest_c 36 = .ok (.invokevirtual 121, 3) := by decide +kernel
theorem d_Po_findBest_39 : decode b_Po_findBest_c 39 = .ok (.iload_n 2, 1) := by decide +kernel
theorem d_Po_findBest_40 : decode b_Po_findBest_c 40 = .ok (.invokevirtual 112, 3) := by decide +kernel
theorem d_Po_findBest_43 : decode b_Po_findBest_c 43 = .ok (.iastore, 1) := by decide +kernel
theorem d_Po_findBest_44 : decode b_Po_findBest_c 44 = .ok (.iinc 2 1, 3) := by decide +kernel
theorem d_Po_findBest_47 : decode b_Po_findBest_c 47 = .ok (.goto (-45), 3) := by decide +kernel
theorem d_Po_findBest_50 : decode b_Po_findBest_c 50 = .ok (.return_, 1) := by decide +kernel
/-! GameRows$Points.findBest(I)V -/
set_option maxHeartbeats 4000000 in
set_option maxRecDepth 100000 in
theorem t_Po_findBest_2 {X : gX} {r : gS} (C : gC X b_Po_findBest_c R_Po 3 2 47) (hR : ∀ pc lv, decode b_Po_findBest_c pc = .ok (.return_, 1) → G X pc lv [] r) {k2 : Int32 × Int32 × gS → Option gS}  (hk2 : ∀ x, k2 x = some r → G X 2 [(0, .ref (gA X 23)), (1, .int x.1), (2, .int x.2.1)] [] x.2.2) (x1 : Int32) (x2 : Int32) (σ : gS) (h : b_Po_findBest_2 k2 x1 x2 σ = some r) : G X 2 [(0, .ref (gA X 23)), (1, .int x1), (2, .int x2)] [] σ := by
  unfold b_Po_findBest_2 at h
  refine r_iload_n C 2 d_Po_findBest_2 rfl rfl ?_
  refine r_aload_n C 0 d_Po_findBest_3 rfl rfl ?_
  refine q_Po_32 C d_Po_findBest_4 ?_
  refine q_Po_115 C d_Po_findBest_7 ?_
  refine r_iload_n C 1 d_Po_findBest_10 rfl rfl ?_
  obtain ⟨r_1, er_1, h⟩ := bind_some h
  refine r_callSN C (As := [.int x1]) (rest := [.ref (gA X 17), .int x2]) (st1 := [.int r_1, .ref (gA X 17), .int x2]) (c_Ga_otherThan X.1.2.1 σ x1 er_1) k_Ga_otherThan n_Po_118 rfl rfl rfl (Nat.le_of_ble_eq_true rfl) ⟨Nat.le_of_ble_eq_true rfl, Nat.le_of_ble_eq_true rfl⟩ d_Po_findBest_11 rfl ?_
  obtain ⟨hi_2, h⟩ := ck_some h
  refine r_iald C hi_2 d_Po_findBest_14 ?_
  refine r_icmp_ge C (tgt := 50) d_Po_findBest_15 (by decide) (fun hc_3 => ?_) (fun hc_3 => ?_)
  · rw [if_pos hc_3] at h
    cases h
    exact hR _ _ d_Po_findBest_50
  · rw [if_neg hc_3] at h
    refine r_aload_n C 0 d_Po_findBest_18 rfl rfl ?_
    refine q_Po_22 C d_Po_findBest_19 ?_
    refine r_iload_n C 1 d_Po_findBest_22 rfl rfl ?_
    obtain ⟨hi_4, h⟩ := ck_some h
    refine o_28 C (k' := 28 + 1 + x1.toNatClampNeg) hi_4 rfl d_Po_findBest_23 ?_
    refine r_iload_n C 2 d_Po_findBest_24 rfl rfl ?_
    refine r_aload_n C 0 d_Po_findBest_25 rfl rfl ?_
    refine q_Po_32 C d_Po_findBest_26 ?_
    refine r_iload_n C 1 d_Po_findBest_29 rfl rfl ?_
    refine r_aload_n C 0 d_Po_findBest_30 rfl rfl ?_
    refine q_Po_32 C d_Po_findBest_31 ?_
    refine r_iload_n C 1 d_Po_findBest_34 rfl rfl ?_
    refine r_iload_n C 2 d_Po_findBest_35 rfl rfl ?_
    obtain ⟨r_5, er_5, h⟩ := bind_some h
    refine r_callV C (As := [.int x1, .int x2]) (rest := [.int x1, .ref (gA X 16), .int x2, .ref (gA X (28 + 1 + x1.toNatClampNeg))]) (st1 := [.int r_5, .int x1, .ref (gA X 16), .int x2, .ref (gA X (28 + 1 + x1.toNatClampNeg))]) (c_Ta_bestAgainst X.1.2.1 σ x1 x2 er_5) k_Ta_bestAgainst m_174 (by decide) cel_Ta rfl rfl rfl rfl (Nat.le_of_ble_eq_true rfl) ⟨Nat.le_of_ble_eq_true rfl, Nat.le_of_ble_eq_true rfl⟩ d_Po_findBest_36 rfl ?_
    refine r_iload_n C 2 d_Po_findBest_39 rfl rfl ?_
    obtain ⟨r_6, er_6, h⟩ := bind_some h
    refine r_callV C (As := [.int x1, .int r_5, .int x2]) (rest := [.int x2, .ref (gA X (28 + 1 + x1.toNatClampNeg))]) (st1 := [.int r_6, .int x2, .ref (gA X (28 + 1 + x1.toNatClampNeg))]) (c_Ta_value X.1.2.1 σ x1 r_5 x2 er_6) k_Ta_value m_178 (by decide) cel_Ta rfl rfl rfl rfl (Nat.le_of_ble_eq_true rfl) ⟨Nat.le_of_ble_eq_true rfl, Nat.le_of_ble_eq_true rfl⟩ d_Po_findBest_40 rfl ?_
    obtain ⟨hi_7, h⟩ := ck_some h
    obtain ⟨σ_8, eσ_8, h⟩ := bnd_some h
    refine r_iast C hi_7 eσ_8 d_Po_findBest_43 ?_
    obtain ⟨x2_9, ex2_9, h⟩ := bnd_some h
    refine r_iinc C 2 (lv' := [(2, .int x2_9), (0, .ref (gA X 23)), (1, .int x1)]) d_Po_findBest_44 rfl (by rw [ex2_9]; rfl) (by decide) rfl ?_
    refine r_goto C (tgt := 2) d_Po_findBest_47 (by decide) ?_
    refine r_sub [1, 2, 0] (lv' := [(0, .ref (gA X 23)), (1, .int x1), (2, .int x2_9)]) rfl ?_
    exact hk2 _ h
set_option maxHeartbeats 4000000 in
set_option maxRecDepth 100000 in
theorem u_Po_findBest_2 {X : gX} {r : gS} (C : gC X b_Po_findBest_c R_Po 3 2 47) (hR : ∀ pc lv, decode b_Po_findBest_c pc = .ok (.return_, 1) → G X pc lv [] r)  (x : Int32 × Int32 × gS) (h : l_Po_findBest_2 x = some r) : G X 2 [(0, .ref (gA X 23)), (1, .int x.1), (2, .int x.2.1)] [] x.2.2 :=
  lpF_ind (P := fun x => G X 2 [(0, .ref (gA X 23)), (1, .int x.1), (2, .int x.2.1)] [] x.2.2) (fun k hk x h => t_Po_findBest_2 C hR hk x.1 x.2.1 x.2.2 h) gF x h
set_option maxHeartbeats 4000000 in
set_option maxRecDepth 100000 in
theorem t_Po_findBest_0 {X : gX} {r : gS} (C : gC X b_Po_findBest_c R_Po 3 2 47) (hR : ∀ pc lv, decode b_Po_findBest_c pc = .ok (.return_, 1) → G X pc lv [] r) (x1 : Int32) (σ : gS) (h : b_Po_findBest_0 x1 σ = some r) : G X 0 [(0, .ref (gA X 23)), (1, .int x1)] [] σ := by
  unfold b_Po_findBest_0 at h
  refine r_iconst C (v := 0) d_Po_findBest_0 (by decide) ?_
  refine r_istore_n C (lv' := [(2, .int 0), (0, .ref (gA X 23)), (1, .int x1)]) d_Po_findBest_1 rfl (by decide) rfl rfl ?_
  refine r_sub [1, 2, 0] (lv' := [(0, .ref (gA X 23)), (1, .int x1), (2, .int 0)]) rfl ?_
  exact u_Po_findBest_2 C hR  (x1, 0, σ) h
set_option maxHeartbeats 4000000 in
set_option maxRecDepth 100000 in
theorem c_Po_findBest (l : Launch) (σ : gS) (x1 : Int32) {r : gS} (h : f_Po_findBest σ x1 = some r) : gMet l y_Po_findBest b_Po_findBest_c 3 (none) 2 47 (fun a => [.ref (a 23), .int x1]) σ (none) r := by
  refine gMet_v (by decide +kernel) (fun a => Nat.le_of_ble_eq_true rfl) (fun X _ C hR => ?_)
  refine r_sub [0, 1] (lv' := [(0, .ref (gA X 23)), (1, .int x1)]) rfl ?_
  exact t_Po_findBest_0 C hR x1 σ h
theorem d_Po_isPoint_0 : decode b_Po_isPoint_c 0 = .ok (.aload_n 0, 1) := by decide +kernel
theorem d_Po_isPoint_1 : decode b_Po_isPoint_c 1 = .ok (.getfield 32, 3) := by decide +kernel
theorem d_Po_isPoint_4 : decode b_Po_isPoint_c 4 = .ok (.iconst 0, 1) := by decide +kernel
theorem d_Po_isPoint_5 : decode b_Po_isPoint_c 5 = .ok (.iload_n 1, 1) := by decide +kernel
theorem d_Po_isPoint_6 : decode b_Po_isPoint_c 6 = .ok (.iload_n 2, 1) := by decide +kernel
theorem d_Po_isPoint_7 : decode b_Po_isPoint_c 7 = .ok (.invokevirtual 112, 3) := by decide +kernel
theorem d_Po_isPoint_10 : decode b_Po_isPoint_c 10 = .ok (.aload_n 0, 1) := by decide +kernel
theorem d_Po_isPoint_11 : decode b_Po_isPoint_c 11 = .ok (.getfield 22, 3) := by decide +kernel
theorem d_Po_isPoint_14 : decode b_Po_isPoint_c 14 = .ok (.iconst 0, 1) := by decide +kernel
theorem d_Po_isPoint_15 : decode b_Po_isPoint_c 15 = .ok (.aaload, 1) := by decide +kernel
theorem d_Po_isPoint_16 : decode b_Po_isPoint_c 16 = .ok (.iload_n 2, 1) := by decide +kernel
theorem d_Po_isPoint_17 : decode b_Po_isPoint_c 17 = .ok (.iaload, 1) := by decide +kernel
theorem d_Po_isPoint_18 : decode b_Po_isPoint_c 18 = .ok (.if_icmp .ne 28, 3) := by decide +kernel
theorem d_Po_isPoint_21 : decode b_Po_isPoint_c 21 = .ok (.aload_n 0, 1) := by decide +kernel
theorem d_Po_isPoint_22 : decode b_Po_isPoint_c 22 = .ok (.getfield 32, 3) := by decide +kernel
theorem d_Po_isPoint_25 : decode b_Po_isPoint_c 25 = .ok (.iconst 1, 1) := by decide +kernel
theorem d_Po_isPoint_26 : decode b_Po_isPoint_c 26 = .ok (.iload_n 2, 1) := by decide +kernel
theorem d_Po_isPoint_27 : decode b_Po_isPoint_c 27 = .ok (.iload_n 1, 1) := by decide +kernel
theorem d_Po_isPoint_28 : decode b_Po_isPoint_c 28 = .ok (.invokevirtual 112, 3) := by decide +kernel
theorem d_Po_isPoint_31 : decode b_Po_isPoint_c 31 = .ok (.aload_n 0, 1) := by decide +kernel
theorem d_Po_isPoint_32 : decode b_Po_isPoint_c 32 = .ok (.getfield 22, 3) := by decide +kernel
theorem d_Po_isPoint_35 : decode b_Po_isPoint_c 35 = .ok (.iconst 1, 1) := by decide +kernel
theorem d_Po_isPoint_36 : decode b_Po_isPoint_c 36 = .ok (.aaload, 1) := by decide +kernel
theorem d_Po_isPoint_37 : decode b_Po_isPoint_c 37 = .ok (.iload_n 1, 1) := by decide +kernel
theorem d_Po_isPoint_38 : decode b_Po_isPoint_c 38 = .ok (.iaload, 1) := by decide +kernel
theorem d_Po_isPoint_39 : decode b_Po_isPoint_c 39 = .ok (.if_icmp .ne 7, 3) := by decide +kernel
theorem d_Po_isPoint_42 : decode b_Po_isPoint_c 42 = .ok (.iconst 1, 1) := by decide +kernel
theorem d_Po_isPoint_43 : decode b_Po_isPoint_c 43 = .ok (.goto 4, 3) := by decide +kernel
theorem d_Po_isPoint_46 : decode b_Po_isPoint_c 46 = .ok (.iconst 0, 1) := by decide +kernel
theorem d_Po_isPoint_47 : decode b_Po_isPoint_c 47 = .ok (.ireturn, 1) := by decide +kernel
/-! GameRows$Points.isPoint(II)Z -/
set_option maxHeartbeats 4000000 in
set_option maxRecDepth 100000 in
theorem t_Po_isPoint_0 {X : gX} {r : Int32} {σ : gS} (C : gC X b_Po_isPoint_c R_Po 3 1 23) (hR : ∀ pc lv, isB r = true → decode b_Po_isPoint_c pc = .ok (.ireturn, 1) → G X pc lv [.int r] σ) (x1 : Int32) (x2 : Int32) (h : b_Po_isPoint_0 σ x1 x2 = some r) : G X 0 [(0, .ref (gA X 23)), (1, .int x1), (2, .int x2)] [] σ := by
  unfold b_Po_isPoint_0 at h
  refine r_aload_n C 0 d_Po_isPoint_0 rfl rfl ?_
  refine q_Po_32 C d_Po_isPoint_1 ?_
  refine r_iconst C (v := 0) d_Po_isPoint_4 (by decide) ?_
  refine r_iload_n C 1 d_Po_isPoint_5 rfl rfl ?_
  refine r_iload_n C 2 d_Po_isPoint_6 rfl rfl ?_
  obtain ⟨r_1, er_1, h⟩ := bind_some h
  refine r_callV C (As := [.int 0, .int x1, .int x2]) (rest := []) (st1 := [.int r_1]) (c_Ta_value X.1.2.1 σ 0 x1 x2 er_1) k_Ta_value m_178 (by decide) cel_Ta rfl rfl rfl rfl (Nat.le_of_ble_eq_true rfl) ⟨Nat.le_of_ble_eq_true rfl, Nat.le_of_ble_eq_true rfl⟩ d_Po_isPoint_7 rfl ?_
  refine r_aload_n C 0 d_Po_isPoint_10 rfl rfl ?_
  refine q_Po_22 C d_Po_isPoint_11 ?_
  refine r_iconst C (v := 0) d_Po_isPoint_14 (by decide) ?_
  obtain ⟨hi_2, h⟩ := ck_some h
  refine o_28 C (k' := 29) hi_2 rfl d_Po_isPoint_15 ?_
  refine r_iload_n C 2 d_Po_isPoint_16 rfl rfl ?_
  obtain ⟨hi_3, h⟩ := ck_some h
  refine r_iald C hi_3 d_Po_isPoint_17 ?_
  refine r_icmp_ne C (tgt := 46) d_Po_isPoint_18 (by decide) (fun hc_4 => ?_) (fun hc_4 => ?_)
  · rw [if_neg hc_4] at h
    refine r_iconst C (v := 0) d_Po_isPoint_46 (by decide) ?_
    obtain ⟨hB, h⟩ := ck_some h
    cases h
    exact hR _ _ hB d_Po_isPoint_47
  · rw [if_pos hc_4] at h
    refine r_aload_n C 0 d_Po_isPoint_21 rfl rfl ?_
    refine q_Po_32 C d_Po_isPoint_22 ?_
    refine r_iconst C (v := 1) d_Po_isPoint_25 (by decide) ?_
    refine r_iload_n C 2 d_Po_isPoint_26 rfl rfl ?_
    refine r_iload_n C 1 d_Po_isPoint_27 rfl rfl ?_
    obtain ⟨r_5, er_5, h⟩ := bind_some h
    refine r_callV C (As := [.int 1, .int x2, .int x1]) (rest := []) (st1 := [.int r_5]) (c_Ta_value X.1.2.1 σ 1 x2 x1 er_5) k_Ta_value m_178 (by decide) cel_Ta rfl rfl rfl rfl (Nat.le_of_ble_eq_true rfl) ⟨Nat.le_of_ble_eq_true rfl, Nat.le_of_ble_eq_true rfl⟩ d_Po_isPoint_28 rfl ?_
    refine r_aload_n C 0 d_Po_isPoint_31 rfl rfl ?_
    refine q_Po_22 C d_Po_isPoint_32 ?_
    refine r_iconst C (v := 1) d_Po_isPoint_35 (by decide) ?_
    obtain ⟨hi_6, h⟩ := ck_some h
    refine o_28 C (k' := 30) hi_6 rfl d_Po_isPoint_36 ?_
    refine r_iload_n C 1 d_Po_isPoint_37 rfl rfl ?_
    obtain ⟨hi_7, h⟩ := ck_some h
    refine r_iald C hi_7 d_Po_isPoint_38 ?_
    refine r_icmp_ne C (tgt := 46) d_Po_isPoint_39 (by decide) (fun hc_8 => ?_) (fun hc_8 => ?_)
    · rw [if_neg hc_8] at h
      refine r_iconst C (v := 0) d_Po_isPoint_46 (by decide) ?_
      obtain ⟨hB, h⟩ := ck_some h
      cases h
      exact hR _ _ hB d_Po_isPoint_47
    · rw [if_pos hc_8] at h
      refine r_iconst C (v := 1) d_Po_isPoint_42 (by decide) ?_
      refine r_goto C (tgt := 47) d_Po_isPoint_43 (by decide) ?_
      obtain ⟨hB, h⟩ := ck_some h
      cases h
      exact hR _ _ hB d_Po_isPoint_47
set_option maxHeartbeats 4000000 in
set_option maxRecDepth 100000 in
theorem c_Po_isPoint (l : Launch) (σ : gS) (x1 : Int32) (x2 : Int32) {r : Int32} (h : f_Po_isPoint σ x1 x2 = some r) : gMet l y_Po_isPoint b_Po_isPoint_c 3 (some .boolean) 1 23 (fun a => [.ref (a 23), .int x1, .int x2]) σ (some (.int r)) σ := by
  refine gMet_z (by decide +kernel) (fun a => Nat.le_of_ble_eq_true rfl) (fun X _ C hR => ?_)
  refine r_sub [0, 1, 2] (lv' := [(0, .ref (gA X 23)), (1, .int x1), (2, .int x2)]) rfl ?_
  exact t_Po_isPoint_0 C hR x1 x2 h
theorem d_Po_keepPoints_0 : decode b_Po_keepPoints_c 0 = .ok (.aload_n 0, 1) := by decide +kernel
theorem d_Po_keepPoints_1 : decode b_Po_keepPoints_c 1 = .ok (.getfield 32, 3) := by decide +kernel
theorem d_Po_keepPoints_4 : decode b_Po_keepPoints_c 4 = .ok (.iload_n 1, 1) := by decide +kernel
theorem d_Po_keepPoints_5 : decode b_Po_keepPoints_c 5 = .ok (.invokevirtual 89, 3) := by decide +kernel
theorem d_Po_keepPoints_8 : decode b_Po_keepPoints_c 8 = .ok (.aload_n 0, 1) := by decide +kernel
theorem d_Po_keepPoints_9 : decode b_Po_keepPoints_c 9 = .ok (.iconst 0, 1) := by decide +kernel
theorem d_Po_keepPoints_10 : decode b_Po_keepPoints_c 10 = .ok (.iload_n 1, 1) := by decide +kernel
theorem d_Po_keepPoints_11 : decode b_Po_keepPoints_c 11 = .ok (.invokevirtual 95, 3) := by decide +kernel
theorem d_Po_keepPoints_14 : decode b_Po_keepPoints_c 14 = .ok (.istore_n 3, 1) := by decide +kernel
theorem d_Po_keepPoints_15 : decode b_Po_keepPoints_c 15 = .ok (.aload_n 0, 1) := by decide +kernel
theorem d_Po_keepPoints_16 : decode b_Po_keepPoints_c 16 = .ok (.iconst 1, 1) := by decide +kernel
theorem d_Po_keepPoints_17 : decode b_Po_keepPoints_c 17 = .ok (.iload_n 1, 1) := by decide +kernel
theorem d_Po_keepPoints_18 : decode b_Po_keepPoints_c 18 = .ok (.invokevirtual 95, 3) := by decide +kernel
theorem d_Po_keepPoints_21 : decode b_Po_keepPoints_c 21 = .ok (.istore 4, 2) := by decide +kernel
theorem d_Po_keepPoints_23 : decode b_Po_keepPoints_c 23 = .ok (.aload_n 0, 1) := by decide +kernel
theorem d_Po_keepPoints_24 : decode b_Po_keepPoints_c 24 = .ok (.iconst 0, 1) := by decide +kernel
theorem d_Po_keepPoints_25 : decode b_Po_keepPoints_c 25 = .ok (.invokevirtual 99, 3) := by decide +kernel
theorem d_Po_keepPoints_28 : decode b_Po_keepPoints_c 28 = .ok (.aload_n 0, 1) := by decide +kernel
theorem d_Po_keepPoints_29 : decode b_Po_keepPoints_c 29 = .ok (.iconst 1, 1) := by decide +kernel
theorem d_Po_keepPoints_30 : decode b_Po_keepPoints_c 30 = .ok (.invokevirtual 99, 3) := by decide +kernel
theorem d_Po_keepPoints_33 : decode b_Po_keepPoints_c 33 = .ok (.iconst 0, 1) := by decide +kernel
theorem d_Po_keepPoints_34 : decode b_Po_keepPoints_c 34 = .ok (.istore 5, 2) := by decide +kernel
theorem d_Po_keepPoints_36 : decode b_Po_keepPoints_c 36 = .ok (.iload 5, 2) := by decide +kernel
theorem d_Po_keepPoints_38 : decode b_Po_keepPoints_c 38 = .ok (.iload_n 3, 1) := by decide +kernel
theorem d_Po_keepPoints_39 : decode b_Po_keepPoints_c 39 = .ok (.if_icmp .ge 77, 3) := by decide +kernel
theorem d_Po_keepPoints_42 : decode b_Po_keepPoints_c 42 = .ok (.iconst 0, 1) := by decide +kernel
theorem d_Po_keepPoints_43 : decode b_Po_keepPoints_c 43 = .ok (.istore 6, 2) := by decide +kernel
theorem d_Po_keepPoints_45 : decode b_Po_keepPoints_c 45 = .ok (.iload 6, 2) := by decide +kernel
theorem d_Po_keepPoints_47 : decode b_Po_keepPoints_c 47 = .ok (.iload 4, 2) := by decide +kernel
theorem d_Po_keepPoints_49 : decode b_Po_keepPoints_c 49 = .ok (.if_icmp .ge 61, 3) := by decide +kernel
theorem d_Po_keepPoints_52 : decode b_Po_keepPoints_c 52 = .ok (.aload_n 2, 1) := by decide +kernel
theorem d_Po_keepPoints_53 : decode b_Po_keepPoints_c 53 = .ok (.iload 5, 2) := by decide +kernel
theorem d_Po_keepPoints_55 : decode b_Po_keepPoints_c 55 = .ok (.laload, 1) := by decide +kernel
theorem d_Po_keepPoints_56 : decode b_Po_keepPoints_c 56 = .ok (.iload 6, 2) := by decide +kernel
theorem d_Po_keepPoints_58 : decode b_Po_keepPoints_c 58 = .ok (.invokestatic 71, 3) := by decide +kernel
theorem d_Po_keepPoints_61 : decode b_Po_keepPoints_c 61 = .ok (.ifCond .eq 43, 3) := by decide +kernel
theorem d_Po_keepPoints_64 : decode b_Po_keepPoints_c 64 = .ok (.aload_n 0, 1) := by decide +kernel
theorem d_Po_keepPoints_65 : decode b_Po_keepPoints_c 65 = .ok (.aload_n 0, 1) := by decide +kernel
theorem d_Po_keepPoints_66 : decode b_Po_keepPoints_c 66 = .ok (.getfield 25, 3) := by decide +kernel
theorem d_Po_keepPoints_69 : decode b_Po_keepPoints_c 69 = .ok (.iconst 0, 1) := by decide +kernel
theorem d_Po_keepPoints_70 : decode b_Po_keepPoints_c 70 = .ok (.aaload, 1) := by decide +kernel
theorem d_Po_keepPoints_71 : decode b_Po_keepPoints_c 71 = .ok (.iload 5, 2) := by decide +kernel
theorem d_Po_keepPoints_73 : decode b_Po_keepPoints_c 73 = .ok (.iaload, 1) := by decide +kernel
theorem d_Po_keepPoints_74 : decode b_Po_keepPoints_c 74 = .ok (.aload_n 0, 1) := by decide +kernel
theorem d_Po_keepPoints_75 : decode b_Po_keepPoints_c 75 = .ok (.getfield 25, 3) := by decide +kernel
theorem d_Po_keepPoints_78 : decode b_Po_keepPoints_c 78 = .ok (.iconst 1, 1) := by decide +kernel
theorem d_Po_keepPoints_79 : decode b_Po_keepPoints_c 79 = .ok (.aaload, 1) := by decide +kernel
theorem d_Po_keepPoints_80 : decode b_Po_keepPoints_c 80 = .ok (.iload 6, 2) := by decide +kernel
theorem d_Po_keepPoints_82 : decode b_Po_keepPoints_c 82 = .ok (.iaload, 1) := by decide +kernel
theorem d_Po_keepPoints_83 : decode b_Po_keepPoints_c 83 = .ok (.invokevirtual 102, 3) := by decide +kernel
theorem d_Po_keepPoints_86 : decode b_Po_keepPoints_c 86 = .ok (.ifCond .ne 18, 3) := by decide +kernel
theorem d_Po_keepPoints_89 : decode b_Po_keepPoints_c 89 = .ok (.aload_n 2, 1) := by decide +kernel
theorem d_Po_keepPoints_90 : decode b_Po_keepPoints_c 90 = .ok (.iload 5, 2) := by decide +kernel
theorem d_Po_keepPoints_92 : decode b_Po_keepPoints_c 92 = .ok (.dup2, 1) := by decide +kernel
theorem d_Po_keepPoints_93 : decode b_Po_keepPoints_c 93 = .ok (.laload, 1) := by decide +kernel
theorem d_Po_keepPoints_94 : decode b_Po_keepPoints_c 94 = .ok (.lconst 1, 1) := by decide +kernel
theorem d_Po_keepPoints_95 : decode b_Po_keepPoints_c 95 = .ok (.iload 6, 2) := by decide +kernel
theorem d_Po_keepPoints_97 : decode b_Po_keepPoints_c 97 = .ok (.lshl, 1) := by decide +kernel
theorem d_Po_keepPoints_98 : decode b_Po_keepPoints_c 98 = .ok (.ldc2_w 106, 3) := by decide +kernel
theorem d_Po_keepPoints_101 : decode b_Po_keepPoints_c 101 = .ok (.lxor, 1) := by decide +kernel
theorem d_Po_keepPoints_102 : decode b_Po_keepPoints_c 102 = .ok (.land, 1) := by decide +kernel
theorem d_Po_keepPoints_103 : decode b_Po_keepPoints_c 103 = .ok (.lastore, 1) := by decide +kernel
theorem d_Po_keepPoints_104 : decode b_Po_keepPoints_c 104 = .ok (.iinc 6 1, 3) := by decide +kernel
theorem d_Po_keepPoints_107 : decode b_Po_keepPoints_c 107 = .ok (.goto (-62), 3) := by decide +kernel
theorem d_Po_keepPoints_110 : decode b_Po_keepPoints_c 110 = .ok (.iinc 5 1, 3) := by decide +kernel
theorem d_Po_keepPoints_113 : decode b_Po_keepPoints_c 113 = .ok (.goto (-77), 3) := by decide +kernel
theorem d_Po_keepPoints_116 : decode b_Po_keepPoints_c 116 = .ok (.return_, 1) := by decide +kernel
/-! GameRows$Points.keepPoints(I[J)V -/
set_option maxHeartbeats 4000000 in
set_option maxRecDepth 100000 in
theorem t_Po_keepPoints_104 {X : gX} {r : gS} (C : gC X b_Po_keepPoints_c R_Po 7 4 96) (hR : ∀ pc lv, decode b_Po_keepPoints_c pc = .ok (.return_, 1) → G X pc lv [] r) {k36 : Nat × Int32 × Int32 × Int32 × gS → Option gS}  {k45 : Nat × Int32 × Int32 × Int32 × Int32 × gS → Option gS}  (hk36 : ∀ x, k36 x = some r → G X 36 [(0, .ref (gA X 23)), (2, .ref (gA X x.1)), (3, .int x.2.1), (4, .int x.2.2.1), (5, .int x.2.2.2.1)] [] x.2.2.2.2) (hk45 : ∀ x, k45 x = some r → G X 45 [(0, .ref (gA X 23)), (2, .ref (gA X x.1)), (3, .int x.2.1), (4, .int x.2.2.1), (5, .int x.2.2.2.1), (6, .int x.2.2.2.2.1)] [] x.2.2.2.2.2) (x2 : Nat) (x3 : Int32) (x4 : Int32) (x5 : Int32) (x6 : Int32) (σ : gS) (h : b_Po_keepPoints_104 k36 k45 x2 x3 x4 x5 x6 σ = some r) : G X 104 [(0, .ref (gA X 23)), (2, .ref (gA X x2)), (3, .int x3), (4, .int x4), (5, .int x5), (6, .int x6)] [] σ := by
  unfold b_Po_keepPoints_104 at h
  obtain ⟨x6_1, ex6_1, h⟩ := bnd_some h
  refine r_iinc C 5 (lv' := [(6, .int x6_1), (0, .ref (gA X 23)), (2, .ref (gA X x2)), (3, .int x3), (4, .int x4), (5, .int x5)]) d_Po_keepPoints_104 rfl (by rw [ex6_1]; rfl) (by decide) rfl ?_
  refine r_goto C (tgt := 45) d_Po_keepPoints_107 (by decide) ?_
  refine r_sub [1, 2, 3, 4, 5, 0] (lv' := [(0, .ref (gA X 23)), (2, .ref (gA X x2)), (3, .int x3), (4, .int x4), (5, .int x5), (6, .int x6_1)]) rfl ?_
  exact hk45 _ h
set_option maxHeartbeats 4000000 in
set_option maxRecDepth 100000 in
theorem t_Po_keepPoints_45 {X : gX} {r : gS} (C : gC X b_Po_keepPoints_c R_Po 7 4 96) (hR : ∀ pc lv, decode b_Po_keepPoints_c pc = .ok (.return_, 1) → G X pc lv [] r) {k36 : Nat × Int32 × Int32 × Int32 × gS → Option gS}  {k45 : Nat × Int32 × Int32 × Int32 × Int32 × gS → Option gS}  (hk36 : ∀ x, k36 x = some r → G X 36 [(0, .ref (gA X 23)), (2, .ref (gA X x.1)), (3, .int x.2.1), (4, .int x.2.2.1), (5, .int x.2.2.2.1)] [] x.2.2.2.2) (hk45 : ∀ x, k45 x = some r → G X 45 [(0, .ref (gA X 23)), (2, .ref (gA X x.1)), (3, .int x.2.1), (4, .int x.2.2.1), (5, .int x.2.2.2.1), (6, .int x.2.2.2.2.1)] [] x.2.2.2.2.2) (x2 : Nat) (x3 : Int32) (x4 : Int32) (x5 : Int32) (x6 : Int32) (σ : gS) (h : b_Po_keepPoints_45 k36 k45 x2 x3 x4 x5 x6 σ = some r) : G X 45 [(0, .ref (gA X 23)), (2, .ref (gA X x2)), (3, .int x3), (4, .int x4), (5, .int x5), (6, .int x6)] [] σ := by
  unfold b_Po_keepPoints_45 at h
  refine r_iload C 5 d_Po_keepPoints_45 rfl ?_
  refine r_iload C 3 d_Po_keepPoints_47 rfl ?_
  refine r_icmp_ge C (tgt := 110) d_Po_keepPoints_49 (by decide) (fun hc_1 => ?_) (fun hc_1 => ?_)
  · rw [if_pos hc_1] at h
    obtain ⟨x5_2, ex5_2, h⟩ := bnd_some h
    refine r_iinc C 4 (lv' := [(5, .int x5_2), (0, .ref (gA X 23)), (2, .ref (gA X x2)), (3, .int x3), (4, .int x4), (6, .int x6)]) d_Po_keepPoints_110 rfl (by rw [ex5_2]; rfl) (by decide) rfl ?_
    refine r_goto C (tgt := 36) d_Po_keepPoints_113 (by decide) ?_
    refine r_sub [1, 2, 3, 4, 0] (lv' := [(0, .ref (gA X 23)), (2, .ref (gA X x2)), (3, .int x3), (4, .int x4), (5, .int x5_2)]) rfl ?_
    exact hk36 _ h
  · rw [if_neg hc_1] at h
    refine r_aload_n C 1 d_Po_keepPoints_52 rfl rfl ?_
    refine r_iload C 4 d_Po_keepPoints_53 rfl ?_
    obtain ⟨hi_3, h⟩ := ck_some h
    refine r_lald C hi_3 d_Po_keepPoints_55 ?_
    refine r_iload C 5 d_Po_keepPoints_56 rfl ?_
    obtain ⟨r_4, er_4, h⟩ := bind_some h
    refine r_callSN C (As := [.long (gL σ x2 x5.toNatClampNeg), .int x6]) (rest := []) (st1 := [.int r_4]) (c_Ga_hasBit X.1.2.1 σ (gL σ x2 x5.toNatClampNeg) x6 er_4) k_Ga_hasBit n_Po_71 rfl rfl rfl (Nat.le_of_ble_eq_true rfl) ⟨Nat.le_of_ble_eq_true rfl, Nat.le_of_ble_eq_true rfl⟩ d_Po_keepPoints_58 rfl ?_
    refine r_if_eq C (tgt := 104) d_Po_keepPoints_61 (by decide) (fun hc_5 => ?_) (fun hc_5 => ?_)
    · rw [if_pos hc_5] at h
      exact t_Po_keepPoints_104 C hR hk36 hk45 x2 x3 x4 x5 x6 σ h
    · rw [if_neg hc_5] at h
      refine r_aload_n C 0 d_Po_keepPoints_64 rfl rfl ?_
      refine r_aload_n C 0 d_Po_keepPoints_65 rfl rfl ?_
      refine q_Po_25 C d_Po_keepPoints_66 ?_
      refine r_iconst C (v := 0) d_Po_keepPoints_69 (by decide) ?_
      obtain ⟨hi_6, h⟩ := ck_some h
      refine o_31 C (k' := 32) hi_6 rfl d_Po_keepPoints_70 ?_
      refine r_iload C 4 d_Po_keepPoints_71 rfl ?_
      obtain ⟨hi_7, h⟩ := ck_some h
      refine r_iald C hi_7 d_Po_keepPoints_73 ?_
      refine r_aload_n C 0 d_Po_keepPoints_74 rfl rfl ?_
      refine q_Po_25 C d_Po_keepPoints_75 ?_
      refine r_iconst C (v := 1) d_Po_keepPoints_78 (by decide) ?_
      obtain ⟨hi_8, h⟩ := ck_some h
      refine o_31 C (k' := 33) hi_8 rfl d_Po_keepPoints_79 ?_
      refine r_iload C 5 d_Po_keepPoints_80 rfl ?_
      obtain ⟨hi_9, h⟩ := ck_some h
      refine r_iald C hi_9 d_Po_keepPoints_82 ?_
      obtain ⟨r_10, er_10, h⟩ := bind_some h
      refine r_callV C (As := [.int (gI σ 32 x5.toNatClampNeg), .int (gI σ 33 x6.toNatClampNeg)]) (rest := []) (st1 := [.int r_10]) (c_Po_isPoint X.1.2.1 σ (gI σ 32 x5.toNatClampNeg) (gI σ 33 x6.toNatClampNeg) er_10) k_Po_isPoint m_179 (by decide) cel_Po rfl rfl rfl rfl (Nat.le_of_ble_eq_true rfl) ⟨Nat.le_of_ble_eq_true rfl, Nat.le_of_ble_eq_true rfl⟩ d_Po_keepPoints_83 rfl ?_
      refine r_if_ne C (tgt := 104) d_Po_keepPoints_86 (by decide) (fun hc_11 => ?_) (fun hc_11 => ?_)
      · rw [if_neg hc_11] at h
        exact t_Po_keepPoints_104 C hR hk36 hk45 x2 x3 x4 x5 x6 σ h
      · rw [if_pos hc_11] at h
        refine r_aload_n C 1 d_Po_keepPoints_89 rfl rfl ?_
        refine r_iload C 4 d_Po_keepPoints_90 rfl ?_
        refine r_dup2_11 C d_Po_keepPoints_92 rfl rfl ?_
        obtain ⟨hi_12, h⟩ := ck_some h
        refine r_lald C hi_12 d_Po_keepPoints_93 ?_
        refine r_lconst C (v := 1) d_Po_keepPoints_94 (by decide) ?_
        refine r_iload C 5 d_Po_keepPoints_95 rfl ?_
        refine r_lshl C d_Po_keepPoints_97 ?_
        refine r_ldc2 C (v := (-1)) m_184 d_Po_keepPoints_98 ?_
        refine r_lxor C d_Po_keepPoints_101 ?_
        refine r_land C d_Po_keepPoints_102 ?_
        obtain ⟨hi_13, h⟩ := ck_some h
        obtain ⟨σ_14, eσ_14, h⟩ := bnd_some h
        refine r_last C hi_13 eσ_14 d_Po_keepPoints_103 ?_
        exact t_Po_keepPoints_104 C hR hk36 hk45 x2 x3 x4 x5 x6 σ_14 h
set_option maxHeartbeats 4000000 in
set_option maxRecDepth 100000 in
theorem u_Po_keepPoints_45 {X : gX} {r : gS} (C : gC X b_Po_keepPoints_c R_Po 7 4 96) (hR : ∀ pc lv, decode b_Po_keepPoints_c pc = .ok (.return_, 1) → G X pc lv [] r) {k36 : Nat × Int32 × Int32 × Int32 × gS → Option gS}  (hk36 : ∀ x, k36 x = some r → G X 36 [(0, .ref (gA X 23)), (2, .ref (gA X x.1)), (3, .int x.2.1), (4, .int x.2.2.1), (5, .int x.2.2.2.1)] [] x.2.2.2.2) (x : Nat × Int32 × Int32 × Int32 × Int32 × gS) (h : l_Po_keepPoints_45 k36 x = some r) : G X 45 [(0, .ref (gA X 23)), (2, .ref (gA X x.1)), (3, .int x.2.1), (4, .int x.2.2.1), (5, .int x.2.2.2.1), (6, .int x.2.2.2.2.1)] [] x.2.2.2.2.2 :=
  lpF_ind (P := fun x => G X 45 [(0, .ref (gA X 23)), (2, .ref (gA X x.1)), (3, .int x.2.1), (4, .int x.2.2.1), (5, .int x.2.2.2.1), (6, .int x.2.2.2.2.1)] [] x.2.2.2.2.2) (fun k hk x h => t_Po_keepPoints_45 C hR hk36 hk x.1 x.2.1 x.2.2.1 x.2.2.2.1 x.2.2.2.2.1 x.2.2.2.2.2 h) gF x h
set_option maxHeartbeats 4000000 in
set_option maxRecDepth 100000 in
theorem t_Po_keepPoints_36 {X : gX} {r : gS} (C : gC X b_Po_keepPoints_c R_Po 7 4 96) (hR : ∀ pc lv, decode b_Po_keepPoints_c pc = .ok (.return_, 1) → G X pc lv [] r) {k36 : Nat × Int32 × Int32 × Int32 × gS → Option gS}  (hk36 : ∀ x, k36 x = some r → G X 36 [(0, .ref (gA X 23)), (2, .ref (gA X x.1)), (3, .int x.2.1), (4, .int x.2.2.1), (5, .int x.2.2.2.1)] [] x.2.2.2.2) (x2 : Nat) (x3 : Int32) (x4 : Int32) (x5 : Int32) (σ : gS) (h : b_Po_keepPoints_36 k36 x2 x3 x4 x5 σ = some r) : G X 36 [(0, .ref (gA X 23)), (2, .ref (gA X x2)), (3, .int x3), (4, .int x4), (5, .int x5)] [] σ := by
  unfold b_Po_keepPoints_36 at h
  refine r_iload C 4 d_Po_keepPoints_36 rfl ?_
  refine r_iload_n C 2 d_Po_keepPoints_38 rfl rfl ?_
  refine r_icmp_ge C (tgt := 116) d_Po_keepPoints_39 (by decide) (fun hc_1 => ?_) (fun hc_1 => ?_)
  · rw [if_pos hc_1] at h
    cases h
    exact hR _ _ d_Po_keepPoints_116
  · rw [if_neg hc_1] at h
    refine r_iconst C (v := 0) d_Po_keepPoints_42 (by decide) ?_
    refine r_istore C (lv' := [(6, .int 0), (0, .ref (gA X 23)), (2, .ref (gA X x2)), (3, .int x3), (4, .int x4), (5, .int x5)]) d_Po_keepPoints_43 (by decide) rfl rfl ?_
    refine r_sub [1, 2, 3, 4, 5, 0] (lv' := [(0, .ref (gA X 23)), (2, .ref (gA X x2)), (3, .int x3), (4, .int x4), (5, .int x5), (6, .int 0)]) rfl ?_
    exact u_Po_keepPoints_45 C hR hk36 (x2, x3, x4, x5, 0, σ) h
set_option maxHeartbeats 4000000 in
set_option maxRecDepth 100000 in
theorem u_Po_keepPoints_36 {X : gX} {r : gS} (C : gC X b_Po_keepPoints_c R_Po 7 4 96) (hR : ∀ pc lv, decode b_Po_keepPoints_c pc = .ok (.return_, 1) → G X pc lv [] r)  (x : Nat × Int32 × Int32 × Int32 × gS) (h : l_Po_keepPoints_36 x = some r) : G X 36 [(0, .ref (gA X 23)), (2, .ref (gA X x.1)), (3, .int x.2.1), (4, .int x.2.2.1), (5, .int x.2.2.2.1)] [] x.2.2.2.2 :=
  lpF_ind (P := fun x => G X 36 [(0, .ref (gA X 23)), (2, .ref (gA X x.1)), (3, .int x.2.1), (4, .int x.2.2.1), (5, .int x.2.2.2.1)] [] x.2.2.2.2) (fun k hk x h => t_Po_keepPoints_36 C hR hk x.1 x.2.1 x.2.2.1 x.2.2.2.1 x.2.2.2.2 h) gF x h
set_option maxHeartbeats 4000000 in
set_option maxRecDepth 100000 in
theorem t_Po_keepPoints_0 {X : gX} {r : gS} (C : gC X b_Po_keepPoints_c R_Po 7 4 96) (hR : ∀ pc lv, decode b_Po_keepPoints_c pc = .ok (.return_, 1) → G X pc lv [] r) (x1 : Int32) (x2 : Nat) (σ : gS) (h : b_Po_keepPoints_0 x1 x2 σ = some r) : G X 0 [(0, .ref (gA X 23)), (1, .int x1), (2, .ref (gA X x2))] [] σ := by
  unfold b_Po_keepPoints_0 at h
  refine r_aload_n C 0 d_Po_keepPoints_0 rfl rfl ?_
  refine q_Po_32 C d_Po_keepPoints_1 ?_
  refine r_iload_n C 1 d_Po_keepPoints_4 rfl rfl ?_
  obtain ⟨r_1, er_1, h⟩ := bind_some h
  refine r_callV C (As := [.int x1]) (rest := []) (st1 := []) (c_Ta_fillFrom X.1.2.1 σ x1 er_1) k_Ta_fillFrom m_185 (by decide) cel_Ta rfl rfl rfl rfl (Nat.le_of_ble_eq_true rfl) ⟨Nat.le_of_ble_eq_true rfl, Nat.le_of_ble_eq_true rfl⟩ d_Po_keepPoints_5 rfl ?_
  refine r_aload_n C 0 d_Po_keepPoints_8 rfl rfl ?_
  refine r_iconst C (v := 0) d_Po_keepPoints_9 (by decide) ?_
  refine r_iload_n C 1 d_Po_keepPoints_10 rfl rfl ?_
  obtain ⟨r_2, er_2, h⟩ := bind_some h
  refine r_callV C (As := [.int 0, .int x1]) (rest := []) (st1 := [.int r_2.1]) (c_Po_findInner X.1.2.1 r_1 0 x1 er_2) k_Po_findInner m_189 (by decide) cel_Po rfl rfl rfl rfl (Nat.le_of_ble_eq_true rfl) ⟨Nat.le_of_ble_eq_true rfl, Nat.le_of_ble_eq_true rfl⟩ d_Po_keepPoints_11 rfl ?_
  obtain ⟨x3_3, ex3_3, h⟩ := bnd_some h
  refine r_istore_n C (lv' := [(3, .int x3_3), (0, .ref (gA X 23)), (1, .int x1), (2, .ref (gA X x2))]) d_Po_keepPoints_14 rfl (by decide) ex3_3 rfl ?_
  refine r_aload_n C 1 d_Po_keepPoints_15 rfl rfl ?_
  refine r_iconst C (v := 1) d_Po_keepPoints_16 (by decide) ?_
  refine r_iload_n C 2 d_Po_keepPoints_17 rfl rfl ?_
  obtain ⟨r_4, er_4, h⟩ := bind_some h
  refine r_callV C (As := [.int 1, .int x1]) (rest := []) (st1 := [.int r_4.1]) (c_Po_findInner X.1.2.1 r_2.2 1 x1 er_4) k_Po_findInner m_189 (by decide) cel_Po rfl rfl rfl rfl (Nat.le_of_ble_eq_true rfl) ⟨Nat.le_of_ble_eq_true rfl, Nat.le_of_ble_eq_true rfl⟩ d_Po_keepPoints_18 rfl ?_
  obtain ⟨x4_5, ex4_5, h⟩ := bnd_some h
  refine r_istore C (lv' := [(4, .int x4_5), (3, .int x3_3), (0, .ref (gA X 23)), (1, .int x1), (2, .ref (gA X x2))]) d_Po_keepPoints_21 (by decide) ex4_5 rfl ?_
  refine r_aload_n C 2 d_Po_keepPoints_23 rfl rfl ?_
  refine r_iconst C (v := 0) d_Po_keepPoints_24 (by decide) ?_
  obtain ⟨r_6, er_6, h⟩ := bind_some h
  refine r_callV C (As := [.int 0]) (rest := []) (st1 := []) (c_Po_findBest X.1.2.1 r_4.2 0 er_6) k_Po_findBest m_193 (by decide) cel_Po rfl rfl rfl rfl (Nat.le_of_ble_eq_true rfl) ⟨Nat.le_of_ble_eq_true rfl, Nat.le_of_ble_eq_true rfl⟩ d_Po_keepPoints_25 rfl ?_
  refine r_aload_n C 2 d_Po_keepPoints_28 rfl rfl ?_
  refine r_iconst C (v := 1) d_Po_keepPoints_29 (by decide) ?_
  obtain ⟨r_7, er_7, h⟩ := bind_some h
  refine r_callV C (As := [.int 1]) (rest := []) (st1 := []) (c_Po_findBest X.1.2.1 r_6 1 er_7) k_Po_findBest m_193 (by decide) cel_Po rfl rfl rfl rfl (Nat.le_of_ble_eq_true rfl) ⟨Nat.le_of_ble_eq_true rfl, Nat.le_of_ble_eq_true rfl⟩ d_Po_keepPoints_30 rfl ?_
  refine r_iconst C (v := 0) d_Po_keepPoints_33 (by decide) ?_
  refine r_istore C (lv' := [(5, .int 0), (4, .int x4_5), (3, .int x3_3), (0, .ref (gA X 23)), (1, .int x1), (2, .ref (gA X x2))]) d_Po_keepPoints_34 (by decide) rfl rfl ?_
  refine r_sub [3, 5, 2, 1, 0] (lv' := [(0, .ref (gA X 23)), (2, .ref (gA X x2)), (3, .int x3_3), (4, .int x4_5), (5, .int 0)]) rfl ?_
  exact u_Po_keepPoints_36 C hR  (x2, x3_3, x4_5, 0, r_7) h
set_option maxHeartbeats 4000000 in
set_option maxRecDepth 100000 in
theorem c_Po_keepPoints (l : Launch) (σ : gS) (x1 : Int32) (x2 : Nat) {r : gS} (h : f_Po_keepPoints σ x1 x2 = some r) : gMet l y_Po_keepPoints b_Po_keepPoints_c 7 (none) 4 96 (fun a => [.ref (a 23), .int x1, .ref (a x2)]) σ (none) r := by
  refine gMet_v (by decide +kernel) (fun a => Nat.le_of_ble_eq_true rfl) (fun X _ C hR => ?_)
  refine r_sub [0, 1, 2] (lv' := [(0, .ref (gA X 23)), (1, .int x1), (2, .ref (gA X x2))]) rfl ?_
  exact t_Po_keepPoints_0 C hR x1 x2 σ h
