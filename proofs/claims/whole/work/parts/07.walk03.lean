-- X9_count
set_option maxRecDepth 100000 in
set_option maxHeartbeats 4000000 in
theorem ct_X9_count {κ : ca_K} (hC : ca_C κ ca_cC cX9_count 2 RX9 (some .int) 0 0) (σ : ca_S) (x1 : Int32) : ca_T κ (ca_Zr κ σ) σ 0 [(0, .ref (ca_a κ (0, 0, 0))), (1, .int x1)] [] (cf_X9_count σ x1) := by
  unfold cf_X9_count
  refine ca_iload_n hC 1 dX9_count_0 rfl rfl (q := 1) rfl ?_
  refine ca_ifs (x1 = 0) (fun h1 => ?_) (fun h1 => ?_)
  · refine ca_tin hC dX9_count_1 h1 (by decide) (by decide) rfl (q := 40) rfl ?_
    refine ca_aload_n hC 0 dX9_count_40 rfl rfl (q := 41) rfl ?_
    refine cg_X9_62 hC  dX9_count_41 (q := 44) rfl ?_
    exact ca_iretr hC dX9_count_44 rfl
  refine ca_ifs (x1 = 1) (fun h2 => ?_) (fun h2 => ?_)
  · refine ca_tin hC dX9_count_1 h2 (by decide) (by decide) rfl (q := 45) rfl ?_
    refine ca_aload_n hC 0 dX9_count_45 rfl rfl (q := 46) rfl ?_
    refine cg_X9_98 hC  dX9_count_46 (q := 49) rfl ?_
    exact ca_iretr hC dX9_count_49 rfl
  refine ca_ifs (x1 = 2) (fun h3 => ?_) (fun h3 => ?_)
  · refine ca_tin hC dX9_count_1 h3 (by decide) (by decide) rfl (q := 50) rfl ?_
    refine ca_aload_n hC 0 dX9_count_50 rfl rfl (q := 51) rfl ?_
    refine cg_X9_32 hC  dX9_count_51 (q := 54) rfl ?_
    refine cg_X9_236 hC  dX9_count_54 (q := 57) rfl ?_
    exact ca_iretr hC dX9_count_57 rfl
  refine ca_ifs (x1 = 3) (fun h4 => ?_) (fun h4 => ?_)
  · refine ca_tin hC dX9_count_1 h4 (by decide) (by decide) rfl (q := 58) rfl ?_
    refine ca_aload_n hC 0 dX9_count_58 rfl rfl (q := 59) rfl ?_
    refine cg_X9_18 hC  dX9_count_59 (q := 62) rfl ?_
    refine cg_X9_58 hC  dX9_count_62 (q := 65) rfl ?_
    refine ca_if_eq hC dX9_count_65 (t := 72) (q := 68) rfl rfl (fun h5 => ?_) (fun h6 => ?_)
    · refine ca_iconst hC (v := 0) dX9_count_72 rfl (q := 73) rfl ?_
      exact ca_iretr hC dX9_count_73 rfl
    · refine ca_iconst hC (v := 1) dX9_count_68 rfl (q := 69) rfl ?_
      refine ca_goto hC dX9_count_69 (q := 73) rfl ?_
      exact ca_iretr hC dX9_count_73 rfl
  refine ca_ifs (x1 = 4) (fun h7 => ?_) (fun h7 => ?_)
  · refine ca_tin hC dX9_count_1 h7 (by decide) (by decide) rfl (q := 74) rfl ?_
    refine ca_aload_n hC 0 dX9_count_74 rfl rfl (q := 75) rfl ?_
    refine cg_X9_25 hC  dX9_count_75 (q := 78) rfl ?_
    refine cg_X9_123 hC  dX9_count_78 (q := 81) rfl ?_
    exact ca_iretr hC dX9_count_81 rfl
  refine ca_ifs (x1 = 5) (fun h8 => ?_) (fun h8 => ?_)
  · refine ca_tin hC dX9_count_1 h8 (by decide) (by decide) rfl (q := 82) rfl ?_
    refine ca_aload_n hC 0 dX9_count_82 rfl rfl (q := 83) rfl ?_
    refine cg_X9_150 hC  dX9_count_83 (q := 86) rfl ?_
    exact ca_iretr hC dX9_count_86 rfl
  · refine ca_tout hC dX9_count_1 (fun z g1 g2 => by rcases (show z = 0 ∨ z = 1 ∨ z = 2 ∨ z = 3 ∨ z = 4 ∨ z = 5 by omega) with rfl | rfl | rfl | rfl | rfl | rfl <;> assumption) (q := 87) rfl ?_
    refine ca_iconst hC (v := (-1)) dX9_count_87 rfl (q := 88) rfl ?_
    exact ca_iretr hC dX9_count_88 rfl
theorem cm_X9_count (Γ : ca_G) (l : Launch) (σ : ca_S) (x1 : Int32) : ca_Mr Γ ca_cC l yX9_count cX9_count 2 (some .int) 0 0 [.ref (Γ.2.1 (0, 0, 0)), .int x1] σ (cf_X9_count σ x1) :=
  ca_met (by decide) (Nat.le_of_ble_eq_true rfl) rfl (fun κ h1 h2 hC => by
    subst h1
    have h := ct_X9_count hC σ x1
    unfold ca_Zr at h
    rw [h2] at h
    exact h)
-- X10_in
set_option maxRecDepth 100000 in
set_option maxHeartbeats 4000000 in
theorem ct_X10_in {κ : ca_K} (hC : ca_C κ ca_cM cX10_in 3 RX10 (some .boolean) 0 0) (σ : ca_S) (x0 : Int32) (x1 : Int32) (x2 : Int32) : ca_T κ (ca_Zr κ σ) σ 0 [(0, .int x0), (1, .int x1), (2, .int x2)] [] (cf_X10_in x0 x1 x2) := by
  unfold cf_X10_in
  refine ca_iload_n hC 0 dX10_in_0 rfl rfl (q := 1) rfl ?_
  refine ca_iload_n hC 1 dX10_in_1 rfl rfl (q := 2) rfl ?_
  refine ca_icmp_lt hC dX10_in_2 (t := 14) (q := 5) rfl rfl (fun h1 => ?_) (fun h2 => ?_)
  · refine ca_iconst hC (v := 0) dX10_in_14 rfl (q := 15) rfl ?_
    exact ca_iretr hC dX10_in_15 rfl
  · refine ca_iload_n hC 0 dX10_in_5 rfl rfl (q := 6) rfl ?_
    refine ca_iload_n hC 2 dX10_in_6 rfl rfl (q := 7) rfl ?_
    refine ca_icmp_gt hC dX10_in_7 (t := 14) (q := 10) rfl rfl (fun h3 => ?_) (fun h4 => ?_)
    · refine ca_iconst hC (v := 0) dX10_in_14 rfl (q := 15) rfl ?_
      exact ca_iretr hC dX10_in_15 rfl
    · refine ca_iconst hC (v := 1) dX10_in_10 rfl (q := 11) rfl ?_
      refine ca_goto hC dX10_in_11 (q := 15) rfl ?_
      exact ca_iretr hC dX10_in_15 rfl
theorem cm_X10_in (Γ : ca_G) (l : Launch) (σ : ca_S) (x0 : Int32) (x1 : Int32) (x2 : Int32) : ca_Mr Γ ca_cM l yX10_in cX10_in 3 (some .boolean) 0 0 [.int x0, .int x1, .int x2] σ (cf_X10_in x0 x1 x2) :=
  ca_met (by decide) (Nat.le_of_ble_eq_true rfl) rfl (fun κ h1 h2 hC => by
    subst h1
    have h := ct_X10_in hC σ x0 x1 x2
    unfold ca_Zr at h
    rw [h2] at h
    exact h)
-- X10_isBox
set_option maxRecDepth 100000 in
set_option maxHeartbeats 4000000 in
theorem ct_X10_isBox {κ : ca_K} (hC : ca_C κ ca_cM cX10_isBox 2 RX10 (some .boolean) 1 22) (σ : ca_S) (x1 : Int32) : ca_T κ (ca_Zr κ σ) σ 0 [(0, .ref (ca_a κ (20, 0, 0))), (1, .int x1)] [] (cf_X10_isBox σ x1) := by
  unfold cf_X10_isBox
  refine ca_iload_n hC 1 dX10_isBox_0 rfl rfl (q := 1) rfl ?_
  refine ca_iconst hC (v := 0) dX10_isBox_1 rfl (q := 2) rfl ?_
  refine ca_aload_n hC 0 dX10_isBox_2 rfl rfl (q := 3) rfl ?_
  refine cg_X10_68 hC  dX10_isBox_3 (q := 6) rfl ?_
  refine ca_iconst hC (v := 1) dX10_isBox_6 rfl (q := 7) rfl ?_
  refine ca_isub hC dX10_isBox_7 (q := 8) rfl ?_
  refine ca_callSr hC (rest := []) (cm_X10_in κ.1 κ.2.2.2.1 σ x1 0 ((σ.1 (20, 0, 0) 0) - 1)) ca_Y_X10_in ca_L_X10_72  rfl rfl (Nat.le_of_ble_eq_true rfl) ⟨Nat.le_of_ble_eq_true rfl, Nat.le_of_ble_eq_true rfl⟩ dX10_isBox_8 (q := 11) rfl (fun r1 h3 => ?_)
  refine ca_grd (fun h4 => ?_)
  exact ca_iretr hC dX10_isBox_11 (ca_bo_n h4)
theorem cm_X10_isBox (Γ : ca_G) (l : Launch) (σ : ca_S) (x1 : Int32) : ca_Mr Γ ca_cM l yX10_isBox cX10_isBox 2 (some .boolean) 1 22 [.ref (Γ.2.1 (20, 0, 0)), .int x1] σ (cf_X10_isBox σ x1) :=
  ca_met (by decide) (Nat.le_of_ble_eq_true rfl) rfl (fun κ h1 h2 hC => by
    subst h1
    have h := ct_X10_isBox hC σ x1
    unfold ca_Zr at h
    rw [h2] at h
    exact h)
-- X10_isBase
set_option maxRecDepth 100000 in
set_option maxHeartbeats 4000000 in
theorem ct_X10_isBase {κ : ca_K} (hC : ca_C κ ca_cM cX10_isBase 1 RX10 (some .boolean) 1 22) (σ : ca_S) (x0 : Int32) : ca_T κ (ca_Zr κ σ) σ 0 [(0, .int x0)] [] (cf_X10_isBase x0) := by
  unfold cf_X10_isBase
  refine ca_iload_n hC 0 dX10_isBase_0 rfl rfl (q := 1) rfl ?_
  refine ca_iconst hC (v := 0) dX10_isBase_1 rfl (q := 2) rfl ?_
  refine ca_iconst hC (v := 1) dX10_isBase_2 rfl (q := 3) rfl ?_
  refine ca_callSr hC (rest := []) (cm_X10_in κ.1 κ.2.2.2.1 σ x0 0 1) ca_Y_X10_in ca_L_X10_72  rfl rfl (Nat.le_of_ble_eq_true rfl) ⟨Nat.le_of_ble_eq_true rfl, Nat.le_of_ble_eq_true rfl⟩ dX10_isBase_3 (q := 6) rfl (fun r1 h3 => ?_)
  refine ca_grd (fun h4 => ?_)
  exact ca_iretr hC dX10_isBase_6 (ca_bo_n h4)
theorem cm_X10_isBase (Γ : ca_G) (l : Launch) (σ : ca_S) (x0 : Int32) : ca_Mr Γ ca_cM l yX10_isBase cX10_isBase 1 (some .boolean) 1 22 [.int x0] σ (cf_X10_isBase x0) :=
  ca_met (by decide) (Nat.le_of_ble_eq_true rfl) rfl (fun κ h1 h2 hC => by
    subst h1
    have h := ct_X10_isBase hC σ x0
    unfold ca_Zr at h
    rw [h2] at h
    exact h)
-- X10_box
set_option maxRecDepth 100000 in
set_option maxHeartbeats 4000000 in
theorem ct_X10_box {κ : ca_K} (hC : ca_C κ ca_cM cX10_box 1 RX10 (some .int) 0 0) (σ : ca_S) : ca_T κ (ca_Zi κ) σ 0 [(0, .ref (ca_a κ (20, 0, 0)))] [] (cf_X10_box σ) := by
  unfold cf_X10_box
  refine ca_aload_n hC 0 dX10_box_0 rfl rfl (q := 1) rfl ?_
  refine cg_X10_76 hC  dX10_box_1 (q := 4) rfl ?_
  refine ca_if_eq hC dX10_box_4 (t := 10) (q := 7) rfl rfl (fun h1 => ?_) (fun h2 => ?_)
  · refine ca_aload_n hC 0 dX10_box_10 rfl rfl (q := 11) rfl ?_
    refine cg_X10_68 hC  dX10_box_11 (q := 14) rfl ?_
    refine ca_bipush hC (v := 16) dX10_box_14 rfl (q := 16) rfl ?_
    refine ca_icmp_ne hC dX10_box_16 (t := 22) (q := 19) rfl rfl (fun h3 => ?_) (fun h4 => ?_)
    · refine ca_aload_n hC 0 dX10_box_22 rfl rfl (q := 23) rfl ?_
      refine ca_dup hC dX10_box_23 rfl (q := 24) rfl ?_
      refine cg_X10_68 hC  dX10_box_24 (q := 27) rfl ?_
      refine ca_iconst hC (v := 1) dX10_box_27 rfl (q := 28) rfl ?_
      refine ca_iadd hC dX10_box_28 (q := 29) rfl ?_
      refine cp_X10_68 hC  dX10_box_29 (q := 32) rfl ?_
      refine ca_let (fun σ5 _ => ?_)
      refine ca_aload_n hC 0 dX10_box_32 rfl rfl (q := 33) rfl ?_
      refine cg_X10_68 hC  dX10_box_33 (q := 36) rfl ?_
      refine ca_iconst hC (v := 1) dX10_box_36 rfl (q := 37) rfl ?_
      refine ca_isub hC dX10_box_37 (q := 38) rfl ?_
      exact ca_ireti hC dX10_box_38 rfl
    · refine ca_bipush hC (v := (-3)) dX10_box_19 rfl (q := 21) rfl ?_
      exact ca_ireti hC dX10_box_21 rfl
  · refine ca_bipush hC (v := (-2)) dX10_box_7 rfl (q := 9) rfl ?_
    exact ca_ireti hC dX10_box_9 rfl
theorem cm_X10_box (Γ : ca_G) (l : Launch) (σ : ca_S) : ca_Mi Γ ca_cM l yX10_box cX10_box 1 (some .int) 0 0 [.ref (Γ.2.1 (20, 0, 0))] σ (cf_X10_box σ) :=
  ca_met (by decide) (Nat.le_of_ble_eq_true rfl) rfl (fun κ h1 h2 hC => by
    subst h1
    have h := ct_X10_box hC σ 
    unfold ca_Zi at h
    rw [h2] at h
    exact h)
-- X10_road
set_option maxRecDepth 100000 in
set_option maxHeartbeats 4000000 in
theorem ct_X10_road {κ : ca_K} (hC : ca_C κ ca_cM cX10_road 5 RX10 (some .int) 2 43) (σ : ca_S) (x1 : Int32) (x2 : Int32) (x3 : Int32) (x4 : Int32) : ca_T κ (ca_Zi κ) σ 0 [(0, .ref (ca_a κ (20, 0, 0))), (1, .int x1), (2, .int x2), (3, .int x3), (4, .int x4)] [] (cf_X10_road σ x1 x2 x3 x4) := by
  unfold cf_X10_road
  refine ca_aload_n hC 0 dX10_road_0 rfl rfl (q := 1) rfl ?_
  refine ca_iload_n hC 1 dX10_road_1 rfl rfl (q := 2) rfl ?_
  refine ca_callVr hC (rest := []) (cm_X10_isBox κ.1 κ.2.2.2.1 σ x1) ca_Y_X10_isBox ca_L_X10_80 ca_m20 rfl rfl rfl rfl (Nat.le_of_ble_eq_true rfl) ⟨Nat.le_of_ble_eq_true rfl, Nat.le_of_ble_eq_true rfl⟩ dX10_road_2 (q := 5) rfl (fun r1 h3 => ?_)
  refine ca_if_eq hC dX10_road_5 (t := 36) (q := 8) rfl rfl (fun h4 => ?_) (fun h5 => ?_)
  · refine ca_iconst hC (v := (-1)) dX10_road_36 rfl (q := 37) rfl ?_
    exact ca_ireti hC dX10_road_37 rfl
  · refine ca_iload_n hC 2 dX10_road_8 rfl rfl (q := 9) rfl ?_
    refine ca_callSr hC (rest := []) (cm_X10_isBase κ.1 κ.2.2.2.1 σ x2) ca_Y_X10_isBase ca_L_X10_84  rfl rfl (Nat.le_of_ble_eq_true rfl) ⟨Nat.le_of_ble_eq_true rfl, Nat.le_of_ble_eq_true rfl⟩ dX10_road_9 (q := 12) rfl (fun r6 h8 => ?_)
    refine ca_if_eq hC dX10_road_12 (t := 36) (q := 15) rfl rfl (fun h9 => ?_) (fun h10 => ?_)
    · refine ca_iconst hC (v := (-1)) dX10_road_36 rfl (q := 37) rfl ?_
      exact ca_ireti hC dX10_road_37 rfl
    · refine ca_iload_n hC 3 dX10_road_15 rfl rfl (q := 16) rfl ?_
      refine ca_iconst hC (v := 0) dX10_road_16 rfl (q := 17) rfl ?_
      refine ca_ldc hC (v := 65535) ca_w729 dX10_road_17 (q := 19) rfl ?_
      refine ca_callSr hC (rest := []) (cm_X10_in κ.1 κ.2.2.2.1 σ x3 0 65535) ca_Y_X10_in ca_L_X10_72  rfl rfl (Nat.le_of_ble_eq_true rfl) ⟨Nat.le_of_ble_eq_true rfl, Nat.le_of_ble_eq_true rfl⟩ dX10_road_19 (q := 22) rfl (fun r11 h13 => ?_)
      refine ca_if_eq hC dX10_road_22 (t := 36) (q := 25) rfl rfl (fun h14 => ?_) (fun h15 => ?_)
      · refine ca_iconst hC (v := (-1)) dX10_road_36 rfl (q := 37) rfl ?_
        exact ca_ireti hC dX10_road_37 rfl
      · refine ca_iload hC 4 dX10_road_25 rfl (q := 27) rfl ?_
        refine ca_iconst hC (v := 0) dX10_road_27 rfl (q := 28) rfl ?_
        refine ca_bipush hC (v := 9) dX10_road_28 rfl (q := 30) rfl ?_
        refine ca_callSr hC (rest := []) (cm_X10_in κ.1 κ.2.2.2.1 σ x4 0 9) ca_Y_X10_in ca_L_X10_72  rfl rfl (Nat.le_of_ble_eq_true rfl) ⟨Nat.le_of_ble_eq_true rfl, Nat.le_of_ble_eq_true rfl⟩ dX10_road_30 (q := 33) rfl (fun r16 h18 => ?_)
        refine ca_if_ne hC dX10_road_33 (t := 38) (q := 36) rfl rfl (fun h19 => ?_) (fun h20 => ?_)
        · refine ca_aload_n hC 0 dX10_road_38 rfl rfl (q := 39) rfl ?_
          refine cg_X10_7 hC  dX10_road_39 (q := 42) rfl ?_
          refine ca_iconst hC (v := 2) dX10_road_42 rfl (q := 43) rfl ?_
          refine ca_iload_n hC 1 dX10_road_43 rfl rfl (q := 44) rfl ?_
          refine ca_imul hC dX10_road_44 (q := 45) rfl ?_
          refine ca_iload_n hC 2 dX10_road_45 rfl rfl (q := 46) rfl ?_
          refine ca_iadd hC dX10_road_46 (q := 47) rfl ?_
          refine ca_iload_n hC 3 dX10_road_47 rfl rfl (q := 48) rfl ?_
          refine ca_istQ hC (n := 32) (ca_m21 (k := 2) (by decide)) rfl rfl rfl dX10_road_48 (q := 49) rfl (fun h21 => ?_)
          refine ca_let (fun σ22 _ => ?_)
          refine ca_aload_n hC 0 dX10_road_49 rfl rfl (q := 50) rfl ?_
          refine cg_X10_13 hC  dX10_road_50 (q := 53) rfl ?_
          refine ca_iconst hC (v := 2) dX10_road_53 rfl (q := 54) rfl ?_
          refine ca_iload_n hC 1 dX10_road_54 rfl rfl (q := 55) rfl ?_
          refine ca_imul hC dX10_road_55 (q := 56) rfl ?_
          refine ca_iload_n hC 2 dX10_road_56 rfl rfl (q := 57) rfl ?_
          refine ca_iadd hC dX10_road_57 (q := 58) rfl ?_
          refine ca_iload hC 4 dX10_road_58 rfl (q := 60) rfl ?_
          refine ca_istQ hC (n := 32) (ca_m21 (k := 3) (by decide)) rfl rfl rfl dX10_road_60 (q := 61) rfl (fun h23 => ?_)
          refine ca_let (fun σ24 _ => ?_)
          refine ca_aload_n hC 0 dX10_road_61 rfl rfl (q := 62) rfl ?_
          refine cg_X10_16 hC  dX10_road_62 (q := 65) rfl ?_
          refine ca_iconst hC (v := 2) dX10_road_65 rfl (q := 66) rfl ?_
          refine ca_iload_n hC 1 dX10_road_66 rfl rfl (q := 67) rfl ?_
          refine ca_imul hC dX10_road_67 (q := 68) rfl ?_
          refine ca_iload_n hC 2 dX10_road_68 rfl rfl (q := 69) rfl ?_
          refine ca_iadd hC dX10_road_69 (q := 70) rfl ?_
          refine ca_iconst hC (v := 0) dX10_road_70 rfl (q := 71) rfl ?_
          refine ca_istQ hC (n := 32) (ca_m21 (k := 4) (by decide)) rfl rfl rfl dX10_road_71 (q := 72) rfl (fun h25 => ?_)
          refine ca_let (fun σ26 _ => ?_)
          refine ca_iconst hC (v := 0) dX10_road_72 rfl (q := 73) rfl ?_
          exact ca_ireti hC dX10_road_73 rfl
        · refine ca_iconst hC (v := (-1)) dX10_road_36 rfl (q := 37) rfl ?_
          exact ca_ireti hC dX10_road_37 rfl
theorem cm_X10_road (Γ : ca_G) (l : Launch) (σ : ca_S) (x1 : Int32) (x2 : Int32) (x3 : Int32) (x4 : Int32) : ca_Mi Γ ca_cM l yX10_road cX10_road 5 (some .int) 2 43 [.ref (Γ.2.1 (20, 0, 0)), .int x1, .int x2, .int x3, .int x4] σ (cf_X10_road σ x1 x2 x3 x4) :=
  ca_met (by decide) (Nat.le_of_ble_eq_true rfl) rfl (fun κ h1 h2 hC => by
    subst h1
    have h := ct_X10_road hC σ x1 x2 x3 x4
    unfold ca_Zi at h
    rw [h2] at h
    exact h)
-- X10_rule
set_option maxRecDepth 100000 in
set_option maxHeartbeats 4000000 in
theorem ct_X10_rule_76 {κ : ca_K} (hC : ca_C κ ca_cM cX10_rule 4 RX10 (some .int) 1 22) (σ : ca_S) (x1 : Int32) (x2 : Int32) (x3 : Int32) (xs0 : Int32) : ca_T κ (ca_Zi κ) σ 76 [(0, .ref (ca_a κ (20, 0, 0))), (1, .int x1), (2, .int x2), (3, .int x3)] [.int xs0, .ref (ca_a κ (20, 0, 0))] (cj_X10_rule_76 σ x1 x2 x3 xs0) := by
  unfold cj_X10_rule_76
  refine ca_grd (fun h19 => ?_)
  refine cp_X10_91 hC h19 dX10_rule_76 (q := 79) rfl ?_
  refine ca_let (fun σ20 _ => ?_)
  refine ca_aload_n hC 0 dX10_rule_79 rfl rfl (q := 80) rfl ?_
  refine ca_iload_n hC 1 dX10_rule_80 rfl rfl (q := 81) rfl ?_
  refine ca_iconst hC (v := 1) dX10_rule_81 rfl (q := 82) rfl ?_
  refine ca_icmp_ne hC dX10_rule_82 (t := 89) (q := 85) rfl rfl (fun h21 => ?_) (fun h22 => ?_)
  · refine ca_aload_n hC 0 dX10_rule_89 rfl rfl (q := 90) rfl ?_
    refine cg_X10_88 hC  dX10_rule_90 (q := 93) rfl ?_
    refine cp_X10_88 hC  dX10_rule_93 (q := 96) rfl ?_
    refine ca_let (fun σ23 _ => ?_)
    refine ca_iload_n hC 3 dX10_rule_96 rfl rfl (q := 97) rfl ?_
    exact ca_ireti hC dX10_rule_97 rfl
  · refine ca_iload_n hC 2 dX10_rule_85 rfl rfl (q := 86) rfl ?_
    refine ca_goto hC dX10_rule_86 (q := 93) rfl ?_
    refine cp_X10_88 hC  dX10_rule_93 (q := 96) rfl ?_
    refine ca_let (fun σ24 _ => ?_)
    refine ca_iload_n hC 3 dX10_rule_96 rfl rfl (q := 97) rfl ?_
    exact ca_ireti hC dX10_rule_97 rfl
set_option maxRecDepth 100000 in
set_option maxHeartbeats 4000000 in
theorem ct_X10_rule_53 {κ : ca_K} (hC : ca_C κ ca_cM cX10_rule 4 RX10 (some .int) 1 22) (σ : ca_S) (x1 : Int32) (x2 : Int32) (xs0 : Int32) : ca_T κ (ca_Zi κ) σ 53 [(0, .ref (ca_a κ (20, 0, 0))), (1, .int x1), (2, .int x2)] [.int xs0] (cj_X10_rule_53 σ x1 x2 xs0) := by
  unfold cj_X10_rule_53
  refine ca_istore_n hC (lv' := [(3, .int xs0), (0, .ref (ca_a κ (20, 0, 0))), (1, .int x1), (2, .int x2)]) dX10_rule_53 rfl (by decide) rfl (q := 54) rfl ?_
  refine ca_aload_n hC 1 dX10_rule_54 rfl rfl (q := 55) rfl ?_
  refine ca_iload_n hC 2 dX10_rule_55 rfl rfl (q := 56) rfl ?_
  refine ca_if_ne hC dX10_rule_56 (t := 72) (q := 59) rfl rfl (fun h17 => ?_) (fun h18 => ?_)
  · refine ca_aload_n hC 1 dX10_rule_72 rfl rfl (q := 73) rfl ?_
    refine cg_X10_91 hC  dX10_rule_73 (q := 76) rfl ?_
    exact ca_pick [1, 2, 3, 0] rfl (ct_X10_rule_76 hC σ x1 x2 xs0 (σ.1 (20, 0, 0) 6))
  · refine ca_iload_n hC 3 dX10_rule_59 rfl rfl (q := 60) rfl ?_
    refine ca_iconst hC (v := 1) dX10_rule_60 rfl (q := 61) rfl ?_
    refine ca_icmp_ne hC dX10_rule_61 (t := 68) (q := 64) rfl rfl (fun h25 => ?_) (fun h26 => ?_)
    · refine ca_iconst hC (v := 0) dX10_rule_68 rfl (q := 69) rfl ?_
      refine ca_goto hC dX10_rule_69 (q := 76) rfl ?_
      exact ca_pick [1, 2, 3, 0] rfl (ct_X10_rule_76 hC σ x1 x2 xs0 0)
    · refine ca_iconst hC (v := 1) dX10_rule_64 rfl (q := 65) rfl ?_
      refine ca_goto hC dX10_rule_65 (q := 76) rfl ?_
      exact ca_pick [1, 2, 3, 0] rfl (ct_X10_rule_76 hC σ x1 x2 xs0 1)
set_option maxRecDepth 100000 in
set_option maxHeartbeats 4000000 in
theorem ct_X10_rule_21 {κ : ca_K} (hC : ca_C κ ca_cM cX10_rule 4 RX10 (some .int) 1 22) (σ : ca_S) (x1 : Int32) (x2 : Int32) (xs0 : Int32) (xs1 : Int32) (xs2 : Int32) : ca_T κ (ca_Zi κ) σ 21 [(0, .ref (ca_a κ (20, 0, 0))), (1, .int x1), (2, .int x2)] [.int xs0, .int xs1, .int xs2] (cj_X10_rule_21 σ x1 x2 xs0 xs1 xs2) := by
  unfold cj_X10_rule_21
  refine ca_callSr hC (rest := []) (cm_X10_in κ.1 κ.2.2.2.1 σ xs2 xs1 xs0) ca_Y_X10_in ca_L_X10_72  rfl rfl (Nat.le_of_ble_eq_true rfl) ⟨Nat.le_of_ble_eq_true rfl, Nat.le_of_ble_eq_true rfl⟩ dX10_rule_21 (q := 24) rfl (fun r8 h10 => ?_)
  refine ca_if_ne hC dX10_rule_24 (t := 29) (q := 27) rfl rfl (fun h11 => ?_) (fun h12 => ?_)
  · refine ca_iload_n hC 1 dX10_rule_29 rfl rfl (q := 30) rfl ?_
    refine ca_iconst hC (v := 1) dX10_rule_30 rfl (q := 31) rfl ?_
    refine ca_icmp_ne hC dX10_rule_31 (t := 41) (q := 34) rfl rfl (fun h13 => ?_) (fun h14 => ?_)
    · refine ca_aload_n hC 0 dX10_rule_41 rfl rfl (q := 42) rfl ?_
      refine cg_X10_91 hC  dX10_rule_42 (q := 45) rfl ?_
      refine ca_if_eq hC dX10_rule_45 (t := 52) (q := 48) rfl rfl (fun h15 => ?_) (fun h16 => ?_)
      · refine ca_iconst hC (v := 0) dX10_rule_52 rfl (q := 53) rfl ?_
        exact ca_pick [0, 1, 2] rfl (ct_X10_rule_53 hC σ x1 x2 0)
      · refine ca_iconst hC (v := 1) dX10_rule_48 rfl (q := 49) rfl ?_
        refine ca_goto hC dX10_rule_49 (q := 53) rfl ?_
        exact ca_pick [0, 1, 2] rfl (ct_X10_rule_53 hC σ x1 x2 1)
    · refine ca_aload_n hC 0 dX10_rule_34 rfl rfl (q := 35) rfl ?_
      refine cg_X10_88 hC  dX10_rule_35 (q := 38) rfl ?_
      refine ca_goto hC dX10_rule_38 (q := 53) rfl ?_
      exact ca_pick [0, 1, 2] rfl (ct_X10_rule_53 hC σ x1 x2 (σ.1 (20, 0, 0) 7))
  · refine ca_iconst hC (v := (-1)) dX10_rule_27 rfl (q := 28) rfl ?_
    exact ca_ireti hC dX10_rule_28 rfl
set_option maxRecDepth 100000 in
set_option maxHeartbeats 4000000 in
theorem ct_X10_rule {κ : ca_K} (hC : ca_C κ ca_cM cX10_rule 4 RX10 (some .int) 1 22) (σ : ca_S) (x1 : Int32) (x2 : Int32) : ca_T κ (ca_Zi κ) σ 0 [(0, .ref (ca_a κ (20, 0, 0))), (1, .int x1), (2, .int x2)] [] (cf_X10_rule σ x1 x2) := by
  unfold cf_X10_rule
  refine ca_iload_n hC 1 dX10_rule_0 rfl rfl (q := 1) rfl ?_
  refine ca_iconst hC (v := 0) dX10_rule_1 rfl (q := 2) rfl ?_
  refine ca_iconst hC (v := 1) dX10_rule_2 rfl (q := 3) rfl ?_
  refine ca_callSr hC (rest := []) (cm_X10_in κ.1 κ.2.2.2.1 σ x1 0 1) ca_Y_X10_in ca_L_X10_72  rfl rfl (Nat.le_of_ble_eq_true rfl) ⟨Nat.le_of_ble_eq_true rfl, Nat.le_of_ble_eq_true rfl⟩ dX10_rule_3 (q := 6) rfl (fun r1 h3 => ?_)
  refine ca_if_eq hC dX10_rule_6 (t := 27) (q := 9) rfl rfl (fun h4 => ?_) (fun h5 => ?_)
  · refine ca_iconst hC (v := (-1)) dX10_rule_27 rfl (q := 28) rfl ?_
    exact ca_ireti hC dX10_rule_28 rfl
  · refine ca_iload_n hC 2 dX10_rule_9 rfl rfl (q := 10) rfl ?_
    refine ca_iconst hC (v := 0) dX10_rule_10 rfl (q := 11) rfl ?_
    refine ca_iload_n hC 1 dX10_rule_11 rfl rfl (q := 12) rfl ?_
    refine ca_if_ne hC dX10_rule_12 (t := 19) (q := 15) rfl rfl (fun h6 => ?_) (fun h7 => ?_)
    · refine ca_bipush hC (v := 16) dX10_rule_19 rfl (q := 21) rfl ?_
      exact ca_pick [0, 1, 2] rfl (ct_X10_rule_21 hC σ x1 x2 16 0 x2)
    · refine ca_iconst hC (v := 1) dX10_rule_15 rfl (q := 16) rfl ?_
      refine ca_goto hC dX10_rule_16 (q := 21) rfl ?_
      exact ca_pick [0, 1, 2] rfl (ct_X10_rule_21 hC σ x1 x2 1 0 x2)
theorem cm_X10_rule (Γ : ca_G) (l : Launch) (σ : ca_S) (x1 : Int32) (x2 : Int32) : ca_Mi Γ ca_cM l yX10_rule cX10_rule 4 (some .int) 1 22 [.ref (Γ.2.1 (20, 0, 0)), .int x1, .int x2] σ (cf_X10_rule σ x1 x2) :=
  ca_met (by decide) (Nat.le_of_ble_eq_true rfl) rfl (fun κ h1 h2 hC => by
    subst h1
    have h := ct_X10_rule hC σ x1 x2
    unfold ca_Zi at h
    rw [h2] at h
    exact h)
-- X10_ask
set_option maxRecDepth 100000 in
set_option maxHeartbeats 4000000 in
theorem ct_X10_ask_77 {κ : ca_K} (hC : ca_C κ ca_cM cX10_ask 5 RX10 (some .int) 1 22) {K : ca_S → Option (Int32 × ca_S)} (hK : ∀ (σ : ca_S), ca_T κ (ca_Zi κ) σ 106 [(0, .ref (ca_a κ (20, 0, 0)))] [] (K σ)) : ∀ (n : Nat) (σ : ca_S) (x4 : Int32), ca_T κ (ca_Zi κ) σ 77 [(0, .ref (ca_a κ (20, 0, 0))), (4, .int x4)] [] (cl_X10_ask_77 K n σ x4) := by
  intro n
  induction n with
  | zero => intro σ x4; exact ca_no
  | succ n ih =>
    intro σ x4
    rw [cl_X10_ask_77]
    refine ca_iload hC 1 dX10_ask_77 rfl (q := 79) rfl ?_
    refine ca_bipush hC (v := 16) dX10_ask_79 rfl (q := 81) rfl ?_
    refine ca_icmp_ge hC dX10_ask_81 (t := 106) (q := 84) rfl rfl (fun h19 => ?_) (fun h20 => ?_)
    · exact ca_pick [0] rfl (hK σ)
    · refine ca_aload_n hC 0 dX10_ask_84 rfl rfl (q := 85) rfl ?_
      refine cg_X10_22 hC  dX10_ask_85 (q := 88) rfl ?_
      refine ca_iload hC 1 dX10_ask_88 rfl (q := 90) rfl ?_
      refine ca_iconst hC (v := 0) dX10_ask_90 rfl (q := 91) rfl ?_
      refine ca_istQ hC (n := 16) (ca_m21 (k := 12) (by decide)) rfl rfl rfl dX10_ask_91 (q := 92) rfl (fun h21 => ?_)
      refine ca_let (fun σ22 _ => ?_)
      refine ca_aload_n hC 0 dX10_ask_92 rfl rfl (q := 93) rfl ?_
      refine cg_X10_31 hC  dX10_ask_93 (q := 96) rfl ?_
      refine ca_iload hC 1 dX10_ask_96 rfl (q := 98) rfl ?_
      refine ca_iconst hC (v := 1) dX10_ask_98 rfl (q := 99) rfl ?_
      refine ca_zstQ hC (n := 16) (ca_m21 (k := 15) (by decide)) rfl rfl rfl rfl dX10_ask_99 (q := 100) rfl (fun h23 => ?_)
      refine ca_let (fun σ24 _ => ?_)
      refine ca_iinc hC 1 (v := (x4 + 1)) (lv' := [(4, .int (x4 + 1)), (0, .ref (ca_a κ (20, 0, 0)))]) dX10_ask_100 rfl rfl (by decide) rfl (q := 103) rfl ?_
      refine ca_goto hC dX10_ask_103 (q := 77) rfl ?_
      exact ca_pick [1, 0] rfl (ih σ24 (x4 + 1))
set_option maxRecDepth 100000 in
set_option maxHeartbeats 4000000 in
theorem ct_X10_ask_109 {κ : ca_K} (hC : ca_C κ ca_cM cX10_ask 5 RX10 (some .int) 1 22) {K : ca_S → Option (Int32 × ca_S)} (hK : ∀ (σ : ca_S), ca_T κ (ca_Zi κ) σ 154 [] [] (K σ)) : ∀ (n : Nat) (σ : ca_S) (x4 : Int32), ca_T κ (ca_Zi κ) σ 109 [(0, .ref (ca_a κ (20, 0, 0))), (4, .int x4)] [] (cl_X10_ask_109 K n σ x4) := by
  intro n
  induction n with
  | zero => intro σ x4; exact ca_no
  | succ n ih =>
    intro σ x4
    rw [cl_X10_ask_109]
    refine ca_iload hC 1 dX10_ask_109 rfl (q := 111) rfl ?_
    refine ca_bipush hC (v := 32) dX10_ask_111 rfl (q := 113) rfl ?_
    refine ca_icmp_ge hC dX10_ask_113 (t := 154) (q := 116) rfl rfl (fun h26 => ?_) (fun h27 => ?_)
    · exact ca_pick [] rfl (hK σ)
    · refine ca_aload_n hC 0 dX10_ask_116 rfl rfl (q := 117) rfl ?_
      refine cg_X10_19 hC  dX10_ask_117 (q := 120) rfl ?_
      refine ca_iload hC 1 dX10_ask_120 rfl (q := 122) rfl ?_
      refine ca_iconst hC (v := 0) dX10_ask_122 rfl (q := 123) rfl ?_
      refine ca_istQ hC (n := 32) (ca_m21 (k := 5) (by decide)) rfl rfl rfl dX10_ask_123 (q := 124) rfl (fun h28 => ?_)
      refine ca_let (fun σ29 _ => ?_)
      refine ca_aload_n hC 0 dX10_ask_124 rfl rfl (q := 125) rfl ?_
      refine cg_X10_38 hC  dX10_ask_125 (q := 128) rfl ?_
      refine ca_iload hC 1 dX10_ask_128 rfl (q := 130) rfl ?_
      refine ca_iconst hC (v := 0) dX10_ask_130 rfl (q := 131) rfl ?_
      refine ca_istQ hC (n := 32) (ca_m21 (k := 17) (by decide)) rfl rfl rfl dX10_ask_131 (q := 132) rfl (fun h30 => ?_)
      refine ca_let (fun σ31 _ => ?_)
      refine ca_aload_n hC 0 dX10_ask_132 rfl rfl (q := 133) rfl ?_
      refine cg_X10_41 hC  dX10_ask_133 (q := 136) rfl ?_
      refine ca_iload hC 1 dX10_ask_136 rfl (q := 138) rfl ?_
      refine ca_iconst hC (v := 0) dX10_ask_138 rfl (q := 139) rfl ?_
      refine ca_istQ hC (n := 32) (ca_m21 (k := 18) (by decide)) rfl rfl rfl dX10_ask_139 (q := 140) rfl (fun h32 => ?_)
      refine ca_let (fun σ33 _ => ?_)
      refine ca_aload_n hC 0 dX10_ask_140 rfl rfl (q := 141) rfl ?_
      refine cg_X10_44 hC  dX10_ask_141 (q := 144) rfl ?_
      refine ca_iload hC 1 dX10_ask_144 rfl (q := 146) rfl ?_
      refine ca_iconst hC (v := 0) dX10_ask_146 rfl (q := 147) rfl ?_
      refine ca_istQ hC (n := 32) (ca_m21 (k := 19) (by decide)) rfl rfl rfl dX10_ask_147 (q := 148) rfl (fun h34 => ?_)
      refine ca_let (fun σ35 _ => ?_)
      refine ca_iinc hC 1 (v := (x4 + 1)) (lv' := [(4, .int (x4 + 1)), (0, .ref (ca_a κ (20, 0, 0)))]) dX10_ask_148 rfl rfl (by decide) rfl (q := 151) rfl ?_
      refine ca_goto hC dX10_ask_151 (q := 109) rfl ?_
      exact ca_pick [1, 0] rfl (ih σ35 (x4 + 1))
set_option maxRecDepth 100000 in
set_option maxHeartbeats 4000000 in
theorem ct_X10_ask_23 {κ : ca_K} (hC : ca_C κ ca_cM cX10_ask 5 RX10 (some .int) 1 22) (σ : ca_S) (x1 : Int32) (x2 : Int32) (x3 : Int32) : ca_T κ (ca_Zi κ) σ 23 [(0, .ref (ca_a κ (20, 0, 0))), (1, .int x1), (2, .int x2), (3, .int x3)] [] (cj_X10_ask_23 σ x1 x2 x3) := by
  unfold cj_X10_ask_23
  refine ca_iload_n hC 3 dX10_ask_23 rfl rfl (q := 24) rfl ?_
  refine ca_aload_n hC 0 dX10_ask_24 rfl rfl (q := 25) rfl ?_
  refine cg_X10_94 hC  dX10_ask_25 (q := 28) rfl ?_
  refine ca_icmp_le hC dX10_ask_28 (t := 37) (q := 31) rfl rfl (fun h8 => ?_) (fun h9 => ?_)
  · refine ca_iconst hC (v := (-1)) dX10_ask_37 rfl (q := 38) rfl ?_
    exact ca_ireti hC dX10_ask_38 rfl
  · refine ca_iload_n hC 3 dX10_ask_31 rfl rfl (q := 32) rfl ?_
    refine ca_ldc hC (v := 100000) ca_w738 dX10_ask_32 (q := 34) rfl ?_
    refine ca_icmp_le hC dX10_ask_34 (t := 39) (q := 37) rfl rfl (fun h10 => ?_) (fun h11 => ?_)
    · refine ca_aload_n hC 0 dX10_ask_39 rfl rfl (q := 40) rfl ?_
      refine cg_X10_76 hC  dX10_ask_40 (q := 43) rfl ?_
      refine ca_if_eq hC dX10_ask_43 (t := 49) (q := 46) rfl rfl (fun h12 => ?_) (fun h13 => ?_)
      · refine ca_aload_n hC 0 dX10_ask_49 rfl rfl (q := 50) rfl ?_
        refine ca_iconst hC (v := 1) dX10_ask_50 rfl (q := 51) rfl ?_
        refine cp_X10_76 hC rfl dX10_ask_51 (q := 54) rfl ?_
        refine ca_let (fun σ14 _ => ?_)
        refine ca_aload_n hC 0 dX10_ask_54 rfl rfl (q := 55) rfl ?_
        refine ca_iload_n hC 1 dX10_ask_55 rfl rfl (q := 56) rfl ?_
        refine cp_X10_98 hC  dX10_ask_56 (q := 59) rfl ?_
        refine ca_let (fun σ15 _ => ?_)
        refine ca_aload_n hC 0 dX10_ask_59 rfl rfl (q := 60) rfl ?_
        refine ca_iload_n hC 2 dX10_ask_60 rfl rfl (q := 61) rfl ?_
        refine cp_X10_101 hC  dX10_ask_61 (q := 64) rfl ?_
        refine ca_let (fun σ16 _ => ?_)
        refine ca_aload_n hC 0 dX10_ask_64 rfl rfl (q := 65) rfl ?_
        refine ca_iload_n hC 3 dX10_ask_65 rfl rfl (q := 66) rfl ?_
        refine cp_X10_104 hC  dX10_ask_66 (q := 69) rfl ?_
        refine ca_let (fun σ17 _ => ?_)
        refine ca_aload_n hC 0 dX10_ask_69 rfl rfl (q := 70) rfl ?_
        refine ca_iconst hC (v := 0) dX10_ask_70 rfl (q := 71) rfl ?_
        refine cp_X10_107 hC  dX10_ask_71 (q := 74) rfl ?_
        refine ca_let (fun σ18 _ => ?_)
        refine ca_iconst hC (v := 0) dX10_ask_74 rfl (q := 75) rfl ?_
        refine ca_istore hC (lv' := [(4, .int 0), (0, .ref (ca_a κ (20, 0, 0))), (1, .int x1), (2, .int x2), (3, .int x3)]) dX10_ask_75 (by decide) rfl (q := 77) rfl ?_
        refine ca_pick [0, 1] (lv' := [(4, .int 0), (0, .ref (ca_a κ (20, 0, 0)))]) rfl ?_
        refine ca_pick [1, 0] rfl (ct_X10_ask_77 hC  ?_ ca_FU σ18 0)
        intro σ25
        refine ca_iconst hC (v := 0) dX10_ask_106 rfl (q := 107) rfl ?_
        refine ca_istore hC (lv' := [(4, .int 0), (0, .ref (ca_a κ (20, 0, 0)))]) dX10_ask_107 (by decide) rfl (q := 109) rfl ?_
        refine ca_pick [1, 0] rfl (ct_X10_ask_109 hC  ?_ ca_FU σ25 0)
        intro σ36
        refine ca_iconst hC (v := 0) dX10_ask_154 rfl (q := 155) rfl ?_
        exact ca_ireti hC dX10_ask_155 rfl
      · refine ca_bipush hC (v := (-2)) dX10_ask_46 rfl (q := 48) rfl ?_
        exact ca_ireti hC dX10_ask_48 rfl
    · refine ca_iconst hC (v := (-1)) dX10_ask_37 rfl (q := 38) rfl ?_
      exact ca_ireti hC dX10_ask_38 rfl
set_option maxRecDepth 100000 in
set_option maxHeartbeats 4000000 in
theorem ct_X10_ask {κ : ca_K} (hC : ca_C κ ca_cM cX10_ask 5 RX10 (some .int) 1 22) (σ : ca_S) (x1 : Int32) (x2 : Int32) (x3 : Int32) : ca_T κ (ca_Zi κ) σ 0 [(0, .ref (ca_a κ (20, 0, 0))), (1, .int x1), (2, .int x2), (3, .int x3)] [] (cf_X10_ask σ x1 x2 x3) := by
  unfold cf_X10_ask
  refine ca_iload_n hC 1 dX10_ask_0 rfl rfl (q := 1) rfl ?_
  refine ca_iconst hC (v := 0) dX10_ask_1 rfl (q := 2) rfl ?_
  refine ca_iconst hC (v := 2) dX10_ask_2 rfl (q := 3) rfl ?_
  refine ca_callSr hC (rest := []) (cm_X10_in κ.1 κ.2.2.2.1 σ x1 0 2) ca_Y_X10_in ca_L_X10_72  rfl rfl (Nat.le_of_ble_eq_true rfl) ⟨Nat.le_of_ble_eq_true rfl, Nat.le_of_ble_eq_true rfl⟩ dX10_ask_3 (q := 6) rfl (fun r1 h3 => ?_)
  refine ca_if_eq hC dX10_ask_6 (t := 37) (q := 9) rfl rfl (fun h4 => ?_) (fun h5 => ?_)
  · refine ca_iconst hC (v := (-1)) dX10_ask_37 rfl (q := 38) rfl ?_
    exact ca_ireti hC dX10_ask_38 rfl
  · refine ca_iload_n hC 1 dX10_ask_9 rfl rfl (q := 10) rfl ?_
    refine ca_iconst hC (v := 2) dX10_ask_10 rfl (q := 11) rfl ?_
    refine ca_icmp_ne hC dX10_ask_11 (t := 23) (q := 14) rfl rfl (fun h6 => ?_) (fun h7 => ?_)
    · exact ca_pick [0, 1, 2, 3] rfl (ct_X10_ask_23 hC σ x1 x2 x3)
    · refine ca_iload_n hC 2 dX10_ask_14 rfl rfl (q := 15) rfl ?_
      refine ca_iconst hC (v := 2) dX10_ask_15 rfl (q := 16) rfl ?_
      refine ca_iconst hC (v := 5) dX10_ask_16 rfl (q := 17) rfl ?_
      refine ca_callSr hC (rest := []) (cm_X10_in κ.1 κ.2.2.2.1 σ x2 2 5) ca_Y_X10_in ca_L_X10_72  rfl rfl (Nat.le_of_ble_eq_true rfl) ⟨Nat.le_of_ble_eq_true rfl, Nat.le_of_ble_eq_true rfl⟩ dX10_ask_17 (q := 20) rfl (fun r37 h39 => ?_)
      refine ca_if_eq hC dX10_ask_20 (t := 37) (q := 23) rfl rfl (fun h40 => ?_) (fun h41 => ?_)
      · refine ca_iconst hC (v := (-1)) dX10_ask_37 rfl (q := 38) rfl ?_
        exact ca_ireti hC dX10_ask_38 rfl
      · exact ca_pick [0, 1, 2, 3] rfl (ct_X10_ask_23 hC σ x1 x2 x3)
theorem cm_X10_ask (Γ : ca_G) (l : Launch) (σ : ca_S) (x1 : Int32) (x2 : Int32) (x3 : Int32) : ca_Mi Γ ca_cM l yX10_ask cX10_ask 5 (some .int) 1 22 [.ref (Γ.2.1 (20, 0, 0)), .int x1, .int x2, .int x3] σ (cf_X10_ask σ x1 x2 x3) :=
  ca_met (by decide) (Nat.le_of_ble_eq_true rfl) rfl (fun κ h1 h2 hC => by
    subst h1
    have h := ct_X10_ask hC σ x1 x2 x3
    unfold ca_Zi at h
    rw [h2] at h
    exact h)
-- X10_isAnswer
set_option maxRecDepth 100000 in
set_option maxHeartbeats 4000000 in
theorem ct_X10_isAnswer_32 {κ : ca_K} (hC : ca_C κ ca_cM cX10_isAnswer 4 RX10 (some .boolean) 1 22) (σ : ca_S) (x1 : Int32) {K : Int32 → Option (Int32)} (hK : ∀ (x2 : Int32), ca_T κ (ca_Zr κ σ) σ 59 [(0, .ref (ca_a κ (20, 0, 0))), (1, .int x1), (2, .int x2)] [] (K x2)) : ∀ (n : Nat) (x2 : Int32) (x3 : Int32), ca_T κ (ca_Zr κ σ) σ 32 [(0, .ref (ca_a κ (20, 0, 0))), (1, .int x1), (2, .int x2), (3, .int x3)] [] (cl_X10_isAnswer_32 σ x1 K n x2 x3) := by
  intro n
  induction n with
  | zero => intro x2 x3; exact ca_no
  | succ n ih =>
    intro x2 x3
    rw [cl_X10_isAnswer_32]
    refine ca_iload_n hC 3 dX10_isAnswer_32 rfl rfl (q := 33) rfl ?_
    refine ca_aload_n hC 0 dX10_isAnswer_33 rfl rfl (q := 34) rfl ?_
    refine cg_X10_101 hC  dX10_isAnswer_34 (q := 37) rfl ?_
    refine ca_icmp_ge hC dX10_isAnswer_37 (t := 59) (q := 40) rfl rfl (fun h3 => ?_) (fun h4 => ?_)
    · exact ca_pick [0, 1, 2] rfl (hK x2)
    · refine ca_iload_n hC 2 dX10_isAnswer_40 rfl rfl (q := 41) rfl ?_
      refine ca_iconst hC (v := 1) dX10_isAnswer_41 rfl (q := 42) rfl ?_
      refine ca_iload_n hC 1 dX10_isAnswer_42 rfl rfl (q := 43) rfl ?_
      refine ca_iconst hC (v := 3) dX10_isAnswer_43 rfl (q := 44) rfl ?_
      refine ca_iload_n hC 3 dX10_isAnswer_44 rfl rfl (q := 45) rfl ?_
      refine ca_imul hC dX10_isAnswer_45 (q := 46) rfl ?_
      refine ca_ishr hC dX10_isAnswer_46 (q := 47) rfl ?_
      refine ca_bipush hC (v := 7) dX10_isAnswer_47 rfl (q := 49) rfl ?_
      refine ca_iand hC dX10_isAnswer_49 (q := 50) rfl ?_
      refine ca_ishl hC dX10_isAnswer_50 (q := 51) rfl ?_
      refine ca_ior hC dX10_isAnswer_51 (q := 52) rfl ?_
      refine ca_istore_n hC (lv' := [(2, .int (x2 ||| (1 <<< (((x1 >>> ((3 * x3) &&& 31)) &&& 7) &&& 31)))), (0, .ref (ca_a κ (20, 0, 0))), (1, .int x1), (3, .int x3)]) dX10_isAnswer_52 rfl (by decide) rfl (q := 53) rfl ?_
      refine ca_letv (P := fun v5 X => ca_T κ (ca_Zr κ σ) σ 53 [(2, .int v5), (0, .ref (ca_a κ (20, 0, 0))), (1, .int x1), (3, .int x3)] [] X) (x2 ||| (1 <<< (((x1 >>> ((3 * x3) &&& 31)) &&& 7) &&& 31))) (fun v5 _ => ?_)
      refine ca_iinc hC 3 (v := (x3 + 1)) (lv' := [(3, .int (x3 + 1)), (2, .int v5), (0, .ref (ca_a κ (20, 0, 0))), (1, .int x1)]) dX10_isAnswer_53 rfl rfl (by decide) rfl (q := 56) rfl ?_
      refine ca_goto hC dX10_isAnswer_56 (q := 32) rfl ?_
      exact ca_pick [2, 3, 1, 0] rfl (ih v5 (x3 + 1))
set_option maxRecDepth 100000 in
set_option maxHeartbeats 4000000 in
theorem ct_X10_isAnswer {κ : ca_K} (hC : ca_C κ ca_cM cX10_isAnswer 4 RX10 (some .boolean) 1 22) (σ : ca_S) (x1 : Int32) : ca_T κ (ca_Zr κ σ) σ 0 [(0, .ref (ca_a κ (20, 0, 0))), (1, .int x1)] [] (cf_X10_isAnswer σ x1) := by
  unfold cf_X10_isAnswer
  refine ca_aload_n hC 0 dX10_isAnswer_0 rfl rfl (q := 1) rfl ?_
  refine cg_X10_98 hC  dX10_isAnswer_1 (q := 4) rfl ?_
  refine ca_iconst hC (v := 2) dX10_isAnswer_4 rfl (q := 5) rfl ?_
  refine ca_icmp_ge hC dX10_isAnswer_5 (t := 28) (q := 8) rfl rfl (fun h1 => ?_) (fun h2 => ?_)
  · refine ca_iconst hC (v := 0) dX10_isAnswer_28 rfl (q := 29) rfl ?_
    refine ca_istore_n hC (lv' := [(2, .int 0), (0, .ref (ca_a κ (20, 0, 0))), (1, .int x1)]) dX10_isAnswer_29 rfl (by decide) rfl (q := 30) rfl ?_
    refine ca_iconst hC (v := 0) dX10_isAnswer_30 rfl (q := 31) rfl ?_
    refine ca_istore_n hC (lv' := [(3, .int 0), (2, .int 0), (0, .ref (ca_a κ (20, 0, 0))), (1, .int x1)]) dX10_isAnswer_31 rfl (by decide) rfl (q := 32) rfl ?_
    refine ca_pick [2, 3, 1, 0] rfl (ct_X10_isAnswer_32 hC σ x1 ?_ ca_FU 0 0)
    intro x6
    refine ca_iload_n hC 1 dX10_isAnswer_59 rfl rfl (q := 60) rfl ?_
    refine ca_if_lt hC dX10_isAnswer_60 (t := 90) (q := 63) rfl rfl (fun h7 => ?_) (fun h8 => ?_)
    · refine ca_iconst hC (v := 0) dX10_isAnswer_90 rfl (q := 91) rfl ?_
      exact ca_iretr hC dX10_isAnswer_91 rfl
    · refine ca_iload_n hC 1 dX10_isAnswer_63 rfl rfl (q := 64) rfl ?_
      refine ca_iconst hC (v := 3) dX10_isAnswer_64 rfl (q := 65) rfl ?_
      refine ca_aload_n hC 0 dX10_isAnswer_65 rfl rfl (q := 66) rfl ?_
      refine cg_X10_101 hC  dX10_isAnswer_66 (q := 69) rfl ?_
      refine ca_imul hC dX10_isAnswer_69 (q := 70) rfl ?_
      refine ca_ishr hC dX10_isAnswer_70 (q := 71) rfl ?_
      refine ca_if_ne hC dX10_isAnswer_71 (t := 90) (q := 74) rfl rfl (fun h9 => ?_) (fun h10 => ?_)
      · refine ca_iconst hC (v := 0) dX10_isAnswer_90 rfl (q := 91) rfl ?_
        exact ca_iretr hC dX10_isAnswer_91 rfl
      · refine ca_iload_n hC 2 dX10_isAnswer_74 rfl rfl (q := 75) rfl ?_
        refine ca_iconst hC (v := 1) dX10_isAnswer_75 rfl (q := 76) rfl ?_
        refine ca_aload_n hC 0 dX10_isAnswer_76 rfl rfl (q := 77) rfl ?_
        refine cg_X10_101 hC  dX10_isAnswer_77 (q := 80) rfl ?_
        refine ca_ishl hC dX10_isAnswer_80 (q := 81) rfl ?_
        refine ca_iconst hC (v := 1) dX10_isAnswer_81 rfl (q := 82) rfl ?_
        refine ca_isub hC dX10_isAnswer_82 (q := 83) rfl ?_
        refine ca_icmp_ne hC dX10_isAnswer_83 (t := 90) (q := 86) rfl rfl (fun h11 => ?_) (fun h12 => ?_)
        · refine ca_iconst hC (v := 0) dX10_isAnswer_90 rfl (q := 91) rfl ?_
          exact ca_iretr hC dX10_isAnswer_91 rfl
        · refine ca_iconst hC (v := 1) dX10_isAnswer_86 rfl (q := 87) rfl ?_
          refine ca_goto hC dX10_isAnswer_87 (q := 91) rfl ?_
          exact ca_iretr hC dX10_isAnswer_91 rfl
  · refine ca_iload_n hC 1 dX10_isAnswer_8 rfl rfl (q := 9) rfl ?_
    refine ca_iconst hC (v := 0) dX10_isAnswer_9 rfl (q := 10) rfl ?_
    refine ca_aload_n hC 0 dX10_isAnswer_10 rfl rfl (q := 11) rfl ?_
    refine cg_X10_98 hC  dX10_isAnswer_11 (q := 14) rfl ?_
    refine ca_if_ne hC dX10_isAnswer_14 (t := 22) (q := 17) rfl rfl (fun h13 => ?_) (fun h14 => ?_)
    · refine ca_ldc hC (v := 100000) ca_w738 dX10_isAnswer_22 (q := 24) rfl ?_
      refine ca_callSr hC (rest := []) (cm_X10_in κ.1 κ.2.2.2.1 σ x1 0 100000) ca_Y_X10_in ca_L_X10_72  rfl rfl (Nat.le_of_ble_eq_true rfl) ⟨Nat.le_of_ble_eq_true rfl, Nat.le_of_ble_eq_true rfl⟩ dX10_isAnswer_24 (q := 27) rfl (fun r15 h17 => ?_)
      refine ca_grd (fun h18 => ?_)
      exact ca_iretr hC dX10_isAnswer_27 (ca_bo_n h18)
    · refine ca_bipush hC (v := 7) dX10_isAnswer_17 rfl (q := 19) rfl ?_
      refine ca_goto hC dX10_isAnswer_19 (q := 24) rfl ?_
      refine ca_callSr hC (rest := []) (cm_X10_in κ.1 κ.2.2.2.1 σ x1 0 7) ca_Y_X10_in ca_L_X10_72  rfl rfl (Nat.le_of_ble_eq_true rfl) ⟨Nat.le_of_ble_eq_true rfl, Nat.le_of_ble_eq_true rfl⟩ dX10_isAnswer_24 (q := 27) rfl (fun r19 h21 => ?_)
      refine ca_grd (fun h22 => ?_)
      exact ca_iretr hC dX10_isAnswer_27 (ca_bo_n h22)
theorem cm_X10_isAnswer (Γ : ca_G) (l : Launch) (σ : ca_S) (x1 : Int32) : ca_Mr Γ ca_cM l yX10_isAnswer cX10_isAnswer 4 (some .boolean) 1 22 [.ref (Γ.2.1 (20, 0, 0)), .int x1] σ (cf_X10_isAnswer σ x1) :=
  ca_met (by decide) (Nat.le_of_ble_eq_true rfl) rfl (fun κ h1 h2 hC => by
    subst h1
    have h := ct_X10_isAnswer hC σ x1
    unfold ca_Zr at h
    rw [h2] at h
    exact h)
-- X10_send
set_option maxRecDepth 100000 in
set_option maxHeartbeats 4000000 in
theorem ct_X10_send {κ : ca_K} (hC : ca_C κ ca_cM cX10_send 3 RX10 (some .int) 2 45) (σ : ca_S) (x1 : Int32) (x2 : Int32) : ca_T κ (ca_Zi κ) σ 0 [(0, .ref (ca_a κ (20, 0, 0))), (1, .int x1), (2, .int x2)] [] (cf_X10_send σ x1 x2) := by
  unfold cf_X10_send
  refine ca_aload_n hC 0 dX10_send_0 rfl rfl (q := 1) rfl ?_
  refine ca_iload_n hC 1 dX10_send_1 rfl rfl (q := 2) rfl ?_
  refine ca_callVr hC (rest := []) (cm_X10_isBox κ.1 κ.2.2.2.1 σ x1) ca_Y_X10_isBox ca_L_X10_80 ca_m20 rfl rfl rfl rfl (Nat.le_of_ble_eq_true rfl) ⟨Nat.le_of_ble_eq_true rfl, Nat.le_of_ble_eq_true rfl⟩ dX10_send_2 (q := 5) rfl (fun r1 h3 => ?_)
  refine ca_if_ne hC dX10_send_5 (t := 10) (q := 8) rfl rfl (fun h4 => ?_) (fun h5 => ?_)
  · refine ca_aload_n hC 0 dX10_send_10 rfl rfl (q := 11) rfl ?_
    refine cg_X10_76 hC  dX10_send_11 (q := 14) rfl ?_
    refine ca_if_ne hC dX10_send_14 (t := 20) (q := 17) rfl rfl (fun h6 => ?_) (fun h7 => ?_)
    · refine ca_aload_n hC 0 dX10_send_20 rfl rfl (q := 21) rfl ?_
      refine ca_iload_n hC 2 dX10_send_21 rfl rfl (q := 22) rfl ?_
      refine ca_callVr hC (rest := []) (cm_X10_isAnswer κ.1 κ.2.2.2.1 σ x2) ca_Y_X10_isAnswer ca_L_X10_110 ca_m20 rfl rfl rfl rfl (Nat.le_of_ble_eq_true rfl) ⟨Nat.le_of_ble_eq_true rfl, Nat.le_of_ble_eq_true rfl⟩ dX10_send_22 (q := 25) rfl (fun r8 h10 => ?_)
      refine ca_if_ne hC dX10_send_25 (t := 30) (q := 28) rfl rfl (fun h11 => ?_) (fun h12 => ?_)
      · refine ca_aload_n hC 0 dX10_send_30 rfl rfl (q := 31) rfl ?_
        refine cg_X10_22 hC  dX10_send_31 (q := 34) rfl ?_
        refine ca_iload_n hC 1 dX10_send_34 rfl rfl (q := 35) rfl ?_
        refine ca_dup2 hC dX10_send_35 rfl rfl (q := 36) rfl ?_
        refine ca_ildQ hC (n := 16) (ca_m21 (k := 12) (by decide)) rfl rfl rfl dX10_send_36 (q := 37) rfl (fun h13 => ?_)
        refine ca_iconst hC (v := 1) dX10_send_37 rfl (q := 38) rfl ?_
        refine ca_iadd hC dX10_send_38 (q := 39) rfl ?_
        refine ca_istQ hC (n := 16) (ca_m21 (k := 12) (by decide)) rfl rfl rfl dX10_send_39 (q := 40) rfl (fun h14 => ?_)
        refine ca_let (fun σ15 _ => ?_)
        refine ca_aload_n hC 0 dX10_send_40 rfl rfl (q := 41) rfl ?_
        refine cg_X10_25 hC  dX10_send_41 (q := 44) rfl ?_
        refine ca_iload_n hC 1 dX10_send_44 rfl rfl (q := 45) rfl ?_
        refine ca_iload_n hC 2 dX10_send_45 rfl rfl (q := 46) rfl ?_
        refine ca_istQ hC (n := 16) (ca_m21 (k := 13) (by decide)) rfl rfl rfl dX10_send_46 (q := 47) rfl (fun h16 => ?_)
        refine ca_let (fun σ17 _ => ?_)
        refine ca_aload_n hC 0 dX10_send_47 rfl rfl (q := 48) rfl ?_
        refine cg_X10_28 hC  dX10_send_48 (q := 51) rfl ?_
        refine ca_iload_n hC 1 dX10_send_51 rfl rfl (q := 52) rfl ?_
        refine ca_aload_n hC 0 dX10_send_52 rfl rfl (q := 53) rfl ?_
        refine cg_X10_94 hC  dX10_send_53 (q := 56) rfl ?_
        refine ca_istQ hC (n := 16) (ca_m21 (k := 14) (by decide)) rfl rfl rfl dX10_send_56 (q := 57) rfl (fun h18 => ?_)
        refine ca_let (fun σ19 _ => ?_)
        refine ca_aload_n hC 0 dX10_send_57 rfl rfl (q := 58) rfl ?_
        refine cg_X10_31 hC  dX10_send_58 (q := 61) rfl ?_
        refine ca_iload_n hC 1 dX10_send_61 rfl rfl (q := 62) rfl ?_
        refine ca_iconst hC (v := 0) dX10_send_62 rfl (q := 63) rfl ?_
        refine ca_zstQ hC (n := 16) (ca_m21 (k := 15) (by decide)) rfl rfl rfl rfl dX10_send_63 (q := 64) rfl (fun h20 => ?_)
        refine ca_let (fun σ21 _ => ?_)
        refine ca_aload_n hC 0 dX10_send_64 rfl rfl (q := 65) rfl ?_
        refine cg_X10_19 hC  dX10_send_65 (q := 68) rfl ?_
        refine ca_iconst hC (v := 2) dX10_send_68 rfl (q := 69) rfl ?_
        refine ca_iload_n hC 1 dX10_send_69 rfl rfl (q := 70) rfl ?_
        refine ca_imul hC dX10_send_70 (q := 71) rfl ?_
        refine ca_iconst hC (v := 0) dX10_send_71 rfl (q := 72) rfl ?_
        refine ca_istQ hC (n := 32) (ca_m21 (k := 5) (by decide)) rfl rfl rfl dX10_send_72 (q := 73) rfl (fun h22 => ?_)
        refine ca_let (fun σ23 _ => ?_)
        refine ca_aload_n hC 0 dX10_send_73 rfl rfl (q := 74) rfl ?_
        refine cg_X10_19 hC  dX10_send_74 (q := 77) rfl ?_
        refine ca_iconst hC (v := 2) dX10_send_77 rfl (q := 78) rfl ?_
        refine ca_iload_n hC 1 dX10_send_78 rfl rfl (q := 79) rfl ?_
        refine ca_imul hC dX10_send_79 (q := 80) rfl ?_
        refine ca_iconst hC (v := 1) dX10_send_80 rfl (q := 81) rfl ?_
        refine ca_iadd hC dX10_send_81 (q := 82) rfl ?_
        refine ca_iconst hC (v := 0) dX10_send_82 rfl (q := 83) rfl ?_
        refine ca_istQ hC (n := 32) (ca_m21 (k := 5) (by decide)) rfl rfl rfl dX10_send_83 (q := 84) rfl (fun h24 => ?_)
        refine ca_let (fun σ25 _ => ?_)
        refine ca_aload_n hC 0 dX10_send_84 rfl rfl (q := 85) rfl ?_
        refine cg_X10_22 hC  dX10_send_85 (q := 88) rfl ?_
        refine ca_iload_n hC 1 dX10_send_88 rfl rfl (q := 89) rfl ?_
        refine ca_ildQ hC (n := 16) (ca_m21 (k := 12) (by decide)) rfl rfl rfl dX10_send_89 (q := 90) rfl (fun h26 => ?_)
        exact ca_ireti hC dX10_send_90 rfl
      · refine ca_iconst hC (v := (-1)) dX10_send_28 rfl (q := 29) rfl ?_
        exact ca_ireti hC dX10_send_29 rfl
    · refine ca_bipush hC (v := (-2)) dX10_send_17 rfl (q := 19) rfl ?_
      exact ca_ireti hC dX10_send_19 rfl
  · refine ca_iconst hC (v := (-1)) dX10_send_8 rfl (q := 9) rfl ?_
    exact ca_ireti hC dX10_send_9 rfl
theorem cm_X10_send (Γ : ca_G) (l : Launch) (σ : ca_S) (x1 : Int32) (x2 : Int32) : ca_Mi Γ ca_cM l yX10_send cX10_send 3 (some .int) 2 45 [.ref (Γ.2.1 (20, 0, 0)), .int x1, .int x2] σ (cf_X10_send σ x1 x2) :=
  ca_met (by decide) (Nat.le_of_ble_eq_true rfl) rfl (fun κ h1 h2 hC => by
    subst h1
    have h := ct_X10_send hC σ x1 x2
    unfold ca_Zi at h
    rw [h2] at h
    exact h)
-- X10_tryBy
set_option maxRecDepth 100000 in
set_option maxHeartbeats 4000000 in
theorem ct_X10_tryBy_55 {κ : ca_K} (hC : ca_C κ ca_cM cX10_tryBy 3 RX10 none 0 0) (σ : ca_S) (x1 : Int32) (xs0 : Int32) : ca_T κ (ca_Zv κ) σ 55 [(0, .ref (ca_a κ (20, 0, 0))), (1, .int x1)] [.int xs0] (cj_X10_tryBy_55 σ x1 xs0) := by
  unfold cj_X10_tryBy_55
  refine ca_istore_n hC (lv' := [(2, .int xs0), (0, .ref (ca_a κ (20, 0, 0))), (1, .int x1)]) dX10_tryBy_55 rfl (by decide) rfl (q := 56) rfl ?_
  refine ca_aload_n hC 1 dX10_tryBy_56 rfl rfl (q := 57) rfl ?_
  refine cg_X10_16 hC  dX10_tryBy_57 (q := 60) rfl ?_
  refine ca_iload_n hC 2 dX10_tryBy_60 rfl rfl (q := 61) rfl ?_
  refine ca_aload_n hC 1 dX10_tryBy_61 rfl rfl (q := 62) rfl ?_
  refine cg_X10_16 hC  dX10_tryBy_62 (q := 65) rfl ?_
  refine ca_iload_n hC 2 dX10_tryBy_65 rfl rfl (q := 66) rfl ?_
  refine ca_ildQ hC (n := 32) (ca_m21 (k := 4) (by decide)) rfl rfl rfl dX10_tryBy_66 (q := 67) rfl (fun h12 => ?_)
  refine ca_iconst hC (v := 1) dX10_tryBy_67 rfl (q := 68) rfl ?_
  refine ca_iadd hC dX10_tryBy_68 (q := 69) rfl ?_
  refine ca_bipush hC (v := 16) dX10_tryBy_69 rfl (q := 71) rfl ?_
  refine ca_irem hC dX10_tryBy_71 (q := 72) rfl (fun h13 => ?_)
  refine ca_istQ hC (n := 32) (ca_m21 (k := 4) (by decide)) rfl rfl rfl dX10_tryBy_72 (q := 73) rfl (fun h14 => ?_)
  refine ca_let (fun σ15 _ => ?_)
  refine ca_iload_n hC 0 dX10_tryBy_73 rfl rfl (q := 74) rfl ?_
  refine ca_if_ne hC dX10_tryBy_74 (t := 168) (q := 77) rfl rfl (fun h16 => ?_) (fun h17 => ?_)
  · exact ca_vret hC dX10_tryBy_168
  · refine ca_aload_n hC 1 dX10_tryBy_77 rfl rfl (q := 78) rfl ?_
    refine cg_X10_47 hC  dX10_tryBy_78 (q := 81) rfl ?_
    refine ca_aload_n hC 1 dX10_tryBy_81 rfl rfl (q := 82) rfl ?_
    refine cg_X10_107 hC  dX10_tryBy_82 (q := 85) rfl ?_
    refine ca_aload_n hC 1 dX10_tryBy_85 rfl rfl (q := 86) rfl ?_
    refine cg_X10_94 hC  dX10_tryBy_86 (q := 89) rfl ?_
    refine ca_aload_n hC 1 dX10_tryBy_89 rfl rfl (q := 90) rfl ?_
    refine cg_X10_13 hC  dX10_tryBy_90 (q := 93) rfl ?_
    refine ca_iload_n hC 2 dX10_tryBy_93 rfl rfl (q := 94) rfl ?_
    refine ca_ildQ hC (n := 32) (ca_m21 (k := 3) (by decide)) rfl rfl rfl dX10_tryBy_94 (q := 95) rfl (fun h18 => ?_)
    refine ca_iadd hC dX10_tryBy_95 (q := 96) rfl ?_
    refine ca_istQ hC (n := 400) (ca_m21 (k := 21) (by decide)) rfl rfl rfl dX10_tryBy_96 (q := 97) rfl (fun h19 => ?_)
    refine ca_let (fun σ20 _ => ?_)
    refine ca_aload_n hC 1 dX10_tryBy_97 rfl rfl (q := 98) rfl ?_
    refine cg_X10_50 hC  dX10_tryBy_98 (q := 101) rfl ?_
    refine ca_aload_n hC 1 dX10_tryBy_101 rfl rfl (q := 102) rfl ?_
    refine cg_X10_107 hC  dX10_tryBy_102 (q := 105) rfl ?_
    refine ca_iload_n hC 2 dX10_tryBy_105 rfl rfl (q := 106) rfl ?_
    refine ca_istQ hC (n := 400) (ca_m21 (k := 22) (by decide)) rfl rfl rfl dX10_tryBy_106 (q := 107) rfl (fun h21 => ?_)
    refine ca_let (fun σ22 _ => ?_)
    refine ca_aload_n hC 1 dX10_tryBy_107 rfl rfl (q := 108) rfl ?_
    refine cg_X10_53 hC  dX10_tryBy_108 (q := 111) rfl ?_
    refine ca_aload_n hC 1 dX10_tryBy_111 rfl rfl (q := 112) rfl ?_
    refine cg_X10_107 hC  dX10_tryBy_112 (q := 115) rfl ?_
    refine ca_aload_n hC 1 dX10_tryBy_115 rfl rfl (q := 116) rfl ?_
    refine cg_X10_22 hC  dX10_tryBy_116 (q := 119) rfl ?_
    refine ca_iload_n hC 2 dX10_tryBy_119 rfl rfl (q := 120) rfl ?_
    refine ca_iconst hC (v := 2) dX10_tryBy_120 rfl (q := 121) rfl ?_
    refine ca_idiv hC dX10_tryBy_121 (q := 122) rfl (fun h23 => ?_)
    refine ca_ildQ hC (n := 16) (ca_m21 (k := 12) (by decide)) rfl rfl rfl dX10_tryBy_122 (q := 123) rfl (fun h24 => ?_)
    refine ca_istQ hC (n := 400) (ca_m21 (k := 23) (by decide)) rfl rfl rfl dX10_tryBy_123 (q := 124) rfl (fun h25 => ?_)
    refine ca_let (fun σ26 _ => ?_)
    refine ca_aload_n hC 1 dX10_tryBy_124 rfl rfl (q := 125) rfl ?_
    refine cg_X10_56 hC  dX10_tryBy_125 (q := 128) rfl ?_
    refine ca_aload_n hC 1 dX10_tryBy_128 rfl rfl (q := 129) rfl ?_
    refine cg_X10_107 hC  dX10_tryBy_129 (q := 132) rfl ?_
    refine ca_aload_n hC 1 dX10_tryBy_132 rfl rfl (q := 133) rfl ?_
    refine cg_X10_25 hC  dX10_tryBy_133 (q := 136) rfl ?_
    refine ca_iload_n hC 2 dX10_tryBy_136 rfl rfl (q := 137) rfl ?_
    refine ca_iconst hC (v := 2) dX10_tryBy_137 rfl (q := 138) rfl ?_
    refine ca_idiv hC dX10_tryBy_138 (q := 139) rfl (fun h27 => ?_)
    refine ca_ildQ hC (n := 16) (ca_m21 (k := 13) (by decide)) rfl rfl rfl dX10_tryBy_139 (q := 140) rfl (fun h28 => ?_)
    refine ca_istQ hC (n := 400) (ca_m21 (k := 24) (by decide)) rfl rfl rfl dX10_tryBy_140 (q := 141) rfl (fun h29 => ?_)
    refine ca_let (fun σ30 _ => ?_)
    refine ca_aload_n hC 1 dX10_tryBy_141 rfl rfl (q := 142) rfl ?_
    refine cg_X10_59 hC  dX10_tryBy_142 (q := 145) rfl ?_
    refine ca_aload_n hC 1 dX10_tryBy_145 rfl rfl (q := 146) rfl ?_
    refine cg_X10_107 hC  dX10_tryBy_146 (q := 149) rfl ?_
    refine ca_aload_n hC 1 dX10_tryBy_149 rfl rfl (q := 150) rfl ?_
    refine cg_X10_28 hC  dX10_tryBy_150 (q := 153) rfl ?_
    refine ca_iload_n hC 2 dX10_tryBy_153 rfl rfl (q := 154) rfl ?_
    refine ca_iconst hC (v := 2) dX10_tryBy_154 rfl (q := 155) rfl ?_
    refine ca_idiv hC dX10_tryBy_155 (q := 156) rfl (fun h31 => ?_)
    refine ca_ildQ hC (n := 16) (ca_m21 (k := 14) (by decide)) rfl rfl rfl dX10_tryBy_156 (q := 157) rfl (fun h32 => ?_)
    refine ca_istQ hC (n := 400) (ca_m21 (k := 25) (by decide)) rfl rfl rfl dX10_tryBy_157 (q := 158) rfl (fun h33 => ?_)
    refine ca_let (fun σ34 _ => ?_)
    refine ca_aload_n hC 1 dX10_tryBy_158 rfl rfl (q := 159) rfl ?_
    refine ca_dup hC dX10_tryBy_159 rfl (q := 160) rfl ?_
    refine cg_X10_107 hC  dX10_tryBy_160 (q := 163) rfl ?_
    refine ca_iconst hC (v := 1) dX10_tryBy_163 rfl (q := 164) rfl ?_
    refine ca_iadd hC dX10_tryBy_164 (q := 165) rfl ?_
    refine cp_X10_107 hC  dX10_tryBy_165 (q := 168) rfl ?_
    refine ca_let (fun σ35 _ => ?_)
    exact ca_vret hC dX10_tryBy_168
set_option maxRecDepth 100000 in
set_option maxHeartbeats 4000000 in
theorem ct_X10_tryBy {κ : ca_K} (hC : ca_C κ ca_cM cX10_tryBy 3 RX10 none 0 0) (σ : ca_S) (x1 : Int32) : ca_T κ (ca_Zv κ) σ 0 [(0, .ref (ca_a κ (20, 0, 0))), (1, .int x1)] [] (cf_X10_tryBy σ x1) := by
  unfold cf_X10_tryBy
  refine ca_aload_n hC 0 dX10_tryBy_0 rfl rfl (q := 1) rfl ?_
  refine cg_X10_19 hC  dX10_tryBy_1 (q := 4) rfl ?_
  refine ca_iload_n hC 1 dX10_tryBy_4 rfl rfl (q := 5) rfl ?_
  refine ca_ildQ hC (n := 32) (ca_m21 (k := 5) (by decide)) rfl rfl rfl dX10_tryBy_5 (q := 6) rfl (fun h1 => ?_)
  refine ca_iconst hC (v := 5) dX10_tryBy_6 rfl (q := 7) rfl ?_
  refine ca_icmp_ne hC dX10_tryBy_7 (t := 11) (q := 10) rfl rfl (fun h2 => ?_) (fun h3 => ?_)
  · refine ca_aload_n hC 0 dX10_tryBy_11 rfl rfl (q := 12) rfl ?_
    refine cg_X10_19 hC  dX10_tryBy_12 (q := 15) rfl ?_
    refine ca_iload_n hC 1 dX10_tryBy_15 rfl rfl (q := 16) rfl ?_
    refine ca_dup2 hC dX10_tryBy_16 rfl rfl (q := 17) rfl ?_
    refine ca_ildQ hC (n := 32) (ca_m21 (k := 5) (by decide)) rfl rfl rfl dX10_tryBy_17 (q := 18) rfl (fun h4 => ?_)
    refine ca_iconst hC (v := 1) dX10_tryBy_18 rfl (q := 19) rfl ?_
    refine ca_iadd hC dX10_tryBy_19 (q := 20) rfl ?_
    refine ca_istQ hC (n := 32) (ca_m21 (k := 5) (by decide)) rfl rfl rfl dX10_tryBy_20 (q := 21) rfl (fun h5 => ?_)
    refine ca_let (fun σ6 _ => ?_)
    refine ca_aload_n hC 0 dX10_tryBy_21 rfl rfl (q := 22) rfl ?_
    refine ca_dup hC dX10_tryBy_22 rfl (q := 23) rfl ?_
    refine cg_X10_113 hC  dX10_tryBy_23 (q := 26) rfl ?_
    refine ca_iconst hC (v := 1) dX10_tryBy_26 rfl (q := 27) rfl ?_
    refine ca_iadd hC dX10_tryBy_27 (q := 28) rfl ?_
    refine cp_X10_113 hC  dX10_tryBy_28 (q := 31) rfl ?_
    refine ca_let (fun σ7 _ => ?_)
    refine ca_aload_n hC 0 dX10_tryBy_31 rfl rfl (q := 32) rfl ?_
    refine cg_X10_7 hC  dX10_tryBy_32 (q := 35) rfl ?_
    refine ca_iload_n hC 1 dX10_tryBy_35 rfl rfl (q := 36) rfl ?_
    refine ca_ildQ hC (n := 32) (ca_m21 (k := 2) (by decide)) rfl rfl rfl dX10_tryBy_36 (q := 37) rfl (fun h8 => ?_)
    refine ca_aload_n hC 0 dX10_tryBy_37 rfl rfl (q := 38) rfl ?_
    refine cg_X10_16 hC  dX10_tryBy_38 (q := 41) rfl ?_
    refine ca_iload_n hC 1 dX10_tryBy_41 rfl rfl (q := 42) rfl ?_
    refine ca_ildQ hC (n := 32) (ca_m21 (k := 4) (by decide)) rfl rfl rfl dX10_tryBy_42 (q := 43) rfl (fun h9 => ?_)
    refine ca_ishr hC dX10_tryBy_43 (q := 44) rfl ?_
    refine ca_iconst hC (v := 1) dX10_tryBy_44 rfl (q := 45) rfl ?_
    refine ca_iand hC dX10_tryBy_45 (q := 46) rfl ?_
    refine ca_iconst hC (v := 1) dX10_tryBy_46 rfl (q := 47) rfl ?_
    refine ca_icmp_ne hC dX10_tryBy_47 (t := 54) (q := 50) rfl rfl (fun h10 => ?_) (fun h11 => ?_)
    · refine ca_iconst hC (v := 0) dX10_tryBy_54 rfl (q := 55) rfl ?_
      exact ca_pick [0, 1] rfl (ct_X10_tryBy_55 hC σ7 x1 0)
    · refine ca_iconst hC (v := 1) dX10_tryBy_50 rfl (q := 51) rfl ?_
      refine ca_goto hC dX10_tryBy_51 (q := 55) rfl ?_
      exact ca_pick [0, 1] rfl (ct_X10_tryBy_55 hC σ7 x1 1)
  · exact ca_vret hC dX10_tryBy_10
theorem cm_X10_tryBy (Γ : ca_G) (l : Launch) (σ : ca_S) (x1 : Int32) : ca_Mv Γ ca_cM l yX10_tryBy cX10_tryBy 3 none 0 0 [.ref (Γ.2.1 (20, 0, 0)), .int x1] σ (cf_X10_tryBy σ x1) :=
  ca_met (by decide) (Nat.le_of_ble_eq_true rfl) rfl (fun κ h1 h2 hC => by
    subst h1
    have h := ct_X10_tryBy hC σ x1
    unfold ca_Zv at h
    rw [h2] at h
    exact h)
-- X10_comes
set_option maxRecDepth 100000 in
set_option maxHeartbeats 4000000 in
theorem ct_X10_comes_111 {κ : ca_K} (hC : ca_C κ ca_cM cX10_comes 4 RX10 none 0 0) (σ : ca_S) (x2 : Int32) (x3 : Int32) : ca_T κ (ca_Zv κ) σ 111 [(0, .ref (ca_a κ (20, 0, 0))), (2, .int x2), (3, .int x3)] [] (cj_X10_comes_111 σ x2 x3) := by
  unfold cj_X10_comes_111
  refine ca_iload_n hC 2 dX10_comes_111 rfl rfl (q := 112) rfl ?_
  refine ca_aload_n hC 0 dX10_comes_112 rfl rfl (q := 113) rfl ?_
  refine cg_X10_22 hC  dX10_comes_113 (q := 116) rfl ?_
  refine ca_iload_n hC 1 dX10_comes_116 rfl rfl (q := 117) rfl ?_
  refine ca_iconst hC (v := 2) dX10_comes_117 rfl (q := 118) rfl ?_
  refine ca_idiv hC dX10_comes_118 (q := 119) rfl (fun h20 => ?_)
  refine ca_ildQ hC (n := 16) (ca_m21 (k := 12) (by decide)) rfl rfl rfl dX10_comes_119 (q := 120) rfl (fun h21 => ?_)
  refine ca_icmp_ne hC dX10_comes_120 (t := 132) (q := 123) rfl rfl (fun h22 => ?_) (fun h23 => ?_)
  · exact ca_vret hC dX10_comes_132
  · refine ca_aload_n hC 0 dX10_comes_123 rfl rfl (q := 124) rfl ?_
    refine cg_X10_31 hC  dX10_comes_124 (q := 127) rfl ?_
    refine ca_iload_n hC 1 dX10_comes_127 rfl rfl (q := 128) rfl ?_
    refine ca_iconst hC (v := 2) dX10_comes_128 rfl (q := 129) rfl ?_
    refine ca_idiv hC dX10_comes_129 (q := 130) rfl (fun h24 => ?_)
    refine ca_iconst hC (v := 1) dX10_comes_130 rfl (q := 131) rfl ?_
    refine ca_zstQ hC (n := 16) (ca_m21 (k := 15) (by decide)) rfl rfl rfl rfl dX10_comes_131 (q := 132) rfl (fun h25 => ?_)
    refine ca_let (fun σ26 _ => ?_)
    exact ca_vret hC dX10_comes_132
set_option maxRecDepth 100000 in
set_option maxHeartbeats 4000000 in
theorem ct_X10_comes_39 {κ : ca_K} (hC : ca_C κ ca_cM cX10_comes 4 RX10 none 0 0) (σ : ca_S) (x1 : Int32) (x2 : Int32) (x3 : Int32) (xs0 : Int32) (xs1 : Int32) : ca_T κ (ca_Zv κ) σ 39 [(0, .ref (ca_a κ (20, 0, 0))), (1, .int x1), (2, .int x2), (3, .int x3)] [.int xs0, .int xs1, .ref (ca_a κ (21, 19, 0))] (cj_X10_comes_39 σ x1 x2 x3 xs0 xs1) := by
  unfold cj_X10_comes_39
  refine ca_istQ hC (n := 32) (ca_m21 (k := 19) (by decide)) rfl rfl rfl dX10_comes_39 (q := 40) rfl (fun h9 => ?_)
  refine ca_let (fun σ10 _ => ?_)
  refine ca_aload_n hC 0 dX10_comes_40 rfl rfl (q := 41) rfl ?_
  refine cg_X10_59 hC  dX10_comes_41 (q := 44) rfl ?_
  refine ca_iload_n hC 1 dX10_comes_44 rfl rfl (q := 45) rfl ?_
  refine ca_ildQ hC (n := 400) (ca_m21 (k := 25) (by decide)) rfl rfl rfl dX10_comes_45 (q := 46) rfl (fun h11 => ?_)
  refine ca_aload_n hC 0 dX10_comes_46 rfl rfl (q := 47) rfl ?_
  refine cg_X10_104 hC  dX10_comes_47 (q := 50) rfl ?_
  refine ca_icmp_ge hC dX10_comes_50 (t := 85) (q := 53) rfl rfl (fun h12 => ?_) (fun h13 => ?_)
  · refine ca_aload_n hC 0 dX10_comes_85 rfl rfl (q := 86) rfl ?_
    refine cg_X10_41 hC  dX10_comes_86 (q := 89) rfl ?_
    refine ca_iload_n hC 2 dX10_comes_89 rfl rfl (q := 90) rfl ?_
    refine ca_iload_n hC 3 dX10_comes_90 rfl rfl (q := 91) rfl ?_
    refine ca_aload_n hC 0 dX10_comes_91 rfl rfl (q := 92) rfl ?_
    refine cg_X10_41 hC  dX10_comes_92 (q := 95) rfl ?_
    refine ca_iload_n hC 2 dX10_comes_95 rfl rfl (q := 96) rfl ?_
    refine ca_ildQ hC (n := 32) (ca_m21 (k := 18) (by decide)) rfl rfl rfl dX10_comes_96 (q := 97) rfl (fun h14 => ?_)
    refine ca_icmp_le hC dX10_comes_97 (t := 104) (q := 100) rfl rfl (fun h15 => ?_) (fun h16 => ?_)
    · refine ca_aload_n hC 0 dX10_comes_104 rfl rfl (q := 105) rfl ?_
      refine cg_X10_41 hC  dX10_comes_105 (q := 108) rfl ?_
      refine ca_iload_n hC 2 dX10_comes_108 rfl rfl (q := 109) rfl ?_
      refine ca_ildQ hC (n := 32) (ca_m21 (k := 18) (by decide)) rfl rfl rfl dX10_comes_109 (q := 110) rfl (fun h17 => ?_)
      refine ca_istQ hC (n := 32) (ca_m21 (k := 18) (by decide)) rfl rfl rfl dX10_comes_110 (q := 111) rfl (fun h18 => ?_)
      refine ca_let (fun σ19 _ => ?_)
      exact ca_pick [0, 2, 3] rfl (ct_X10_comes_111 hC σ19 x2 x3)
    · refine ca_iload_n hC 3 dX10_comes_100 rfl rfl (q := 101) rfl ?_
      refine ca_goto hC dX10_comes_101 (q := 110) rfl ?_
      refine ca_istQ hC (n := 32) (ca_m21 (k := 18) (by decide)) rfl rfl rfl dX10_comes_110 (q := 111) rfl (fun h27 => ?_)
      refine ca_let (fun σ28 _ => ?_)
      exact ca_pick [0, 2, 3] rfl (ct_X10_comes_111 hC σ28 x2 x3)
  · refine ca_iload_n hC 3 dX10_comes_53 rfl rfl (q := 54) rfl ?_
    refine ca_aload_n hC 0 dX10_comes_54 rfl rfl (q := 55) rfl ?_
    refine cg_X10_38 hC  dX10_comes_55 (q := 58) rfl ?_
    refine ca_iload_n hC 2 dX10_comes_58 rfl rfl (q := 59) rfl ?_
    refine ca_ildQ hC (n := 32) (ca_m21 (k := 17) (by decide)) rfl rfl rfl dX10_comes_59 (q := 60) rfl (fun h29 => ?_)
    refine ca_icmp_le hC dX10_comes_60 (t := 111) (q := 63) rfl rfl (fun h30 => ?_) (fun h31 => ?_)
    · exact ca_pick [0, 2, 3] rfl (ct_X10_comes_111 hC σ10 x2 x3)
    · refine ca_aload_n hC 0 dX10_comes_63 rfl rfl (q := 64) rfl ?_
      refine cg_X10_38 hC  dX10_comes_64 (q := 67) rfl ?_
      refine ca_iload_n hC 2 dX10_comes_67 rfl rfl (q := 68) rfl ?_
      refine ca_iload_n hC 3 dX10_comes_68 rfl rfl (q := 69) rfl ?_
      refine ca_istQ hC (n := 32) (ca_m21 (k := 17) (by decide)) rfl rfl rfl dX10_comes_69 (q := 70) rfl (fun h32 => ?_)
      refine ca_let (fun σ33 _ => ?_)
      refine ca_aload_n hC 0 dX10_comes_70 rfl rfl (q := 71) rfl ?_
      refine cg_X10_35 hC  dX10_comes_71 (q := 74) rfl ?_
      refine ca_iload_n hC 2 dX10_comes_74 rfl rfl (q := 75) rfl ?_
      refine ca_aload_n hC 0 dX10_comes_75 rfl rfl (q := 76) rfl ?_
      refine cg_X10_56 hC  dX10_comes_76 (q := 79) rfl ?_
      refine ca_iload_n hC 1 dX10_comes_79 rfl rfl (q := 80) rfl ?_
      refine ca_ildQ hC (n := 400) (ca_m21 (k := 24) (by decide)) rfl rfl rfl dX10_comes_80 (q := 81) rfl (fun h34 => ?_)
      refine ca_istQ hC (n := 32) (ca_m21 (k := 16) (by decide)) rfl rfl rfl dX10_comes_81 (q := 82) rfl (fun h35 => ?_)
      refine ca_let (fun σ36 _ => ?_)
      refine ca_goto hC dX10_comes_82 (q := 111) rfl ?_
      exact ca_pick [0, 2, 3] rfl (ct_X10_comes_111 hC σ36 x2 x3)
set_option maxRecDepth 100000 in
set_option maxHeartbeats 4000000 in
theorem ct_X10_comes {κ : ca_K} (hC : ca_C κ ca_cM cX10_comes 4 RX10 none 0 0) (σ : ca_S) (x1 : Int32) : ca_T κ (ca_Zv κ) σ 0 [(0, .ref (ca_a κ (20, 0, 0))), (1, .int x1)] [] (cf_X10_comes σ x1) := by
  unfold cf_X10_comes
  refine ca_aload_n hC 0 dX10_comes_0 rfl rfl (q := 1) rfl ?_
  refine cg_X10_50 hC  dX10_comes_1 (q := 4) rfl ?_
  refine ca_iload_n hC 1 dX10_comes_4 rfl rfl (q := 5) rfl ?_
  refine ca_ildQ hC (n := 400) (ca_m21 (k := 22) (by decide)) rfl rfl rfl dX10_comes_5 (q := 6) rfl (fun h1 => ?_)
  refine ca_istore_n hC (lv' := [(2, .int (σ.1 (21, 22, 0) (Int32.toNatClampNeg x1))), (0, .ref (ca_a κ (20, 0, 0))), (1, .int x1)]) dX10_comes_6 rfl (by decide) rfl (q := 7) rfl ?_
  refine ca_letv (P := fun v2 X => ca_T κ (ca_Zv κ) σ 7 [(2, .int v2), (0, .ref (ca_a κ (20, 0, 0))), (1, .int x1)] [] X) (σ.1 (21, 22, 0) (Int32.toNatClampNeg x1)) (fun v2 _ => ?_)
  refine ca_aload_n hC 1 dX10_comes_7 rfl rfl (q := 8) rfl ?_
  refine cg_X10_53 hC  dX10_comes_8 (q := 11) rfl ?_
  refine ca_iload_n hC 2 dX10_comes_11 rfl rfl (q := 12) rfl ?_
  refine ca_ildQ hC (n := 400) (ca_m21 (k := 23) (by decide)) rfl rfl rfl dX10_comes_12 (q := 13) rfl (fun h3 => ?_)
  refine ca_istore_n hC (lv' := [(3, .int (σ.1 (21, 23, 0) (Int32.toNatClampNeg x1))), (2, .int v2), (0, .ref (ca_a κ (20, 0, 0))), (1, .int x1)]) dX10_comes_13 rfl (by decide) rfl (q := 14) rfl ?_
  refine ca_letv (P := fun v4 X => ca_T κ (ca_Zv κ) σ 14 [(3, .int v4), (2, .int v2), (0, .ref (ca_a κ (20, 0, 0))), (1, .int x1)] [] X) (σ.1 (21, 23, 0) (Int32.toNatClampNeg x1)) (fun v4 _ => ?_)
  refine ca_aload_n hC 2 dX10_comes_14 rfl rfl (q := 15) rfl ?_
  refine cg_X10_44 hC  dX10_comes_15 (q := 18) rfl ?_
  refine ca_iload_n hC 1 dX10_comes_18 rfl rfl (q := 19) rfl ?_
  refine ca_iload_n hC 0 dX10_comes_19 rfl rfl (q := 20) rfl ?_
  refine ca_aload_n hC 2 dX10_comes_20 rfl rfl (q := 21) rfl ?_
  refine cg_X10_44 hC  dX10_comes_21 (q := 24) rfl ?_
  refine ca_iload_n hC 1 dX10_comes_24 rfl rfl (q := 25) rfl ?_
  refine ca_ildQ hC (n := 32) (ca_m21 (k := 19) (by decide)) rfl rfl rfl dX10_comes_25 (q := 26) rfl (fun h5 => ?_)
  refine ca_icmp_le hC dX10_comes_26 (t := 33) (q := 29) rfl rfl (fun h6 => ?_) (fun h7 => ?_)
  · refine ca_aload_n hC 2 dX10_comes_33 rfl rfl (q := 34) rfl ?_
    refine cg_X10_44 hC  dX10_comes_34 (q := 37) rfl ?_
    refine ca_iload_n hC 1 dX10_comes_37 rfl rfl (q := 38) rfl ?_
    refine ca_ildQ hC (n := 32) (ca_m21 (k := 19) (by decide)) rfl rfl rfl dX10_comes_38 (q := 39) rfl (fun h8 => ?_)
    exact ca_pick [2, 3, 1, 0] rfl (ct_X10_comes_39 hC σ x1 v2 v4 (σ.1 (21, 19, 0) (Int32.toNatClampNeg v2)) v2)
  · refine ca_iload_n hC 0 dX10_comes_29 rfl rfl (q := 30) rfl ?_
    refine ca_goto hC dX10_comes_30 (q := 39) rfl ?_
    exact ca_pick [2, 3, 1, 0] rfl (ct_X10_comes_39 hC σ x1 v2 v4 v4 v2)
theorem cm_X10_comes (Γ : ca_G) (l : Launch) (σ : ca_S) (x1 : Int32) : ca_Mv Γ ca_cM l yX10_comes cX10_comes 4 none 0 0 [.ref (Γ.2.1 (20, 0, 0)), .int x1] σ (cf_X10_comes σ x1) :=
  ca_met (by decide) (Nat.le_of_ble_eq_true rfl) rfl (fun κ h1 h2 hC => by
    subst h1
    have h := ct_X10_comes hC σ x1
    unfold ca_Zv at h
    rw [h2] at h
    exact h)
-- X10_passes
set_option maxRecDepth 100000 in
set_option maxHeartbeats 4000000 in
theorem ct_X10_passes_2 {κ : ca_K} (hC : ca_C κ ca_cM cX10_passes 3 RX10 none 1 23) {K : ca_S → Option (ca_S)} (hK : ∀ (σ : ca_S), ca_T κ (ca_Zv κ) σ 48 [(0, .ref (ca_a κ (20, 0, 0)))] [] (K σ)) : ∀ (n : Nat) (σ : ca_S) (x1 : Int32), ca_T κ (ca_Zv κ) σ 2 [(0, .ref (ca_a κ (20, 0, 0))), (1, .int x1)] [] (cl_X10_passes_2 K n σ x1) := by
  intro n
  induction n with
  | zero => intro σ x1; exact ca_no
  | succ n ih =>
    intro σ x1
    rw [cl_X10_passes_2]
    refine ca_iload_n hC 1 dX10_passes_2 rfl rfl (q := 3) rfl ?_
    refine ca_aload_n hC 0 dX10_passes_3 rfl rfl (q := 4) rfl ?_
    refine cg_X10_68 hC  dX10_passes_4 (q := 7) rfl ?_
    refine ca_icmp_ge hC dX10_passes_7 (t := 48) (q := 10) rfl rfl (fun h1 => ?_) (fun h2 => ?_)
    · exact ca_pick [0] rfl (hK σ)
    · refine ca_aload_n hC 0 dX10_passes_10 rfl rfl (q := 11) rfl ?_
      refine cg_X10_76 hC  dX10_passes_11 (q := 14) rfl ?_
      refine ca_if_eq hC dX10_passes_14 (t := 48) (q := 17) rfl rfl (fun h3 => ?_) (fun h4 => ?_)
      · exact ca_pick [0] rfl (hK σ)
      · refine ca_aload_n hC 0 dX10_passes_17 rfl rfl (q := 18) rfl ?_
        refine cg_X10_31 hC  dX10_passes_18 (q := 21) rfl ?_
        refine ca_iload_n hC 1 dX10_passes_21 rfl rfl (q := 22) rfl ?_
        refine ca_zldQ hC (n := 16) (ca_m21 (k := 15) (by decide)) rfl rfl rfl dX10_passes_22 (q := 23) rfl (fun h5 => ?_)
        refine ca_if_ne hC dX10_passes_23 (t := 42) (q := 26) rfl rfl (fun h6 => ?_) (fun h7 => ?_)
        · refine ca_iinc hC 1 (v := (x1 + 1)) (lv' := [(1, .int (x1 + 1)), (0, .ref (ca_a κ (20, 0, 0)))]) dX10_passes_42 rfl rfl (by decide) rfl (q := 45) rfl ?_
          refine ca_goto hC dX10_passes_45 (q := 2) rfl ?_
          exact ca_pick [1, 0] rfl (ih σ (x1 + 1))
        · refine ca_aload_n hC 0 dX10_passes_26 rfl rfl (q := 27) rfl ?_
          refine ca_iconst hC (v := 2) dX10_passes_27 rfl (q := 28) rfl ?_
          refine ca_iload_n hC 1 dX10_passes_28 rfl rfl (q := 29) rfl ?_
          refine ca_imul hC dX10_passes_29 (q := 30) rfl ?_
          refine ca_callVv hC (rest := []) (cm_X10_tryBy κ.1 κ.2.2.2.1 σ (2 * x1)) ca_Y_X10_tryBy ca_L_X10_116 ca_m20 rfl rfl rfl rfl (Nat.le_of_ble_eq_true rfl) ⟨Nat.le_of_ble_eq_true rfl, Nat.le_of_ble_eq_true rfl⟩ dX10_passes_30 (q := 33) rfl (fun σ9 h10 => ?_)
          refine ca_aload_n hC 0 dX10_passes_33 rfl rfl (q := 34) rfl ?_
          refine ca_iconst hC (v := 2) dX10_passes_34 rfl (q := 35) rfl ?_
          refine ca_iload_n hC 1 dX10_passes_35 rfl rfl (q := 36) rfl ?_
          refine ca_imul hC dX10_passes_36 (q := 37) rfl ?_
          refine ca_iconst hC (v := 1) dX10_passes_37 rfl (q := 38) rfl ?_
          refine ca_iadd hC dX10_passes_38 (q := 39) rfl ?_
          refine ca_callVv hC (rest := []) (cm_X10_tryBy κ.1 κ.2.2.2.1 σ9 ((2 * x1) + 1)) ca_Y_X10_tryBy ca_L_X10_116 ca_m20 rfl rfl rfl rfl (Nat.le_of_ble_eq_true rfl) ⟨Nat.le_of_ble_eq_true rfl, Nat.le_of_ble_eq_true rfl⟩ dX10_passes_39 (q := 42) rfl (fun σ12 h13 => ?_)
          refine ca_iinc hC 1 (v := (x1 + 1)) (lv' := [(1, .int (x1 + 1)), (0, .ref (ca_a κ (20, 0, 0)))]) dX10_passes_42 rfl rfl (by decide) rfl (q := 45) rfl ?_
          refine ca_goto hC dX10_passes_45 (q := 2) rfl ?_
          exact ca_pick [1, 0] rfl (ih σ12 (x1 + 1))
set_option maxRecDepth 100000 in
set_option maxHeartbeats 4000000 in
theorem ct_X10_passes_52 {κ : ca_K} (hC : ca_C κ ca_cM cX10_passes 3 RX10 none 1 23) {K : ca_S → Int32 → Option (ca_S)} (hK : ∀ (σ : ca_S) (x1 : Int32), ca_T κ (ca_Zv κ) σ 150 [(0, .ref (ca_a κ (20, 0, 0))), (1, .int x1)] [] (K σ x1)) : ∀ (n : Nat) (σ : ca_S) (x1 : Int32) (x2 : Int32), ca_T κ (ca_Zv κ) σ 52 [(0, .ref (ca_a κ (20, 0, 0))), (1, .int x1), (2, .int x2)] [] (cl_X10_passes_52 K n σ x1 x2) := by
  intro n
  induction n with
  | zero => intro σ x1 x2; exact ca_no
  | succ n ih =>
    intro σ x1 x2
    rw [cl_X10_passes_52]
    refine ca_iload_n hC 2 dX10_passes_52 rfl rfl (q := 53) rfl ?_
    refine ca_aload_n hC 0 dX10_passes_53 rfl rfl (q := 54) rfl ?_
    refine cg_X10_107 hC  dX10_passes_54 (q := 57) rfl ?_
    refine ca_icmp_ge hC dX10_passes_57 (t := 150) (q := 60) rfl rfl (fun h15 => ?_) (fun h16 => ?_)
    · exact ca_pick [0, 1] rfl (hK σ x1)
    · refine ca_aload_n hC 0 dX10_passes_60 rfl rfl (q := 61) rfl ?_
      refine cg_X10_47 hC  dX10_passes_61 (q := 64) rfl ?_
      refine ca_iload_n hC 2 dX10_passes_64 rfl rfl (q := 65) rfl ?_
      refine ca_ildQ hC (n := 400) (ca_m21 (k := 21) (by decide)) rfl rfl rfl dX10_passes_65 (q := 66) rfl (fun h17 => ?_)
      refine ca_aload_n hC 0 dX10_passes_66 rfl rfl (q := 67) rfl ?_
      refine cg_X10_94 hC  dX10_passes_67 (q := 70) rfl ?_
      refine ca_icmp_ne hC dX10_passes_70 (t := 81) (q := 73) rfl rfl (fun h18 => ?_) (fun h19 => ?_)
      · refine ca_aload_n hC 0 dX10_passes_81 rfl rfl (q := 82) rfl ?_
        refine cg_X10_47 hC  dX10_passes_82 (q := 85) rfl ?_
        refine ca_iload_n hC 1 dX10_passes_85 rfl rfl (q := 86) rfl ?_
        refine ca_aload_n hC 0 dX10_passes_86 rfl rfl (q := 87) rfl ?_
        refine cg_X10_47 hC  dX10_passes_87 (q := 90) rfl ?_
        refine ca_iload_n hC 2 dX10_passes_90 rfl rfl (q := 91) rfl ?_
        refine ca_ildQ hC (n := 400) (ca_m21 (k := 21) (by decide)) rfl rfl rfl dX10_passes_91 (q := 92) rfl (fun h20 => ?_)
        refine ca_istQ hC (n := 400) (ca_m21 (k := 21) (by decide)) rfl rfl rfl dX10_passes_92 (q := 93) rfl (fun h21 => ?_)
        refine ca_let (fun σ22 _ => ?_)
        refine ca_aload_n hC 0 dX10_passes_93 rfl rfl (q := 94) rfl ?_
        refine cg_X10_50 hC  dX10_passes_94 (q := 97) rfl ?_
        refine ca_iload_n hC 1 dX10_passes_97 rfl rfl (q := 98) rfl ?_
        refine ca_aload_n hC 0 dX10_passes_98 rfl rfl (q := 99) rfl ?_
        refine cg_X10_50 hC  dX10_passes_99 (q := 102) rfl ?_
        refine ca_iload_n hC 2 dX10_passes_102 rfl rfl (q := 103) rfl ?_
        refine ca_ildQ hC (n := 400) (ca_m21 (k := 22) (by decide)) rfl rfl rfl dX10_passes_103 (q := 104) rfl (fun h23 => ?_)
        refine ca_istQ hC (n := 400) (ca_m21 (k := 22) (by decide)) rfl rfl rfl dX10_passes_104 (q := 105) rfl (fun h24 => ?_)
        refine ca_let (fun σ25 _ => ?_)
        refine ca_aload_n hC 0 dX10_passes_105 rfl rfl (q := 106) rfl ?_
        refine cg_X10_53 hC  dX10_passes_106 (q := 109) rfl ?_
        refine ca_iload_n hC 1 dX10_passes_109 rfl rfl (q := 110) rfl ?_
        refine ca_aload_n hC 0 dX10_passes_110 rfl rfl (q := 111) rfl ?_
        refine cg_X10_53 hC  dX10_passes_111 (q := 114) rfl ?_
        refine ca_iload_n hC 2 dX10_passes_114 rfl rfl (q := 115) rfl ?_
        refine ca_ildQ hC (n := 400) (ca_m21 (k := 23) (by decide)) rfl rfl rfl dX10_passes_115 (q := 116) rfl (fun h26 => ?_)
        refine ca_istQ hC (n := 400) (ca_m21 (k := 23) (by decide)) rfl rfl rfl dX10_passes_116 (q := 117) rfl (fun h27 => ?_)
        refine ca_let (fun σ28 _ => ?_)
        refine ca_aload_n hC 0 dX10_passes_117 rfl rfl (q := 118) rfl ?_
        refine cg_X10_56 hC  dX10_passes_118 (q := 121) rfl ?_
        refine ca_iload_n hC 1 dX10_passes_121 rfl rfl (q := 122) rfl ?_
        refine ca_aload_n hC 0 dX10_passes_122 rfl rfl (q := 123) rfl ?_
        refine cg_X10_56 hC  dX10_passes_123 (q := 126) rfl ?_
        refine ca_iload_n hC 2 dX10_passes_126 rfl rfl (q := 127) rfl ?_
        refine ca_ildQ hC (n := 400) (ca_m21 (k := 24) (by decide)) rfl rfl rfl dX10_passes_127 (q := 128) rfl (fun h29 => ?_)
        refine ca_istQ hC (n := 400) (ca_m21 (k := 24) (by decide)) rfl rfl rfl dX10_passes_128 (q := 129) rfl (fun h30 => ?_)
        refine ca_let (fun σ31 _ => ?_)
        refine ca_aload_n hC 0 dX10_passes_129 rfl rfl (q := 130) rfl ?_
        refine cg_X10_59 hC  dX10_passes_130 (q := 133) rfl ?_
        refine ca_iload_n hC 1 dX10_passes_133 rfl rfl (q := 134) rfl ?_
        refine ca_aload_n hC 0 dX10_passes_134 rfl rfl (q := 135) rfl ?_
        refine cg_X10_59 hC  dX10_passes_135 (q := 138) rfl ?_
        refine ca_iload_n hC 2 dX10_passes_138 rfl rfl (q := 139) rfl ?_
        refine ca_ildQ hC (n := 400) (ca_m21 (k := 25) (by decide)) rfl rfl rfl dX10_passes_139 (q := 140) rfl (fun h32 => ?_)
        refine ca_istQ hC (n := 400) (ca_m21 (k := 25) (by decide)) rfl rfl rfl dX10_passes_140 (q := 141) rfl (fun h33 => ?_)
        refine ca_let (fun σ34 _ => ?_)
        refine ca_iinc hC 1 (v := (x1 + 1)) (lv' := [(1, .int (x1 + 1)), (0, .ref (ca_a κ (20, 0, 0))), (2, .int x2)]) dX10_passes_141 rfl rfl (by decide) rfl (q := 144) rfl ?_
        refine ca_iinc hC 2 (v := (x2 + 1)) (lv' := [(2, .int (x2 + 1)), (1, .int (x1 + 1)), (0, .ref (ca_a κ (20, 0, 0)))]) dX10_passes_144 rfl rfl (by decide) rfl (q := 147) rfl ?_
        refine ca_goto hC dX10_passes_147 (q := 52) rfl ?_
        exact ca_pick [2, 1, 0] rfl (ih σ34 (x1 + 1) (x2 + 1))
      · refine ca_aload_n hC 0 dX10_passes_73 rfl rfl (q := 74) rfl ?_
        refine ca_iload_n hC 2 dX10_passes_74 rfl rfl (q := 75) rfl ?_
        refine ca_callVv hC (rest := []) (cm_X10_comes κ.1 κ.2.2.2.1 σ x2) ca_Y_X10_comes ca_L_X10_120 ca_m20 rfl rfl rfl rfl (Nat.le_of_ble_eq_true rfl) ⟨Nat.le_of_ble_eq_true rfl, Nat.le_of_ble_eq_true rfl⟩ dX10_passes_75 (q := 78) rfl (fun σ36 h37 => ?_)
        refine ca_goto hC dX10_passes_78 (q := 144) rfl ?_
        refine ca_iinc hC 2 (v := (x2 + 1)) (lv' := [(2, .int (x2 + 1)), (0, .ref (ca_a κ (20, 0, 0))), (1, .int x1)]) dX10_passes_144 rfl rfl (by decide) rfl (q := 147) rfl ?_
        refine ca_goto hC dX10_passes_147 (q := 52) rfl ?_
        exact ca_pick [1, 2, 0] rfl (ih σ36 x1 (x2 + 1))
set_option maxRecDepth 100000 in
set_option maxHeartbeats 4000000 in
theorem ct_X10_passes {κ : ca_K} (hC : ca_C κ ca_cM cX10_passes 3 RX10 none 1 23) (σ : ca_S) : ca_T κ (ca_Zv κ) σ 0 [(0, .ref (ca_a κ (20, 0, 0)))] [] (cf_X10_passes σ) := by
  unfold cf_X10_passes
  refine ca_iconst hC (v := 0) dX10_passes_0 rfl (q := 1) rfl ?_
  refine ca_istore_n hC (lv' := [(1, .int 0), (0, .ref (ca_a κ (20, 0, 0)))]) dX10_passes_1 rfl (by decide) rfl (q := 2) rfl ?_
  refine ca_pick [1, 0] rfl (ct_X10_passes_2 hC  ?_ ca_FU σ 0)
  intro σ14
  refine ca_iconst hC (v := 0) dX10_passes_48 rfl (q := 49) rfl ?_
  refine ca_istore_n hC (lv' := [(1, .int 0), (0, .ref (ca_a κ (20, 0, 0)))]) dX10_passes_49 rfl (by decide) rfl (q := 50) rfl ?_
  refine ca_iconst hC (v := 0) dX10_passes_50 rfl (q := 51) rfl ?_
  refine ca_istore_n hC (lv' := [(2, .int 0), (1, .int 0), (0, .ref (ca_a κ (20, 0, 0)))]) dX10_passes_51 rfl (by decide) rfl (q := 52) rfl ?_
  refine ca_pick [2, 1, 0] rfl (ct_X10_passes_52 hC  ?_ ca_FU σ14 0 0)
  intro σ38 x39
  refine ca_aload_n hC 0 dX10_passes_150 rfl rfl (q := 151) rfl ?_
  refine ca_iload_n hC 1 dX10_passes_151 rfl rfl (q := 152) rfl ?_
  refine cp_X10_107 hC  dX10_passes_152 (q := 155) rfl ?_
  refine ca_let (fun σ40 _ => ?_)
  refine ca_aload_n hC 0 dX10_passes_155 rfl rfl (q := 156) rfl ?_
  refine ca_dup hC dX10_passes_156 rfl (q := 157) rfl ?_
  refine cg_X10_94 hC  dX10_passes_157 (q := 160) rfl ?_
  refine ca_iconst hC (v := 1) dX10_passes_160 rfl (q := 161) rfl ?_
  refine ca_iadd hC dX10_passes_161 (q := 162) rfl ?_
  refine cp_X10_94 hC  dX10_passes_162 (q := 165) rfl ?_
  refine ca_let (fun σ41 _ => ?_)
  exact ca_vret hC dX10_passes_165
theorem cm_X10_passes (Γ : ca_G) (l : Launch) (σ : ca_S) : ca_Mv Γ ca_cM l yX10_passes cX10_passes 3 none 1 23 [.ref (Γ.2.1 (20, 0, 0))] σ (cf_X10_passes σ) :=
  ca_met (by decide) (Nat.le_of_ble_eq_true rfl) rfl (fun κ h1 h2 hC => by
    subst h1
    have h := ct_X10_passes hC σ 
    unfold ca_Zv at h
    rw [h2] at h
    exact h)
-- X10_ticks
set_option maxRecDepth 100000 in
set_option maxHeartbeats 4000000 in
theorem ct_X10_ticks_29 {κ : ca_K} (hC : ca_C κ ca_cM cX10_ticks 3 RX10 (some .int) 2 45) (x1 : Int32) {K : ca_S → Option (Int32 × ca_S)} (hK : ∀ (σ : ca_S), ca_T κ (ca_Zi κ) σ 44 [(0, .ref (ca_a κ (20, 0, 0)))] [] (K σ)) : ∀ (n : Nat) (σ : ca_S) (x2 : Int32), ca_T κ (ca_Zi κ) σ 29 [(0, .ref (ca_a κ (20, 0, 0))), (1, .int x1), (2, .int x2)] [] (cl_X10_ticks_29 x1 K n σ x2) := by
  intro n
  induction n with
  | zero => intro σ x2; exact ca_no
  | succ n ih =>
    intro σ x2
    rw [cl_X10_ticks_29]
    refine ca_iload_n hC 2 dX10_ticks_29 rfl rfl (q := 30) rfl ?_
    refine ca_iload_n hC 1 dX10_ticks_30 rfl rfl (q := 31) rfl ?_
    refine ca_icmp_ge hC dX10_ticks_31 (t := 44) (q := 34) rfl rfl (fun h8 => ?_) (fun h9 => ?_)
    · exact ca_pick [0] rfl (hK σ)
    · refine ca_aload_n hC 0 dX10_ticks_34 rfl rfl (q := 35) rfl ?_
      refine ca_callVv hC (rest := []) (cm_X10_passes κ.1 κ.2.2.2.1 σ) ca_Y_X10_passes ca_L_X10_123 ca_m20 rfl rfl rfl rfl (Nat.le_of_ble_eq_true rfl) ⟨Nat.le_of_ble_eq_true rfl, Nat.le_of_ble_eq_true rfl⟩ dX10_ticks_35 (q := 38) rfl (fun σ11 h12 => ?_)
      refine ca_iinc hC 2 (v := (x2 + 1)) (lv' := [(2, .int (x2 + 1)), (0, .ref (ca_a κ (20, 0, 0))), (1, .int x1)]) dX10_ticks_38 rfl rfl (by decide) rfl (q := 41) rfl ?_
      refine ca_goto hC dX10_ticks_41 (q := 29) rfl ?_
      exact ca_pick [1, 2, 0] rfl (ih σ11 (x2 + 1))
set_option maxRecDepth 100000 in
set_option maxHeartbeats 4000000 in
theorem ct_X10_ticks {κ : ca_K} (hC : ca_C κ ca_cM cX10_ticks 3 RX10 (some .int) 2 45) (σ : ca_S) (x1 : Int32) : ca_T κ (ca_Zi κ) σ 0 [(0, .ref (ca_a κ (20, 0, 0))), (1, .int x1)] [] (cf_X10_ticks σ x1) := by
  unfold cf_X10_ticks
  refine ca_iload_n hC 1 dX10_ticks_0 rfl rfl (q := 1) rfl ?_
  refine ca_iconst hC (v := 1) dX10_ticks_1 rfl (q := 2) rfl ?_
  refine ca_sipush hC (v := 200) dX10_ticks_2 rfl (q := 5) rfl ?_
  refine ca_callSr hC (rest := []) (cm_X10_in κ.1 κ.2.2.2.1 σ x1 1 200) ca_Y_X10_in ca_L_X10_72  rfl rfl (Nat.le_of_ble_eq_true rfl) ⟨Nat.le_of_ble_eq_true rfl, Nat.le_of_ble_eq_true rfl⟩ dX10_ticks_5 (q := 8) rfl (fun r1 h3 => ?_)
  refine ca_if_ne hC dX10_ticks_8 (t := 13) (q := 11) rfl rfl (fun h4 => ?_) (fun h5 => ?_)
  · refine ca_aload_n hC 0 dX10_ticks_13 rfl rfl (q := 14) rfl ?_
    refine cg_X10_94 hC  dX10_ticks_14 (q := 17) rfl ?_
    refine ca_iload_n hC 1 dX10_ticks_17 rfl rfl (q := 18) rfl ?_
    refine ca_iadd hC dX10_ticks_18 (q := 19) rfl ?_
    refine ca_ldc hC (v := 100000) ca_w738 dX10_ticks_19 (q := 21) rfl ?_
    refine ca_icmp_le hC dX10_ticks_21 (t := 27) (q := 24) rfl rfl (fun h6 => ?_) (fun h7 => ?_)
    · refine ca_iconst hC (v := 0) dX10_ticks_27 rfl (q := 28) rfl ?_
      refine ca_istore_n hC (lv' := [(2, .int 0), (0, .ref (ca_a κ (20, 0, 0))), (1, .int x1)]) dX10_ticks_28 rfl (by decide) rfl (q := 29) rfl ?_
      refine ca_pick [1, 2, 0] rfl (ct_X10_ticks_29 hC x1 ?_ ca_FU σ 0)
      intro σ13
      refine ca_aload_n hC 0 dX10_ticks_44 rfl rfl (q := 45) rfl ?_
      refine cg_X10_94 hC  dX10_ticks_45 (q := 48) rfl ?_
      exact ca_ireti hC dX10_ticks_48 rfl
    · refine ca_bipush hC (v := (-3)) dX10_ticks_24 rfl (q := 26) rfl ?_
      exact ca_ireti hC dX10_ticks_26 rfl
  · refine ca_iconst hC (v := (-1)) dX10_ticks_11 rfl (q := 12) rfl ?_
    exact ca_ireti hC dX10_ticks_12 rfl
theorem cm_X10_ticks (Γ : ca_G) (l : Launch) (σ : ca_S) (x1 : Int32) : ca_Mi Γ ca_cM l yX10_ticks cX10_ticks 3 (some .int) 2 45 [.ref (Γ.2.1 (20, 0, 0)), .int x1] σ (cf_X10_ticks σ x1) :=
  ca_met (by decide) (Nat.le_of_ble_eq_true rfl) rfl (fun κ h1 h2 hC => by
    subst h1
    have h := ct_X10_ticks hC σ x1
    unfold ca_Zi at h
    rw [h2] at h
    exact h)
-- X10_base
set_option maxRecDepth 100000 in
set_option maxHeartbeats 4000000 in
theorem ct_X10_base_97 {κ : ca_K} (hC : ca_C κ ca_cM cX10_base 6 RX10 (some .int) 2 43) (σ : ca_S) (xs0 : Int32) : ca_T κ (ca_Zr κ σ) σ 97 [] [.int xs0] (cj_X10_base_97 σ xs0) := by
  unfold cj_X10_base_97
  refine ca_istore hC (lv' := [(5, .int xs0)]) dX10_base_97 (by decide) rfl (q := 99) rfl ?_
  refine ca_iload hC 0 dX10_base_99 rfl (q := 101) rfl ?_
  refine ca_if_ne hC dX10_base_101 (t := 109) (q := 104) rfl rfl (fun h21 => ?_) (fun h22 => ?_)
  · refine ca_iload hC 0 dX10_base_109 rfl (q := 111) rfl ?_
    exact ca_iretr hC dX10_base_111 rfl
  · refine ca_bipush hC (v := (-4)) dX10_base_104 rfl (q := 106) rfl ?_
    refine ca_goto hC dX10_base_106 (q := 111) rfl ?_
    exact ca_iretr hC dX10_base_111 rfl
set_option maxRecDepth 100000 in
set_option maxHeartbeats 4000000 in
theorem ct_X10_base {κ : ca_K} (hC : ca_C κ ca_cM cX10_base 6 RX10 (some .int) 2 43) (σ : ca_S) (x1 : Int32) (x2 : Int32) (x3 : Int32) : ca_T κ (ca_Zr κ σ) σ 0 [(0, .ref (ca_a κ (20, 0, 0))), (1, .int x1), (2, .int x2), (3, .int x3)] [] (cf_X10_base σ x1 x2 x3) := by
  unfold cf_X10_base
  refine ca_iload_n hC 1 dX10_base_0 rfl rfl (q := 1) rfl ?_
  refine ca_callSr hC (rest := []) (cm_X10_isBase κ.1 κ.2.2.2.1 σ x1) ca_Y_X10_isBase ca_L_X10_84  rfl rfl (Nat.le_of_ble_eq_true rfl) ⟨Nat.le_of_ble_eq_true rfl, Nat.le_of_ble_eq_true rfl⟩ dX10_base_1 (q := 4) rfl (fun r1 h3 => ?_)
  refine ca_if_eq hC dX10_base_4 (t := 24) (q := 7) rfl rfl (fun h4 => ?_) (fun h5 => ?_)
  · refine ca_iconst hC (v := (-1)) dX10_base_24 rfl (q := 25) rfl ?_
    exact ca_iretr hC dX10_base_25 rfl
  · refine ca_aload_n hC 0 dX10_base_7 rfl rfl (q := 8) rfl ?_
    refine ca_iload_n hC 2 dX10_base_8 rfl rfl (q := 9) rfl ?_
    refine ca_callVr hC (rest := []) (cm_X10_isBox κ.1 κ.2.2.2.1 σ x2) ca_Y_X10_isBox ca_L_X10_80 ca_m20 rfl rfl rfl rfl (Nat.le_of_ble_eq_true rfl) ⟨Nat.le_of_ble_eq_true rfl, Nat.le_of_ble_eq_true rfl⟩ dX10_base_9 (q := 12) rfl (fun r6 h8 => ?_)
    refine ca_if_eq hC dX10_base_12 (t := 24) (q := 15) rfl rfl (fun h9 => ?_) (fun h10 => ?_)
    · refine ca_iconst hC (v := (-1)) dX10_base_24 rfl (q := 25) rfl ?_
      exact ca_iretr hC dX10_base_25 rfl
    · refine ca_iload_n hC 3 dX10_base_15 rfl rfl (q := 16) rfl ?_
      refine ca_iconst hC (v := 0) dX10_base_16 rfl (q := 17) rfl ?_
      refine ca_iconst hC (v := 3) dX10_base_17 rfl (q := 18) rfl ?_
      refine ca_callSr hC (rest := []) (cm_X10_in κ.1 κ.2.2.2.1 σ x3 0 3) ca_Y_X10_in ca_L_X10_72  rfl rfl (Nat.le_of_ble_eq_true rfl) ⟨Nat.le_of_ble_eq_true rfl, Nat.le_of_ble_eq_true rfl⟩ dX10_base_18 (q := 21) rfl (fun r11 h13 => ?_)
      refine ca_if_ne hC dX10_base_21 (t := 26) (q := 24) rfl rfl (fun h14 => ?_) (fun h15 => ?_)
      · refine ca_iconst hC (v := 2) dX10_base_26 rfl (q := 27) rfl ?_
        refine ca_iload_n hC 2 dX10_base_27 rfl rfl (q := 28) rfl ?_
        refine ca_imul hC dX10_base_28 (q := 29) rfl ?_
        refine ca_iload_n hC 1 dX10_base_29 rfl rfl (q := 30) rfl ?_
        refine ca_iadd hC dX10_base_30 (q := 31) rfl ?_
        refine ca_istore hC (lv' := [(4, .int ((2 * x2) + x1)), (0, .ref (ca_a κ (20, 0, 0))), (1, .int x1), (2, .int x2), (3, .int x3)]) dX10_base_31 (by decide) rfl (q := 33) rfl ?_
        refine ca_pick [0, 1, 4] (lv' := [(4, .int ((2 * x2) + x1)), (0, .ref (ca_a κ (20, 0, 0))), (3, .int x3)]) rfl ?_
        refine ca_iload_n hC 2 dX10_base_33 rfl rfl (q := 34) rfl ?_
        refine ca_iconst hC (v := 2) dX10_base_34 rfl (q := 35) rfl ?_
        refine ca_icmp_ge hC dX10_base_35 (t := 75) (q := 38) rfl rfl (fun h16 => ?_) (fun h17 => ?_)
        · refine ca_iload_n hC 2 dX10_base_75 rfl rfl (q := 76) rfl ?_
          refine ca_iconst hC (v := 2) dX10_base_76 rfl (q := 77) rfl ?_
          refine ca_icmp_ne hC dX10_base_77 (t := 90) (q := 80) rfl rfl (fun h18 => ?_) (fun h19 => ?_)
          · refine ca_aload_n hC 1 dX10_base_90 rfl rfl (q := 91) rfl ?_
            refine cg_X10_44 hC  dX10_base_91 (q := 94) rfl ?_
            refine ca_iload hC 0 dX10_base_94 rfl (q := 96) rfl ?_
            refine ca_ildQ hC (n := 32) (ca_m21 (k := 19) (by decide)) rfl rfl rfl dX10_base_96 (q := 97) rfl (fun h20 => ?_)
            exact ca_pick [] rfl (ct_X10_base_97 hC σ (σ.1 (21, 19, 0) (Int32.toNatClampNeg ((2 * x2) + x1))))
          · refine ca_aload_n hC 1 dX10_base_80 rfl rfl (q := 81) rfl ?_
            refine cg_X10_41 hC  dX10_base_81 (q := 84) rfl ?_
            refine ca_iload hC 0 dX10_base_84 rfl (q := 86) rfl ?_
            refine ca_ildQ hC (n := 32) (ca_m21 (k := 18) (by decide)) rfl rfl rfl dX10_base_86 (q := 87) rfl (fun h23 => ?_)
            refine ca_goto hC dX10_base_87 (q := 97) rfl ?_
            exact ca_pick [] rfl (ct_X10_base_97 hC σ (σ.1 (21, 18, 0) (Int32.toNatClampNeg ((2 * x2) + x1))))
        · refine ca_aload_n hC 1 dX10_base_38 rfl rfl (q := 39) rfl ?_
          refine cg_X10_38 hC  dX10_base_39 (q := 42) rfl ?_
          refine ca_iload hC 0 dX10_base_42 rfl (q := 44) rfl ?_
          refine ca_ildQ hC (n := 32) (ca_m21 (k := 17) (by decide)) rfl rfl rfl dX10_base_44 (q := 45) rfl (fun h24 => ?_)
          refine ca_if_ne hC dX10_base_45 (t := 53) (q := 48) rfl rfl (fun h25 => ?_) (fun h26 => ?_)
          · refine ca_iload_n hC 2 dX10_base_53 rfl rfl (q := 54) rfl ?_
            refine ca_if_ne hC dX10_base_54 (t := 67) (q := 57) rfl rfl (fun h27 => ?_) (fun h28 => ?_)
            · refine ca_aload_n hC 1 dX10_base_67 rfl rfl (q := 68) rfl ?_
              refine cg_X10_38 hC  dX10_base_68 (q := 71) rfl ?_
              refine ca_iload hC 0 dX10_base_71 rfl (q := 73) rfl ?_
              refine ca_ildQ hC (n := 32) (ca_m21 (k := 17) (by decide)) rfl rfl rfl dX10_base_73 (q := 74) rfl (fun h29 => ?_)
              exact ca_iretr hC dX10_base_74 rfl
            · refine ca_aload_n hC 1 dX10_base_57 rfl rfl (q := 58) rfl ?_
              refine cg_X10_35 hC  dX10_base_58 (q := 61) rfl ?_
              refine ca_iload hC 0 dX10_base_61 rfl (q := 63) rfl ?_
              refine ca_ildQ hC (n := 32) (ca_m21 (k := 16) (by decide)) rfl rfl rfl dX10_base_63 (q := 64) rfl (fun h30 => ?_)
              refine ca_goto hC dX10_base_64 (q := 74) rfl ?_
              exact ca_iretr hC dX10_base_74 rfl
          · refine ca_bipush hC (v := (-4)) dX10_base_48 rfl (q := 50) rfl ?_
            refine ca_goto hC dX10_base_50 (q := 74) rfl ?_
            exact ca_iretr hC dX10_base_74 rfl
      · refine ca_iconst hC (v := (-1)) dX10_base_24 rfl (q := 25) rfl ?_
        exact ca_iretr hC dX10_base_25 rfl
theorem cm_X10_base (Γ : ca_G) (l : Launch) (σ : ca_S) (x1 : Int32) (x2 : Int32) (x3 : Int32) : ca_Mr Γ ca_cM l yX10_base cX10_base 6 (some .int) 2 43 [.ref (Γ.2.1 (20, 0, 0)), .int x1, .int x2, .int x3] σ (cf_X10_base σ x1 x2 x3) :=
  ca_met (by decide) (Nat.le_of_ble_eq_true rfl) rfl (fun κ h1 h2 hC => by
    subst h1
    have h := ct_X10_base hC σ x1 x2 x3
    unfold ca_Zr at h
    rw [h2] at h
    exact h)
-- X10_answerOf
set_option maxRecDepth 100000 in
set_option maxHeartbeats 4000000 in
theorem ct_X10_answerOf_28 {κ : ca_K} (hC : ca_C κ ca_cM cX10_answerOf 4 RX10 (some .int) 0 0) (σ : ca_S) (xs0 : Int32) : ca_T κ (ca_Zr κ σ) σ 28 [(0, .ref (ca_a κ (20, 0, 0)))] [.int xs0] (cj_X10_answerOf_28 σ xs0) := by
  unfold cj_X10_answerOf_28
  refine ca_istore_n hC (lv' := [(3, .int xs0), (0, .ref (ca_a κ (20, 0, 0)))]) dX10_answerOf_28 rfl (by decide) rfl (q := 29) rfl ?_
  refine ca_aload_n hC 1 dX10_answerOf_29 rfl rfl (q := 30) rfl ?_
  refine cg_X10_38 hC  dX10_answerOf_30 (q := 33) rfl ?_
  refine ca_iload_n hC 0 dX10_answerOf_33 rfl rfl (q := 34) rfl ?_
  refine ca_ildQ hC (n := 32) (ca_m21 (k := 17) (by decide)) rfl rfl rfl dX10_answerOf_34 (q := 35) rfl (fun h5 => ?_)
  refine ca_if_ne hC dX10_answerOf_35 (t := 43) (q := 38) rfl rfl (fun h6 => ?_) (fun h7 => ?_)
  · refine ca_aload_n hC 1 dX10_answerOf_43 rfl rfl (q := 44) rfl ?_
    refine cg_X10_35 hC  dX10_answerOf_44 (q := 47) rfl ?_
    refine ca_iload_n hC 0 dX10_answerOf_47 rfl rfl (q := 48) rfl ?_
    refine ca_ildQ hC (n := 32) (ca_m21 (k := 16) (by decide)) rfl rfl rfl dX10_answerOf_48 (q := 49) rfl (fun h8 => ?_)
    exact ca_iretr hC dX10_answerOf_49 rfl
  · refine ca_bipush hC (v := (-4)) dX10_answerOf_38 rfl (q := 40) rfl ?_
    refine ca_goto hC dX10_answerOf_40 (q := 49) rfl ?_
    exact ca_iretr hC dX10_answerOf_49 rfl
set_option maxRecDepth 100000 in
set_option maxHeartbeats 4000000 in
theorem ct_X10_answerOf {κ : ca_K} (hC : ca_C κ ca_cM cX10_answerOf 4 RX10 (some .int) 0 0) (σ : ca_S) (x1 : Int32) : ca_T κ (ca_Zr κ σ) σ 0 [(0, .ref (ca_a κ (20, 0, 0))), (1, .int x1)] [] (cf_X10_answerOf σ x1) := by
  unfold cf_X10_answerOf
  refine ca_iconst hC (v := 2) dX10_answerOf_0 rfl (q := 1) rfl ?_
  refine ca_iload_n hC 1 dX10_answerOf_1 rfl rfl (q := 2) rfl ?_
  refine ca_imul hC dX10_answerOf_2 (q := 3) rfl ?_
  refine ca_istore_n hC (lv' := [(2, .int (2 * x1)), (0, .ref (ca_a κ (20, 0, 0))), (1, .int x1)]) dX10_answerOf_3 rfl (by decide) rfl (q := 4) rfl ?_
  refine ca_pick [0, 1] (lv' := [(2, .int (2 * x1)), (0, .ref (ca_a κ (20, 0, 0)))]) rfl ?_
  refine ca_aload_n hC 1 dX10_answerOf_4 rfl rfl (q := 5) rfl ?_
  refine cg_X10_38 hC  dX10_answerOf_5 (q := 8) rfl ?_
  refine ca_iload_n hC 0 dX10_answerOf_8 rfl rfl (q := 9) rfl ?_
  refine ca_iconst hC (v := 1) dX10_answerOf_9 rfl (q := 10) rfl ?_
  refine ca_iadd hC dX10_answerOf_10 (q := 11) rfl ?_
  refine ca_ildQ hC (n := 32) (ca_m21 (k := 17) (by decide)) rfl rfl rfl dX10_answerOf_11 (q := 12) rfl (fun h1 => ?_)
  refine ca_aload_n hC 1 dX10_answerOf_12 rfl rfl (q := 13) rfl ?_
  refine cg_X10_38 hC  dX10_answerOf_13 (q := 16) rfl ?_
  refine ca_iload_n hC 0 dX10_answerOf_16 rfl rfl (q := 17) rfl ?_
  refine ca_ildQ hC (n := 32) (ca_m21 (k := 17) (by decide)) rfl rfl rfl dX10_answerOf_17 (q := 18) rfl (fun h2 => ?_)
  refine ca_icmp_le hC dX10_answerOf_18 (t := 27) (q := 21) rfl rfl (fun h3 => ?_) (fun h4 => ?_)
  · refine ca_iload_n hC 0 dX10_answerOf_27 rfl rfl (q := 28) rfl ?_
    exact ca_pick [1] rfl (ct_X10_answerOf_28 hC σ (2 * x1))
  · refine ca_iload_n hC 0 dX10_answerOf_21 rfl rfl (q := 22) rfl ?_
    refine ca_iconst hC (v := 1) dX10_answerOf_22 rfl (q := 23) rfl ?_
    refine ca_iadd hC dX10_answerOf_23 (q := 24) rfl ?_
    refine ca_goto hC dX10_answerOf_24 (q := 28) rfl ?_
    exact ca_pick [1] rfl (ct_X10_answerOf_28 hC σ ((2 * x1) + 1))
theorem cm_X10_answerOf (Γ : ca_G) (l : Launch) (σ : ca_S) (x1 : Int32) : ca_Mr Γ ca_cM l yX10_answerOf cX10_answerOf 4 (some .int) 0 0 [.ref (Γ.2.1 (20, 0, 0)), .int x1] σ (cf_X10_answerOf σ x1) :=
  ca_met (by decide) (Nat.le_of_ble_eq_true rfl) rfl (fun κ h1 h2 hC => by
    subst h1
    have h := ct_X10_answerOf hC σ x1
    unfold ca_Zr at h
    rw [h2] at h
    exact h)
-- X10_about
set_option maxRecDepth 100000 in
set_option maxHeartbeats 4000000 in
theorem ct_X10_about {κ : ca_K} (hC : ca_C κ ca_cM cX10_about 3 RX10 (some .int) 2 43) (σ : ca_S) (x1 : Int32) (x2 : Int32) : ca_T κ (ca_Zr κ σ) σ 0 [(0, .ref (ca_a κ (20, 0, 0))), (1, .int x1), (2, .int x2)] [] (cf_X10_about σ x1 x2) := by
  unfold cf_X10_about
  refine ca_aload_n hC 0 dX10_about_0 rfl rfl (q := 1) rfl ?_
  refine ca_iload_n hC 1 dX10_about_1 rfl rfl (q := 2) rfl ?_
  refine ca_callVr hC (rest := []) (cm_X10_isBox κ.1 κ.2.2.2.1 σ x1) ca_Y_X10_isBox ca_L_X10_80 ca_m20 rfl rfl rfl rfl (Nat.le_of_ble_eq_true rfl) ⟨Nat.le_of_ble_eq_true rfl, Nat.le_of_ble_eq_true rfl⟩ dX10_about_2 (q := 5) rfl (fun r1 h3 => ?_)
  refine ca_if_eq hC dX10_about_5 (t := 17) (q := 8) rfl rfl (fun h4 => ?_) (fun h5 => ?_)
  · refine ca_iconst hC (v := (-1)) dX10_about_17 rfl (q := 18) rfl ?_
    exact ca_iretr hC dX10_about_18 rfl
  · refine ca_iload_n hC 2 dX10_about_8 rfl rfl (q := 9) rfl ?_
    refine ca_iconst hC (v := 0) dX10_about_9 rfl (q := 10) rfl ?_
    refine ca_iconst hC (v := 3) dX10_about_10 rfl (q := 11) rfl ?_
    refine ca_callSr hC (rest := []) (cm_X10_in κ.1 κ.2.2.2.1 σ x2 0 3) ca_Y_X10_in ca_L_X10_72  rfl rfl (Nat.le_of_ble_eq_true rfl) ⟨Nat.le_of_ble_eq_true rfl, Nat.le_of_ble_eq_true rfl⟩ dX10_about_11 (q := 14) rfl (fun r6 h8 => ?_)
    refine ca_if_ne hC dX10_about_14 (t := 19) (q := 17) rfl rfl (fun h9 => ?_) (fun h10 => ?_)
    · refine ca_iload_n hC 2 dX10_about_19 rfl rfl (q := 20) rfl ?_
      refine ca_ifs (x2 = 0) (fun h11 => ?_) (fun h11 => ?_)
      · refine ca_tin hC dX10_about_20 h11 (by decide) (by decide) rfl (q := 48) rfl ?_
        refine ca_aload_n hC 0 dX10_about_48 rfl rfl (q := 49) rfl ?_
        refine cg_X10_22 hC  dX10_about_49 (q := 52) rfl ?_
        refine ca_iload_n hC 1 dX10_about_52 rfl rfl (q := 53) rfl ?_
        refine ca_ildQ hC (n := 16) (ca_m21 (k := 12) (by decide)) rfl rfl rfl dX10_about_53 (q := 54) rfl (fun h12 => ?_)
        exact ca_iretr hC dX10_about_54 rfl
      refine ca_ifs (x2 = 1) (fun h13 => ?_) (fun h13 => ?_)
      · refine ca_tin hC dX10_about_20 h13 (by decide) (by decide) rfl (q := 55) rfl ?_
        refine ca_aload_n hC 0 dX10_about_55 rfl rfl (q := 56) rfl ?_
        refine cg_X10_19 hC  dX10_about_56 (q := 59) rfl ?_
        refine ca_iconst hC (v := 2) dX10_about_59 rfl (q := 60) rfl ?_
        refine ca_iload_n hC 1 dX10_about_60 rfl rfl (q := 61) rfl ?_
        refine ca_imul hC dX10_about_61 (q := 62) rfl ?_
        refine ca_ildQ hC (n := 32) (ca_m21 (k := 5) (by decide)) rfl rfl rfl dX10_about_62 (q := 63) rfl (fun h14 => ?_)
        refine ca_aload_n hC 0 dX10_about_63 rfl rfl (q := 64) rfl ?_
        refine cg_X10_19 hC  dX10_about_64 (q := 67) rfl ?_
        refine ca_iconst hC (v := 2) dX10_about_67 rfl (q := 68) rfl ?_
        refine ca_iload_n hC 1 dX10_about_68 rfl rfl (q := 69) rfl ?_
        refine ca_imul hC dX10_about_69 (q := 70) rfl ?_
        refine ca_iconst hC (v := 1) dX10_about_70 rfl (q := 71) rfl ?_
        refine ca_iadd hC dX10_about_71 (q := 72) rfl ?_
        refine ca_ildQ hC (n := 32) (ca_m21 (k := 5) (by decide)) rfl rfl rfl dX10_about_72 (q := 73) rfl (fun h15 => ?_)
        refine ca_iadd hC dX10_about_73 (q := 74) rfl ?_
        exact ca_iretr hC dX10_about_74 rfl
      refine ca_ifs (x2 = 2) (fun h16 => ?_) (fun h16 => ?_)
      · refine ca_tin hC dX10_about_20 h16 (by decide) (by decide) rfl (q := 75) rfl ?_
        refine ca_aload_n hC 0 dX10_about_75 rfl rfl (q := 76) rfl ?_
        refine cg_X10_22 hC  dX10_about_76 (q := 79) rfl ?_
        refine ca_iload_n hC 1 dX10_about_79 rfl rfl (q := 80) rfl ?_
        refine ca_ildQ hC (n := 16) (ca_m21 (k := 12) (by decide)) rfl rfl rfl dX10_about_80 (q := 81) rfl (fun h17 => ?_)
        refine ca_if_le hC dX10_about_81 (t := 97) (q := 84) rfl rfl (fun h18 => ?_) (fun h19 => ?_)
        · refine ca_iconst hC (v := 0) dX10_about_97 rfl (q := 98) rfl ?_
          exact ca_iretr hC dX10_about_98 rfl
        · refine ca_aload_n hC 0 dX10_about_84 rfl rfl (q := 85) rfl ?_
          refine cg_X10_31 hC  dX10_about_85 (q := 88) rfl ?_
          refine ca_iload_n hC 1 dX10_about_88 rfl rfl (q := 89) rfl ?_
          refine ca_zldQ hC (n := 16) (ca_m21 (k := 15) (by decide)) rfl rfl rfl dX10_about_89 (q := 90) rfl (fun h20 => ?_)
          refine ca_if_eq hC dX10_about_90 (t := 97) (q := 93) rfl rfl (fun h21 => ?_) (fun h22 => ?_)
          · refine ca_iconst hC (v := 0) dX10_about_97 rfl (q := 98) rfl ?_
            exact ca_iretr hC dX10_about_98 rfl
          · refine ca_iconst hC (v := 1) dX10_about_93 rfl (q := 94) rfl ?_
            refine ca_goto hC dX10_about_94 (q := 98) rfl ?_
            exact ca_iretr hC dX10_about_98 rfl
      · refine ca_tout hC dX10_about_20 (fun z g1 g2 => by rcases (show z = 0 ∨ z = 1 ∨ z = 2 by omega) with rfl | rfl | rfl <;> assumption) (q := 99) rfl ?_
        refine ca_aload_n hC 0 dX10_about_99 rfl rfl (q := 100) rfl ?_
        refine ca_iload_n hC 1 dX10_about_100 rfl rfl (q := 101) rfl ?_
        refine ca_callVr hC (rest := []) (cm_X10_answerOf κ.1 κ.2.2.2.1 σ x1) ca_Y_X10_answerOf ca_L_X10_126 ca_m20 rfl rfl rfl rfl (Nat.le_of_ble_eq_true rfl) ⟨Nat.le_of_ble_eq_true rfl, Nat.le_of_ble_eq_true rfl⟩ dX10_about_101 (q := 104) rfl (fun r23 h25 => ?_)
        exact ca_iretr hC dX10_about_104 rfl
    · refine ca_iconst hC (v := (-1)) dX10_about_17 rfl (q := 18) rfl ?_
      exact ca_iretr hC dX10_about_18 rfl
theorem cm_X10_about (Γ : ca_G) (l : Launch) (σ : ca_S) (x1 : Int32) (x2 : Int32) : ca_Mr Γ ca_cM l yX10_about cX10_about 3 (some .int) 2 43 [.ref (Γ.2.1 (20, 0, 0)), .int x1, .int x2] σ (cf_X10_about σ x1 x2) :=
  ca_met (by decide) (Nat.le_of_ble_eq_true rfl) rfl (fun κ h1 h2 hC => by
    subst h1
    have h := ct_X10_about hC σ x1 x2
    unfold ca_Zr at h
    rw [h2] at h
    exact h)
