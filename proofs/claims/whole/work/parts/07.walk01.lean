-- X9_clearBit
set_option maxRecDepth 100000 in
set_option maxHeartbeats 4000000 in
theorem ct_X9_clearBit_5 {κ : ca_K} (hC : ca_C κ ca_cC cX9_clearBit 5 RX9 (some .int) 0 0) (σ : ca_S) (x0 : Int32) (x1 : Int32) (x2 : Int32) {K : Option (Int32)} (hK : ca_T κ (ca_Zr κ σ) σ 37 [] [] K) : ∀ (n : Nat) (x3 : Int32) (x4 : Int32), ca_T κ (ca_Zr κ σ) σ 5 [(0, .int x0), (1, .int x1), (2, .int x2), (3, .int x3), (4, .int x4)] [] (cl_X9_clearBit_5 x0 x1 x2 K n x3 x4) := by
  intro n
  induction n with
  | zero => intro x3 x4; exact ca_no
  | succ n ih =>
    intro x3 x4
    rw [cl_X9_clearBit_5]
    refine ca_iload hC 4 dX9_clearBit_5 rfl (q := 7) rfl ?_
    refine ca_iload_n hC 2 dX9_clearBit_7 rfl rfl (q := 8) rfl ?_
    refine ca_icmp_ge hC dX9_clearBit_8 (t := 37) (q := 11) rfl rfl (fun h1 => ?_) (fun h2 => ?_)
    · exact ca_pick [] rfl (hK)
    · refine ca_iload_n hC 0 dX9_clearBit_11 rfl rfl (q := 12) rfl ?_
      refine ca_iload hC 4 dX9_clearBit_12 rfl (q := 14) rfl ?_
      refine ca_ishr hC dX9_clearBit_14 (q := 15) rfl ?_
      refine ca_iconst hC (v := 1) dX9_clearBit_15 rfl (q := 16) rfl ?_
      refine ca_iand hC dX9_clearBit_16 (q := 17) rfl ?_
      refine ca_if_ne hC dX9_clearBit_17 (t := 31) (q := 20) rfl rfl (fun h3 => ?_) (fun h4 => ?_)
      · refine ca_iinc hC 4 (v := (x4 + 1)) (lv' := [(4, .int (x4 + 1)), (0, .int x0), (1, .int x1), (2, .int x2), (3, .int x3)]) dX9_clearBit_31 rfl rfl (by decide) rfl (q := 34) rfl ?_
        refine ca_goto hC dX9_clearBit_34 (q := 5) rfl ?_
        exact ca_pick [1, 2, 3, 4, 0] rfl (ih x3 (x4 + 1))
      · refine ca_iload_n hC 3 dX9_clearBit_20 rfl rfl (q := 21) rfl ?_
        refine ca_iload_n hC 1 dX9_clearBit_21 rfl rfl (q := 22) rfl ?_
        refine ca_icmp_ne hC dX9_clearBit_22 (t := 28) (q := 25) rfl rfl (fun h5 => ?_) (fun h6 => ?_)
        · refine ca_iinc hC 3 (v := (x3 + 1)) (lv' := [(3, .int (x3 + 1)), (0, .int x0), (1, .int x1), (2, .int x2), (4, .int x4)]) dX9_clearBit_28 rfl rfl (by decide) rfl (q := 31) rfl ?_
          refine ca_iinc hC 4 (v := (x4 + 1)) (lv' := [(4, .int (x4 + 1)), (3, .int (x3 + 1)), (0, .int x0), (1, .int x1), (2, .int x2)]) dX9_clearBit_31 rfl rfl (by decide) rfl (q := 34) rfl ?_
          refine ca_goto hC dX9_clearBit_34 (q := 5) rfl ?_
          exact ca_pick [2, 3, 4, 1, 0] rfl (ih (x3 + 1) (x4 + 1))
        · refine ca_iload hC 4 dX9_clearBit_25 rfl (q := 27) rfl ?_
          exact ca_iretr hC dX9_clearBit_27 rfl
set_option maxRecDepth 100000 in
set_option maxHeartbeats 4000000 in
theorem ct_X9_clearBit {κ : ca_K} (hC : ca_C κ ca_cC cX9_clearBit 5 RX9 (some .int) 0 0) (σ : ca_S) (x0 : Int32) (x1 : Int32) (x2 : Int32) : ca_T κ (ca_Zr κ σ) σ 0 [(0, .int x0), (1, .int x1), (2, .int x2)] [] (cf_X9_clearBit x0 x1 x2) := by
  unfold cf_X9_clearBit
  refine ca_iconst hC (v := 0) dX9_clearBit_0 rfl (q := 1) rfl ?_
  refine ca_istore_n hC (lv' := [(3, .int 0), (0, .int x0), (1, .int x1), (2, .int x2)]) dX9_clearBit_1 rfl (by decide) rfl (q := 2) rfl ?_
  refine ca_iconst hC (v := 0) dX9_clearBit_2 rfl (q := 3) rfl ?_
  refine ca_istore hC (lv' := [(4, .int 0), (3, .int 0), (0, .int x0), (1, .int x1), (2, .int x2)]) dX9_clearBit_3 (by decide) rfl (q := 5) rfl ?_
  refine ca_pick [2, 3, 4, 1, 0] rfl (ct_X9_clearBit_5 hC σ x0 x1 x2 ?_ ca_FU 0 0)
  refine ca_iconst hC (v := 0) dX9_clearBit_37 rfl (q := 38) rfl ?_
  exact ca_iretr hC dX9_clearBit_38 rfl
theorem cm_X9_clearBit (Γ : ca_G) (l : Launch) (σ : ca_S) (x0 : Int32) (x1 : Int32) (x2 : Int32) : ca_Mr Γ ca_cC l yX9_clearBit cX9_clearBit 5 (some .int) 0 0 [.int x0, .int x1, .int x2] σ (cf_X9_clearBit x0 x1 x2) :=
  ca_met (by decide) (Nat.le_of_ble_eq_true rfl) rfl (fun κ h1 h2 hC => by
    subst h1
    have h := ct_X9_clearBit hC σ x0 x1 x2
    unfold ca_Zr at h
    rw [h2] at h
    exact h)
-- X4_next
set_option maxRecDepth 100000 in
set_option maxHeartbeats 4000000 in
theorem ct_X4_next {κ : ca_K} (hC : ca_C κ ca_cC cX4_next 4 RX4 (some .int) 1 24) (σ : ca_S) (x1 : Int32) : ca_T κ (ca_Zi κ) σ 0 [(0, .ref (ca_a κ (13, 0, 0))), (1, .int x1)] [] (cf_X4_next σ x1) := by
  unfold cf_X4_next
  refine ca_aload_n hC 0 dX4_next_0 rfl rfl (q := 1) rfl ?_
  refine cg_X4_9 hC  dX4_next_1 (q := 4) rfl ?_
  refine ca_lconst hC (v := 0) dX4_next_4 rfl (q := 5) rfl ?_
  refine ca_lcmp hC dX4_next_5 (q := 6) rfl dX4_next_6 (t := 12) (u := 9) rfl rfl (fun h1 => ?_) (fun h2 => ?_)
  · refine ca_iload_n hC 1 dX4_next_12 rfl rfl (q := 13) rfl ?_
    refine ca_aload_n hC 0 dX4_next_13 rfl rfl (q := 14) rfl ?_
    refine cg_X4_15 hC  dX4_next_14 (q := 17) rfl ?_
    refine ca_callSr hC (rest := [.int x1]) (cm_J6_bitCount_0f7a4 κ.1 κ.2.2.2.1 σ (σ.1 (13, 0, 0) 1)) ca_Y_J6_bitCount_0f7a4 ca_L_X4_19  rfl rfl (Nat.le_of_ble_eq_true rfl) ⟨Nat.le_of_ble_eq_true rfl, Nat.le_of_ble_eq_true rfl⟩ dX4_next_17 (q := 20) rfl (fun r3 h5 => ?_)
    refine ca_isub hC dX4_next_20 (q := 21) rfl ?_
    refine ca_istore_n hC (lv' := [(2, .int (x1 - r3)), (0, .ref (ca_a κ (13, 0, 0))), (1, .int x1)]) dX4_next_21 rfl (by decide) rfl (q := 22) rfl ?_
    refine ca_iload_n hC 0 dX4_next_22 rfl rfl (q := 23) rfl ?_
    refine ca_if_gt hC dX4_next_23 (t := 29) (q := 26) rfl rfl (fun h6 => ?_) (fun h7 => ?_)
    · refine ca_aload_n hC 1 dX4_next_29 rfl rfl (q := 30) rfl ?_
      refine ca_aload_n hC 1 dX4_next_30 rfl rfl (q := 31) rfl ?_
      refine cg_X4_9 hC  dX4_next_31 (q := 34) rfl ?_
      refine ca_ldc2 hC (v := 48271) ca_w598 dX4_next_34 (q := 37) rfl ?_
      refine ca_lmul hC dX4_next_37 (q := 38) rfl ?_
      refine ca_ldc2 hC (v := 2147483647) ca_w599 dX4_next_38 (q := 41) rfl ?_
      refine ca_lrem hC dX4_next_41 (q := 42) rfl (fun h8 => ?_)
      refine cp_X4_9 hC  dX4_next_42 (q := 45) rfl ?_
      refine ca_let (fun σ9 _ => ?_)
      refine ca_aload_n hC 1 dX4_next_45 rfl rfl (q := 46) rfl ?_
      refine cg_X4_15 hC  dX4_next_46 (q := 49) rfl ?_
      refine ca_aload_n hC 1 dX4_next_49 rfl rfl (q := 50) rfl ?_
      refine cg_X4_9 hC  dX4_next_50 (q := 53) rfl ?_
      refine ca_iload_n hC 0 dX4_next_53 rfl rfl (q := 54) rfl ?_
      refine ca_i2l hC dX4_next_54 (q := 55) rfl ?_
      refine ca_lrem hC dX4_next_55 (q := 56) rfl (fun h10 => ?_)
      refine ca_l2i hC dX4_next_56 (q := 57) rfl ?_
      refine ca_iload_n hC 2 dX4_next_57 rfl rfl (q := 58) rfl ?_
      refine ca_callSr hC (rest := []) (cm_X9_clearBit κ.1 κ.2.2.2.1 σ9 (σ9.1 (13, 0, 0) 1) (Int64.toInt32 (σ9.2 - σ9.2 / (Int32.toInt64 (x1 - r3)) * (Int32.toInt64 (x1 - r3)))) x1) ca_Y_X9_clearBit ca_L_X4_29  rfl rfl (Nat.le_of_ble_eq_true rfl) ⟨Nat.le_of_ble_eq_true rfl, Nat.le_of_ble_eq_true rfl⟩ dX4_next_58 (q := 61) rfl (fun r11 h13 => ?_)
      refine ca_istore_n hC (lv' := [(3, .int r11), (2, .int (x1 - r3)), (0, .ref (ca_a κ (13, 0, 0))), (1, .int x1)]) dX4_next_61 rfl (by decide) rfl (q := 62) rfl ?_
      refine ca_pick [0, 2] (lv' := [(3, .int r11), (0, .ref (ca_a κ (13, 0, 0)))]) rfl ?_
      refine ca_aload_n hC 1 dX4_next_62 rfl rfl (q := 63) rfl ?_
      refine ca_dup hC dX4_next_63 rfl (q := 64) rfl ?_
      refine cg_X4_15 hC  dX4_next_64 (q := 67) rfl ?_
      refine ca_iconst hC (v := 1) dX4_next_67 rfl (q := 68) rfl ?_
      refine ca_iload_n hC 0 dX4_next_68 rfl rfl (q := 69) rfl ?_
      refine ca_ishl hC dX4_next_69 (q := 70) rfl ?_
      refine ca_ior hC dX4_next_70 (q := 71) rfl ?_
      refine cp_X4_15 hC  dX4_next_71 (q := 74) rfl ?_
      refine ca_let (fun σ14 _ => ?_)
      refine ca_iload_n hC 0 dX4_next_74 rfl rfl (q := 75) rfl ?_
      exact ca_ireti hC dX4_next_75 rfl
    · refine ca_bipush hC (v := (-4)) dX4_next_26 rfl (q := 28) rfl ?_
      exact ca_ireti hC dX4_next_28 rfl
  · refine ca_bipush hC (v := (-2)) dX4_next_9 rfl (q := 11) rfl ?_
    exact ca_ireti hC dX4_next_11 rfl
theorem cm_X4_next (Γ : ca_G) (l : Launch) (σ : ca_S) (x1 : Int32) : ca_Mi Γ ca_cC l yX4_next cX4_next 4 (some .int) 1 24 [.ref (Γ.2.1 (13, 0, 0)), .int x1] σ (cf_X4_next σ x1) :=
  ca_met (by decide) (Nat.le_of_ble_eq_true rfl) rfl (fun κ h1 h2 hC => by
    subst h1
    have h := ct_X4_next hC σ x1
    unfold ca_Zi at h
    rw [h2] at h
    exact h)
-- X5_putInOrder
set_option maxRecDepth 100000 in
set_option maxHeartbeats 4000000 in
theorem ct_X5_putInOrder_15 {κ : ca_K} (hC : ca_C κ ca_cC cX5_putInOrder 3 RX5 none 0 0) (x1 : Int32) {K : ca_S → Int32 → Option (ca_S)} (hK : ∀ (σ : ca_S) (x2 : Int32), ca_T κ (ca_Zv κ) σ 51 [(0, .ref (ca_a κ (14, 0, 0))), (1, .int x1), (2, .int x2)] [] (K σ x2)) : ∀ (n : Nat) (σ : ca_S) (x2 : Int32), ca_T κ (ca_Zv κ) σ 15 [(0, .ref (ca_a κ (14, 0, 0))), (1, .int x1), (2, .int x2)] [] (cl_X5_putInOrder_15 x1 K n σ x2) := by
  intro n
  induction n with
  | zero => intro σ x2; exact ca_no
  | succ n ih =>
    intro σ x2
    rw [cl_X5_putInOrder_15]
    refine ca_iload_n hC 2 dX5_putInOrder_15 rfl rfl (q := 16) rfl ?_
    refine ca_if_le hC dX5_putInOrder_16 (t := 51) (q := 19) rfl rfl (fun h3 => ?_) (fun h4 => ?_)
    · exact ca_pick [0, 1, 2] rfl (hK σ x2)
    · refine ca_aload_n hC 0 dX5_putInOrder_19 rfl rfl (q := 20) rfl ?_
      refine cg_X5_9 hC  dX5_putInOrder_20 (q := 23) rfl ?_
      refine ca_iload_n hC 2 dX5_putInOrder_23 rfl rfl (q := 24) rfl ?_
      refine ca_iconst hC (v := 1) dX5_putInOrder_24 rfl (q := 25) rfl ?_
      refine ca_isub hC dX5_putInOrder_25 (q := 26) rfl ?_
      refine ca_ildQ hC (n := 16) ca_m15 rfl rfl rfl dX5_putInOrder_26 (q := 27) rfl (fun h5 => ?_)
      refine ca_iload_n hC 1 dX5_putInOrder_27 rfl rfl (q := 28) rfl ?_
      refine ca_icmp_le hC dX5_putInOrder_28 (t := 51) (q := 31) rfl rfl (fun h6 => ?_) (fun h7 => ?_)
      · exact ca_pick [0, 1, 2] rfl (hK σ x2)
      · refine ca_aload_n hC 0 dX5_putInOrder_31 rfl rfl (q := 32) rfl ?_
        refine cg_X5_9 hC  dX5_putInOrder_32 (q := 35) rfl ?_
        refine ca_iload_n hC 2 dX5_putInOrder_35 rfl rfl (q := 36) rfl ?_
        refine ca_aload_n hC 0 dX5_putInOrder_36 rfl rfl (q := 37) rfl ?_
        refine cg_X5_9 hC  dX5_putInOrder_37 (q := 40) rfl ?_
        refine ca_iload_n hC 2 dX5_putInOrder_40 rfl rfl (q := 41) rfl ?_
        refine ca_iconst hC (v := 1) dX5_putInOrder_41 rfl (q := 42) rfl ?_
        refine ca_isub hC dX5_putInOrder_42 (q := 43) rfl ?_
        refine ca_ildQ hC (n := 16) ca_m15 rfl rfl rfl dX5_putInOrder_43 (q := 44) rfl (fun h8 => ?_)
        refine ca_istQ hC (n := 16) ca_m15 rfl rfl rfl dX5_putInOrder_44 (q := 45) rfl (fun h9 => ?_)
        refine ca_let (fun σ10 _ => ?_)
        refine ca_iinc hC 2 (v := (x2 + (-1))) (lv' := [(2, .int (x2 + (-1))), (0, .ref (ca_a κ (14, 0, 0))), (1, .int x1)]) dX5_putInOrder_45 rfl rfl (by decide) rfl (q := 48) rfl ?_
        refine ca_goto hC dX5_putInOrder_48 (q := 15) rfl ?_
        exact ca_pick [1, 2, 0] rfl (ih σ10 (x2 + (-1)))
set_option maxRecDepth 100000 in
set_option maxHeartbeats 4000000 in
theorem ct_X5_putInOrder_51 {κ : ca_K} (hC : ca_C κ ca_cC cX5_putInOrder 3 RX5 none 0 0) (σ : ca_S) (x1 : Int32) (x2 : Int32) : ca_T κ (ca_Zv κ) σ 51 [(0, .ref (ca_a κ (14, 0, 0))), (1, .int x1), (2, .int x2)] [] (cj_X5_putInOrder_51 σ x1 x2) := by
  unfold cj_X5_putInOrder_51
  refine ca_aload_n hC 0 dX5_putInOrder_51 rfl rfl (q := 52) rfl ?_
  refine cg_X5_9 hC  dX5_putInOrder_52 (q := 55) rfl ?_
  refine ca_iload_n hC 2 dX5_putInOrder_55 rfl rfl (q := 56) rfl ?_
  refine ca_iload_n hC 1 dX5_putInOrder_56 rfl rfl (q := 57) rfl ?_
  refine ca_istQ hC (n := 16) ca_m15 rfl rfl rfl dX5_putInOrder_57 (q := 58) rfl (fun h13 => ?_)
  refine ca_let (fun σ14 _ => ?_)
  refine ca_aload_n hC 0 dX5_putInOrder_58 rfl rfl (q := 59) rfl ?_
  refine ca_dup hC dX5_putInOrder_59 rfl (q := 60) rfl ?_
  refine cg_X5_15 hC  dX5_putInOrder_60 (q := 63) rfl ?_
  refine ca_iconst hC (v := 1) dX5_putInOrder_63 rfl (q := 64) rfl ?_
  refine ca_iadd hC dX5_putInOrder_64 (q := 65) rfl ?_
  refine cp_X5_15 hC  dX5_putInOrder_65 (q := 68) rfl ?_
  refine ca_let (fun σ15 _ => ?_)
  exact ca_vret hC dX5_putInOrder_68
set_option maxRecDepth 100000 in
set_option maxHeartbeats 4000000 in
theorem ct_X5_putInOrder {κ : ca_K} (hC : ca_C κ ca_cC cX5_putInOrder 3 RX5 none 0 0) (σ : ca_S) (x1 : Int32) : ca_T κ (ca_Zv κ) σ 0 [(0, .ref (ca_a κ (14, 0, 0))), (1, .int x1)] [] (cf_X5_putInOrder σ x1) := by
  unfold cf_X5_putInOrder
  refine ca_aload_n hC 0 dX5_putInOrder_0 rfl rfl (q := 1) rfl ?_
  refine cg_X5_15 hC  dX5_putInOrder_1 (q := 4) rfl ?_
  refine ca_bipush hC (v := 16) dX5_putInOrder_4 rfl (q := 6) rfl ?_
  refine ca_icmp_lt hC dX5_putInOrder_6 (t := 10) (q := 9) rfl rfl (fun h1 => ?_) (fun h2 => ?_)
  · refine ca_aload_n hC 0 dX5_putInOrder_10 rfl rfl (q := 11) rfl ?_
    refine cg_X5_15 hC  dX5_putInOrder_11 (q := 14) rfl ?_
    refine ca_istore_n hC (lv' := [(2, .int (σ.1 (14, 0, 0) 1)), (0, .ref (ca_a κ (14, 0, 0))), (1, .int x1)]) dX5_putInOrder_14 rfl (by decide) rfl (q := 15) rfl ?_
    refine ca_pick [1, 2, 0] rfl (ct_X5_putInOrder_15 hC x1 ?_ ca_FU σ (σ.1 (14, 0, 0) 1))
    intro σ11 x12
    exact ca_pick [0, 1, 2] rfl (ct_X5_putInOrder_51 hC σ11 x1 x12)
  · exact ca_vret hC dX5_putInOrder_9
theorem cm_X5_putInOrder (Γ : ca_G) (l : Launch) (σ : ca_S) (x1 : Int32) : ca_Mv Γ ca_cC l yX5_putInOrder cX5_putInOrder 3 none 0 0 [.ref (Γ.2.1 (14, 0, 0)), .int x1] σ (cf_X5_putInOrder σ x1) :=
  ca_met (by decide) (Nat.le_of_ble_eq_true rfl) rfl (fun κ h1 h2 hC => by
    subst h1
    have h := ct_X5_putInOrder hC σ x1
    unfold ca_Zv at h
    rw [h2] at h
    exact h)
-- X5_lesserMiddle
set_option maxRecDepth 100000 in
set_option maxHeartbeats 4000000 in
theorem ct_X5_lesserMiddle {κ : ca_K} (hC : ca_C κ ca_cC cX5_lesserMiddle 1 RX5 (some .int) 0 0) (σ : ca_S) : ca_T κ (ca_Zr κ σ) σ 0 [(0, .ref (ca_a κ (14, 0, 0)))] [] (cf_X5_lesserMiddle σ) := by
  unfold cf_X5_lesserMiddle
  refine ca_aload_n hC 0 dX5_lesserMiddle_0 rfl rfl (q := 1) rfl ?_
  refine cg_X5_15 hC  dX5_lesserMiddle_1 (q := 4) rfl ?_
  refine ca_if_le hC dX5_lesserMiddle_4 (t := 23) (q := 7) rfl rfl (fun h1 => ?_) (fun h2 => ?_)
  · refine ca_iconst hC (v := 0) dX5_lesserMiddle_23 rfl (q := 24) rfl ?_
    exact ca_iretr hC dX5_lesserMiddle_24 rfl
  · refine ca_aload_n hC 0 dX5_lesserMiddle_7 rfl rfl (q := 8) rfl ?_
    refine cg_X5_9 hC  dX5_lesserMiddle_8 (q := 11) rfl ?_
    refine ca_aload_n hC 0 dX5_lesserMiddle_11 rfl rfl (q := 12) rfl ?_
    refine cg_X5_15 hC  dX5_lesserMiddle_12 (q := 15) rfl ?_
    refine ca_iconst hC (v := 1) dX5_lesserMiddle_15 rfl (q := 16) rfl ?_
    refine ca_isub hC dX5_lesserMiddle_16 (q := 17) rfl ?_
    refine ca_iconst hC (v := 2) dX5_lesserMiddle_17 rfl (q := 18) rfl ?_
    refine ca_idiv hC dX5_lesserMiddle_18 (q := 19) rfl (fun h3 => ?_)
    refine ca_ildQ hC (n := 16) ca_m15 rfl rfl rfl dX5_lesserMiddle_19 (q := 20) rfl (fun h4 => ?_)
    refine ca_goto hC dX5_lesserMiddle_20 (q := 24) rfl ?_
    exact ca_iretr hC dX5_lesserMiddle_24 rfl
theorem cm_X5_lesserMiddle (Γ : ca_G) (l : Launch) (σ : ca_S) : ca_Mr Γ ca_cC l yX5_lesserMiddle cX5_lesserMiddle 1 (some .int) 0 0 [.ref (Γ.2.1 (14, 0, 0))] σ (cf_X5_lesserMiddle σ) :=
  ca_met (by decide) (Nat.le_of_ble_eq_true rfl) rfl (fun κ h1 h2 hC => by
    subst h1
    have h := ct_X5_lesserMiddle hC σ 
    unfold ca_Zr at h
    rw [h2] at h
    exact h)
-- X5_off
set_option maxRecDepth 100000 in
set_option maxHeartbeats 4000000 in
theorem ct_X5_off {κ : ca_K} (hC : ca_C κ ca_cC cX5_off 2 RX5 (some .int) 1 21) (σ : ca_S) (i1 : Nat) (hi1 : i1 < 16) : ca_T κ (ca_Zr κ σ) σ 0 [(0, .ref (ca_a κ (14, 0, 0))), (1, .ref (ca_a κ (2, i1, 0)))] [] (cf_X5_off σ i1) := by
  unfold cf_X5_off
  refine ca_aload_n hC 1 dX5_off_0 rfl rfl (q := 1) rfl ?_
  refine ca_callVr hC (rest := []) (cm_X0_countedAnswer κ.1 κ.2.2.2.1 σ i1 hi1) ca_Y_X0_countedAnswer ca_L_X5_19 (ca_m2 hi1) rfl rfl rfl rfl (Nat.le_of_ble_eq_true rfl) ⟨Nat.le_of_ble_eq_true rfl, Nat.le_of_ble_eq_true rfl⟩ dX5_off_1 (q := 4) rfl (fun r1 h3 => ?_)
  refine ca_aload_n hC 0 dX5_off_4 rfl rfl (q := 5) rfl ?_
  refine cg_X5_32 hC  dX5_off_5 (q := 8) rfl ?_
  refine ca_isub hC dX5_off_8 (q := 9) rfl ?_
  refine ca_mabs hC ca_w475 ca_w476 ca_w49 ca_w477 (by decide) (Nat.le_of_ble_eq_true rfl) dX5_off_9 (q := 12) rfl ?_
  exact ca_iretr hC dX5_off_12 rfl
theorem cm_X5_off (Γ : ca_G) (l : Launch) (σ : ca_S) (i1 : Nat) (hi1 : i1 < 16) : ca_Mr Γ ca_cC l yX5_off cX5_off 2 (some .int) 1 21 [.ref (Γ.2.1 (14, 0, 0)), .ref (Γ.2.1 (2, i1, 0))] σ (cf_X5_off σ i1) :=
  ca_met (by decide) (Nat.le_of_ble_eq_true rfl) rfl (fun κ h1 h2 hC => by
    subst h1
    have h := ct_X5_off hC σ i1 hi1
    unfold ca_Zr at h
    rw [h2] at h
    exact h)
-- X5_look
set_option maxRecDepth 100000 in
set_option maxHeartbeats 4000000 in
theorem ct_X5_look_7 {κ : ca_K} (hC : ca_C κ ca_cC cX5_look 5 RX5 none 2 42) (x2 : Int32) {K : ca_S → Option (ca_S)} (hK : ∀ (σ : ca_S), ca_T κ (ca_Zv κ) σ 39 [(0, .ref (ca_a κ (14, 0, 0))), (1, .ref (ca_a κ (1, 0, 0))), (2, .int x2)] [] (K σ)) : ∀ (n : Nat) (σ : ca_S) (x3 : Int32), ca_T κ (ca_Zv κ) σ 7 [(0, .ref (ca_a κ (14, 0, 0))), (1, .ref (ca_a κ (1, 0, 0))), (2, .int x2), (3, .int x3)] [] (cl_X5_look_7 x2 K n σ x3) := by
  intro n
  induction n with
  | zero => intro σ x3; exact ca_no
  | succ n ih =>
    intro σ x3
    rw [cl_X5_look_7]
    refine ca_iload_n hC 3 dX5_look_7 rfl rfl (q := 8) rfl ?_
    refine ca_iload_n hC 2 dX5_look_8 rfl rfl (q := 9) rfl ?_
    refine ca_icmp_ge hC dX5_look_9 (t := 39) (q := 12) rfl rfl (fun h2 => ?_) (fun h3 => ?_)
    · exact ca_pick [0, 1, 2] rfl (hK σ)
    · refine ca_aload_n hC 1 dX5_look_12 rfl rfl (q := 13) rfl ?_
      refine ca_iload_n hC 3 dX5_look_13 rfl rfl (q := 14) rfl ?_
      refine ca_al1 hC  dX5_look_14 (q := 15) rfl (fun h4 => ?_)
      refine ca_callVr hC (rest := []) (cm_X0_countedAnswer κ.1 κ.2.2.2.1 σ (Int32.toNatClampNeg x3) (ca_in_lt h4)) ca_Y_X0_countedAnswer ca_L_X5_19 (ca_m2 (ca_in_lt h4)) rfl rfl rfl rfl (Nat.le_of_ble_eq_true rfl) ⟨Nat.le_of_ble_eq_true rfl, Nat.le_of_ble_eq_true rfl⟩ dX5_look_15 (q := 18) rfl (fun r5 h7 => ?_)
      refine ca_bipush hC (v := (-4)) dX5_look_18 rfl (q := 20) rfl ?_
      refine ca_icmp_eq hC dX5_look_20 (t := 33) (q := 23) rfl rfl (fun h8 => ?_) (fun h9 => ?_)
      · refine ca_iinc hC 3 (v := (x3 + 1)) (lv' := [(3, .int (x3 + 1)), (0, .ref (ca_a κ (14, 0, 0))), (1, .ref (ca_a κ (1, 0, 0))), (2, .int x2)]) dX5_look_33 rfl rfl (by decide) rfl (q := 36) rfl ?_
        refine ca_goto hC dX5_look_36 (q := 7) rfl ?_
        exact ca_pick [1, 2, 3, 0] rfl (ih σ (x3 + 1))
      · refine ca_aload_n hC 0 dX5_look_23 rfl rfl (q := 24) rfl ?_
        refine ca_aload_n hC 1 dX5_look_24 rfl rfl (q := 25) rfl ?_
        refine ca_iload_n hC 3 dX5_look_25 rfl rfl (q := 26) rfl ?_
        refine ca_al1 hC  dX5_look_26 (q := 27) rfl (fun h10 => ?_)
        refine ca_callVr hC (rest := [.ref (ca_a κ (14, 0, 0))]) (cm_X0_countedAnswer κ.1 κ.2.2.2.1 σ (Int32.toNatClampNeg x3) (ca_in_lt h10)) ca_Y_X0_countedAnswer ca_L_X5_19 (ca_m2 (ca_in_lt h10)) rfl rfl rfl rfl (Nat.le_of_ble_eq_true rfl) ⟨Nat.le_of_ble_eq_true rfl, Nat.le_of_ble_eq_true rfl⟩ dX5_look_27 (q := 30) rfl (fun r11 h13 => ?_)
        refine ca_callVv hC (rest := []) (cm_X5_putInOrder κ.1 κ.2.2.2.1 σ r11) ca_Y_X5_putInOrder ca_L_X5_25 ca_m14 rfl rfl rfl rfl (Nat.le_of_ble_eq_true rfl) ⟨Nat.le_of_ble_eq_true rfl, Nat.le_of_ble_eq_true rfl⟩ dX5_look_30 (q := 33) rfl (fun σ15 h16 => ?_)
        refine ca_iinc hC 3 (v := (x3 + 1)) (lv' := [(3, .int (x3 + 1)), (0, .ref (ca_a κ (14, 0, 0))), (1, .ref (ca_a κ (1, 0, 0))), (2, .int x2)]) dX5_look_33 rfl rfl (by decide) rfl (q := 36) rfl ?_
        refine ca_goto hC dX5_look_36 (q := 7) rfl ?_
        exact ca_pick [1, 2, 3, 0] rfl (ih σ15 (x3 + 1))
set_option maxRecDepth 100000 in
set_option maxHeartbeats 4000000 in
theorem ct_X5_look_54 {κ : ca_K} (hC : ca_C κ ca_cC cX5_look 5 RX5 none 2 42) (x2 : Int32) {K : ca_S → Option (ca_S)} (hK : ∀ (σ : ca_S), ca_T κ (ca_Zv κ) σ 87 [(0, .ref (ca_a κ (14, 0, 0))), (1, .ref (ca_a κ (1, 0, 0))), (2, .int x2)] [] (K σ)) : ∀ (n : Nat) (σ : ca_S) (x3 : Int32), ca_T κ (ca_Zv κ) σ 54 [(0, .ref (ca_a κ (14, 0, 0))), (1, .ref (ca_a κ (1, 0, 0))), (2, .int x2), (3, .int x3)] [] (cl_X5_look_54 x2 K n σ x3) := by
  intro n
  induction n with
  | zero => intro σ x3; exact ca_no
  | succ n ih =>
    intro σ x3
    rw [cl_X5_look_54]
    refine ca_iload_n hC 3 dX5_look_54 rfl rfl (q := 55) rfl ?_
    refine ca_iload_n hC 2 dX5_look_55 rfl rfl (q := 56) rfl ?_
    refine ca_icmp_ge hC dX5_look_56 (t := 87) (q := 59) rfl rfl (fun h23 => ?_) (fun h24 => ?_)
    · exact ca_pick [0, 1, 2] rfl (hK σ)
    · refine ca_aload_n hC 1 dX5_look_59 rfl rfl (q := 60) rfl ?_
      refine ca_iload_n hC 3 dX5_look_60 rfl rfl (q := 61) rfl ?_
      refine ca_al1 hC  dX5_look_61 (q := 62) rfl (fun h25 => ?_)
      refine ca_callVr hC (rest := []) (cm_X0_countedAnswer κ.1 κ.2.2.2.1 σ (Int32.toNatClampNeg x3) (ca_in_lt h25)) ca_Y_X0_countedAnswer ca_L_X5_19 (ca_m2 (ca_in_lt h25)) rfl rfl rfl rfl (Nat.le_of_ble_eq_true rfl) ⟨Nat.le_of_ble_eq_true rfl, Nat.le_of_ble_eq_true rfl⟩ dX5_look_62 (q := 65) rfl (fun r26 h28 => ?_)
      refine ca_bipush hC (v := (-4)) dX5_look_65 rfl (q := 67) rfl ?_
      refine ca_icmp_eq hC dX5_look_67 (t := 81) (q := 70) rfl rfl (fun h29 => ?_) (fun h30 => ?_)
      · refine ca_iinc hC 3 (v := (x3 + 1)) (lv' := [(3, .int (x3 + 1)), (0, .ref (ca_a κ (14, 0, 0))), (1, .ref (ca_a κ (1, 0, 0))), (2, .int x2)]) dX5_look_81 rfl rfl (by decide) rfl (q := 84) rfl ?_
        refine ca_goto hC dX5_look_84 (q := 54) rfl ?_
        exact ca_pick [1, 2, 3, 0] rfl (ih σ (x3 + 1))
      · refine ca_aload_n hC 0 dX5_look_70 rfl rfl (q := 71) rfl ?_
        refine ca_aload_n hC 0 dX5_look_71 rfl rfl (q := 72) rfl ?_
        refine ca_aload_n hC 1 dX5_look_72 rfl rfl (q := 73) rfl ?_
        refine ca_iload_n hC 3 dX5_look_73 rfl rfl (q := 74) rfl ?_
        refine ca_al1 hC  dX5_look_74 (q := 75) rfl (fun h31 => ?_)
        refine ca_callVr hC (rest := [.ref (ca_a κ (14, 0, 0))]) (cm_X5_off κ.1 κ.2.2.2.1 σ (Int32.toNatClampNeg x3) (ca_in_lt h31)) ca_Y_X5_off ca_L_X5_35 ca_m14 rfl rfl rfl rfl (Nat.le_of_ble_eq_true rfl) ⟨Nat.le_of_ble_eq_true rfl, Nat.le_of_ble_eq_true rfl⟩ dX5_look_75 (q := 78) rfl (fun r32 h34 => ?_)
        refine ca_callVv hC (rest := []) (cm_X5_putInOrder κ.1 κ.2.2.2.1 σ r32) ca_Y_X5_putInOrder ca_L_X5_25 ca_m14 rfl rfl rfl rfl (Nat.le_of_ble_eq_true rfl) ⟨Nat.le_of_ble_eq_true rfl, Nat.le_of_ble_eq_true rfl⟩ dX5_look_78 (q := 81) rfl (fun σ36 h37 => ?_)
        refine ca_iinc hC 3 (v := (x3 + 1)) (lv' := [(3, .int (x3 + 1)), (0, .ref (ca_a κ (14, 0, 0))), (1, .ref (ca_a κ (1, 0, 0))), (2, .int x2)]) dX5_look_81 rfl rfl (by decide) rfl (q := 84) rfl ?_
        refine ca_goto hC dX5_look_84 (q := 54) rfl ?_
        exact ca_pick [1, 2, 3, 0] rfl (ih σ36 (x3 + 1))
set_option maxRecDepth 100000 in
set_option maxHeartbeats 4000000 in
theorem ct_X5_look_102 {κ : ca_K} (hC : ca_C κ ca_cC cX5_look 5 RX5 none 2 42) (x2 : Int32) (x3 : Int32) {K : ca_S → Option (ca_S)} (hK : ∀ (σ : ca_S), ca_T κ (ca_Zv κ) σ 151 [] [] (K σ)) : ∀ (n : Nat) (σ : ca_S) (x4 : Int32), ca_T κ (ca_Zv κ) σ 102 [(0, .ref (ca_a κ (14, 0, 0))), (1, .ref (ca_a κ (1, 0, 0))), (2, .int x2), (3, .int x3), (4, .int x4)] [] (cl_X5_look_102 x2 x3 K n σ x4) := by
  intro n
  induction n with
  | zero => intro σ x4; exact ca_no
  | succ n ih =>
    intro σ x4
    rw [cl_X5_look_102]
    refine ca_iload hC 4 dX5_look_102 rfl (q := 104) rfl ?_
    refine ca_iload_n hC 2 dX5_look_104 rfl rfl (q := 105) rfl ?_
    refine ca_icmp_ge hC dX5_look_105 (t := 151) (q := 108) rfl rfl (fun h43 => ?_) (fun h44 => ?_)
    · exact ca_pick [] rfl (hK σ)
    · refine ca_aload_n hC 1 dX5_look_108 rfl rfl (q := 109) rfl ?_
      refine ca_iload hC 4 dX5_look_109 rfl (q := 111) rfl ?_
      refine ca_al1 hC  dX5_look_111 (q := 112) rfl (fun h45 => ?_)
      refine ca_callVr hC (rest := []) (cm_X0_countedAnswer κ.1 κ.2.2.2.1 σ (Int32.toNatClampNeg x4) (ca_in_lt h45)) ca_Y_X0_countedAnswer ca_L_X5_19 (ca_m2 (ca_in_lt h45)) rfl rfl rfl rfl (Nat.le_of_ble_eq_true rfl) ⟨Nat.le_of_ble_eq_true rfl, Nat.le_of_ble_eq_true rfl⟩ dX5_look_112 (q := 115) rfl (fun r46 h48 => ?_)
      refine ca_bipush hC (v := (-4)) dX5_look_115 rfl (q := 117) rfl ?_
      refine ca_icmp_eq hC dX5_look_117 (t := 145) (q := 120) rfl rfl (fun h49 => ?_) (fun h50 => ?_)
      · refine ca_iinc hC 4 (v := (x4 + 1)) (lv' := [(4, .int (x4 + 1)), (0, .ref (ca_a κ (14, 0, 0))), (1, .ref (ca_a κ (1, 0, 0))), (2, .int x2), (3, .int x3)]) dX5_look_145 rfl rfl (by decide) rfl (q := 148) rfl ?_
        refine ca_goto hC dX5_look_148 (q := 102) rfl ?_
        exact ca_pick [1, 2, 3, 4, 0] rfl (ih σ (x4 + 1))
      · refine ca_aload_n hC 0 dX5_look_120 rfl rfl (q := 121) rfl ?_
        refine ca_aload_n hC 1 dX5_look_121 rfl rfl (q := 122) rfl ?_
        refine ca_iload hC 4 dX5_look_122 rfl (q := 124) rfl ?_
        refine ca_al1 hC  dX5_look_124 (q := 125) rfl (fun h51 => ?_)
        refine ca_callVr hC (rest := []) (cm_X5_off κ.1 κ.2.2.2.1 σ (Int32.toNatClampNeg x4) (ca_in_lt h51)) ca_Y_X5_off ca_L_X5_35 ca_m14 rfl rfl rfl rfl (Nat.le_of_ble_eq_true rfl) ⟨Nat.le_of_ble_eq_true rfl, Nat.le_of_ble_eq_true rfl⟩ dX5_look_125 (q := 128) rfl (fun r52 h54 => ?_)
        refine ca_iload_n hC 3 dX5_look_128 rfl rfl (q := 129) rfl ?_
        refine ca_icmp_le hC dX5_look_129 (t := 145) (q := 132) rfl rfl (fun h55 => ?_) (fun h56 => ?_)
        · refine ca_iinc hC 4 (v := (x4 + 1)) (lv' := [(4, .int (x4 + 1)), (0, .ref (ca_a κ (14, 0, 0))), (1, .ref (ca_a κ (1, 0, 0))), (2, .int x2), (3, .int x3)]) dX5_look_145 rfl rfl (by decide) rfl (q := 148) rfl ?_
          refine ca_goto hC dX5_look_148 (q := 102) rfl ?_
          exact ca_pick [1, 2, 3, 4, 0] rfl (ih σ (x4 + 1))
        · refine ca_aload_n hC 0 dX5_look_132 rfl rfl (q := 133) rfl ?_
          refine ca_dup hC dX5_look_133 rfl (q := 134) rfl ?_
          refine cg_X5_39 hC  dX5_look_134 (q := 137) rfl ?_
          refine ca_iconst hC (v := 1) dX5_look_137 rfl (q := 138) rfl ?_
          refine ca_iload hC 4 dX5_look_138 rfl (q := 140) rfl ?_
          refine ca_ishl hC dX5_look_140 (q := 141) rfl ?_
          refine ca_ior hC dX5_look_141 (q := 142) rfl ?_
          refine cp_X5_39 hC  dX5_look_142 (q := 145) rfl ?_
          refine ca_let (fun σ57 _ => ?_)
          refine ca_iinc hC 4 (v := (x4 + 1)) (lv' := [(4, .int (x4 + 1)), (0, .ref (ca_a κ (14, 0, 0))), (1, .ref (ca_a κ (1, 0, 0))), (2, .int x2), (3, .int x3)]) dX5_look_145 rfl rfl (by decide) rfl (q := 148) rfl ?_
          refine ca_goto hC dX5_look_148 (q := 102) rfl ?_
          exact ca_pick [1, 2, 3, 4, 0] rfl (ih σ57 (x4 + 1))
set_option maxRecDepth 100000 in
set_option maxHeartbeats 4000000 in
theorem ct_X5_look {κ : ca_K} (hC : ca_C κ ca_cC cX5_look 5 RX5 none 2 42) (σ : ca_S) (x2 : Int32) : ca_T κ (ca_Zv κ) σ 0 [(0, .ref (ca_a κ (14, 0, 0))), (1, .ref (ca_a κ (1, 0, 0))), (2, .int x2)] [] (cf_X5_look σ x2) := by
  unfold cf_X5_look
  refine ca_aload_n hC 0 dX5_look_0 rfl rfl (q := 1) rfl ?_
  refine ca_iconst hC (v := 0) dX5_look_1 rfl (q := 2) rfl ?_
  refine cp_X5_15 hC  dX5_look_2 (q := 5) rfl ?_
  refine ca_let (fun σ1 _ => ?_)
  refine ca_iconst hC (v := 0) dX5_look_5 rfl (q := 6) rfl ?_
  refine ca_istore_n hC (lv' := [(3, .int 0), (0, .ref (ca_a κ (14, 0, 0))), (1, .ref (ca_a κ (1, 0, 0))), (2, .int x2)]) dX5_look_6 rfl (by decide) rfl (q := 7) rfl ?_
  refine ca_pick [1, 2, 3, 0] rfl (ct_X5_look_7 hC x2 ?_ ca_FU σ1 0)
  intro σ17
  refine ca_aload_n hC 0 dX5_look_39 rfl rfl (q := 40) rfl ?_
  refine ca_aload_n hC 0 dX5_look_40 rfl rfl (q := 41) rfl ?_
  refine ca_callVr hC (rest := [.ref (ca_a κ (14, 0, 0))]) (cm_X5_lesserMiddle κ.1 κ.2.2.2.1 σ17) ca_Y_X5_lesserMiddle ca_L_X5_29 ca_m14 rfl rfl rfl rfl (Nat.le_of_ble_eq_true rfl) ⟨Nat.le_of_ble_eq_true rfl, Nat.le_of_ble_eq_true rfl⟩ dX5_look_41 (q := 44) rfl (fun r18 h20 => ?_)
  refine cp_X5_32 hC  dX5_look_44 (q := 47) rfl ?_
  refine ca_let (fun σ21 _ => ?_)
  refine ca_aload_n hC 0 dX5_look_47 rfl rfl (q := 48) rfl ?_
  refine ca_iconst hC (v := 0) dX5_look_48 rfl (q := 49) rfl ?_
  refine cp_X5_15 hC  dX5_look_49 (q := 52) rfl ?_
  refine ca_let (fun σ22 _ => ?_)
  refine ca_iconst hC (v := 0) dX5_look_52 rfl (q := 53) rfl ?_
  refine ca_istore_n hC (lv' := [(3, .int 0), (0, .ref (ca_a κ (14, 0, 0))), (1, .ref (ca_a κ (1, 0, 0))), (2, .int x2)]) dX5_look_53 rfl (by decide) rfl (q := 54) rfl ?_
  refine ca_pick [1, 2, 3, 0] rfl (ct_X5_look_54 hC x2 ?_ ca_FU σ22 0)
  intro σ38
  refine ca_iconst hC (v := 3) dX5_look_87 rfl (q := 88) rfl ?_
  refine ca_aload_n hC 0 dX5_look_88 rfl rfl (q := 89) rfl ?_
  refine ca_callVr hC (rest := [.int 3]) (cm_X5_lesserMiddle κ.1 κ.2.2.2.1 σ38) ca_Y_X5_lesserMiddle ca_L_X5_29 ca_m14 rfl rfl rfl rfl (Nat.le_of_ble_eq_true rfl) ⟨Nat.le_of_ble_eq_true rfl, Nat.le_of_ble_eq_true rfl⟩ dX5_look_89 (q := 92) rfl (fun r39 h41 => ?_)
  refine ca_imul hC dX5_look_92 (q := 93) rfl ?_
  refine ca_istore_n hC (lv' := [(3, .int (3 * r39)), (0, .ref (ca_a κ (14, 0, 0))), (1, .ref (ca_a κ (1, 0, 0))), (2, .int x2)]) dX5_look_93 rfl (by decide) rfl (q := 94) rfl ?_
  refine ca_aload_n hC 1 dX5_look_94 rfl rfl (q := 95) rfl ?_
  refine ca_iconst hC (v := 0) dX5_look_95 rfl (q := 96) rfl ?_
  refine cp_X5_39 hC  dX5_look_96 (q := 99) rfl ?_
  refine ca_let (fun σ42 _ => ?_)
  refine ca_iconst hC (v := 0) dX5_look_99 rfl (q := 100) rfl ?_
  refine ca_istore hC (lv' := [(4, .int 0), (3, .int (3 * r39)), (0, .ref (ca_a κ (14, 0, 0))), (1, .ref (ca_a κ (1, 0, 0))), (2, .int x2)]) dX5_look_100 (by decide) rfl (q := 102) rfl ?_
  refine ca_pick [2, 3, 4, 1, 0] rfl (ct_X5_look_102 hC x2 (3 * r39) ?_ ca_FU σ42 0)
  intro σ58
  exact ca_vret hC dX5_look_151
theorem cm_X5_look (Γ : ca_G) (l : Launch) (σ : ca_S) (x2 : Int32) : ca_Mv Γ ca_cC l yX5_look cX5_look 5 none 2 42 [.ref (Γ.2.1 (14, 0, 0)), .ref (Γ.2.1 (1, 0, 0)), .int x2] σ (cf_X5_look σ x2) :=
  ca_met (by decide) (Nat.le_of_ble_eq_true rfl) rfl (fun κ h1 h2 hC => by
    subst h1
    have h := ct_X5_look hC σ x2
    unfold ca_Zv at h
    rw [h2] at h
    exact h)
-- X6_put
set_option maxRecDepth 100000 in
set_option maxHeartbeats 4000000 in
theorem ct_X6_put {κ : ca_K} (hC : ca_C κ ca_cC cX6_put 5 RX6 none 0 0) (σ : ca_S) (x1 : Int32) (x2 : Int32) (x3 : Int32) (i4 : Nat) (hi4 : i4 < 16) : ca_T κ (ca_Zv κ) σ 0 [(0, .ref (ca_a κ (8, 0, 0))), (1, .int x1), (2, .int x2), (3, .int x3), (4, .ref (ca_a κ (2, i4, 0)))] [] (cf_X6_put σ x1 x2 x3 i4) := by
  unfold cf_X6_put
  refine ca_aload_n hC 0 dX6_put_0 rfl rfl (q := 1) rfl ?_
  refine cg_X6_32 hC  dX6_put_1 (q := 4) rfl ?_
  refine ca_sipush hC (v := 320) dX6_put_4 rfl (q := 7) rfl ?_
  refine ca_icmp_lt hC dX6_put_7 (t := 11) (q := 10) rfl rfl (fun h1 => ?_) (fun h2 => ?_)
  · refine ca_aload_n hC 0 dX6_put_11 rfl rfl (q := 12) rfl ?_
    refine cg_X6_13 hC  dX6_put_12 (q := 15) rfl ?_
    refine ca_aload_n hC 0 dX6_put_15 rfl rfl (q := 16) rfl ?_
    refine cg_X6_32 hC  dX6_put_16 (q := 19) rfl ?_
    refine ca_iload_n hC 1 dX6_put_19 rfl rfl (q := 20) rfl ?_
    refine ca_istQ hC (n := 320) (ca_m9 (k := 0) (by decide)) rfl rfl rfl dX6_put_20 (q := 21) rfl (fun h3 => ?_)
    refine ca_let (fun σ4 _ => ?_)
    refine ca_aload_n hC 0 dX6_put_21 rfl rfl (q := 22) rfl ?_
    refine cg_X6_17 hC  dX6_put_22 (q := 25) rfl ?_
    refine ca_aload_n hC 0 dX6_put_25 rfl rfl (q := 26) rfl ?_
    refine cg_X6_32 hC  dX6_put_26 (q := 29) rfl ?_
    refine ca_iload_n hC 2 dX6_put_29 rfl rfl (q := 30) rfl ?_
    refine ca_istQ hC (n := 320) (ca_m9 (k := 1) (by decide)) rfl rfl rfl dX6_put_30 (q := 31) rfl (fun h5 => ?_)
    refine ca_let (fun σ6 _ => ?_)
    refine ca_aload_n hC 0 dX6_put_31 rfl rfl (q := 32) rfl ?_
    refine cg_X6_20 hC  dX6_put_32 (q := 35) rfl ?_
    refine ca_aload_n hC 0 dX6_put_35 rfl rfl (q := 36) rfl ?_
    refine cg_X6_32 hC  dX6_put_36 (q := 39) rfl ?_
    refine ca_iload_n hC 3 dX6_put_39 rfl rfl (q := 40) rfl ?_
    refine ca_istQ hC (n := 320) (ca_m9 (k := 2) (by decide)) rfl rfl rfl dX6_put_40 (q := 41) rfl (fun h7 => ?_)
    refine ca_let (fun σ8 _ => ?_)
    refine ca_aload_n hC 0 dX6_put_41 rfl rfl (q := 42) rfl ?_
    refine cg_X6_23 hC  dX6_put_42 (q := 45) rfl ?_
    refine ca_aload_n hC 0 dX6_put_45 rfl rfl (q := 46) rfl ?_
    refine cg_X6_32 hC  dX6_put_46 (q := 49) rfl ?_
    refine ca_aload hC 4 dX6_put_49 rfl (q := 51) rfl ?_
    refine cg_X6_36 hC hi4 dX6_put_51 (q := 54) rfl ?_
    refine ca_istQ hC (n := 320) (ca_m9 (k := 3) (by decide)) rfl rfl rfl dX6_put_54 (q := 55) rfl (fun h9 => ?_)
    refine ca_let (fun σ10 _ => ?_)
    refine ca_aload_n hC 0 dX6_put_55 rfl rfl (q := 56) rfl ?_
    refine cg_X6_26 hC  dX6_put_56 (q := 59) rfl ?_
    refine ca_aload_n hC 0 dX6_put_59 rfl rfl (q := 60) rfl ?_
    refine cg_X6_32 hC  dX6_put_60 (q := 63) rfl ?_
    refine ca_aload hC 4 dX6_put_63 rfl (q := 65) rfl ?_
    refine cg_X6_41 hC hi4 dX6_put_65 (q := 68) rfl ?_
    refine ca_istQ hC (n := 320) (ca_m9 (k := 4) (by decide)) rfl rfl rfl dX6_put_68 (q := 69) rfl (fun h11 => ?_)
    refine ca_let (fun σ12 _ => ?_)
    refine ca_aload_n hC 0 dX6_put_69 rfl rfl (q := 70) rfl ?_
    refine cg_X6_29 hC  dX6_put_70 (q := 73) rfl ?_
    refine ca_aload_n hC 0 dX6_put_73 rfl rfl (q := 74) rfl ?_
    refine cg_X6_32 hC  dX6_put_74 (q := 77) rfl ?_
    refine ca_aload hC 4 dX6_put_77 rfl (q := 79) rfl ?_
    refine cg_X6_44 hC hi4 dX6_put_79 (q := 82) rfl ?_
    refine ca_istQ hC (n := 320) (ca_m9 (k := 5) (by decide)) rfl rfl rfl dX6_put_82 (q := 83) rfl (fun h13 => ?_)
    refine ca_let (fun σ14 _ => ?_)
    refine ca_aload_n hC 0 dX6_put_83 rfl rfl (q := 84) rfl ?_
    refine ca_dup hC dX6_put_84 rfl (q := 85) rfl ?_
    refine cg_X6_32 hC  dX6_put_85 (q := 88) rfl ?_
    refine ca_iconst hC (v := 1) dX6_put_88 rfl (q := 89) rfl ?_
    refine ca_iadd hC dX6_put_89 (q := 90) rfl ?_
    refine cp_X6_32 hC  dX6_put_90 (q := 93) rfl ?_
    refine ca_let (fun σ15 _ => ?_)
    exact ca_vret hC dX6_put_93
  · exact ca_vret hC dX6_put_10
theorem cm_X6_put (Γ : ca_G) (l : Launch) (σ : ca_S) (x1 : Int32) (x2 : Int32) (x3 : Int32) (i4 : Nat) (hi4 : i4 < 16) : ca_Mv Γ ca_cC l yX6_put cX6_put 5 none 0 0 [.ref (Γ.2.1 (8, 0, 0)), .int x1, .int x2, .int x3, .ref (Γ.2.1 (2, i4, 0))] σ (cf_X6_put σ x1 x2 x3 i4) :=
  ca_met (by decide) (Nat.le_of_ble_eq_true rfl) rfl (fun κ h1 h2 hC => by
    subst h1
    have h := ct_X6_put hC σ x1 x2 x3 i4 hi4
    unfold ca_Zv at h
    rw [h2] at h
    exact h)
-- X6_move
set_option maxRecDepth 100000 in
set_option maxHeartbeats 4000000 in
theorem ct_X6_move {κ : ca_K} (hC : ca_C κ ca_cC cX6_move 3 RX6 none 0 0) (σ : ca_S) (x1 : Int32) (x2 : Int32) : ca_T κ (ca_Zv κ) σ 0 [(0, .ref (ca_a κ (8, 0, 0))), (1, .int x1), (2, .int x2)] [] (cf_X6_move σ x1 x2) := by
  unfold cf_X6_move
  refine ca_aload_n hC 0 dX6_move_0 rfl rfl (q := 1) rfl ?_
  refine cg_X6_13 hC  dX6_move_1 (q := 4) rfl ?_
  refine ca_iload_n hC 2 dX6_move_4 rfl rfl (q := 5) rfl ?_
  refine ca_aload_n hC 0 dX6_move_5 rfl rfl (q := 6) rfl ?_
  refine cg_X6_13 hC  dX6_move_6 (q := 9) rfl ?_
  refine ca_iload_n hC 1 dX6_move_9 rfl rfl (q := 10) rfl ?_
  refine ca_ildQ hC (n := 320) (ca_m9 (k := 0) (by decide)) rfl rfl rfl dX6_move_10 (q := 11) rfl (fun h1 => ?_)
  refine ca_istQ hC (n := 320) (ca_m9 (k := 0) (by decide)) rfl rfl rfl dX6_move_11 (q := 12) rfl (fun h2 => ?_)
  refine ca_let (fun σ3 _ => ?_)
  refine ca_aload_n hC 0 dX6_move_12 rfl rfl (q := 13) rfl ?_
  refine cg_X6_17 hC  dX6_move_13 (q := 16) rfl ?_
  refine ca_iload_n hC 2 dX6_move_16 rfl rfl (q := 17) rfl ?_
  refine ca_aload_n hC 0 dX6_move_17 rfl rfl (q := 18) rfl ?_
  refine cg_X6_17 hC  dX6_move_18 (q := 21) rfl ?_
  refine ca_iload_n hC 1 dX6_move_21 rfl rfl (q := 22) rfl ?_
  refine ca_ildQ hC (n := 320) (ca_m9 (k := 1) (by decide)) rfl rfl rfl dX6_move_22 (q := 23) rfl (fun h4 => ?_)
  refine ca_istQ hC (n := 320) (ca_m9 (k := 1) (by decide)) rfl rfl rfl dX6_move_23 (q := 24) rfl (fun h5 => ?_)
  refine ca_let (fun σ6 _ => ?_)
  refine ca_aload_n hC 0 dX6_move_24 rfl rfl (q := 25) rfl ?_
  refine cg_X6_20 hC  dX6_move_25 (q := 28) rfl ?_
  refine ca_iload_n hC 2 dX6_move_28 rfl rfl (q := 29) rfl ?_
  refine ca_aload_n hC 0 dX6_move_29 rfl rfl (q := 30) rfl ?_
  refine cg_X6_20 hC  dX6_move_30 (q := 33) rfl ?_
  refine ca_iload_n hC 1 dX6_move_33 rfl rfl (q := 34) rfl ?_
  refine ca_ildQ hC (n := 320) (ca_m9 (k := 2) (by decide)) rfl rfl rfl dX6_move_34 (q := 35) rfl (fun h7 => ?_)
  refine ca_istQ hC (n := 320) (ca_m9 (k := 2) (by decide)) rfl rfl rfl dX6_move_35 (q := 36) rfl (fun h8 => ?_)
  refine ca_let (fun σ9 _ => ?_)
  refine ca_aload_n hC 0 dX6_move_36 rfl rfl (q := 37) rfl ?_
  refine cg_X6_23 hC  dX6_move_37 (q := 40) rfl ?_
  refine ca_iload_n hC 2 dX6_move_40 rfl rfl (q := 41) rfl ?_
  refine ca_aload_n hC 0 dX6_move_41 rfl rfl (q := 42) rfl ?_
  refine cg_X6_23 hC  dX6_move_42 (q := 45) rfl ?_
  refine ca_iload_n hC 1 dX6_move_45 rfl rfl (q := 46) rfl ?_
  refine ca_ildQ hC (n := 320) (ca_m9 (k := 3) (by decide)) rfl rfl rfl dX6_move_46 (q := 47) rfl (fun h10 => ?_)
  refine ca_istQ hC (n := 320) (ca_m9 (k := 3) (by decide)) rfl rfl rfl dX6_move_47 (q := 48) rfl (fun h11 => ?_)
  refine ca_let (fun σ12 _ => ?_)
  refine ca_aload_n hC 0 dX6_move_48 rfl rfl (q := 49) rfl ?_
  refine cg_X6_26 hC  dX6_move_49 (q := 52) rfl ?_
  refine ca_iload_n hC 2 dX6_move_52 rfl rfl (q := 53) rfl ?_
  refine ca_aload_n hC 0 dX6_move_53 rfl rfl (q := 54) rfl ?_
  refine cg_X6_26 hC  dX6_move_54 (q := 57) rfl ?_
  refine ca_iload_n hC 1 dX6_move_57 rfl rfl (q := 58) rfl ?_
  refine ca_ildQ hC (n := 320) (ca_m9 (k := 4) (by decide)) rfl rfl rfl dX6_move_58 (q := 59) rfl (fun h13 => ?_)
  refine ca_istQ hC (n := 320) (ca_m9 (k := 4) (by decide)) rfl rfl rfl dX6_move_59 (q := 60) rfl (fun h14 => ?_)
  refine ca_let (fun σ15 _ => ?_)
  refine ca_aload_n hC 0 dX6_move_60 rfl rfl (q := 61) rfl ?_
  refine cg_X6_29 hC  dX6_move_61 (q := 64) rfl ?_
  refine ca_iload_n hC 2 dX6_move_64 rfl rfl (q := 65) rfl ?_
  refine ca_aload_n hC 0 dX6_move_65 rfl rfl (q := 66) rfl ?_
  refine cg_X6_29 hC  dX6_move_66 (q := 69) rfl ?_
  refine ca_iload_n hC 1 dX6_move_69 rfl rfl (q := 70) rfl ?_
  refine ca_ildQ hC (n := 320) (ca_m9 (k := 5) (by decide)) rfl rfl rfl dX6_move_70 (q := 71) rfl (fun h16 => ?_)
  refine ca_istQ hC (n := 320) (ca_m9 (k := 5) (by decide)) rfl rfl rfl dX6_move_71 (q := 72) rfl (fun h17 => ?_)
  refine ca_let (fun σ18 _ => ?_)
  exact ca_vret hC dX6_move_72
theorem cm_X6_move (Γ : ca_G) (l : Launch) (σ : ca_S) (x1 : Int32) (x2 : Int32) : ca_Mv Γ ca_cC l yX6_move cX6_move 3 none 0 0 [.ref (Γ.2.1 (8, 0, 0)), .int x1, .int x2] σ (cf_X6_move σ x1 x2) :=
  ca_met (by decide) (Nat.le_of_ble_eq_true rfl) rfl (fun κ h1 h2 hC => by
    subst h1
    have h := ct_X6_move hC σ x1 x2
    unfold ca_Zv at h
    rw [h2] at h
    exact h)
-- X6_bringWhatIsDue
set_option maxRecDepth 100000 in
set_option maxHeartbeats 4000000 in
theorem ct_X6_bringWhatIsDue_6 {κ : ca_K} (hC : ca_C κ ca_cC cX6_bringWhatIsDue 7 RX6 none 2 44) (x1 : Int32) (x2 : Int32) {K : ca_S → Int32 → Option (ca_S)} (hK : ∀ (σ : ca_S) (x4 : Int32), ca_T κ (ca_Zv κ) σ 103 [(0, .ref (ca_a κ (8, 0, 0))), (4, .int x4)] [] (K σ x4)) : ∀ (n : Nat) (σ : ca_S) (x4 : Int32) (x5 : Int32), ca_T κ (ca_Zv κ) σ 6 [(0, .ref (ca_a κ (8, 0, 0))), (1, .int x1), (2, .int x2), (3, .ref (ca_a κ (1, 0, 0))), (4, .int x4), (5, .int x5)] [] (cl_X6_bringWhatIsDue_6 x1 x2 K n σ x4 x5) := by
  intro n
  induction n with
  | zero => intro σ x4 x5; exact ca_no
  | succ n ih =>
    intro σ x4 x5
    rw [cl_X6_bringWhatIsDue_6]
    refine ca_iload hC 5 dX6_bringWhatIsDue_6 rfl (q := 8) rfl ?_
    refine ca_aload_n hC 0 dX6_bringWhatIsDue_8 rfl rfl (q := 9) rfl ?_
    refine cg_X6_32 hC  dX6_bringWhatIsDue_9 (q := 12) rfl ?_
    refine ca_icmp_ge hC dX6_bringWhatIsDue_12 (t := 103) (q := 15) rfl rfl (fun h1 => ?_) (fun h2 => ?_)
    · exact ca_pick [0, 4] rfl (hK σ x4)
    · refine ca_aload_n hC 0 dX6_bringWhatIsDue_15 rfl rfl (q := 16) rfl ?_
      refine cg_X6_13 hC  dX6_bringWhatIsDue_16 (q := 19) rfl ?_
      refine ca_iload hC 5 dX6_bringWhatIsDue_19 rfl (q := 21) rfl ?_
      refine ca_ildQ hC (n := 320) (ca_m9 (k := 0) (by decide)) rfl rfl rfl dX6_bringWhatIsDue_21 (q := 22) rfl (fun h3 => ?_)
      refine ca_iload_n hC 1 dX6_bringWhatIsDue_22 rfl rfl (q := 23) rfl ?_
      refine ca_icmp_ne hC dX6_bringWhatIsDue_23 (t := 86) (q := 26) rfl rfl (fun h4 => ?_) (fun h5 => ?_)
      · refine ca_aload_n hC 0 dX6_bringWhatIsDue_86 rfl rfl (q := 87) rfl ?_
        refine ca_iload hC 5 dX6_bringWhatIsDue_87 rfl (q := 89) rfl ?_
        refine ca_iload hC 4 dX6_bringWhatIsDue_89 rfl (q := 91) rfl ?_
        refine ca_callVv hC (rest := []) (cm_X6_move κ.1 κ.2.2.2.1 σ x5 x4) ca_Y_X6_move ca_L_X6_56 ca_m8 rfl rfl rfl rfl (Nat.le_of_ble_eq_true rfl) ⟨Nat.le_of_ble_eq_true rfl, Nat.le_of_ble_eq_true rfl⟩ dX6_bringWhatIsDue_91 (q := 94) rfl (fun σ7 h8 => ?_)
        refine ca_iinc hC 4 (v := (x4 + 1)) (lv' := [(4, .int (x4 + 1)), (0, .ref (ca_a κ (8, 0, 0))), (1, .int x1), (2, .int x2), (3, .ref (ca_a κ (1, 0, 0))), (5, .int x5)]) dX6_bringWhatIsDue_94 rfl rfl (by decide) rfl (q := 97) rfl ?_
        refine ca_iinc hC 5 (v := (x5 + 1)) (lv' := [(5, .int (x5 + 1)), (4, .int (x4 + 1)), (0, .ref (ca_a κ (8, 0, 0))), (1, .int x1), (2, .int x2), (3, .ref (ca_a κ (1, 0, 0)))]) dX6_bringWhatIsDue_97 rfl rfl (by decide) rfl (q := 100) rfl ?_
        refine ca_goto hC dX6_bringWhatIsDue_100 (q := 6) rfl ?_
        exact ca_pick [2, 3, 4, 5, 1, 0] rfl (ih σ7 (x4 + 1) (x5 + 1))
      · refine ca_aload_n hC 3 dX6_bringWhatIsDue_26 rfl rfl (q := 27) rfl ?_
        refine ca_aload_n hC 0 dX6_bringWhatIsDue_27 rfl rfl (q := 28) rfl ?_
        refine cg_X6_17 hC  dX6_bringWhatIsDue_28 (q := 31) rfl ?_
        refine ca_iload hC 5 dX6_bringWhatIsDue_31 rfl (q := 33) rfl ?_
        refine ca_ildQ hC (n := 320) (ca_m9 (k := 1) (by decide)) rfl rfl rfl dX6_bringWhatIsDue_33 (q := 34) rfl (fun h9 => ?_)
        refine ca_al1 hC  dX6_bringWhatIsDue_34 (q := 35) rfl (fun h10 => ?_)
        refine cg_X6_46 hC (ca_in_lt h10) dX6_bringWhatIsDue_35 (q := 38) rfl ?_
        refine ca_aload_n hC 0 dX6_bringWhatIsDue_38 rfl rfl (q := 39) rfl ?_
        refine cg_X6_20 hC  dX6_bringWhatIsDue_39 (q := 42) rfl ?_
        refine ca_iload hC 5 dX6_bringWhatIsDue_42 rfl (q := 44) rfl ?_
        refine ca_ildQ hC (n := 320) (ca_m9 (k := 2) (by decide)) rfl rfl rfl dX6_bringWhatIsDue_44 (q := 45) rfl (fun h11 => ?_)
        refine ca_al5 hC (ca_in_lt h10) dX6_bringWhatIsDue_45 (q := 46) rfl (fun h12 => ?_)
        refine ca_astore hC (lv' := [(6, .ref (ca_a κ (6, (Int32.toNatClampNeg (σ.1 (9, 1, 0) (Int32.toNatClampNeg x5))), (Int32.toNatClampNeg (σ.1 (9, 2, 0) (Int32.toNatClampNeg x5)))))), (0, .ref (ca_a κ (8, 0, 0))), (1, .int x1), (2, .int x2), (3, .ref (ca_a κ (1, 0, 0))), (4, .int x4), (5, .int x5)]) dX6_bringWhatIsDue_46 (by decide) rfl (q := 48) rfl ?_
        refine ca_aload hC 0 dX6_bringWhatIsDue_48 rfl (q := 50) rfl ?_
        refine ca_aload_n hC 1 dX6_bringWhatIsDue_50 rfl rfl (q := 51) rfl ?_
        refine cg_X6_23 hC  dX6_bringWhatIsDue_51 (q := 54) rfl ?_
        refine ca_iload hC 6 dX6_bringWhatIsDue_54 rfl (q := 56) rfl ?_
        refine ca_ildQ hC (n := 320) (ca_m9 (k := 3) (by decide)) rfl rfl rfl dX6_bringWhatIsDue_56 (q := 57) rfl (fun h13 => ?_)
        refine ca_aload_n hC 1 dX6_bringWhatIsDue_57 rfl rfl (q := 58) rfl ?_
        refine cg_X6_26 hC  dX6_bringWhatIsDue_58 (q := 61) rfl ?_
        refine ca_iload hC 6 dX6_bringWhatIsDue_61 rfl (q := 63) rfl ?_
        refine ca_ildQ hC (n := 320) (ca_m9 (k := 4) (by decide)) rfl rfl rfl dX6_bringWhatIsDue_63 (q := 64) rfl (fun h14 => ?_)
        refine ca_aload_n hC 1 dX6_bringWhatIsDue_64 rfl rfl (q := 65) rfl ?_
        refine cg_X6_29 hC  dX6_bringWhatIsDue_65 (q := 68) rfl ?_
        refine ca_iload hC 6 dX6_bringWhatIsDue_68 rfl (q := 70) rfl ?_
        refine ca_ildQ hC (n := 320) (ca_m9 (k := 5) (by decide)) rfl rfl rfl dX6_bringWhatIsDue_70 (q := 71) rfl (fun h15 => ?_)
        refine ca_iload_n hC 3 dX6_bringWhatIsDue_71 rfl rfl (q := 72) rfl ?_
        refine ca_icmp_ge hC dX6_bringWhatIsDue_72 (t := 79) (q := 75) rfl rfl (fun h16 => ?_) (fun h17 => ?_)
        · refine ca_iconst hC (v := 0) dX6_bringWhatIsDue_79 rfl (q := 80) rfl ?_
          refine ca_callVv hC (rest := []) (cm_X2_take κ.1 κ.2.2.2.1 σ (Int32.toNatClampNeg (σ.1 (9, 1, 0) (Int32.toNatClampNeg x5))) (Int32.toNatClampNeg (σ.1 (9, 2, 0) (Int32.toNatClampNeg x5))) (σ.1 (9, 3, 0) (Int32.toNatClampNeg x5)) (σ.1 (9, 4, 0) (Int32.toNatClampNeg x5)) 0 (ca_in_lt h10) (ca_in_lt h12)) ca_Y_X2_take ca_L_X6_50 (ca_m6 (ca_in_lt h10) (ca_in_lt h12)) rfl rfl rfl rfl (Nat.le_of_ble_eq_true rfl) ⟨Nat.le_of_ble_eq_true rfl, Nat.le_of_ble_eq_true rfl⟩ dX6_bringWhatIsDue_80 (q := 83) rfl (fun σ19 h20 => ?_)
          refine ca_goto hC dX6_bringWhatIsDue_83 (q := 97) rfl ?_
          refine ca_iinc hC 6 (v := (x5 + 1)) (lv' := [(5, .int (x5 + 1)), (6, .ref (ca_a κ (6, (Int32.toNatClampNeg (σ.1 (9, 1, 0) (Int32.toNatClampNeg x5))), (Int32.toNatClampNeg (σ.1 (9, 2, 0) (Int32.toNatClampNeg x5)))))), (0, .ref (ca_a κ (8, 0, 0))), (1, .int x1), (2, .int x2), (3, .ref (ca_a κ (1, 0, 0))), (4, .int x4)]) dX6_bringWhatIsDue_97 rfl rfl (by decide) rfl (q := 100) rfl ?_
          refine ca_goto hC dX6_bringWhatIsDue_100 (q := 6) rfl ?_
          exact ca_pick [2, 3, 4, 5, 6, 0] rfl (ih σ19 x4 (x5 + 1))
        · refine ca_iconst hC (v := 1) dX6_bringWhatIsDue_75 rfl (q := 76) rfl ?_
          refine ca_goto hC dX6_bringWhatIsDue_76 (q := 80) rfl ?_
          refine ca_callVv hC (rest := []) (cm_X2_take κ.1 κ.2.2.2.1 σ (Int32.toNatClampNeg (σ.1 (9, 1, 0) (Int32.toNatClampNeg x5))) (Int32.toNatClampNeg (σ.1 (9, 2, 0) (Int32.toNatClampNeg x5))) (σ.1 (9, 3, 0) (Int32.toNatClampNeg x5)) (σ.1 (9, 4, 0) (Int32.toNatClampNeg x5)) 1 (ca_in_lt h10) (ca_in_lt h12)) ca_Y_X2_take ca_L_X6_50 (ca_m6 (ca_in_lt h10) (ca_in_lt h12)) rfl rfl rfl rfl (Nat.le_of_ble_eq_true rfl) ⟨Nat.le_of_ble_eq_true rfl, Nat.le_of_ble_eq_true rfl⟩ dX6_bringWhatIsDue_80 (q := 83) rfl (fun σ22 h23 => ?_)
          refine ca_goto hC dX6_bringWhatIsDue_83 (q := 97) rfl ?_
          refine ca_iinc hC 6 (v := (x5 + 1)) (lv' := [(5, .int (x5 + 1)), (6, .ref (ca_a κ (6, (Int32.toNatClampNeg (σ.1 (9, 1, 0) (Int32.toNatClampNeg x5))), (Int32.toNatClampNeg (σ.1 (9, 2, 0) (Int32.toNatClampNeg x5)))))), (0, .ref (ca_a κ (8, 0, 0))), (1, .int x1), (2, .int x2), (3, .ref (ca_a κ (1, 0, 0))), (4, .int x4)]) dX6_bringWhatIsDue_97 rfl rfl (by decide) rfl (q := 100) rfl ?_
          refine ca_goto hC dX6_bringWhatIsDue_100 (q := 6) rfl ?_
          exact ca_pick [2, 3, 4, 5, 6, 0] rfl (ih σ22 x4 (x5 + 1))
set_option maxRecDepth 100000 in
set_option maxHeartbeats 4000000 in
theorem ct_X6_bringWhatIsDue {κ : ca_K} (hC : ca_C κ ca_cC cX6_bringWhatIsDue 7 RX6 none 2 44) (σ : ca_S) (x1 : Int32) (x2 : Int32) : ca_T κ (ca_Zv κ) σ 0 [(0, .ref (ca_a κ (8, 0, 0))), (1, .int x1), (2, .int x2), (3, .ref (ca_a κ (1, 0, 0)))] [] (cf_X6_bringWhatIsDue σ x1 x2) := by
  unfold cf_X6_bringWhatIsDue
  refine ca_iconst hC (v := 0) dX6_bringWhatIsDue_0 rfl (q := 1) rfl ?_
  refine ca_istore hC (lv' := [(4, .int 0), (0, .ref (ca_a κ (8, 0, 0))), (1, .int x1), (2, .int x2), (3, .ref (ca_a κ (1, 0, 0)))]) dX6_bringWhatIsDue_1 (by decide) rfl (q := 3) rfl ?_
  refine ca_iconst hC (v := 0) dX6_bringWhatIsDue_3 rfl (q := 4) rfl ?_
  refine ca_istore hC (lv' := [(5, .int 0), (4, .int 0), (0, .ref (ca_a κ (8, 0, 0))), (1, .int x1), (2, .int x2), (3, .ref (ca_a κ (1, 0, 0)))]) dX6_bringWhatIsDue_4 (by decide) rfl (q := 6) rfl ?_
  refine ca_pick [2, 3, 4, 5, 1, 0] rfl (ct_X6_bringWhatIsDue_6 hC x1 x2 ?_ ca_FU σ 0 0)
  intro σ24 x25
  refine ca_aload_n hC 0 dX6_bringWhatIsDue_103 rfl rfl (q := 104) rfl ?_
  refine ca_iload hC 1 dX6_bringWhatIsDue_104 rfl (q := 106) rfl ?_
  refine cp_X6_32 hC  dX6_bringWhatIsDue_106 (q := 109) rfl ?_
  refine ca_let (fun σ26 _ => ?_)
  exact ca_vret hC dX6_bringWhatIsDue_109
theorem cm_X6_bringWhatIsDue (Γ : ca_G) (l : Launch) (σ : ca_S) (x1 : Int32) (x2 : Int32) : ca_Mv Γ ca_cC l yX6_bringWhatIsDue cX6_bringWhatIsDue 7 none 2 44 [.ref (Γ.2.1 (8, 0, 0)), .int x1, .int x2, .ref (Γ.2.1 (1, 0, 0))] σ (cf_X6_bringWhatIsDue σ x1 x2) :=
  ca_met (by decide) (Nat.le_of_ble_eq_true rfl) rfl (fun κ h1 h2 hC => by
    subst h1
    have h := ct_X6_bringWhatIsDue hC σ x1 x2
    unfold ca_Zv at h
    rw [h2] at h
    exact h)
-- X7_isKind
set_option maxRecDepth 100000 in
set_option maxHeartbeats 4000000 in
theorem ct_X7_isKind {κ : ca_K} (hC : ca_C κ ca_cC cX7_isKind 2 RX7 (some .boolean) 1 22) (σ : ca_S) (x0 : Int32) (x1 : Int32) : ca_T κ (ca_Zr κ σ) σ 0 [(0, .int x0), (1, .int x1)] [] (cf_X7_isKind x0 x1) := by
  unfold cf_X7_isKind
  refine ca_iload_n hC 0 dX7_isKind_0 rfl rfl (q := 1) rfl ?_
  refine ca_if_eq hC dX7_isKind_1 (t := 23) (q := 4) rfl rfl (fun h1 => ?_) (fun h2 => ?_)
  · refine ca_iconst hC (v := 1) dX7_isKind_23 rfl (q := 24) rfl ?_
    refine ca_goto hC dX7_isKind_24 (q := 28) rfl ?_
    exact ca_iretr hC dX7_isKind_28 rfl
  · refine ca_iload_n hC 0 dX7_isKind_4 rfl rfl (q := 5) rfl ?_
    refine ca_iconst hC (v := 1) dX7_isKind_5 rfl (q := 6) rfl ?_
    refine ca_icmp_eq hC dX7_isKind_6 (t := 23) (q := 9) rfl rfl (fun h3 => ?_) (fun h4 => ?_)
    · refine ca_iconst hC (v := 1) dX7_isKind_23 rfl (q := 24) rfl ?_
      refine ca_goto hC dX7_isKind_24 (q := 28) rfl ?_
      exact ca_iretr hC dX7_isKind_28 rfl
    · refine ca_iload_n hC 0 dX7_isKind_9 rfl rfl (q := 10) rfl ?_
      refine ca_iconst hC (v := 2) dX7_isKind_10 rfl (q := 11) rfl ?_
      refine ca_icmp_ne hC dX7_isKind_11 (t := 27) (q := 14) rfl rfl (fun h5 => ?_) (fun h6 => ?_)
      · refine ca_iconst hC (v := 0) dX7_isKind_27 rfl (q := 28) rfl ?_
        exact ca_iretr hC dX7_isKind_28 rfl
      · refine ca_iload_n hC 1 dX7_isKind_14 rfl rfl (q := 15) rfl ?_
        refine ca_iconst hC (v := 2) dX7_isKind_15 rfl (q := 16) rfl ?_
        refine ca_iconst hC (v := 5) dX7_isKind_16 rfl (q := 17) rfl ?_
        refine ca_callSr hC (rest := []) (cm_X9_isWithin κ.1 κ.2.2.2.1 σ x1 2 5) ca_Y_X9_isWithin ca_L_X7_11  rfl rfl (Nat.le_of_ble_eq_true rfl) ⟨Nat.le_of_ble_eq_true rfl, Nat.le_of_ble_eq_true rfl⟩ dX7_isKind_17 (q := 20) rfl (fun r7 h9 => ?_)
        refine ca_if_eq hC dX7_isKind_20 (t := 27) (q := 23) rfl rfl (fun h10 => ?_) (fun h11 => ?_)
        · refine ca_iconst hC (v := 0) dX7_isKind_27 rfl (q := 28) rfl ?_
          exact ca_iretr hC dX7_isKind_28 rfl
        · refine ca_iconst hC (v := 1) dX7_isKind_23 rfl (q := 24) rfl ?_
          refine ca_goto hC dX7_isKind_24 (q := 28) rfl ?_
          exact ca_iretr hC dX7_isKind_28 rfl
theorem cm_X7_isKind (Γ : ca_G) (l : Launch) (σ : ca_S) (x0 : Int32) (x1 : Int32) : ca_Mr Γ ca_cC l yX7_isKind cX7_isKind 2 (some .boolean) 1 22 [.int x0, .int x1] σ (cf_X7_isKind x0 x1) :=
  ca_met (by decide) (Nat.le_of_ble_eq_true rfl) rfl (fun κ h1 h2 hC => by
    subst h1
    have h := ct_X7_isKind hC σ x0 x1
    unfold ca_Zr at h
    rw [h2] at h
    exact h)
-- X7_begin
set_option maxRecDepth 100000 in
set_option maxHeartbeats 4000000 in
theorem ct_X7_begin {κ : ca_K} (hC : ca_C κ ca_cC cX7_begin 4 RX7 none 0 0) (σ : ca_S) (x1 : Int32) (x2 : Int32) (x3 : Int32) : ca_T κ (ca_Zv κ) σ 0 [(0, .ref (ca_a κ (7, 0, 0))), (1, .int x1), (2, .int x2), (3, .int x3)] [] (cf_X7_begin σ x1 x2 x3) := by
  unfold cf_X7_begin
  refine ca_aload_n hC 0 dX7_begin_0 rfl rfl (q := 1) rfl ?_
  refine ca_iconst hC (v := 1) dX7_begin_1 rfl (q := 2) rfl ?_
  refine cp_X7_15 hC rfl dX7_begin_2 (q := 5) rfl ?_
  refine ca_let (fun σ1 _ => ?_)
  refine ca_aload_n hC 0 dX7_begin_5 rfl rfl (q := 6) rfl ?_
  refine ca_iload_n hC 1 dX7_begin_6 rfl rfl (q := 7) rfl ?_
  refine cp_X7_19 hC  dX7_begin_7 (q := 10) rfl ?_
  refine ca_let (fun σ2 _ => ?_)
  refine ca_aload_n hC 0 dX7_begin_10 rfl rfl (q := 11) rfl ?_
  refine ca_iload_n hC 1 dX7_begin_11 rfl rfl (q := 12) rfl ?_
  refine ca_iconst hC (v := 2) dX7_begin_12 rfl (q := 13) rfl ?_
  refine ca_icmp_ne hC dX7_begin_13 (t := 20) (q := 16) rfl rfl (fun h3 => ?_) (fun h4 => ?_)
  · refine ca_iconst hC (v := 0) dX7_begin_20 rfl (q := 21) rfl ?_
    refine cp_X7_23 hC  dX7_begin_21 (q := 24) rfl ?_
    refine ca_let (fun σ5 _ => ?_)
    refine ca_aload_n hC 0 dX7_begin_24 rfl rfl (q := 25) rfl ?_
    refine ca_iload_n hC 3 dX7_begin_25 rfl rfl (q := 26) rfl ?_
    refine cp_X7_26 hC  dX7_begin_26 (q := 29) rfl ?_
    refine ca_let (fun σ6 _ => ?_)
    exact ca_vret hC dX7_begin_29
  · refine ca_iload_n hC 2 dX7_begin_16 rfl rfl (q := 17) rfl ?_
    refine ca_goto hC dX7_begin_17 (q := 21) rfl ?_
    refine cp_X7_23 hC  dX7_begin_21 (q := 24) rfl ?_
    refine ca_let (fun σ7 _ => ?_)
    refine ca_aload_n hC 0 dX7_begin_24 rfl rfl (q := 25) rfl ?_
    refine ca_iload_n hC 3 dX7_begin_25 rfl rfl (q := 26) rfl ?_
    refine cp_X7_26 hC  dX7_begin_26 (q := 29) rfl ?_
    refine ca_let (fun σ8 _ => ?_)
    exact ca_vret hC dX7_begin_29
theorem cm_X7_begin (Γ : ca_G) (l : Launch) (σ : ca_S) (x1 : Int32) (x2 : Int32) (x3 : Int32) : ca_Mv Γ ca_cC l yX7_begin cX7_begin 4 none 0 0 [.ref (Γ.2.1 (7, 0, 0)), .int x1, .int x2, .int x3] σ (cf_X7_begin σ x1 x2 x3) :=
  ca_met (by decide) (Nat.le_of_ble_eq_true rfl) rfl (fun κ h1 h2 hC => by
    subst h1
    have h := ct_X7_begin hC σ x1 x2 x3
    unfold ca_Zv at h
    rw [h2] at h
    exact h)
-- X7_isOrder
set_option maxRecDepth 100000 in
set_option maxHeartbeats 4000000 in
theorem ct_X7_isOrder_21 {κ : ca_K} (hC : ca_C κ ca_cC cX7_isOrder 4 RX7 (some .boolean) 0 0) (σ : ca_S) (x1 : Int32) {K : Int32 → Option (Int32)} (hK : ∀ (x2 : Int32), ca_T κ (ca_Zr κ σ) σ 48 [(0, .ref (ca_a κ (7, 0, 0))), (2, .int x2)] [] (K x2)) : ∀ (n : Nat) (x2 : Int32) (x3 : Int32), ca_T κ (ca_Zr κ σ) σ 21 [(0, .ref (ca_a κ (7, 0, 0))), (1, .int x1), (2, .int x2), (3, .int x3)] [] (cl_X7_isOrder_21 σ x1 K n x2 x3) := by
  intro n
  induction n with
  | zero => intro x2 x3; exact ca_no
  | succ n ih =>
    intro x2 x3
    rw [cl_X7_isOrder_21]
    refine ca_iload_n hC 3 dX7_isOrder_21 rfl rfl (q := 22) rfl ?_
    refine ca_aload_n hC 0 dX7_isOrder_22 rfl rfl (q := 23) rfl ?_
    refine cg_X7_23 hC  dX7_isOrder_23 (q := 26) rfl ?_
    refine ca_icmp_ge hC dX7_isOrder_26 (t := 48) (q := 29) rfl rfl (fun h5 => ?_) (fun h6 => ?_)
    · exact ca_pick [0, 2] rfl (hK x2)
    · refine ca_iload_n hC 2 dX7_isOrder_29 rfl rfl (q := 30) rfl ?_
      refine ca_iconst hC (v := 1) dX7_isOrder_30 rfl (q := 31) rfl ?_
      refine ca_iload_n hC 1 dX7_isOrder_31 rfl rfl (q := 32) rfl ?_
      refine ca_iconst hC (v := 3) dX7_isOrder_32 rfl (q := 33) rfl ?_
      refine ca_iload_n hC 3 dX7_isOrder_33 rfl rfl (q := 34) rfl ?_
      refine ca_imul hC dX7_isOrder_34 (q := 35) rfl ?_
      refine ca_ishr hC dX7_isOrder_35 (q := 36) rfl ?_
      refine ca_bipush hC (v := 7) dX7_isOrder_36 rfl (q := 38) rfl ?_
      refine ca_iand hC dX7_isOrder_38 (q := 39) rfl ?_
      refine ca_ishl hC dX7_isOrder_39 (q := 40) rfl ?_
      refine ca_ior hC dX7_isOrder_40 (q := 41) rfl ?_
      refine ca_istore_n hC (lv' := [(2, .int (x2 ||| (1 <<< (((x1 >>> ((3 * x3) &&& 31)) &&& 7) &&& 31)))), (0, .ref (ca_a κ (7, 0, 0))), (1, .int x1), (3, .int x3)]) dX7_isOrder_41 rfl (by decide) rfl (q := 42) rfl ?_
      refine ca_letv (P := fun v7 X => ca_T κ (ca_Zr κ σ) σ 42 [(2, .int v7), (0, .ref (ca_a κ (7, 0, 0))), (1, .int x1), (3, .int x3)] [] X) (x2 ||| (1 <<< (((x1 >>> ((3 * x3) &&& 31)) &&& 7) &&& 31))) (fun v7 _ => ?_)
      refine ca_iinc hC 3 (v := (x3 + 1)) (lv' := [(3, .int (x3 + 1)), (2, .int v7), (0, .ref (ca_a κ (7, 0, 0))), (1, .int x1)]) dX7_isOrder_42 rfl rfl (by decide) rfl (q := 45) rfl ?_
      refine ca_goto hC dX7_isOrder_45 (q := 21) rfl ?_
      exact ca_pick [2, 3, 1, 0] rfl (ih v7 (x3 + 1))
set_option maxRecDepth 100000 in
set_option maxHeartbeats 4000000 in
theorem ct_X7_isOrder {κ : ca_K} (hC : ca_C κ ca_cC cX7_isOrder 4 RX7 (some .boolean) 0 0) (σ : ca_S) (x1 : Int32) : ca_T κ (ca_Zr κ σ) σ 0 [(0, .ref (ca_a κ (7, 0, 0))), (1, .int x1)] [] (cf_X7_isOrder σ x1) := by
  unfold cf_X7_isOrder
  refine ca_iload_n hC 1 dX7_isOrder_0 rfl rfl (q := 1) rfl ?_
  refine ca_if_lt hC dX7_isOrder_1 (t := 15) (q := 4) rfl rfl (fun h1 => ?_) (fun h2 => ?_)
  · refine ca_iconst hC (v := 0) dX7_isOrder_15 rfl (q := 16) rfl ?_
    exact ca_iretr hC dX7_isOrder_16 rfl
  · refine ca_iload_n hC 1 dX7_isOrder_4 rfl rfl (q := 5) rfl ?_
    refine ca_iconst hC (v := 3) dX7_isOrder_5 rfl (q := 6) rfl ?_
    refine ca_aload_n hC 0 dX7_isOrder_6 rfl rfl (q := 7) rfl ?_
    refine cg_X7_23 hC  dX7_isOrder_7 (q := 10) rfl ?_
    refine ca_imul hC dX7_isOrder_10 (q := 11) rfl ?_
    refine ca_ishr hC dX7_isOrder_11 (q := 12) rfl ?_
    refine ca_if_eq hC dX7_isOrder_12 (t := 17) (q := 15) rfl rfl (fun h3 => ?_) (fun h4 => ?_)
    · refine ca_iconst hC (v := 0) dX7_isOrder_17 rfl (q := 18) rfl ?_
      refine ca_istore_n hC (lv' := [(2, .int 0), (0, .ref (ca_a κ (7, 0, 0))), (1, .int x1)]) dX7_isOrder_18 rfl (by decide) rfl (q := 19) rfl ?_
      refine ca_iconst hC (v := 0) dX7_isOrder_19 rfl (q := 20) rfl ?_
      refine ca_istore_n hC (lv' := [(3, .int 0), (2, .int 0), (0, .ref (ca_a κ (7, 0, 0))), (1, .int x1)]) dX7_isOrder_20 rfl (by decide) rfl (q := 21) rfl ?_
      refine ca_pick [2, 3, 1, 0] rfl (ct_X7_isOrder_21 hC σ x1 ?_ ca_FU 0 0)
      intro x8
      refine ca_iload_n hC 1 dX7_isOrder_48 rfl rfl (q := 49) rfl ?_
      refine ca_iconst hC (v := 1) dX7_isOrder_49 rfl (q := 50) rfl ?_
      refine ca_aload_n hC 0 dX7_isOrder_50 rfl rfl (q := 51) rfl ?_
      refine cg_X7_23 hC  dX7_isOrder_51 (q := 54) rfl ?_
      refine ca_ishl hC dX7_isOrder_54 (q := 55) rfl ?_
      refine ca_iconst hC (v := 1) dX7_isOrder_55 rfl (q := 56) rfl ?_
      refine ca_isub hC dX7_isOrder_56 (q := 57) rfl ?_
      refine ca_icmp_ne hC dX7_isOrder_57 (t := 64) (q := 60) rfl rfl (fun h9 => ?_) (fun h10 => ?_)
      · refine ca_iconst hC (v := 0) dX7_isOrder_64 rfl (q := 65) rfl ?_
        exact ca_iretr hC dX7_isOrder_65 rfl
      · refine ca_iconst hC (v := 1) dX7_isOrder_60 rfl (q := 61) rfl ?_
        refine ca_goto hC dX7_isOrder_61 (q := 65) rfl ?_
        exact ca_iretr hC dX7_isOrder_65 rfl
    · refine ca_iconst hC (v := 0) dX7_isOrder_15 rfl (q := 16) rfl ?_
      exact ca_iretr hC dX7_isOrder_16 rfl
theorem cm_X7_isOrder (Γ : ca_G) (l : Launch) (σ : ca_S) (x1 : Int32) : ca_Mr Γ ca_cC l yX7_isOrder cX7_isOrder 4 (some .boolean) 0 0 [.ref (Γ.2.1 (7, 0, 0)), .int x1] σ (cf_X7_isOrder σ x1) :=
  ca_met (by decide) (Nat.le_of_ble_eq_true rfl) rfl (fun κ h1 h2 hC => by
    subst h1
    have h := ct_X7_isOrder hC σ x1
    unfold ca_Zr at h
    rw [h2] at h
    exact h)
-- X7_takes
set_option maxRecDepth 100000 in
set_option maxHeartbeats 4000000 in
theorem ct_X7_takes {κ : ca_K} (hC : ca_C κ ca_cC cX7_takes 2 RX7 (some .boolean) 1 23) (σ : ca_S) (x1 : Int32) : ca_T κ (ca_Zr κ σ) σ 0 [(0, .ref (ca_a κ (7, 0, 0))), (1, .int x1)] [] (cf_X7_takes σ x1) := by
  unfold cf_X7_takes
  refine ca_aload_n hC 0 dX7_takes_0 rfl rfl (q := 1) rfl ?_
  refine cg_X7_19 hC  dX7_takes_1 (q := 4) rfl ?_
  refine ca_ifs ((σ.1 (7, 0, 0) 1) = 0) (fun h1 => ?_) (fun h1 => ?_)
  · refine ca_look hC dX7_takes_4 (by decide) (off := 28) (by rw [h1]; rfl) (q := 32) rfl ?_
    refine ca_iload_n hC 1 dX7_takes_32 rfl rfl (q := 33) rfl ?_
    refine ca_iconst hC (v := 0) dX7_takes_33 rfl (q := 34) rfl ?_
    refine ca_bipush hC (v := 7) dX7_takes_34 rfl (q := 36) rfl ?_
    refine ca_callSr hC (rest := []) (cm_X9_isWithin κ.1 κ.2.2.2.1 σ x1 0 7) ca_Y_X9_isWithin ca_L_X7_11  rfl rfl (Nat.le_of_ble_eq_true rfl) ⟨Nat.le_of_ble_eq_true rfl, Nat.le_of_ble_eq_true rfl⟩ dX7_takes_36 (q := 39) rfl (fun r2 h4 => ?_)
    refine ca_grd (fun h5 => ?_)
    exact ca_iretr hC dX7_takes_39 (ca_bo_n h5)
  refine ca_ifs ((σ.1 (7, 0, 0) 1) = 1) (fun h6 => ?_) (fun h6 => ?_)
  · refine ca_look hC dX7_takes_4 (by decide) (off := 36) (by rw [h6]; rfl) (q := 40) rfl ?_
    refine ca_iload_n hC 1 dX7_takes_40 rfl rfl (q := 41) rfl ?_
    refine ca_iconst hC (v := 0) dX7_takes_41 rfl (q := 42) rfl ?_
    refine ca_ldc hC (v := 100000) ca_w356 dX7_takes_42 (q := 44) rfl ?_
    refine ca_callSr hC (rest := []) (cm_X9_isWithin κ.1 κ.2.2.2.1 σ x1 0 100000) ca_Y_X9_isWithin ca_L_X7_11  rfl rfl (Nat.le_of_ble_eq_true rfl) ⟨Nat.le_of_ble_eq_true rfl, Nat.le_of_ble_eq_true rfl⟩ dX7_takes_44 (q := 47) rfl (fun r7 h9 => ?_)
    refine ca_grd (fun h10 => ?_)
    exact ca_iretr hC dX7_takes_47 (ca_bo_n h10)
  · refine ca_look hC dX7_takes_4 (by decide) (off := 44) (by show Op.lookupswitch.offset [(0, 28), (1, 36)] 44 _ = 44; rw [Op.lookupswitch.offset_cons, if_neg (fun e => ca_nei h1 e.symm), Op.lookupswitch.offset_cons, if_neg (fun e => ca_nei h6 e.symm)]; rfl) (q := 48) rfl ?_
    refine ca_aload_n hC 0 dX7_takes_48 rfl rfl (q := 49) rfl ?_
    refine ca_iload_n hC 1 dX7_takes_49 rfl rfl (q := 50) rfl ?_
    refine ca_callVr hC (rest := []) (cm_X7_isOrder κ.1 κ.2.2.2.1 σ x1) ca_Y_X7_isOrder ca_L_X7_30 ca_m7 rfl rfl rfl rfl (Nat.le_of_ble_eq_true rfl) ⟨Nat.le_of_ble_eq_true rfl, Nat.le_of_ble_eq_true rfl⟩ dX7_takes_50 (q := 53) rfl (fun r11 h13 => ?_)
    refine ca_grd (fun h14 => ?_)
    exact ca_iretr hC dX7_takes_53 (ca_bo_n h14)
theorem cm_X7_takes (Γ : ca_G) (l : Launch) (σ : ca_S) (x1 : Int32) : ca_Mr Γ ca_cC l yX7_takes cX7_takes 2 (some .boolean) 1 23 [.ref (Γ.2.1 (7, 0, 0)), .int x1] σ (cf_X7_takes σ x1) :=
  ca_met (by decide) (Nat.le_of_ble_eq_true rfl) rfl (fun κ h1 h2 hC => by
    subst h1
    have h := ct_X7_takes hC σ x1
    unfold ca_Zr at h
    rw [h2] at h
    exact h)
-- X8_lay
set_option maxRecDepth 100000 in
set_option maxHeartbeats 4000000 in
theorem ct_X8_lay {κ : ca_K} (hC : ca_C κ ca_cC cX8_lay 3 RX8 none 0 0) (σ : ca_S) (i0 : Nat) (j0 : Nat) (x1 : Int32) (x2 : Int32) (hi0 : i0 < 16) (hj0 : j0 < 2) : ca_T κ (ca_Zv κ) σ 0 [(0, .ref (ca_a κ (4, i0, j0))), (1, .int x1), (2, .int x2)] [] (cf_X8_lay σ i0 j0 x1 x2) := by
  unfold cf_X8_lay
  refine ca_aload_n hC 0 dX8_lay_0 rfl rfl (q := 1) rfl ?_
  refine ca_iload_n hC 1 dX8_lay_1 rfl rfl (q := 2) rfl ?_
  refine cp_X8_7 hC hi0 hj0 dX8_lay_2 (q := 5) rfl ?_
  refine ca_let (fun σ1 _ => ?_)
  refine ca_aload_n hC 0 dX8_lay_5 rfl rfl (q := 6) rfl ?_
  refine ca_iload_n hC 2 dX8_lay_6 rfl rfl (q := 7) rfl ?_
  refine cp_X8_13 hC hi0 hj0 dX8_lay_7 (q := 10) rfl ?_
  refine ca_let (fun σ2 _ => ?_)
  refine ca_aload_n hC 0 dX8_lay_10 rfl rfl (q := 11) rfl ?_
  refine ca_iconst hC (v := 0) dX8_lay_11 rfl (q := 12) rfl ?_
  refine cp_X8_16 hC hi0 hj0 dX8_lay_12 (q := 15) rfl ?_
  refine ca_let (fun σ3 _ => ?_)
  exact ca_vret hC dX8_lay_15
theorem cm_X8_lay (Γ : ca_G) (l : Launch) (σ : ca_S) (i0 : Nat) (j0 : Nat) (x1 : Int32) (x2 : Int32) (hi0 : i0 < 16) (hj0 : j0 < 2) : ca_Mv Γ ca_cC l yX8_lay cX8_lay 3 none 0 0 [.ref (Γ.2.1 (4, i0, j0)), .int x1, .int x2] σ (cf_X8_lay σ i0 j0 x1 x2) :=
  ca_met (by decide) (Nat.le_of_ble_eq_true rfl) rfl (fun κ h1 h2 hC => by
    subst h1
    have h := ct_X8_lay hC σ i0 j0 x1 x2 hi0 hj0
    unfold ca_Zv at h
    rw [h2] at h
    exact h)
-- X8_losesNext
set_option maxRecDepth 100000 in
set_option maxHeartbeats 4000000 in
theorem ct_X8_losesNext_20 {κ : ca_K} (hC : ca_C κ ca_cC cX8_losesNext 2 RX8 (some .boolean) 0 0) (σ : ca_S) (i0 : Nat) (j0 : Nat) (xs0 : Int32) (hi0 : i0 < 16) (hj0 : j0 < 2) : ca_T κ (ca_Zi κ) σ 20 [(0, .ref (ca_a κ (4, i0, j0)))] [.int xs0] (cj_X8_losesNext_20 σ i0 j0 xs0) := by
  unfold cj_X8_losesNext_20
  refine ca_istore_n hC (lv' := [(1, .int xs0), (0, .ref (ca_a κ (4, i0, j0)))]) dX8_losesNext_20 rfl (by decide) rfl (q := 21) rfl ?_
  refine ca_aload_n hC 1 dX8_losesNext_21 rfl rfl (q := 22) rfl ?_
  refine ca_aload_n hC 1 dX8_losesNext_22 rfl rfl (q := 23) rfl ?_
  refine cg_X8_16 hC hi0 hj0 dX8_losesNext_23 (q := 26) rfl ?_
  refine ca_iconst hC (v := 1) dX8_losesNext_26 rfl (q := 27) rfl ?_
  refine ca_iadd hC dX8_losesNext_27 (q := 28) rfl ?_
  refine ca_bipush hC (v := 15) dX8_losesNext_28 rfl (q := 30) rfl ?_
  refine ca_iand hC dX8_losesNext_30 (q := 31) rfl ?_
  refine cp_X8_16 hC hi0 hj0 dX8_losesNext_31 (q := 34) rfl ?_
  refine ca_let (fun σ3 _ => ?_)
  refine ca_iload_n hC 0 dX8_losesNext_34 rfl rfl (q := 35) rfl ?_
  refine ca_grd (fun h4 => ?_)
  exact ca_ireti hC dX8_losesNext_35 (ca_bo_n h4)
set_option maxRecDepth 100000 in
set_option maxHeartbeats 4000000 in
theorem ct_X8_losesNext {κ : ca_K} (hC : ca_C κ ca_cC cX8_losesNext 2 RX8 (some .boolean) 0 0) (σ : ca_S) (i0 : Nat) (j0 : Nat) (hi0 : i0 < 16) (hj0 : j0 < 2) : ca_T κ (ca_Zi κ) σ 0 [(0, .ref (ca_a κ (4, i0, j0)))] [] (cf_X8_losesNext σ i0 j0) := by
  unfold cf_X8_losesNext
  refine ca_aload_n hC 0 dX8_losesNext_0 rfl rfl (q := 1) rfl ?_
  refine cg_X8_7 hC hi0 hj0 dX8_losesNext_1 (q := 4) rfl ?_
  refine ca_aload_n hC 0 dX8_losesNext_4 rfl rfl (q := 5) rfl ?_
  refine cg_X8_16 hC hi0 hj0 dX8_losesNext_5 (q := 8) rfl ?_
  refine ca_ishr hC dX8_losesNext_8 (q := 9) rfl ?_
  refine ca_iconst hC (v := 1) dX8_losesNext_9 rfl (q := 10) rfl ?_
  refine ca_iand hC dX8_losesNext_10 (q := 11) rfl ?_
  refine ca_iconst hC (v := 1) dX8_losesNext_11 rfl (q := 12) rfl ?_
  refine ca_icmp_ne hC dX8_losesNext_12 (t := 19) (q := 15) rfl rfl (fun h1 => ?_) (fun h2 => ?_)
  · refine ca_iconst hC (v := 0) dX8_losesNext_19 rfl (q := 20) rfl ?_
    exact ca_pick [0] rfl (ct_X8_losesNext_20 hC σ i0 j0 0 hi0 hj0)
  · refine ca_iconst hC (v := 1) dX8_losesNext_15 rfl (q := 16) rfl ?_
    refine ca_goto hC dX8_losesNext_16 (q := 20) rfl ?_
    exact ca_pick [0] rfl (ct_X8_losesNext_20 hC σ i0 j0 1 hi0 hj0)
theorem cm_X8_losesNext (Γ : ca_G) (l : Launch) (σ : ca_S) (i0 : Nat) (j0 : Nat) (hi0 : i0 < 16) (hj0 : j0 < 2) : ca_Mi Γ ca_cC l yX8_losesNext cX8_losesNext 2 (some .boolean) 0 0 [.ref (Γ.2.1 (4, i0, j0))] σ (cf_X8_losesNext σ i0 j0) :=
  ca_met (by decide) (Nat.le_of_ble_eq_true rfl) rfl (fun κ h1 h2 hC => by
    subst h1
    have h := ct_X8_losesNext hC σ i0 j0 hi0 hj0
    unfold ca_Zi at h
    rw [h2] at h
    exact h)
-- X9_box
set_option maxRecDepth 100000 in
set_option maxHeartbeats 4000000 in
theorem ct_X9_box {κ : ca_K} (hC : ca_C κ ca_cC cX9_box 1 RX9 (some .int) 0 0) (σ : ca_S) : ca_T κ (ca_Zi κ) σ 0 [(0, .ref (ca_a κ (0, 0, 0)))] [] (cf_X9_box σ) := by
  unfold cf_X9_box
  refine ca_aload_n hC 0 dX9_box_0 rfl rfl (q := 1) rfl ?_
  refine cg_X9_18 hC  dX9_box_1 (q := 4) rfl ?_
  refine cg_X9_58 hC  dX9_box_4 (q := 7) rfl ?_
  refine ca_if_eq hC dX9_box_7 (t := 13) (q := 10) rfl rfl (fun h1 => ?_) (fun h2 => ?_)
  · refine ca_aload_n hC 0 dX9_box_13 rfl rfl (q := 14) rfl ?_
    refine cg_X9_62 hC  dX9_box_14 (q := 17) rfl ?_
    refine ca_bipush hC (v := 16) dX9_box_17 rfl (q := 19) rfl ?_
    refine ca_icmp_lt hC dX9_box_19 (t := 25) (q := 22) rfl rfl (fun h3 => ?_) (fun h4 => ?_)
    · refine ca_aload_n hC 0 dX9_box_25 rfl rfl (q := 26) rfl ?_
      refine ca_dup hC dX9_box_26 rfl (q := 27) rfl ?_
      refine cg_X9_62 hC  dX9_box_27 (q := 30) rfl ?_
      refine ca_iconst hC (v := 1) dX9_box_30 rfl (q := 31) rfl ?_
      refine ca_iadd hC dX9_box_31 (q := 32) rfl ?_
      refine cp_X9_62 hC  dX9_box_32 (q := 35) rfl ?_
      refine ca_let (fun σ5 _ => ?_)
      refine ca_aload_n hC 0 dX9_box_35 rfl rfl (q := 36) rfl ?_
      refine cg_X9_62 hC  dX9_box_36 (q := 39) rfl ?_
      refine ca_iconst hC (v := 1) dX9_box_39 rfl (q := 40) rfl ?_
      refine ca_isub hC dX9_box_40 (q := 41) rfl ?_
      exact ca_ireti hC dX9_box_41 rfl
    · refine ca_bipush hC (v := (-3)) dX9_box_22 rfl (q := 24) rfl ?_
      exact ca_ireti hC dX9_box_24 rfl
  · refine ca_bipush hC (v := (-2)) dX9_box_10 rfl (q := 12) rfl ?_
    exact ca_ireti hC dX9_box_12 rfl
theorem cm_X9_box (Γ : ca_G) (l : Launch) (σ : ca_S) : ca_Mi Γ ca_cC l yX9_box cX9_box 1 (some .int) 0 0 [.ref (Γ.2.1 (0, 0, 0))] σ (cf_X9_box σ) :=
  ca_met (by decide) (Nat.le_of_ble_eq_true rfl) rfl (fun κ h1 h2 hC => by
    subst h1
    have h := ct_X9_box hC σ 
    unfold ca_Zi at h
    rw [h2] at h
    exact h)
-- X9_isBox
set_option maxRecDepth 100000 in
set_option maxHeartbeats 4000000 in
theorem ct_X9_isBox {κ : ca_K} (hC : ca_C κ ca_cC cX9_isBox 2 RX9 (some .boolean) 0 0) (σ : ca_S) (x1 : Int32) : ca_T κ (ca_Zr κ σ) σ 0 [(0, .ref (ca_a κ (0, 0, 0))), (1, .int x1)] [] (cf_X9_isBox σ x1) := by
  unfold cf_X9_isBox
  refine ca_iload_n hC 1 dX9_isBox_0 rfl rfl (q := 1) rfl ?_
  refine ca_if_lt hC dX9_isBox_1 (t := 16) (q := 4) rfl rfl (fun h1 => ?_) (fun h2 => ?_)
  · refine ca_iconst hC (v := 0) dX9_isBox_16 rfl (q := 17) rfl ?_
    exact ca_iretr hC dX9_isBox_17 rfl
  · refine ca_iload_n hC 1 dX9_isBox_4 rfl rfl (q := 5) rfl ?_
    refine ca_aload_n hC 0 dX9_isBox_5 rfl rfl (q := 6) rfl ?_
    refine cg_X9_62 hC  dX9_isBox_6 (q := 9) rfl ?_
    refine ca_icmp_ge hC dX9_isBox_9 (t := 16) (q := 12) rfl rfl (fun h3 => ?_) (fun h4 => ?_)
    · refine ca_iconst hC (v := 0) dX9_isBox_16 rfl (q := 17) rfl ?_
      exact ca_iretr hC dX9_isBox_17 rfl
    · refine ca_iconst hC (v := 1) dX9_isBox_12 rfl (q := 13) rfl ?_
      refine ca_goto hC dX9_isBox_13 (q := 17) rfl ?_
      exact ca_iretr hC dX9_isBox_17 rfl
theorem cm_X9_isBox (Γ : ca_G) (l : Launch) (σ : ca_S) (x1 : Int32) : ca_Mr Γ ca_cC l yX9_isBox cX9_isBox 2 (some .boolean) 0 0 [.ref (Γ.2.1 (0, 0, 0)), .int x1] σ (cf_X9_isBox σ x1) :=
  ca_met (by decide) (Nat.le_of_ble_eq_true rfl) rfl (fun κ h1 h2 hC => by
    subst h1
    have h := ct_X9_isBox hC σ x1
    unfold ca_Zr at h
    rw [h2] at h
    exact h)
-- X9_isBase
set_option maxRecDepth 100000 in
set_option maxHeartbeats 4000000 in
theorem ct_X9_isBase {κ : ca_K} (hC : ca_C κ ca_cC cX9_isBase 1 RX9 (some .boolean) 0 0) (σ : ca_S) (x0 : Int32) : ca_T κ (ca_Zr κ σ) σ 0 [(0, .int x0)] [] (cf_X9_isBase x0) := by
  unfold cf_X9_isBase
  refine ca_iload_n hC 0 dX9_isBase_0 rfl rfl (q := 1) rfl ?_
  refine ca_if_lt hC dX9_isBase_1 (t := 13) (q := 4) rfl rfl (fun h1 => ?_) (fun h2 => ?_)
  · refine ca_iconst hC (v := 0) dX9_isBase_13 rfl (q := 14) rfl ?_
    exact ca_iretr hC dX9_isBase_14 rfl
  · refine ca_iload_n hC 0 dX9_isBase_4 rfl rfl (q := 5) rfl ?_
    refine ca_iconst hC (v := 2) dX9_isBase_5 rfl (q := 6) rfl ?_
    refine ca_icmp_ge hC dX9_isBase_6 (t := 13) (q := 9) rfl rfl (fun h3 => ?_) (fun h4 => ?_)
    · refine ca_iconst hC (v := 0) dX9_isBase_13 rfl (q := 14) rfl ?_
      exact ca_iretr hC dX9_isBase_14 rfl
    · refine ca_iconst hC (v := 1) dX9_isBase_9 rfl (q := 10) rfl ?_
      refine ca_goto hC dX9_isBase_10 (q := 14) rfl ?_
      exact ca_iretr hC dX9_isBase_14 rfl
theorem cm_X9_isBase (Γ : ca_G) (l : Launch) (σ : ca_S) (x0 : Int32) : ca_Mr Γ ca_cC l yX9_isBase cX9_isBase 1 (some .boolean) 0 0 [.int x0] σ (cf_X9_isBase x0) :=
  ca_met (by decide) (Nat.le_of_ble_eq_true rfl) rfl (fun κ h1 h2 hC => by
    subst h1
    have h := ct_X9_isBase hC σ x0
    unfold ca_Zr at h
    rw [h2] at h
    exact h)
-- X9_road
set_option maxRecDepth 100000 in
set_option maxHeartbeats 4000000 in
theorem ct_X9_road {κ : ca_K} (hC : ca_C κ ca_cC cX9_road 5 RX9 (some .int) 1 22) (σ : ca_S) (x1 : Int32) (x2 : Int32) (x3 : Int32) (x4 : Int32) : ca_T κ (ca_Zi κ) σ 0 [(0, .ref (ca_a κ (0, 0, 0))), (1, .int x1), (2, .int x2), (3, .int x3), (4, .int x4)] [] (cf_X9_road σ x1 x2 x3 x4) := by
  unfold cf_X9_road
  refine ca_aload_n hC 0 dX9_road_0 rfl rfl (q := 1) rfl ?_
  refine ca_iload_n hC 1 dX9_road_1 rfl rfl (q := 2) rfl ?_
  refine ca_callVr hC (rest := []) (cm_X9_isBox κ.1 κ.2.2.2.1 σ x1) ca_Y_X9_isBox ca_L_X9_66 ca_m0 rfl rfl rfl rfl (Nat.le_of_ble_eq_true rfl) ⟨Nat.le_of_ble_eq_true rfl, Nat.le_of_ble_eq_true rfl⟩ dX9_road_2 (q := 5) rfl (fun r1 h3 => ?_)
  refine ca_if_eq hC dX9_road_5 (t := 36) (q := 8) rfl rfl (fun h4 => ?_) (fun h5 => ?_)
  · refine ca_iconst hC (v := (-1)) dX9_road_36 rfl (q := 37) rfl ?_
    exact ca_ireti hC dX9_road_37 rfl
  · refine ca_iload_n hC 2 dX9_road_8 rfl rfl (q := 9) rfl ?_
    refine ca_callSr hC (rest := []) (cm_X9_isBase κ.1 κ.2.2.2.1 σ x2) ca_Y_X9_isBase ca_L_X9_70  rfl rfl (Nat.le_of_ble_eq_true rfl) ⟨Nat.le_of_ble_eq_true rfl, Nat.le_of_ble_eq_true rfl⟩ dX9_road_9 (q := 12) rfl (fun r6 h8 => ?_)
    refine ca_if_eq hC dX9_road_12 (t := 36) (q := 15) rfl rfl (fun h9 => ?_) (fun h10 => ?_)
    · refine ca_iconst hC (v := (-1)) dX9_road_36 rfl (q := 37) rfl ?_
      exact ca_ireti hC dX9_road_37 rfl
    · refine ca_iload_n hC 3 dX9_road_15 rfl rfl (q := 16) rfl ?_
      refine ca_iconst hC (v := 0) dX9_road_16 rfl (q := 17) rfl ?_
      refine ca_ldc hC (v := 65535) ca_w315 dX9_road_17 (q := 19) rfl ?_
      refine ca_callSr hC (rest := []) (cm_X9_isWithin κ.1 κ.2.2.2.1 σ x3 0 65535) ca_Y_X9_isWithin ca_L_X9_76  rfl rfl (Nat.le_of_ble_eq_true rfl) ⟨Nat.le_of_ble_eq_true rfl, Nat.le_of_ble_eq_true rfl⟩ dX9_road_19 (q := 22) rfl (fun r11 h13 => ?_)
      refine ca_if_eq hC dX9_road_22 (t := 36) (q := 25) rfl rfl (fun h14 => ?_) (fun h15 => ?_)
      · refine ca_iconst hC (v := (-1)) dX9_road_36 rfl (q := 37) rfl ?_
        exact ca_ireti hC dX9_road_37 rfl
      · refine ca_iload hC 4 dX9_road_25 rfl (q := 27) rfl ?_
        refine ca_iconst hC (v := 0) dX9_road_27 rfl (q := 28) rfl ?_
        refine ca_bipush hC (v := 9) dX9_road_28 rfl (q := 30) rfl ?_
        refine ca_callSr hC (rest := []) (cm_X9_isWithin κ.1 κ.2.2.2.1 σ x4 0 9) ca_Y_X9_isWithin ca_L_X9_76  rfl rfl (Nat.le_of_ble_eq_true rfl) ⟨Nat.le_of_ble_eq_true rfl, Nat.le_of_ble_eq_true rfl⟩ dX9_road_30 (q := 33) rfl (fun r16 h18 => ?_)
        refine ca_if_ne hC dX9_road_33 (t := 38) (q := 36) rfl rfl (fun h19 => ?_) (fun h20 => ?_)
        · refine ca_aload_n hC 0 dX9_road_38 rfl rfl (q := 39) rfl ?_
          refine cg_X9_11 hC  dX9_road_39 (q := 42) rfl ?_
          refine ca_iload_n hC 1 dX9_road_42 rfl rfl (q := 43) rfl ?_
          refine ca_al1 hC  dX9_road_43 (q := 44) rfl (fun h21 => ?_)
          refine cg_X9_80 hC (ca_in_lt h21) dX9_road_44 (q := 47) rfl ?_
          refine ca_iload_n hC 2 dX9_road_47 rfl rfl (q := 48) rfl ?_
          refine ca_al3 hC (ca_in_lt h21) dX9_road_48 (q := 49) rfl (fun h22 => ?_)
          refine ca_iload_n hC 3 dX9_road_49 rfl rfl (q := 50) rfl ?_
          refine ca_iload hC 4 dX9_road_50 rfl (q := 52) rfl ?_
          refine ca_callVv hC (rest := []) (cm_X8_lay κ.1 κ.2.2.2.1 σ (Int32.toNatClampNeg x1) (Int32.toNatClampNeg x2) x3 x4 (ca_in_lt h21) (ca_in_lt h22)) ca_Y_X8_lay ca_L_X9_84 (ca_m4 (ca_in_lt h21) (ca_in_lt h22)) rfl rfl rfl rfl (Nat.le_of_ble_eq_true rfl) ⟨Nat.le_of_ble_eq_true rfl, Nat.le_of_ble_eq_true rfl⟩ dX9_road_52 (q := 55) rfl (fun σ24 h25 => ?_)
          refine ca_iconst hC (v := 0) dX9_road_55 rfl (q := 56) rfl ?_
          exact ca_ireti hC dX9_road_56 rfl
        · refine ca_iconst hC (v := (-1)) dX9_road_36 rfl (q := 37) rfl ?_
          exact ca_ireti hC dX9_road_37 rfl
theorem cm_X9_road (Γ : ca_G) (l : Launch) (σ : ca_S) (x1 : Int32) (x2 : Int32) (x3 : Int32) (x4 : Int32) : ca_Mi Γ ca_cC l yX9_road cX9_road 5 (some .int) 1 22 [.ref (Γ.2.1 (0, 0, 0)), .int x1, .int x2, .int x3, .int x4] σ (cf_X9_road σ x1 x2 x3 x4) :=
  ca_met (by decide) (Nat.le_of_ble_eq_true rfl) rfl (fun κ h1 h2 hC => by
    subst h1
    have h := ct_X9_road hC σ x1 x2 x3 x4
    unfold ca_Zi at h
    rw [h2] at h
    exact h)
-- X9_rule
set_option maxRecDepth 100000 in
set_option maxHeartbeats 4000000 in
theorem ct_X9_rule_25 {κ : ca_K} (hC : ca_C κ ca_cC cX9_rule 4 RX9 (some .int) 1 22) (σ : ca_S) (x1 : Int32) (x2 : Int32) : ca_T κ (ca_Zi κ) σ 25 [(0, .ref (ca_a κ (0, 0, 0))), (1, .int x1), (2, .int x2)] [] (cj_X9_rule_25 σ x1 x2) := by
  unfold cj_X9_rule_25
  refine ca_iload_n hC 1 dX9_rule_25 rfl rfl (q := 26) rfl ?_
  refine ca_iconst hC (v := 1) dX9_rule_26 rfl (q := 27) rfl ?_
  refine ca_icmp_ne hC dX9_rule_27 (t := 52) (q := 30) rfl rfl (fun h3 => ?_) (fun h4 => ?_)
  · refine ca_iconst hC (v := (-1)) dX9_rule_52 rfl (q := 53) rfl ?_
    exact ca_ireti hC dX9_rule_53 rfl
  · refine ca_iload_n hC 2 dX9_rule_30 rfl rfl (q := 31) rfl ?_
    refine ca_iconst hC (v := 0) dX9_rule_31 rfl (q := 32) rfl ?_
    refine ca_bipush hC (v := 16) dX9_rule_32 rfl (q := 34) rfl ?_
    refine ca_callSr hC (rest := []) (cm_X9_isWithin κ.1 κ.2.2.2.1 σ x2 0 16) ca_Y_X9_isWithin ca_L_X9_76  rfl rfl (Nat.le_of_ble_eq_true rfl) ⟨Nat.le_of_ble_eq_true rfl, Nat.le_of_ble_eq_true rfl⟩ dX9_rule_34 (q := 37) rfl (fun r5 h7 => ?_)
    refine ca_if_eq hC dX9_rule_37 (t := 52) (q := 40) rfl rfl (fun h8 => ?_) (fun h9 => ?_)
    · refine ca_iconst hC (v := (-1)) dX9_rule_52 rfl (q := 53) rfl ?_
      exact ca_ireti hC dX9_rule_53 rfl
    · refine ca_aload_n hC 0 dX9_rule_40 rfl rfl (q := 41) rfl ?_
      refine cg_X9_91 hC  dX9_rule_41 (q := 44) rfl ?_
      refine ca_istore_n hC (lv' := [(3, .int (σ.1 (0, 0, 0) 4)), (0, .ref (ca_a κ (0, 0, 0))), (1, .int x1), (2, .int x2)]) dX9_rule_44 rfl (by decide) rfl (q := 45) rfl ?_
      refine ca_pick [0, 1, 3] (lv' := [(3, .int (σ.1 (0, 0, 0) 4)), (0, .ref (ca_a κ (0, 0, 0))), (2, .int x2)]) rfl ?_
      refine ca_aload_n hC 1 dX9_rule_45 rfl rfl (q := 46) rfl ?_
      refine ca_iload_n hC 2 dX9_rule_46 rfl rfl (q := 47) rfl ?_
      refine cp_X9_91 hC  dX9_rule_47 (q := 50) rfl ?_
      refine ca_let (fun σ10 _ => ?_)
      refine ca_iload_n hC 0 dX9_rule_50 rfl rfl (q := 51) rfl ?_
      exact ca_ireti hC dX9_rule_51 rfl
set_option maxRecDepth 100000 in
set_option maxHeartbeats 4000000 in
theorem ct_X9_rule {κ : ca_K} (hC : ca_C κ ca_cC cX9_rule 4 RX9 (some .int) 1 22) (σ : ca_S) (x1 : Int32) (x2 : Int32) : ca_T κ (ca_Zi κ) σ 0 [(0, .ref (ca_a κ (0, 0, 0))), (1, .int x1), (2, .int x2)] [] (cf_X9_rule σ x1 x2) := by
  unfold cf_X9_rule
  refine ca_iload_n hC 1 dX9_rule_0 rfl rfl (q := 1) rfl ?_
  refine ca_if_ne hC dX9_rule_1 (t := 25) (q := 4) rfl rfl (fun h1 => ?_) (fun h2 => ?_)
  · exact ca_pick [0, 1, 2] rfl (ct_X9_rule_25 hC σ x1 x2)
  · refine ca_iload_n hC 2 dX9_rule_4 rfl rfl (q := 5) rfl ?_
    refine ca_iconst hC (v := 0) dX9_rule_5 rfl (q := 6) rfl ?_
    refine ca_iconst hC (v := 1) dX9_rule_6 rfl (q := 7) rfl ?_
    refine ca_callSr hC (rest := []) (cm_X9_isWithin κ.1 κ.2.2.2.1 σ x2 0 1) ca_Y_X9_isWithin ca_L_X9_76  rfl rfl (Nat.le_of_ble_eq_true rfl) ⟨Nat.le_of_ble_eq_true rfl, Nat.le_of_ble_eq_true rfl⟩ dX9_rule_7 (q := 10) rfl (fun r11 h13 => ?_)
    refine ca_if_eq hC dX9_rule_10 (t := 25) (q := 13) rfl rfl (fun h14 => ?_) (fun h15 => ?_)
    · exact ca_pick [0, 1, 2] rfl (ct_X9_rule_25 hC σ x1 x2)
    · refine ca_aload_n hC 0 dX9_rule_13 rfl rfl (q := 14) rfl ?_
      refine cg_X9_88 hC  dX9_rule_14 (q := 17) rfl ?_
      refine ca_istore_n hC (lv' := [(3, .int (σ.1 (0, 0, 0) 3)), (0, .ref (ca_a κ (0, 0, 0))), (1, .int x1), (2, .int x2)]) dX9_rule_17 rfl (by decide) rfl (q := 18) rfl ?_
      refine ca_pick [0, 1, 3] (lv' := [(3, .int (σ.1 (0, 0, 0) 3)), (0, .ref (ca_a κ (0, 0, 0))), (2, .int x2)]) rfl ?_
      refine ca_aload_n hC 1 dX9_rule_18 rfl rfl (q := 19) rfl ?_
      refine ca_iload_n hC 2 dX9_rule_19 rfl rfl (q := 20) rfl ?_
      refine cp_X9_88 hC  dX9_rule_20 (q := 23) rfl ?_
      refine ca_let (fun σ16 _ => ?_)
      refine ca_iload_n hC 0 dX9_rule_23 rfl rfl (q := 24) rfl ?_
      exact ca_ireti hC dX9_rule_24 rfl
theorem cm_X9_rule (Γ : ca_G) (l : Launch) (σ : ca_S) (x1 : Int32) (x2 : Int32) : ca_Mi Γ ca_cC l yX9_rule cX9_rule 4 (some .int) 1 22 [.ref (Γ.2.1 (0, 0, 0)), .int x1, .int x2] σ (cf_X9_rule σ x1 x2) :=
  ca_met (by decide) (Nat.le_of_ble_eq_true rfl) rfl (fun κ h1 h2 hC => by
    subst h1
    have h := ct_X9_rule hC σ x1 x2
    unfold ca_Zi at h
    rw [h2] at h
    exact h)
-- X9_ask
set_option maxRecDepth 100000 in
set_option maxHeartbeats 4000000 in
theorem ct_X9_ask_50 {κ : ca_K} (hC : ca_C κ ca_cC cX9_ask 5 RX9 (some .int) 2 43) {K : ca_S → Option (Int32 × ca_S)} (hK : ∀ (σ : ca_S), ca_T κ (ca_Zi κ) σ 75 [] [] (K σ)) : ∀ (n : Nat) (σ : ca_S) (x4 : Int32), ca_T κ (ca_Zi κ) σ 50 [(0, .ref (ca_a κ (0, 0, 0))), (4, .int x4)] [] (cl_X9_ask_50 K n σ x4) := by
  intro n
  induction n with
  | zero => intro σ x4; exact ca_no
  | succ n ih =>
    intro σ x4
    rw [cl_X9_ask_50]
    refine ca_iload hC 1 dX9_ask_50 rfl (q := 52) rfl ?_
    refine ca_aload_n hC 0 dX9_ask_52 rfl rfl (q := 53) rfl ?_
    refine cg_X9_62 hC  dX9_ask_53 (q := 56) rfl ?_
    refine ca_icmp_ge hC dX9_ask_56 (t := 75) (q := 59) rfl rfl (fun h15 => ?_) (fun h16 => ?_)
    · exact ca_pick [] rfl (hK σ)
    · refine ca_aload_n hC 0 dX9_ask_59 rfl rfl (q := 60) rfl ?_
      refine cg_X9_11 hC  dX9_ask_60 (q := 63) rfl ?_
      refine ca_iload hC 1 dX9_ask_63 rfl (q := 65) rfl ?_
      refine ca_al1 hC  dX9_ask_65 (q := 66) rfl (fun h17 => ?_)
      refine ca_callVv hC (rest := []) (cm_X0_forget κ.1 κ.2.2.2.1 σ (Int32.toNatClampNeg x4) (ca_in_lt h17)) ca_Y_X0_forget ca_L_X9_106 (ca_m2 (ca_in_lt h17)) rfl rfl rfl rfl (Nat.le_of_ble_eq_true rfl) ⟨Nat.le_of_ble_eq_true rfl, Nat.le_of_ble_eq_true rfl⟩ dX9_ask_66 (q := 69) rfl (fun σ19 h20 => ?_)
      refine ca_iinc hC 1 (v := (x4 + 1)) (lv' := [(4, .int (x4 + 1)), (0, .ref (ca_a κ (0, 0, 0)))]) dX9_ask_69 rfl rfl (by decide) rfl (q := 72) rfl ?_
      refine ca_goto hC dX9_ask_72 (q := 50) rfl ?_
      exact ca_pick [1, 0] rfl (ih σ19 (x4 + 1))
set_option maxRecDepth 100000 in
set_option maxHeartbeats 4000000 in
theorem ct_X9_ask {κ : ca_K} (hC : ca_C κ ca_cC cX9_ask 5 RX9 (some .int) 2 43) (σ : ca_S) (x1 : Int32) (x2 : Int32) (x3 : Int32) : ca_T κ (ca_Zi κ) σ 0 [(0, .ref (ca_a κ (0, 0, 0))), (1, .int x1), (2, .int x2), (3, .int x3)] [] (cf_X9_ask σ x1 x2 x3) := by
  unfold cf_X9_ask
  refine ca_iload_n hC 1 dX9_ask_0 rfl rfl (q := 1) rfl ?_
  refine ca_iload_n hC 2 dX9_ask_1 rfl rfl (q := 2) rfl ?_
  refine ca_callSr hC (rest := []) (cm_X7_isKind κ.1 κ.2.2.2.1 σ x1 x2) ca_Y_X7_isKind ca_L_X9_94  rfl rfl (Nat.le_of_ble_eq_true rfl) ⟨Nat.le_of_ble_eq_true rfl, Nat.le_of_ble_eq_true rfl⟩ dX9_ask_2 (q := 5) rfl (fun r1 h3 => ?_)
  refine ca_if_eq hC dX9_ask_5 (t := 22) (q := 8) rfl rfl (fun h4 => ?_) (fun h5 => ?_)
  · refine ca_iconst hC (v := (-1)) dX9_ask_22 rfl (q := 23) rfl ?_
    exact ca_ireti hC dX9_ask_23 rfl
  · refine ca_iload_n hC 3 dX9_ask_8 rfl rfl (q := 9) rfl ?_
    refine ca_aload_n hC 0 dX9_ask_9 rfl rfl (q := 10) rfl ?_
    refine cg_X9_98 hC  dX9_ask_10 (q := 13) rfl ?_
    refine ca_icmp_le hC dX9_ask_13 (t := 22) (q := 16) rfl rfl (fun h6 => ?_) (fun h7 => ?_)
    · refine ca_iconst hC (v := (-1)) dX9_ask_22 rfl (q := 23) rfl ?_
      exact ca_ireti hC dX9_ask_23 rfl
    · refine ca_iload_n hC 3 dX9_ask_16 rfl rfl (q := 17) rfl ?_
      refine ca_ldc hC (v := 100000) ca_w335 dX9_ask_17 (q := 19) rfl ?_
      refine ca_icmp_le hC dX9_ask_19 (t := 24) (q := 22) rfl rfl (fun h8 => ?_) (fun h9 => ?_)
      · refine ca_aload_n hC 0 dX9_ask_24 rfl rfl (q := 25) rfl ?_
        refine cg_X9_18 hC  dX9_ask_25 (q := 28) rfl ?_
        refine cg_X9_58 hC  dX9_ask_28 (q := 31) rfl ?_
        refine ca_if_eq hC dX9_ask_31 (t := 37) (q := 34) rfl rfl (fun h10 => ?_) (fun h11 => ?_)
        · refine ca_aload_n hC 0 dX9_ask_37 rfl rfl (q := 38) rfl ?_
          refine cg_X9_18 hC  dX9_ask_38 (q := 41) rfl ?_
          refine ca_iload_n hC 1 dX9_ask_41 rfl rfl (q := 42) rfl ?_
          refine ca_iload_n hC 2 dX9_ask_42 rfl rfl (q := 43) rfl ?_
          refine ca_iload_n hC 3 dX9_ask_43 rfl rfl (q := 44) rfl ?_
          refine ca_callVv hC (rest := []) (cm_X7_begin κ.1 κ.2.2.2.1 σ x1 x2 x3) ca_Y_X7_begin ca_L_X9_102 ca_m7 rfl rfl rfl rfl (Nat.le_of_ble_eq_true rfl) ⟨Nat.le_of_ble_eq_true rfl, Nat.le_of_ble_eq_true rfl⟩ dX9_ask_44 (q := 47) rfl (fun σ13 h14 => ?_)
          refine ca_iconst hC (v := 0) dX9_ask_47 rfl (q := 48) rfl ?_
          refine ca_istore hC (lv' := [(4, .int 0), (0, .ref (ca_a κ (0, 0, 0))), (1, .int x1), (2, .int x2), (3, .int x3)]) dX9_ask_48 (by decide) rfl (q := 50) rfl ?_
          refine ca_pick [0, 1] (lv' := [(4, .int 0), (0, .ref (ca_a κ (0, 0, 0)))]) rfl ?_
          refine ca_pick [1, 0] rfl (ct_X9_ask_50 hC  ?_ ca_FU σ13 0)
          intro σ21
          refine ca_iconst hC (v := 0) dX9_ask_75 rfl (q := 76) rfl ?_
          exact ca_ireti hC dX9_ask_76 rfl
        · refine ca_bipush hC (v := (-2)) dX9_ask_34 rfl (q := 36) rfl ?_
          exact ca_ireti hC dX9_ask_36 rfl
      · refine ca_iconst hC (v := (-1)) dX9_ask_22 rfl (q := 23) rfl ?_
        exact ca_ireti hC dX9_ask_23 rfl
theorem cm_X9_ask (Γ : ca_G) (l : Launch) (σ : ca_S) (x1 : Int32) (x2 : Int32) (x3 : Int32) : ca_Mi Γ ca_cC l yX9_ask cX9_ask 5 (some .int) 2 43 [.ref (Γ.2.1 (0, 0, 0)), .int x1, .int x2, .int x3] σ (cf_X9_ask σ x1 x2 x3) :=
  ca_met (by decide) (Nat.le_of_ble_eq_true rfl) rfl (fun κ h1 h2 hC => by
    subst h1
    have h := ct_X9_ask hC σ x1 x2 x3
    unfold ca_Zi at h
    rw [h2] at h
    exact h)
-- X9_send
set_option maxRecDepth 100000 in
set_option maxHeartbeats 4000000 in
theorem ct_X9_send {κ : ca_K} (hC : ca_C κ ca_cC cX9_send 3 RX9 (some .int) 2 44) (σ : ca_S) (x1 : Int32) (x2 : Int32) : ca_T κ (ca_Zi κ) σ 0 [(0, .ref (ca_a κ (0, 0, 0))), (1, .int x1), (2, .int x2)] [] (cf_X9_send σ x1 x2) := by
  unfold cf_X9_send
  refine ca_aload_n hC 0 dX9_send_0 rfl rfl (q := 1) rfl ?_
  refine ca_iload_n hC 1 dX9_send_1 rfl rfl (q := 2) rfl ?_
  refine ca_callVr hC (rest := []) (cm_X9_isBox κ.1 κ.2.2.2.1 σ x1) ca_Y_X9_isBox ca_L_X9_66 ca_m0 rfl rfl rfl rfl (Nat.le_of_ble_eq_true rfl) ⟨Nat.le_of_ble_eq_true rfl, Nat.le_of_ble_eq_true rfl⟩ dX9_send_2 (q := 5) rfl (fun r1 h3 => ?_)
  refine ca_if_ne hC dX9_send_5 (t := 10) (q := 8) rfl rfl (fun h4 => ?_) (fun h5 => ?_)
  · refine ca_aload_n hC 0 dX9_send_10 rfl rfl (q := 11) rfl ?_
    refine cg_X9_18 hC  dX9_send_11 (q := 14) rfl ?_
    refine cg_X9_58 hC  dX9_send_14 (q := 17) rfl ?_
    refine ca_if_ne hC dX9_send_17 (t := 23) (q := 20) rfl rfl (fun h6 => ?_) (fun h7 => ?_)
    · refine ca_aload_n hC 0 dX9_send_23 rfl rfl (q := 24) rfl ?_
      refine cg_X9_18 hC  dX9_send_24 (q := 27) rfl ?_
      refine ca_iload_n hC 2 dX9_send_27 rfl rfl (q := 28) rfl ?_
      refine ca_callVr hC (rest := []) (cm_X7_takes κ.1 κ.2.2.2.1 σ x2) ca_Y_X7_takes ca_L_X9_109 ca_m7 rfl rfl rfl rfl (Nat.le_of_ble_eq_true rfl) ⟨Nat.le_of_ble_eq_true rfl, Nat.le_of_ble_eq_true rfl⟩ dX9_send_28 (q := 31) rfl (fun r8 h10 => ?_)
      refine ca_if_ne hC dX9_send_31 (t := 36) (q := 34) rfl rfl (fun h11 => ?_) (fun h12 => ?_)
      · refine ca_aload_n hC 0 dX9_send_36 rfl rfl (q := 37) rfl ?_
        refine cg_X9_11 hC  dX9_send_37 (q := 40) rfl ?_
        refine ca_iload_n hC 1 dX9_send_40 rfl rfl (q := 41) rfl ?_
        refine ca_al1 hC  dX9_send_41 (q := 42) rfl (fun h13 => ?_)
        refine ca_iload_n hC 2 dX9_send_42 rfl rfl (q := 43) rfl ?_
        refine ca_aload_n hC 0 dX9_send_43 rfl rfl (q := 44) rfl ?_
        refine cg_X9_98 hC  dX9_send_44 (q := 47) rfl ?_
        refine ca_callVi hC (rest := []) (cm_X0_write κ.1 κ.2.2.2.1 σ (Int32.toNatClampNeg x1) x2 (σ.1 (0, 0, 0) 2) (ca_in_lt h13)) ca_Y_X0_write ca_L_X9_112 (ca_m2 (ca_in_lt h13)) rfl rfl rfl rfl (Nat.le_of_ble_eq_true rfl) ⟨Nat.le_of_ble_eq_true rfl, Nat.le_of_ble_eq_true rfl⟩ dX9_send_47 (q := 50) rfl (fun r14 σ15 h16 => ?_)
        exact ca_ireti hC dX9_send_50 rfl
      · refine ca_iconst hC (v := (-1)) dX9_send_34 rfl (q := 35) rfl ?_
        exact ca_ireti hC dX9_send_35 rfl
    · refine ca_bipush hC (v := (-2)) dX9_send_20 rfl (q := 22) rfl ?_
      exact ca_ireti hC dX9_send_22 rfl
  · refine ca_iconst hC (v := (-1)) dX9_send_8 rfl (q := 9) rfl ?_
    exact ca_ireti hC dX9_send_9 rfl
theorem cm_X9_send (Γ : ca_G) (l : Launch) (σ : ca_S) (x1 : Int32) (x2 : Int32) : ca_Mi Γ ca_cC l yX9_send cX9_send 3 (some .int) 2 44 [.ref (Γ.2.1 (0, 0, 0)), .int x1, .int x2] σ (cf_X9_send σ x1 x2) :=
  ca_met (by decide) (Nat.le_of_ble_eq_true rfl) rfl (fun κ h1 h2 hC => by
    subst h1
    have h := ct_X9_send hC σ x1 x2
    unfold ca_Zi at h
    rw [h2] at h
    exact h)
-- X9_isTrying
set_option maxRecDepth 100000 in
set_option maxHeartbeats 4000000 in
theorem ct_X9_isTrying {κ : ca_K} (hC : ca_C κ ca_cC cX9_isTrying 2 RX9 (some .boolean) 3 61) (σ : ca_S) (i1 : Nat) (hi1 : i1 < 16) : ca_T κ (ca_Zr κ σ) σ 0 [(0, .ref (ca_a κ (0, 0, 0))), (1, .ref (ca_a κ (2, i1, 0)))] [] (cf_X9_isTrying σ i1) := by
  unfold cf_X9_isTrying
  refine ca_aload_n hC 0 dX9_isTrying_0 rfl rfl (q := 1) rfl ?_
  refine cg_X9_18 hC  dX9_isTrying_1 (q := 4) rfl ?_
  refine cg_X9_58 hC  dX9_isTrying_4 (q := 7) rfl ?_
  refine ca_if_eq hC dX9_isTrying_7 (t := 28) (q := 10) rfl rfl (fun h1 => ?_) (fun h2 => ?_)
  · refine ca_iconst hC (v := 0) dX9_isTrying_28 rfl (q := 29) rfl ?_
    exact ca_iretr hC dX9_isTrying_29 rfl
  · refine ca_aload_n hC 1 dX9_isTrying_10 rfl rfl (q := 11) rfl ?_
    refine ca_callVr hC (rest := []) (cm_X0_hasTriesLeft κ.1 κ.2.2.2.1 σ i1 hi1) ca_Y_X0_hasTriesLeft ca_L_X9_141 (ca_m2 hi1) rfl rfl rfl rfl (Nat.le_of_ble_eq_true rfl) ⟨Nat.le_of_ble_eq_true rfl, Nat.le_of_ble_eq_true rfl⟩ dX9_isTrying_11 (q := 14) rfl (fun r3 h5 => ?_)
    refine ca_if_eq hC dX9_isTrying_14 (t := 28) (q := 17) rfl rfl (fun h6 => ?_) (fun h7 => ?_)
    · refine ca_iconst hC (v := 0) dX9_isTrying_28 rfl (q := 29) rfl ?_
      exact ca_iretr hC dX9_isTrying_29 rfl
    · refine ca_aload_n hC 1 dX9_isTrying_17 rfl rfl (q := 18) rfl ?_
      refine ca_callVr hC (rest := []) (cm_X0_isAcknowledged κ.1 κ.2.2.2.1 σ i1 hi1) ca_Y_X0_isAcknowledged ca_L_X9_144 (ca_m2 hi1) rfl rfl rfl rfl (Nat.le_of_ble_eq_true rfl) ⟨Nat.le_of_ble_eq_true rfl, Nat.le_of_ble_eq_true rfl⟩ dX9_isTrying_18 (q := 21) rfl (fun r8 h10 => ?_)
      refine ca_if_ne hC dX9_isTrying_21 (t := 28) (q := 24) rfl rfl (fun h11 => ?_) (fun h12 => ?_)
      · refine ca_iconst hC (v := 0) dX9_isTrying_28 rfl (q := 29) rfl ?_
        exact ca_iretr hC dX9_isTrying_29 rfl
      · refine ca_iconst hC (v := 1) dX9_isTrying_24 rfl (q := 25) rfl ?_
        refine ca_goto hC dX9_isTrying_25 (q := 29) rfl ?_
        exact ca_iretr hC dX9_isTrying_29 rfl
theorem cm_X9_isTrying (Γ : ca_G) (l : Launch) (σ : ca_S) (i1 : Nat) (hi1 : i1 < 16) : ca_Mr Γ ca_cC l yX9_isTrying cX9_isTrying 2 (some .boolean) 3 61 [.ref (Γ.2.1 (0, 0, 0)), .ref (Γ.2.1 (2, i1, 0))] σ (cf_X9_isTrying σ i1) :=
  ca_met (by decide) (Nat.le_of_ble_eq_true rfl) rfl (fun κ h1 h2 hC => by
    subst h1
    have h := ct_X9_isTrying hC σ i1 hi1
    unfold ca_Zr at h
    rw [h2] at h
    exact h)
-- X9_isQuiet
set_option maxRecDepth 100000 in
set_option maxHeartbeats 4000000 in
theorem ct_X9_isQuiet_14 {κ : ca_K} (hC : ca_C κ ca_cC cX9_isQuiet 2 RX9 (some .boolean) 4 82) (σ : ca_S) {K : Option (Int32)} (hK : ca_T κ (ca_Zr κ σ) σ 43 [] [] K) : ∀ (n : Nat) (x1 : Int32), ca_T κ (ca_Zr κ σ) σ 14 [(0, .ref (ca_a κ (0, 0, 0))), (1, .int x1)] [] (cl_X9_isQuiet_14 σ K n x1) := by
  intro n
  induction n with
  | zero => intro x1; exact ca_no
  | succ n ih =>
    intro x1
    rw [cl_X9_isQuiet_14]
    refine ca_iload_n hC 1 dX9_isQuiet_14 rfl rfl (q := 15) rfl ?_
    refine ca_aload_n hC 0 dX9_isQuiet_15 rfl rfl (q := 16) rfl ?_
    refine cg_X9_62 hC  dX9_isQuiet_16 (q := 19) rfl ?_
    refine ca_icmp_ge hC dX9_isQuiet_19 (t := 43) (q := 22) rfl rfl (fun h3 => ?_) (fun h4 => ?_)
    · exact ca_pick [] rfl (hK)
    · refine ca_aload_n hC 0 dX9_isQuiet_22 rfl rfl (q := 23) rfl ?_
      refine ca_aload_n hC 0 dX9_isQuiet_23 rfl rfl (q := 24) rfl ?_
      refine cg_X9_11 hC  dX9_isQuiet_24 (q := 27) rfl ?_
      refine ca_iload_n hC 1 dX9_isQuiet_27 rfl rfl (q := 28) rfl ?_
      refine ca_al1 hC  dX9_isQuiet_28 (q := 29) rfl (fun h5 => ?_)
      refine ca_callVr hC (rest := []) (cm_X9_isTrying κ.1 κ.2.2.2.1 σ (Int32.toNatClampNeg x1) (ca_in_lt h5)) ca_Y_X9_isTrying ca_L_X9_126 ca_m0 rfl rfl rfl rfl (Nat.le_of_ble_eq_true rfl) ⟨Nat.le_of_ble_eq_true rfl, Nat.le_of_ble_eq_true rfl⟩ dX9_isQuiet_29 (q := 32) rfl (fun r6 h8 => ?_)
      refine ca_if_eq hC dX9_isQuiet_32 (t := 37) (q := 35) rfl rfl (fun h9 => ?_) (fun h10 => ?_)
      · refine ca_iinc hC 1 (v := (x1 + 1)) (lv' := [(1, .int (x1 + 1)), (0, .ref (ca_a κ (0, 0, 0)))]) dX9_isQuiet_37 rfl rfl (by decide) rfl (q := 40) rfl ?_
        refine ca_goto hC dX9_isQuiet_40 (q := 14) rfl ?_
        exact ca_pick [1, 0] rfl (ih (x1 + 1))
      · refine ca_iconst hC (v := 0) dX9_isQuiet_35 rfl (q := 36) rfl ?_
        exact ca_iretr hC dX9_isQuiet_36 rfl
set_option maxRecDepth 100000 in
set_option maxHeartbeats 4000000 in
theorem ct_X9_isQuiet {κ : ca_K} (hC : ca_C κ ca_cC cX9_isQuiet 2 RX9 (some .boolean) 4 82) (σ : ca_S) : ca_T κ (ca_Zr κ σ) σ 0 [(0, .ref (ca_a κ (0, 0, 0)))] [] (cf_X9_isQuiet σ) := by
  unfold cf_X9_isQuiet
  refine ca_aload_n hC 0 dX9_isQuiet_0 rfl rfl (q := 1) rfl ?_
  refine cg_X9_25 hC  dX9_isQuiet_1 (q := 4) rfl ?_
  refine cg_X9_123 hC  dX9_isQuiet_4 (q := 7) rfl ?_
  refine ca_if_le hC dX9_isQuiet_7 (t := 12) (q := 10) rfl rfl (fun h1 => ?_) (fun h2 => ?_)
  · refine ca_iconst hC (v := 0) dX9_isQuiet_12 rfl (q := 13) rfl ?_
    refine ca_istore_n hC (lv' := [(1, .int 0), (0, .ref (ca_a κ (0, 0, 0)))]) dX9_isQuiet_13 rfl (by decide) rfl (q := 14) rfl ?_
    refine ca_pick [1, 0] rfl (ct_X9_isQuiet_14 hC σ ?_ ca_FU 0)
    refine ca_iconst hC (v := 1) dX9_isQuiet_43 rfl (q := 44) rfl ?_
    exact ca_iretr hC dX9_isQuiet_44 rfl
  · refine ca_iconst hC (v := 0) dX9_isQuiet_10 rfl (q := 11) rfl ?_
    exact ca_iretr hC dX9_isQuiet_11 rfl
theorem cm_X9_isQuiet (Γ : ca_G) (l : Launch) (σ : ca_S) : ca_Mr Γ ca_cC l yX9_isQuiet cX9_isQuiet 2 (some .boolean) 4 82 [.ref (Γ.2.1 (0, 0, 0))] σ (cf_X9_isQuiet σ) :=
  ca_met (by decide) (Nat.le_of_ble_eq_true rfl) rfl (fun κ h1 h2 hC => by
    subst h1
    have h := ct_X9_isQuiet hC σ 
    unfold ca_Zr at h
    rw [h2] at h
    exact h)
