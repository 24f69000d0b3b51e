-- X9_tryBothRoads
set_option maxRecDepth 100000 in
set_option maxHeartbeats 4000000 in
theorem ct_X9_tryBothRoads_19 {κ : ca_K} (hC : ca_C κ ca_cC cX9_tryBothRoads 5 RX9 none 1 24) (x1 : Int32) (i2 : Nat) (hi2 : i2 < 16) {K : ca_S → Option (ca_S)} (hK : ∀ (σ : ca_S), ca_T κ (ca_Zv κ) σ 76 [] [] (K σ)) : ∀ (n : Nat) (σ : ca_S) (x3 : Int32), ca_T κ (ca_Zv κ) σ 19 [(0, .ref (ca_a κ (0, 0, 0))), (1, .int x1), (2, .ref (ca_a κ (2, i2, 0))), (3, .int x3)] [] (cl_X9_tryBothRoads_19 x1 i2 K n σ x3) := by
  intro n
  induction n with
  | zero => intro σ x3; exact ca_no
  | succ n ih =>
    intro σ x3
    rw [cl_X9_tryBothRoads_19]
    refine ca_iload_n hC 3 dX9_tryBothRoads_19 rfl rfl (q := 20) rfl ?_
    refine ca_iconst hC (v := 2) dX9_tryBothRoads_20 rfl (q := 21) rfl ?_
    refine ca_icmp_ge hC dX9_tryBothRoads_21 (t := 76) (q := 24) rfl rfl (fun h3 => ?_) (fun h4 => ?_)
    · exact ca_pick [] rfl (hK σ)
    · refine ca_aload_n hC 2 dX9_tryBothRoads_24 rfl rfl (q := 25) rfl ?_
      refine cg_X9_80 hC hi2 dX9_tryBothRoads_25 (q := 28) rfl ?_
      refine ca_iload_n hC 3 dX9_tryBothRoads_28 rfl rfl (q := 29) rfl ?_
      refine ca_al3 hC hi2 dX9_tryBothRoads_29 (q := 30) rfl (fun h5 => ?_)
      refine ca_astore hC (lv' := [(4, .ref (ca_a κ (4, i2, (Int32.toNatClampNeg x3)))), (0, .ref (ca_a κ (0, 0, 0))), (1, .int x1), (2, .ref (ca_a κ (2, i2, 0))), (3, .int x3)]) dX9_tryBothRoads_30 (by decide) rfl (q := 32) rfl ?_
      refine ca_aload_n hC 1 dX9_tryBothRoads_32 rfl rfl (q := 33) rfl ?_
      refine ca_dup hC dX9_tryBothRoads_33 rfl (q := 34) rfl ?_
      refine cg_X9_150 hC  dX9_tryBothRoads_34 (q := 37) rfl ?_
      refine ca_iconst hC (v := 1) dX9_tryBothRoads_37 rfl (q := 38) rfl ?_
      refine ca_iadd hC dX9_tryBothRoads_38 (q := 39) rfl ?_
      refine cp_X9_150 hC  dX9_tryBothRoads_39 (q := 42) rfl ?_
      refine ca_let (fun σ6 _ => ?_)
      refine ca_aload hC 0 dX9_tryBothRoads_42 rfl (q := 44) rfl ?_
      refine ca_callVi hC (rest := []) (cm_X8_losesNext κ.1 κ.2.2.2.1 σ6 i2 (Int32.toNatClampNeg x3) hi2 (ca_in_lt h5)) ca_Y_X8_losesNext ca_L_X9_153 (ca_m4 hi2 (ca_in_lt h5)) rfl rfl rfl rfl (Nat.le_of_ble_eq_true rfl) ⟨Nat.le_of_ble_eq_true rfl, Nat.le_of_ble_eq_true rfl⟩ dX9_tryBothRoads_44 (q := 47) rfl (fun r7 σ8 h9 => ?_)
      refine ca_if_ne hC dX9_tryBothRoads_47 (t := 70) (q := 50) rfl rfl (fun h10 => ?_) (fun h11 => ?_)
      · refine ca_iinc hC 4 (v := (x3 + 1)) (lv' := [(3, .int (x3 + 1)), (4, .ref (ca_a κ (4, i2, (Int32.toNatClampNeg x3)))), (0, .ref (ca_a κ (0, 0, 0))), (1, .int x1), (2, .ref (ca_a κ (2, i2, 0)))]) dX9_tryBothRoads_70 rfl rfl (by decide) rfl (q := 73) rfl ?_
        refine ca_goto hC dX9_tryBothRoads_73 (q := 19) rfl ?_
        exact ca_pick [2, 3, 4, 0] rfl (ih σ8 (x3 + 1))
      · refine ca_aload_n hC 1 dX9_tryBothRoads_50 rfl rfl (q := 51) rfl ?_
        refine cg_X9_25 hC  dX9_tryBothRoads_51 (q := 54) rfl ?_
        refine ca_aload_n hC 1 dX9_tryBothRoads_54 rfl rfl (q := 55) rfl ?_
        refine cg_X9_98 hC  dX9_tryBothRoads_55 (q := 58) rfl ?_
        refine ca_aload hC 0 dX9_tryBothRoads_58 rfl (q := 60) rfl ?_
        refine cg_X9_156 hC hi2 (ca_in_lt h5) dX9_tryBothRoads_60 (q := 63) rfl ?_
        refine ca_iadd hC dX9_tryBothRoads_63 (q := 64) rfl ?_
        refine ca_iload_n hC 2 dX9_tryBothRoads_64 rfl rfl (q := 65) rfl ?_
        refine ca_iload_n hC 4 dX9_tryBothRoads_65 rfl rfl (q := 66) rfl ?_
        refine ca_aload_n hC 3 dX9_tryBothRoads_66 rfl rfl (q := 67) rfl ?_
        refine ca_callVv hC (rest := []) (cm_X6_put κ.1 κ.2.2.2.1 σ8 ((σ8.1 (0, 0, 0) 2) + (σ8.1 (4, i2, (Int32.toNatClampNeg x3)) 2)) x1 x3 i2 hi2) ca_Y_X6_put ca_L_X9_159 ca_m8 rfl rfl rfl rfl (Nat.le_of_ble_eq_true rfl) ⟨Nat.le_of_ble_eq_true rfl, Nat.le_of_ble_eq_true rfl⟩ dX9_tryBothRoads_67 (q := 70) rfl (fun σ13 h14 => ?_)
        refine ca_iinc hC 4 (v := (x3 + 1)) (lv' := [(3, .int (x3 + 1)), (4, .ref (ca_a κ (4, i2, (Int32.toNatClampNeg x3)))), (0, .ref (ca_a κ (0, 0, 0))), (1, .int x1), (2, .ref (ca_a κ (2, i2, 0)))]) dX9_tryBothRoads_70 rfl rfl (by decide) rfl (q := 73) rfl ?_
        refine ca_goto hC dX9_tryBothRoads_73 (q := 19) rfl ?_
        exact ca_pick [2, 3, 4, 0] rfl (ih σ13 (x3 + 1))
set_option maxRecDepth 100000 in
set_option maxHeartbeats 4000000 in
theorem ct_X9_tryBothRoads {κ : ca_K} (hC : ca_C κ ca_cC cX9_tryBothRoads 5 RX9 none 1 24) (σ : ca_S) (x1 : Int32) : ca_T κ (ca_Zv κ) σ 0 [(0, .ref (ca_a κ (0, 0, 0))), (1, .int x1)] [] (cf_X9_tryBothRoads σ x1) := by
  unfold cf_X9_tryBothRoads
  refine ca_aload_n hC 0 dX9_tryBothRoads_0 rfl rfl (q := 1) rfl ?_
  refine cg_X9_11 hC  dX9_tryBothRoads_1 (q := 4) rfl ?_
  refine ca_iload_n hC 1 dX9_tryBothRoads_4 rfl rfl (q := 5) rfl ?_
  refine ca_al1 hC  dX9_tryBothRoads_5 (q := 6) rfl (fun h1 => ?_)
  refine ca_astore_n hC (lv' := [(2, .ref (ca_a κ (2, (Int32.toNatClampNeg x1), 0))), (0, .ref (ca_a κ (0, 0, 0))), (1, .int x1)]) dX9_tryBothRoads_6 rfl (by decide) rfl (q := 7) rfl ?_
  refine ca_aload_n hC 0 dX9_tryBothRoads_7 rfl rfl (q := 8) rfl ?_
  refine ca_dup hC dX9_tryBothRoads_8 rfl (q := 9) rfl ?_
  refine cg_X9_147 hC (ca_in_lt h1) dX9_tryBothRoads_9 (q := 12) rfl ?_
  refine ca_iconst hC (v := 1) dX9_tryBothRoads_12 rfl (q := 13) rfl ?_
  refine ca_iadd hC dX9_tryBothRoads_13 (q := 14) rfl ?_
  refine cp_X9_147 hC (ca_in_lt h1) dX9_tryBothRoads_14 (q := 17) rfl ?_
  refine ca_let (fun σ2 _ => ?_)
  refine ca_iconst hC (v := 0) dX9_tryBothRoads_17 rfl (q := 18) rfl ?_
  refine ca_istore_n hC (lv' := [(3, .int 0), (2, .ref (ca_a κ (2, (Int32.toNatClampNeg x1), 0))), (0, .ref (ca_a κ (0, 0, 0))), (1, .int x1)]) dX9_tryBothRoads_18 rfl (by decide) rfl (q := 19) rfl ?_
  refine ca_pick [2, 3, 1, 0] rfl (ct_X9_tryBothRoads_19 hC x1 (Int32.toNatClampNeg x1) (ca_in_lt h1) ?_ ca_FU σ2 0)
  intro σ15
  exact ca_vret hC dX9_tryBothRoads_76
theorem cm_X9_tryBothRoads (Γ : ca_G) (l : Launch) (σ : ca_S) (x1 : Int32) : ca_Mv Γ ca_cC l yX9_tryBothRoads cX9_tryBothRoads 5 none 1 24 [.ref (Γ.2.1 (0, 0, 0)), .int x1] σ (cf_X9_tryBothRoads σ x1) :=
  ca_met (by decide) (Nat.le_of_ble_eq_true rfl) rfl (fun κ h1 h2 hC => by
    subst h1
    have h := ct_X9_tryBothRoads hC σ x1
    unfold ca_Zv at h
    rw [h2] at h
    exact h)
-- X9_passTick
set_option maxRecDepth 100000 in
set_option maxHeartbeats 4000000 in
theorem ct_X9_passTick_2 {κ : ca_K} (hC : ca_C κ ca_cC cX9_passTick 2 RX9 none 4 82) {K : ca_S → Option (ca_S)} (hK : ∀ (σ : ca_S), ca_T κ (ca_Zv κ) σ 34 [(0, .ref (ca_a κ (0, 0, 0)))] [] (K σ)) : ∀ (n : Nat) (σ : ca_S) (x1 : Int32), ca_T κ (ca_Zv κ) σ 2 [(0, .ref (ca_a κ (0, 0, 0))), (1, .int x1)] [] (cl_X9_passTick_2 K n σ x1) := by
  intro n
  induction n with
  | zero => intro σ x1; exact ca_no
  | succ n ih =>
    intro σ x1
    rw [cl_X9_passTick_2]
    refine ca_iload_n hC 1 dX9_passTick_2 rfl rfl (q := 3) rfl ?_
    refine ca_aload_n hC 0 dX9_passTick_3 rfl rfl (q := 4) rfl ?_
    refine cg_X9_62 hC  dX9_passTick_4 (q := 7) rfl ?_
    refine ca_icmp_ge hC dX9_passTick_7 (t := 34) (q := 10) rfl rfl (fun h1 => ?_) (fun h2 => ?_)
    · exact ca_pick [0] rfl (hK σ)
    · refine ca_aload_n hC 0 dX9_passTick_10 rfl rfl (q := 11) rfl ?_
      refine ca_aload_n hC 0 dX9_passTick_11 rfl rfl (q := 12) rfl ?_
      refine cg_X9_11 hC  dX9_passTick_12 (q := 15) rfl ?_
      refine ca_iload_n hC 1 dX9_passTick_15 rfl rfl (q := 16) rfl ?_
      refine ca_al1 hC  dX9_passTick_16 (q := 17) rfl (fun h3 => ?_)
      refine ca_callVr hC (rest := []) (cm_X9_isTrying κ.1 κ.2.2.2.1 σ (Int32.toNatClampNeg x1) (ca_in_lt h3)) ca_Y_X9_isTrying ca_L_X9_126 ca_m0 rfl rfl rfl rfl (Nat.le_of_ble_eq_true rfl) ⟨Nat.le_of_ble_eq_true rfl, Nat.le_of_ble_eq_true rfl⟩ dX9_passTick_17 (q := 20) rfl (fun r4 h6 => ?_)
      refine ca_if_eq hC dX9_passTick_20 (t := 28) (q := 23) rfl rfl (fun h7 => ?_) (fun h8 => ?_)
      · refine ca_iinc hC 1 (v := (x1 + 1)) (lv' := [(1, .int (x1 + 1)), (0, .ref (ca_a κ (0, 0, 0)))]) dX9_passTick_28 rfl rfl (by decide) rfl (q := 31) rfl ?_
        refine ca_goto hC dX9_passTick_31 (q := 2) rfl ?_
        exact ca_pick [1, 0] rfl (ih σ (x1 + 1))
      · refine ca_aload_n hC 0 dX9_passTick_23 rfl rfl (q := 24) rfl ?_
        refine ca_iload_n hC 1 dX9_passTick_24 rfl rfl (q := 25) rfl ?_
        refine ca_callVv hC (rest := []) (cm_X9_tryBothRoads κ.1 κ.2.2.2.1 σ x1) ca_Y_X9_tryBothRoads ca_L_X9_130 ca_m0 rfl rfl rfl rfl (Nat.le_of_ble_eq_true rfl) ⟨Nat.le_of_ble_eq_true rfl, Nat.le_of_ble_eq_true rfl⟩ dX9_passTick_25 (q := 28) rfl (fun σ10 h11 => ?_)
        refine ca_iinc hC 1 (v := (x1 + 1)) (lv' := [(1, .int (x1 + 1)), (0, .ref (ca_a κ (0, 0, 0)))]) dX9_passTick_28 rfl rfl (by decide) rfl (q := 31) rfl ?_
        refine ca_goto hC dX9_passTick_31 (q := 2) rfl ?_
        exact ca_pick [1, 0] rfl (ih σ10 (x1 + 1))
set_option maxRecDepth 100000 in
set_option maxHeartbeats 4000000 in
theorem ct_X9_passTick {κ : ca_K} (hC : ca_C κ ca_cC cX9_passTick 2 RX9 none 4 82) (σ : ca_S) : ca_T κ (ca_Zv κ) σ 0 [(0, .ref (ca_a κ (0, 0, 0)))] [] (cf_X9_passTick σ) := by
  unfold cf_X9_passTick
  refine ca_iconst hC (v := 0) dX9_passTick_0 rfl (q := 1) rfl ?_
  refine ca_istore_n hC (lv' := [(1, .int 0), (0, .ref (ca_a κ (0, 0, 0)))]) dX9_passTick_1 rfl (by decide) rfl (q := 2) rfl ?_
  refine ca_pick [1, 0] rfl (ct_X9_passTick_2 hC  ?_ ca_FU σ 0)
  intro σ12
  refine ca_aload_n hC 0 dX9_passTick_34 rfl rfl (q := 35) rfl ?_
  refine cg_X9_25 hC  dX9_passTick_35 (q := 38) rfl ?_
  refine ca_aload_n hC 0 dX9_passTick_38 rfl rfl (q := 39) rfl ?_
  refine cg_X9_98 hC  dX9_passTick_39 (q := 42) rfl ?_
  refine ca_aload_n hC 0 dX9_passTick_42 rfl rfl (q := 43) rfl ?_
  refine cg_X9_18 hC  dX9_passTick_43 (q := 46) rfl ?_
  refine cg_X9_134 hC  dX9_passTick_46 (q := 49) rfl ?_
  refine ca_aload_n hC 0 dX9_passTick_49 rfl rfl (q := 50) rfl ?_
  refine cg_X9_11 hC  dX9_passTick_50 (q := 53) rfl ?_
  refine ca_callVv hC (rest := []) (cm_X6_bringWhatIsDue κ.1 κ.2.2.2.1 σ12 (σ12.1 (0, 0, 0) 2) (σ12.1 (7, 0, 0) 3)) ca_Y_X6_bringWhatIsDue ca_L_X9_137 ca_m8 rfl rfl rfl rfl (Nat.le_of_ble_eq_true rfl) ⟨Nat.le_of_ble_eq_true rfl, Nat.le_of_ble_eq_true rfl⟩ dX9_passTick_53 (q := 56) rfl (fun σ14 h15 => ?_)
  refine ca_aload_n hC 0 dX9_passTick_56 rfl rfl (q := 57) rfl ?_
  refine ca_dup hC dX9_passTick_57 rfl (q := 58) rfl ?_
  refine cg_X9_98 hC  dX9_passTick_58 (q := 61) rfl ?_
  refine ca_iconst hC (v := 1) dX9_passTick_61 rfl (q := 62) rfl ?_
  refine ca_iadd hC dX9_passTick_62 (q := 63) rfl ?_
  refine cp_X9_98 hC  dX9_passTick_63 (q := 66) rfl ?_
  refine ca_let (fun σ16 _ => ?_)
  exact ca_vret hC dX9_passTick_66
theorem cm_X9_passTick (Γ : ca_G) (l : Launch) (σ : ca_S) : ca_Mv Γ ca_cC l yX9_passTick cX9_passTick 2 none 4 82 [.ref (Γ.2.1 (0, 0, 0))] σ (cf_X9_passTick σ) :=
  ca_met (by decide) (Nat.le_of_ble_eq_true rfl) rfl (fun κ h1 h2 hC => by
    subst h1
    have h := ct_X9_passTick hC σ 
    unfold ca_Zv at h
    rw [h2] at h
    exact h)
-- X9_ticks
set_option maxRecDepth 100000 in
set_option maxHeartbeats 4000000 in
theorem ct_X9_ticks_36 {κ : ca_K} (hC : ca_C κ ca_cC cX9_ticks 4 RX9 (some .int) 5 103) (x1 : Int32) (x2 : Int32) {K : ca_S → Option (Int32 × ca_S)} (hK : ∀ (σ : ca_S), ca_T κ (ca_Zi κ) σ 58 [(0, .ref (ca_a κ (0, 0, 0))), (2, .int x2)] [] (K σ)) : ∀ (n : Nat) (σ : ca_S) (x3 : Int32), ca_T κ (ca_Zi κ) σ 36 [(0, .ref (ca_a κ (0, 0, 0))), (1, .int x1), (2, .int x2), (3, .int x3)] [] (cl_X9_ticks_36 x1 x2 K n σ x3) := by
  intro n
  induction n with
  | zero => intro σ x3; exact ca_no
  | succ n ih =>
    intro σ x3
    rw [cl_X9_ticks_36]
    refine ca_iload_n hC 3 dX9_ticks_36 rfl rfl (q := 37) rfl ?_
    refine ca_iload_n hC 1 dX9_ticks_37 rfl rfl (q := 38) rfl ?_
    refine ca_icmp_ge hC dX9_ticks_38 (t := 58) (q := 41) rfl rfl (fun h8 => ?_) (fun h9 => ?_)
    · exact ca_pick [0, 2] rfl (hK σ)
    · refine ca_aload_n hC 0 dX9_ticks_41 rfl rfl (q := 42) rfl ?_
      refine ca_callVr hC (rest := []) (cm_X9_isQuiet κ.1 κ.2.2.2.1 σ) ca_Y_X9_isQuiet ca_L_X9_116 ca_m0 rfl rfl rfl rfl (Nat.le_of_ble_eq_true rfl) ⟨Nat.le_of_ble_eq_true rfl, Nat.le_of_ble_eq_true rfl⟩ dX9_ticks_42 (q := 45) rfl (fun r10 h12 => ?_)
      refine ca_if_ne hC dX9_ticks_45 (t := 58) (q := 48) rfl rfl (fun h13 => ?_) (fun h14 => ?_)
      · exact ca_pick [0, 2] rfl (hK σ)
      · refine ca_aload_n hC 0 dX9_ticks_48 rfl rfl (q := 49) rfl ?_
        refine ca_callVv hC (rest := []) (cm_X9_passTick κ.1 κ.2.2.2.1 σ) ca_Y_X9_passTick ca_L_X9_120 ca_m0 rfl rfl rfl rfl (Nat.le_of_ble_eq_true rfl) ⟨Nat.le_of_ble_eq_true rfl, Nat.le_of_ble_eq_true rfl⟩ dX9_ticks_49 (q := 52) rfl (fun σ16 h17 => ?_)
        refine ca_iinc hC 3 (v := (x3 + 1)) (lv' := [(3, .int (x3 + 1)), (0, .ref (ca_a κ (0, 0, 0))), (1, .int x1), (2, .int x2)]) dX9_ticks_52 rfl rfl (by decide) rfl (q := 55) rfl ?_
        refine ca_goto hC dX9_ticks_55 (q := 36) rfl ?_
        exact ca_pick [1, 2, 3, 0] rfl (ih σ16 (x3 + 1))
set_option maxRecDepth 100000 in
set_option maxHeartbeats 4000000 in
theorem ct_X9_ticks {κ : ca_K} (hC : ca_C κ ca_cC cX9_ticks 4 RX9 (some .int) 5 103) (σ : ca_S) (x1 : Int32) : ca_T κ (ca_Zi κ) σ 0 [(0, .ref (ca_a κ (0, 0, 0))), (1, .int x1)] [] (cf_X9_ticks σ x1) := by
  unfold cf_X9_ticks
  refine ca_iload_n hC 1 dX9_ticks_0 rfl rfl (q := 1) rfl ?_
  refine ca_iconst hC (v := 1) dX9_ticks_1 rfl (q := 2) rfl ?_
  refine ca_sipush hC (v := 200) dX9_ticks_2 rfl (q := 5) rfl ?_
  refine ca_callSr hC (rest := []) (cm_X9_isWithin κ.1 κ.2.2.2.1 σ x1 1 200) ca_Y_X9_isWithin ca_L_X9_76  rfl rfl (Nat.le_of_ble_eq_true rfl) ⟨Nat.le_of_ble_eq_true rfl, Nat.le_of_ble_eq_true rfl⟩ dX9_ticks_5 (q := 8) rfl (fun r1 h3 => ?_)
  refine ca_if_ne hC dX9_ticks_8 (t := 13) (q := 11) rfl rfl (fun h4 => ?_) (fun h5 => ?_)
  · refine ca_aload_n hC 0 dX9_ticks_13 rfl rfl (q := 14) rfl ?_
    refine cg_X9_98 hC  dX9_ticks_14 (q := 17) rfl ?_
    refine ca_iload_n hC 1 dX9_ticks_17 rfl rfl (q := 18) rfl ?_
    refine ca_iadd hC dX9_ticks_18 (q := 19) rfl ?_
    refine ca_ldc hC (v := 100000) ca_w335 dX9_ticks_19 (q := 21) rfl ?_
    refine ca_icmp_le hC dX9_ticks_21 (t := 27) (q := 24) rfl rfl (fun h6 => ?_) (fun h7 => ?_)
    · refine ca_aload_n hC 0 dX9_ticks_27 rfl rfl (q := 28) rfl ?_
      refine cg_X9_98 hC  dX9_ticks_28 (q := 31) rfl ?_
      refine ca_iload_n hC 1 dX9_ticks_31 rfl rfl (q := 32) rfl ?_
      refine ca_iadd hC dX9_ticks_32 (q := 33) rfl ?_
      refine ca_istore_n hC (lv' := [(2, .int ((σ.1 (0, 0, 0) 2) + x1)), (0, .ref (ca_a κ (0, 0, 0))), (1, .int x1)]) dX9_ticks_33 rfl (by decide) rfl (q := 34) rfl ?_
      refine ca_iconst hC (v := 0) dX9_ticks_34 rfl (q := 35) rfl ?_
      refine ca_istore_n hC (lv' := [(3, .int 0), (2, .int ((σ.1 (0, 0, 0) 2) + x1)), (0, .ref (ca_a κ (0, 0, 0))), (1, .int x1)]) dX9_ticks_35 rfl (by decide) rfl (q := 36) rfl ?_
      refine ca_pick [2, 3, 1, 0] rfl (ct_X9_ticks_36 hC x1 ((σ.1 (0, 0, 0) 2) + x1) ?_ ca_FU σ 0)
      intro σ18
      refine ca_aload_n hC 0 dX9_ticks_58 rfl rfl (q := 59) rfl ?_
      refine ca_iload_n hC 1 dX9_ticks_59 rfl rfl (q := 60) rfl ?_
      refine cp_X9_98 hC  dX9_ticks_60 (q := 63) rfl ?_
      refine ca_let (fun σ19 _ => ?_)
      refine ca_aload_n hC 0 dX9_ticks_63 rfl rfl (q := 64) rfl ?_
      refine cg_X9_98 hC  dX9_ticks_64 (q := 67) rfl ?_
      exact ca_ireti hC dX9_ticks_67 rfl
    · refine ca_bipush hC (v := (-3)) dX9_ticks_24 rfl (q := 26) rfl ?_
      exact ca_ireti hC dX9_ticks_26 rfl
  · refine ca_iconst hC (v := (-1)) dX9_ticks_11 rfl (q := 12) rfl ?_
    exact ca_ireti hC dX9_ticks_12 rfl
theorem cm_X9_ticks (Γ : ca_G) (l : Launch) (σ : ca_S) (x1 : Int32) : ca_Mi Γ ca_cC l yX9_ticks cX9_ticks 4 (some .int) 5 103 [.ref (Γ.2.1 (0, 0, 0)), .int x1] σ (cf_X9_ticks σ x1) :=
  ca_met (by decide) (Nat.le_of_ble_eq_true rfl) rfl (fun κ h1 h2 hC => by
    subst h1
    have h := ct_X9_ticks hC σ x1
    unfold ca_Zi at h
    rw [h2] at h
    exact h)
-- X9_base
set_option maxRecDepth 100000 in
set_option maxHeartbeats 4000000 in
theorem ct_X9_base {κ : ca_K} (hC : ca_C κ ca_cC cX9_base 5 RX9 (some .int) 2 41) (σ : ca_S) (x1 : Int32) (x2 : Int32) (x3 : Int32) : ca_T κ (ca_Zr κ σ) σ 0 [(0, .ref (ca_a κ (0, 0, 0))), (1, .int x1), (2, .int x2), (3, .int x3)] [] (cf_X9_base σ x1 x2 x3) := by
  unfold cf_X9_base
  refine ca_iload_n hC 1 dX9_base_0 rfl rfl (q := 1) rfl ?_
  refine ca_callSr hC (rest := []) (cm_X9_isBase κ.1 κ.2.2.2.1 σ x1) ca_Y_X9_isBase ca_L_X9_70  rfl rfl (Nat.le_of_ble_eq_true rfl) ⟨Nat.le_of_ble_eq_true rfl, Nat.le_of_ble_eq_true rfl⟩ dX9_base_1 (q := 4) rfl (fun r1 h3 => ?_)
  refine ca_if_eq hC dX9_base_4 (t := 24) (q := 7) rfl rfl (fun h4 => ?_) (fun h5 => ?_)
  · refine ca_iconst hC (v := (-1)) dX9_base_24 rfl (q := 25) rfl ?_
    exact ca_iretr hC dX9_base_25 rfl
  · refine ca_aload_n hC 0 dX9_base_7 rfl rfl (q := 8) rfl ?_
    refine ca_iload_n hC 2 dX9_base_8 rfl rfl (q := 9) rfl ?_
    refine ca_callVr hC (rest := []) (cm_X9_isBox κ.1 κ.2.2.2.1 σ x2) ca_Y_X9_isBox ca_L_X9_66 ca_m0 rfl rfl rfl rfl (Nat.le_of_ble_eq_true rfl) ⟨Nat.le_of_ble_eq_true rfl, Nat.le_of_ble_eq_true rfl⟩ dX9_base_9 (q := 12) rfl (fun r6 h8 => ?_)
    refine ca_if_eq hC dX9_base_12 (t := 24) (q := 15) rfl rfl (fun h9 => ?_) (fun h10 => ?_)
    · refine ca_iconst hC (v := (-1)) dX9_base_24 rfl (q := 25) rfl ?_
      exact ca_iretr hC dX9_base_25 rfl
    · refine ca_iload_n hC 3 dX9_base_15 rfl rfl (q := 16) rfl ?_
      refine ca_iconst hC (v := 0) dX9_base_16 rfl (q := 17) rfl ?_
      refine ca_iconst hC (v := 3) dX9_base_17 rfl (q := 18) rfl ?_
      refine ca_callSr hC (rest := []) (cm_X9_isWithin κ.1 κ.2.2.2.1 σ x3 0 3) ca_Y_X9_isWithin ca_L_X9_76  rfl rfl (Nat.le_of_ble_eq_true rfl) ⟨Nat.le_of_ble_eq_true rfl, Nat.le_of_ble_eq_true rfl⟩ dX9_base_18 (q := 21) rfl (fun r11 h13 => ?_)
      refine ca_if_ne hC dX9_base_21 (t := 26) (q := 24) rfl rfl (fun h14 => ?_) (fun h15 => ?_)
      · refine ca_aload_n hC 0 dX9_base_26 rfl rfl (q := 27) rfl ?_
        refine cg_X9_11 hC  dX9_base_27 (q := 30) rfl ?_
        refine ca_iload_n hC 2 dX9_base_30 rfl rfl (q := 31) rfl ?_
        refine ca_al1 hC  dX9_base_31 (q := 32) rfl (fun h16 => ?_)
        refine cg_X9_163 hC (ca_in_lt h16) dX9_base_32 (q := 35) rfl ?_
        refine ca_iload_n hC 1 dX9_base_35 rfl rfl (q := 36) rfl ?_
        refine ca_al5 hC (ca_in_lt h16) dX9_base_36 (q := 37) rfl (fun h17 => ?_)
        refine ca_astore hC (lv' := [(4, .ref (ca_a κ (6, (Int32.toNatClampNeg x2), (Int32.toNatClampNeg x1)))), (0, .ref (ca_a κ (0, 0, 0))), (1, .int x1), (2, .int x2), (3, .int x3)]) dX9_base_37 (by decide) rfl (q := 39) rfl ?_
        refine ca_pick [0, 4] (lv' := [(4, .ref (ca_a κ (6, (Int32.toNatClampNeg x2), (Int32.toNatClampNeg x1)))), (3, .int x3)]) rfl ?_
        refine ca_iload_n hC 1 dX9_base_39 rfl rfl (q := 40) rfl ?_
        refine ca_ifs (x3 = 0) (fun h18 => ?_) (fun h18 => ?_)
        · refine ca_tin hC dX9_base_40 h18 (by decide) (by decide) rfl (q := 68) rfl ?_
          refine ca_aload hC 0 dX9_base_68 rfl (q := 70) rfl ?_
          refine cg_X9_167 hC (ca_in_lt h16) (ca_in_lt h17) dX9_base_70 (q := 73) rfl ?_
          refine ca_if_le hC dX9_base_73 (t := 84) (q := 76) rfl rfl (fun h19 => ?_) (fun h20 => ?_)
          · refine ca_bipush hC (v := (-4)) dX9_base_84 rfl (q := 86) rfl ?_
            exact ca_iretr hC dX9_base_86 rfl
          · refine ca_aload hC 0 dX9_base_76 rfl (q := 78) rfl ?_
            refine cg_X9_172 hC (ca_in_lt h16) (ca_in_lt h17) dX9_base_78 (q := 81) rfl ?_
            refine ca_goto hC dX9_base_81 (q := 86) rfl ?_
            exact ca_iretr hC dX9_base_86 rfl
        refine ca_ifs (x3 = 1) (fun h21 => ?_) (fun h21 => ?_)
        · refine ca_tin hC dX9_base_40 h21 (by decide) (by decide) rfl (q := 87) rfl ?_
          refine ca_aload hC 0 dX9_base_87 rfl (q := 89) rfl ?_
          refine cg_X9_167 hC (ca_in_lt h16) (ca_in_lt h17) dX9_base_89 (q := 92) rfl ?_
          refine ca_if_le hC dX9_base_92 (t := 103) (q := 95) rfl rfl (fun h22 => ?_) (fun h23 => ?_)
          · refine ca_bipush hC (v := (-4)) dX9_base_103 rfl (q := 105) rfl ?_
            exact ca_iretr hC dX9_base_105 rfl
          · refine ca_aload hC 0 dX9_base_95 rfl (q := 97) rfl ?_
            refine cg_X9_167 hC (ca_in_lt h16) (ca_in_lt h17) dX9_base_97 (q := 100) rfl ?_
            refine ca_goto hC dX9_base_100 (q := 105) rfl ?_
            exact ca_iretr hC dX9_base_105 rfl
        refine ca_ifs (x3 = 2) (fun h24 => ?_) (fun h24 => ?_)
        · refine ca_tin hC dX9_base_40 h24 (by decide) (by decide) rfl (q := 106) rfl ?_
          refine ca_aload hC 0 dX9_base_106 rfl (q := 108) rfl ?_
          refine cg_X9_175 hC (ca_in_lt h16) (ca_in_lt h17) dX9_base_108 (q := 111) rfl ?_
          refine ca_if_le hC dX9_base_111 (t := 122) (q := 114) rfl rfl (fun h25 => ?_) (fun h26 => ?_)
          · refine ca_bipush hC (v := (-4)) dX9_base_122 rfl (q := 124) rfl ?_
            exact ca_iretr hC dX9_base_124 rfl
          · refine ca_aload hC 0 dX9_base_114 rfl (q := 116) rfl ?_
            refine cg_X9_175 hC (ca_in_lt h16) (ca_in_lt h17) dX9_base_116 (q := 119) rfl ?_
            refine ca_goto hC dX9_base_119 (q := 124) rfl ?_
            exact ca_iretr hC dX9_base_124 rfl
        · refine ca_tout hC dX9_base_40 (fun z g1 g2 => by rcases (show z = 0 ∨ z = 1 ∨ z = 2 by omega) with rfl | rfl | rfl <;> assumption) (q := 125) rfl ?_
          refine ca_aload hC 0 dX9_base_125 rfl (q := 127) rfl ?_
          refine ca_callVr hC (rest := []) (cm_X2_greatestCount κ.1 κ.2.2.2.1 σ (Int32.toNatClampNeg x2) (Int32.toNatClampNeg x1) (ca_in_lt h16) (ca_in_lt h17)) ca_Y_X2_greatestCount ca_L_X9_178 (ca_m6 (ca_in_lt h16) (ca_in_lt h17)) rfl rfl rfl rfl (Nat.le_of_ble_eq_true rfl) ⟨Nat.le_of_ble_eq_true rfl, Nat.le_of_ble_eq_true rfl⟩ dX9_base_127 (q := 130) rfl (fun r27 h29 => ?_)
          refine ca_if_le hC dX9_base_130 (t := 141) (q := 133) rfl rfl (fun h30 => ?_) (fun h31 => ?_)
          · refine ca_bipush hC (v := (-4)) dX9_base_141 rfl (q := 143) rfl ?_
            exact ca_iretr hC dX9_base_143 rfl
          · refine ca_aload hC 0 dX9_base_133 rfl (q := 135) rfl ?_
            refine ca_callVr hC (rest := []) (cm_X2_greatestCount κ.1 κ.2.2.2.1 σ (Int32.toNatClampNeg x2) (Int32.toNatClampNeg x1) (ca_in_lt h16) (ca_in_lt h17)) ca_Y_X2_greatestCount ca_L_X9_178 (ca_m6 (ca_in_lt h16) (ca_in_lt h17)) rfl rfl rfl rfl (Nat.le_of_ble_eq_true rfl) ⟨Nat.le_of_ble_eq_true rfl, Nat.le_of_ble_eq_true rfl⟩ dX9_base_135 (q := 138) rfl (fun r32 h34 => ?_)
            refine ca_goto hC dX9_base_138 (q := 143) rfl ?_
            exact ca_iretr hC dX9_base_143 rfl
      · refine ca_iconst hC (v := (-1)) dX9_base_24 rfl (q := 25) rfl ?_
        exact ca_iretr hC dX9_base_25 rfl
theorem cm_X9_base (Γ : ca_G) (l : Launch) (σ : ca_S) (x1 : Int32) (x2 : Int32) (x3 : Int32) : ca_Mr Γ ca_cC l yX9_base cX9_base 5 (some .int) 2 41 [.ref (Γ.2.1 (0, 0, 0)), .int x1, .int x2, .int x3] σ (cf_X9_base σ x1 x2 x3) :=
  ca_met (by decide) (Nat.le_of_ble_eq_true rfl) rfl (fun κ h1 h2 hC => by
    subst h1
    have h := ct_X9_base hC σ x1 x2 x3
    unfold ca_Zr at h
    rw [h2] at h
    exact h)
-- X9_about
set_option maxRecDepth 100000 in
set_option maxHeartbeats 4000000 in
theorem ct_X9_about {κ : ca_K} (hC : ca_C κ ca_cC cX9_about 4 RX9 (some .int) 3 61) (σ : ca_S) (x1 : Int32) (x2 : Int32) : ca_T κ (ca_Zr κ σ) σ 0 [(0, .ref (ca_a κ (0, 0, 0))), (1, .int x1), (2, .int x2)] [] (cf_X9_about σ x1 x2) := by
  unfold cf_X9_about
  refine ca_aload_n hC 0 dX9_about_0 rfl rfl (q := 1) rfl ?_
  refine ca_iload_n hC 1 dX9_about_1 rfl rfl (q := 2) rfl ?_
  refine ca_callVr hC (rest := []) (cm_X9_isBox κ.1 κ.2.2.2.1 σ x1) ca_Y_X9_isBox ca_L_X9_66 ca_m0 rfl rfl rfl rfl (Nat.le_of_ble_eq_true rfl) ⟨Nat.le_of_ble_eq_true rfl, Nat.le_of_ble_eq_true rfl⟩ dX9_about_2 (q := 5) rfl (fun r1 h3 => ?_)
  refine ca_if_eq hC dX9_about_5 (t := 17) (q := 8) rfl rfl (fun h4 => ?_) (fun h5 => ?_)
  · refine ca_iconst hC (v := (-1)) dX9_about_17 rfl (q := 18) rfl ?_
    exact ca_iretr hC dX9_about_18 rfl
  · refine ca_iload_n hC 2 dX9_about_8 rfl rfl (q := 9) rfl ?_
    refine ca_iconst hC (v := 0) dX9_about_9 rfl (q := 10) rfl ?_
    refine ca_iconst hC (v := 3) dX9_about_10 rfl (q := 11) rfl ?_
    refine ca_callSr hC (rest := []) (cm_X9_isWithin κ.1 κ.2.2.2.1 σ x2 0 3) ca_Y_X9_isWithin ca_L_X9_76  rfl rfl (Nat.le_of_ble_eq_true rfl) ⟨Nat.le_of_ble_eq_true rfl, Nat.le_of_ble_eq_true rfl⟩ dX9_about_11 (q := 14) rfl (fun r6 h8 => ?_)
    refine ca_if_ne hC dX9_about_14 (t := 19) (q := 17) rfl rfl (fun h9 => ?_) (fun h10 => ?_)
    · refine ca_aload_n hC 0 dX9_about_19 rfl rfl (q := 20) rfl ?_
      refine cg_X9_11 hC  dX9_about_20 (q := 23) rfl ?_
      refine ca_iload_n hC 1 dX9_about_23 rfl rfl (q := 24) rfl ?_
      refine ca_al1 hC  dX9_about_24 (q := 25) rfl (fun h11 => ?_)
      refine ca_astore_n hC (lv' := [(3, .ref (ca_a κ (2, (Int32.toNatClampNeg x1), 0))), (0, .ref (ca_a κ (0, 0, 0))), (1, .int x1), (2, .int x2)]) dX9_about_25 rfl (by decide) rfl (q := 26) rfl ?_
      refine ca_pick [0, 3] (lv' := [(3, .ref (ca_a κ (2, (Int32.toNatClampNeg x1), 0))), (2, .int x2)]) rfl ?_
      refine ca_iload_n hC 1 dX9_about_26 rfl rfl (q := 27) rfl ?_
      refine ca_ifs (x2 = 0) (fun h12 => ?_) (fun h12 => ?_)
      · refine ca_tin hC dX9_about_27 h12 (by decide) (by decide) rfl (q := 52) rfl ?_
        refine ca_aload_n hC 0 dX9_about_52 rfl rfl (q := 53) rfl ?_
        refine cg_X9_182 hC (ca_in_lt h11) dX9_about_53 (q := 56) rfl ?_
        exact ca_iretr hC dX9_about_56 rfl
      refine ca_ifs (x2 = 1) (fun h13 => ?_) (fun h13 => ?_)
      · refine ca_tin hC dX9_about_27 h13 (by decide) (by decide) rfl (q := 57) rfl ?_
        refine ca_aload_n hC 0 dX9_about_57 rfl rfl (q := 58) rfl ?_
        refine cg_X9_147 hC (ca_in_lt h11) dX9_about_58 (q := 61) rfl ?_
        refine ca_iconst hC (v := 2) dX9_about_61 rfl (q := 62) rfl ?_
        refine ca_imul hC dX9_about_62 (q := 63) rfl ?_
        exact ca_iretr hC dX9_about_63 rfl
      refine ca_ifs (x2 = 2) (fun h14 => ?_) (fun h14 => ?_)
      · refine ca_tin hC dX9_about_27 h14 (by decide) (by decide) rfl (q := 64) rfl ?_
        refine ca_aload_n hC 0 dX9_about_64 rfl rfl (q := 65) rfl ?_
        refine ca_callVr hC (rest := []) (cm_X0_isAcknowledged κ.1 κ.2.2.2.1 σ (Int32.toNatClampNeg x1) (ca_in_lt h11)) ca_Y_X0_isAcknowledged ca_L_X9_144 (ca_m2 (ca_in_lt h11)) rfl rfl rfl rfl (Nat.le_of_ble_eq_true rfl) ⟨Nat.le_of_ble_eq_true rfl, Nat.le_of_ble_eq_true rfl⟩ dX9_about_65 (q := 68) rfl (fun r15 h17 => ?_)
        refine ca_if_eq hC dX9_about_68 (t := 75) (q := 71) rfl rfl (fun h18 => ?_) (fun h19 => ?_)
        · refine ca_iconst hC (v := 0) dX9_about_75 rfl (q := 76) rfl ?_
          exact ca_iretr hC dX9_about_76 rfl
        · refine ca_iconst hC (v := 1) dX9_about_71 rfl (q := 72) rfl ?_
          refine ca_goto hC dX9_about_72 (q := 76) rfl ?_
          exact ca_iretr hC dX9_about_76 rfl
      · refine ca_tout hC dX9_about_27 (fun z g1 g2 => by rcases (show z = 0 ∨ z = 1 ∨ z = 2 by omega) with rfl | rfl | rfl <;> assumption) (q := 77) rfl ?_
        refine ca_aload_n hC 0 dX9_about_77 rfl rfl (q := 78) rfl ?_
        refine ca_callVr hC (rest := []) (cm_X0_countedAnswer κ.1 κ.2.2.2.1 σ (Int32.toNatClampNeg x1) (ca_in_lt h11)) ca_Y_X0_countedAnswer ca_L_X9_185 (ca_m2 (ca_in_lt h11)) rfl rfl rfl rfl (Nat.le_of_ble_eq_true rfl) ⟨Nat.le_of_ble_eq_true rfl, Nat.le_of_ble_eq_true rfl⟩ dX9_about_78 (q := 81) rfl (fun r20 h22 => ?_)
        exact ca_iretr hC dX9_about_81 rfl
    · refine ca_iconst hC (v := (-1)) dX9_about_17 rfl (q := 18) rfl ?_
      exact ca_iretr hC dX9_about_18 rfl
theorem cm_X9_about (Γ : ca_G) (l : Launch) (σ : ca_S) (x1 : Int32) (x2 : Int32) : ca_Mr Γ ca_cC l yX9_about cX9_about 4 (some .int) 3 61 [.ref (Γ.2.1 (0, 0, 0)), .int x1, .int x2] σ (cf_X9_about σ x1 x2) :=
  ca_met (by decide) (Nat.le_of_ble_eq_true rfl) rfl (fun κ h1 h2 hC => by
    subst h1
    have h := ct_X9_about hC σ x1 x2
    unfold ca_Zr at h
    rw [h2] at h
    exact h)
-- X9_isShown
set_option maxRecDepth 100000 in
set_option maxHeartbeats 4000000 in
theorem ct_X9_isShown {κ : ca_K} (hC : ca_C κ ca_cC cX9_isShown 1 RX9 (some .boolean) 0 0) (σ : ca_S) : ca_T κ (ca_Zr κ σ) σ 0 [(0, .ref (ca_a κ (0, 0, 0)))] [] (cf_X9_isShown σ) := by
  unfold cf_X9_isShown
  refine ca_aload_n hC 0 dX9_isShown_0 rfl rfl (q := 1) rfl ?_
  refine cg_X9_18 hC  dX9_isShown_1 (q := 4) rfl ?_
  refine cg_X9_58 hC  dX9_isShown_4 (q := 7) rfl ?_
  refine ca_if_eq hC dX9_isShown_7 (t := 35) (q := 10) rfl rfl (fun h1 => ?_) (fun h2 => ?_)
  · refine ca_iconst hC (v := 0) dX9_isShown_35 rfl (q := 36) rfl ?_
    exact ca_iretr hC dX9_isShown_36 rfl
  · refine ca_aload_n hC 0 dX9_isShown_10 rfl rfl (q := 11) rfl ?_
    refine cg_X9_88 hC  dX9_isShown_11 (q := 14) rfl ?_
    refine ca_if_eq hC dX9_isShown_14 (t := 31) (q := 17) rfl rfl (fun h3 => ?_) (fun h4 => ?_)
    · refine ca_iconst hC (v := 1) dX9_isShown_31 rfl (q := 32) rfl ?_
      refine ca_goto hC dX9_isShown_32 (q := 36) rfl ?_
      exact ca_iretr hC dX9_isShown_36 rfl
    · refine ca_aload_n hC 0 dX9_isShown_17 rfl rfl (q := 18) rfl ?_
      refine cg_X9_98 hC  dX9_isShown_18 (q := 21) rfl ?_
      refine ca_aload_n hC 0 dX9_isShown_21 rfl rfl (q := 22) rfl ?_
      refine cg_X9_18 hC  dX9_isShown_22 (q := 25) rfl ?_
      refine cg_X9_134 hC  dX9_isShown_25 (q := 28) rfl ?_
      refine ca_icmp_lt hC dX9_isShown_28 (t := 35) (q := 31) rfl rfl (fun h5 => ?_) (fun h6 => ?_)
      · refine ca_iconst hC (v := 0) dX9_isShown_35 rfl (q := 36) rfl ?_
        exact ca_iretr hC dX9_isShown_36 rfl
      · refine ca_iconst hC (v := 1) dX9_isShown_31 rfl (q := 32) rfl ?_
        refine ca_goto hC dX9_isShown_32 (q := 36) rfl ?_
        exact ca_iretr hC dX9_isShown_36 rfl
theorem cm_X9_isShown (Γ : ca_G) (l : Launch) (σ : ca_S) : ca_Mr Γ ca_cC l yX9_isShown cX9_isShown 1 (some .boolean) 0 0 [.ref (Γ.2.1 (0, 0, 0))] σ (cf_X9_isShown σ) :=
  ca_met (by decide) (Nat.le_of_ble_eq_true rfl) rfl (fun κ h1 h2 hC => by
    subst h1
    have h := ct_X9_isShown hC σ 
    unfold ca_Zr at h
    rw [h2] at h
    exact h)
-- X9_countAnswered
set_option maxRecDepth 100000 in
set_option maxHeartbeats 4000000 in
theorem ct_X9_countAnswered_4 {κ : ca_K} (hC : ca_C κ ca_cC cX9_countAnswered 3 RX9 (some .int) 1 21) (σ : ca_S) {K : Int32 → Option (Int32)} (hK : ∀ (x1 : Int32), ca_T κ (ca_Zr κ σ) σ 35 [(1, .int x1)] [] (K x1)) : ∀ (n : Nat) (x1 : Int32) (x2 : Int32), ca_T κ (ca_Zr κ σ) σ 4 [(0, .ref (ca_a κ (0, 0, 0))), (1, .int x1), (2, .int x2)] [] (cl_X9_countAnswered_4 σ K n x1 x2) := by
  intro n
  induction n with
  | zero => intro x1 x2; exact ca_no
  | succ n ih =>
    intro x1 x2
    rw [cl_X9_countAnswered_4]
    refine ca_iload_n hC 2 dX9_countAnswered_4 rfl rfl (q := 5) rfl ?_
    refine ca_aload_n hC 0 dX9_countAnswered_5 rfl rfl (q := 6) rfl ?_
    refine cg_X9_62 hC  dX9_countAnswered_6 (q := 9) rfl ?_
    refine ca_icmp_ge hC dX9_countAnswered_9 (t := 35) (q := 12) rfl rfl (fun h1 => ?_) (fun h2 => ?_)
    · exact ca_pick [1] rfl (hK x1)
    · refine ca_aload_n hC 0 dX9_countAnswered_12 rfl rfl (q := 13) rfl ?_
      refine cg_X9_11 hC  dX9_countAnswered_13 (q := 16) rfl ?_
      refine ca_iload_n hC 2 dX9_countAnswered_16 rfl rfl (q := 17) rfl ?_
      refine ca_al1 hC  dX9_countAnswered_17 (q := 18) rfl (fun h3 => ?_)
      refine ca_callVr hC (rest := []) (cm_X0_countedAnswer κ.1 κ.2.2.2.1 σ (Int32.toNatClampNeg x2) (ca_in_lt h3)) ca_Y_X0_countedAnswer ca_L_X9_185 (ca_m2 (ca_in_lt h3)) rfl rfl rfl rfl (Nat.le_of_ble_eq_true rfl) ⟨Nat.le_of_ble_eq_true rfl, Nat.le_of_ble_eq_true rfl⟩ dX9_countAnswered_18 (q := 21) rfl (fun r4 h6 => ?_)
      refine ca_bipush hC (v := (-4)) dX9_countAnswered_21 rfl (q := 23) rfl ?_
      refine ca_icmp_eq hC dX9_countAnswered_23 (t := 29) (q := 26) rfl rfl (fun h7 => ?_) (fun h8 => ?_)
      · refine ca_iinc hC 2 (v := (x2 + 1)) (lv' := [(2, .int (x2 + 1)), (0, .ref (ca_a κ (0, 0, 0))), (1, .int x1)]) dX9_countAnswered_29 rfl rfl (by decide) rfl (q := 32) rfl ?_
        refine ca_goto hC dX9_countAnswered_32 (q := 4) rfl ?_
        exact ca_pick [1, 2, 0] rfl (ih x1 (x2 + 1))
      · refine ca_iinc hC 1 (v := (x1 + 1)) (lv' := [(1, .int (x1 + 1)), (0, .ref (ca_a κ (0, 0, 0))), (2, .int x2)]) dX9_countAnswered_26 rfl rfl (by decide) rfl (q := 29) rfl ?_
        refine ca_iinc hC 2 (v := (x2 + 1)) (lv' := [(2, .int (x2 + 1)), (1, .int (x1 + 1)), (0, .ref (ca_a κ (0, 0, 0)))]) dX9_countAnswered_29 rfl rfl (by decide) rfl (q := 32) rfl ?_
        refine ca_goto hC dX9_countAnswered_32 (q := 4) rfl ?_
        exact ca_pick [2, 1, 0] rfl (ih (x1 + 1) (x2 + 1))
set_option maxRecDepth 100000 in
set_option maxHeartbeats 4000000 in
theorem ct_X9_countAnswered {κ : ca_K} (hC : ca_C κ ca_cC cX9_countAnswered 3 RX9 (some .int) 1 21) (σ : ca_S) : ca_T κ (ca_Zr κ σ) σ 0 [(0, .ref (ca_a κ (0, 0, 0)))] [] (cf_X9_countAnswered σ) := by
  unfold cf_X9_countAnswered
  refine ca_iconst hC (v := 0) dX9_countAnswered_0 rfl (q := 1) rfl ?_
  refine ca_istore_n hC (lv' := [(1, .int 0), (0, .ref (ca_a κ (0, 0, 0)))]) dX9_countAnswered_1 rfl (by decide) rfl (q := 2) rfl ?_
  refine ca_iconst hC (v := 0) dX9_countAnswered_2 rfl (q := 3) rfl ?_
  refine ca_istore_n hC (lv' := [(2, .int 0), (1, .int 0), (0, .ref (ca_a κ (0, 0, 0)))]) dX9_countAnswered_3 rfl (by decide) rfl (q := 4) rfl ?_
  refine ca_pick [2, 1, 0] rfl (ct_X9_countAnswered_4 hC σ ?_ ca_FU 0 0)
  intro x9
  refine ca_iload_n hC 0 dX9_countAnswered_35 rfl rfl (q := 36) rfl ?_
  exact ca_iretr hC dX9_countAnswered_36 rfl
theorem cm_X9_countAnswered (Γ : ca_G) (l : Launch) (σ : ca_S) : ca_Mr Γ ca_cC l yX9_countAnswered cX9_countAnswered 3 (some .int) 1 21 [.ref (Γ.2.1 (0, 0, 0))] σ (cf_X9_countAnswered σ) :=
  ca_met (by decide) (Nat.le_of_ble_eq_true rfl) rfl (fun κ h1 h2 hC => by
    subst h1
    have h := ct_X9_countAnswered hC σ 
    unfold ca_Zr at h
    rw [h2] at h
    exact h)
-- X9_answers
set_option maxRecDepth 100000 in
set_option maxHeartbeats 4000000 in
theorem ct_X9_answers {κ : ca_K} (hC : ca_C κ ca_cC cX9_answers 1 RX9 (some .int) 2 43) (σ : ca_S) : ca_T κ (ca_Zr κ σ) σ 0 [(0, .ref (ca_a κ (0, 0, 0)))] [] (cf_X9_answers σ) := by
  unfold cf_X9_answers
  refine ca_aload_n hC 0 dX9_answers_0 rfl rfl (q := 1) rfl ?_
  refine ca_callVr hC (rest := []) (cm_X9_isShown κ.1 κ.2.2.2.1 σ) ca_Y_X9_isShown ca_L_X9_188 ca_m0 rfl rfl rfl rfl (Nat.le_of_ble_eq_true rfl) ⟨Nat.le_of_ble_eq_true rfl, Nat.le_of_ble_eq_true rfl⟩ dX9_answers_1 (q := 4) rfl (fun r1 h3 => ?_)
  refine ca_if_eq hC dX9_answers_4 (t := 14) (q := 7) rfl rfl (fun h4 => ?_) (fun h5 => ?_)
  · refine ca_bipush hC (v := (-2)) dX9_answers_14 rfl (q := 16) rfl ?_
    exact ca_iretr hC dX9_answers_16 rfl
  · refine ca_aload_n hC 0 dX9_answers_7 rfl rfl (q := 8) rfl ?_
    refine ca_callVr hC (rest := []) (cm_X9_countAnswered κ.1 κ.2.2.2.1 σ) ca_Y_X9_countAnswered ca_L_X9_191 ca_m0 rfl rfl rfl rfl (Nat.le_of_ble_eq_true rfl) ⟨Nat.le_of_ble_eq_true rfl, Nat.le_of_ble_eq_true rfl⟩ dX9_answers_8 (q := 11) rfl (fun r6 h8 => ?_)
    refine ca_goto hC dX9_answers_11 (q := 16) rfl ?_
    exact ca_iretr hC dX9_answers_16 rfl
theorem cm_X9_answers (Γ : ca_G) (l : Launch) (σ : ca_S) : ca_Mr Γ ca_cC l yX9_answers cX9_answers 1 (some .int) 2 43 [.ref (Γ.2.1 (0, 0, 0))] σ (cf_X9_answers σ) :=
  ca_met (by decide) (Nat.le_of_ble_eq_true rfl) rfl (fun κ h1 h2 hC => by
    subst h1
    have h := ct_X9_answers hC σ 
    unfold ca_Zr at h
    rw [h2] at h
    exact h)
-- X9_areResultsShown
set_option maxRecDepth 100000 in
set_option maxHeartbeats 4000000 in
theorem ct_X9_areResultsShown {κ : ca_K} (hC : ca_C κ ca_cC cX9_areResultsShown 2 RX9 (some .boolean) 2 43) (σ : ca_S) (x1 : Int32) : ca_T κ (ca_Zr κ σ) σ 0 [(0, .ref (ca_a κ (0, 0, 0))), (1, .int x1)] [] (cf_X9_areResultsShown σ x1) := by
  unfold cf_X9_areResultsShown
  refine ca_aload_n hC 0 dX9_areResultsShown_0 rfl rfl (q := 1) rfl ?_
  refine ca_callVr hC (rest := []) (cm_X9_isShown κ.1 κ.2.2.2.1 σ) ca_Y_X9_isShown ca_L_X9_188 ca_m0 rfl rfl rfl rfl (Nat.le_of_ble_eq_true rfl) ⟨Nat.le_of_ble_eq_true rfl, Nat.le_of_ble_eq_true rfl⟩ dX9_areResultsShown_1 (q := 4) rfl (fun r1 h3 => ?_)
  refine ca_if_eq hC dX9_areResultsShown_4 (t := 33) (q := 7) rfl rfl (fun h4 => ?_) (fun h5 => ?_)
  · refine ca_iconst hC (v := 0) dX9_areResultsShown_33 rfl (q := 34) rfl ?_
    exact ca_iretr hC dX9_areResultsShown_34 rfl
  · refine ca_aload_n hC 0 dX9_areResultsShown_7 rfl rfl (q := 8) rfl ?_
    refine cg_X9_18 hC  dX9_areResultsShown_8 (q := 11) rfl ?_
    refine cg_X9_226 hC  dX9_areResultsShown_11 (q := 14) rfl ?_
    refine ca_iload_n hC 1 dX9_areResultsShown_14 rfl rfl (q := 15) rfl ?_
    refine ca_icmp_ne hC dX9_areResultsShown_15 (t := 33) (q := 18) rfl rfl (fun h6 => ?_) (fun h7 => ?_)
    · refine ca_iconst hC (v := 0) dX9_areResultsShown_33 rfl (q := 34) rfl ?_
      exact ca_iretr hC dX9_areResultsShown_34 rfl
    · refine ca_aload_n hC 0 dX9_areResultsShown_18 rfl rfl (q := 19) rfl ?_
      refine ca_callVr hC (rest := []) (cm_X9_countAnswered κ.1 κ.2.2.2.1 σ) ca_Y_X9_countAnswered ca_L_X9_191 ca_m0 rfl rfl rfl rfl (Nat.le_of_ble_eq_true rfl) ⟨Nat.le_of_ble_eq_true rfl, Nat.le_of_ble_eq_true rfl⟩ dX9_areResultsShown_19 (q := 22) rfl (fun r8 h10 => ?_)
      refine ca_aload_n hC 0 dX9_areResultsShown_22 rfl rfl (q := 23) rfl ?_
      refine cg_X9_91 hC  dX9_areResultsShown_23 (q := 26) rfl ?_
      refine ca_icmp_lt hC dX9_areResultsShown_26 (t := 33) (q := 29) rfl rfl (fun h11 => ?_) (fun h12 => ?_)
      · refine ca_iconst hC (v := 0) dX9_areResultsShown_33 rfl (q := 34) rfl ?_
        exact ca_iretr hC dX9_areResultsShown_34 rfl
      · refine ca_iconst hC (v := 1) dX9_areResultsShown_29 rfl (q := 30) rfl ?_
        refine ca_goto hC dX9_areResultsShown_30 (q := 34) rfl ?_
        exact ca_iretr hC dX9_areResultsShown_34 rfl
theorem cm_X9_areResultsShown (Γ : ca_G) (l : Launch) (σ : ca_S) (x1 : Int32) : ca_Mr Γ ca_cC l yX9_areResultsShown cX9_areResultsShown 2 (some .boolean) 2 43 [.ref (Γ.2.1 (0, 0, 0)), .int x1] σ (cf_X9_areResultsShown σ x1) :=
  ca_met (by decide) (Nat.le_of_ble_eq_true rfl) rfl (fun κ h1 h2 hC => by
    subst h1
    have h := ct_X9_areResultsShown hC σ x1
    unfold ca_Zr at h
    rw [h2] at h
    exact h)
-- X9_share
set_option maxRecDepth 100000 in
set_option maxHeartbeats 4000000 in
theorem ct_X9_share_27 {κ : ca_K} (hC : ca_C κ ca_cC cX9_share 4 RX9 (some .int) 3 64) (σ : ca_S) (x1 : Int32) {K : Int32 → Option (Int32)} (hK : ∀ (x2 : Int32), ca_T κ (ca_Zr κ σ) σ 57 [(2, .int x2)] [] (K x2)) : ∀ (n : Nat) (x2 : Int32) (x3 : Int32), ca_T κ (ca_Zr κ σ) σ 27 [(0, .ref (ca_a κ (0, 0, 0))), (1, .int x1), (2, .int x2), (3, .int x3)] [] (cl_X9_share_27 σ x1 K n x2 x3) := by
  intro n
  induction n with
  | zero => intro x2 x3; exact ca_no
  | succ n ih =>
    intro x2 x3
    rw [cl_X9_share_27]
    refine ca_iload_n hC 3 dX9_share_27 rfl rfl (q := 28) rfl ?_
    refine ca_aload_n hC 0 dX9_share_28 rfl rfl (q := 29) rfl ?_
    refine cg_X9_62 hC  dX9_share_29 (q := 32) rfl ?_
    refine ca_icmp_ge hC dX9_share_32 (t := 57) (q := 35) rfl rfl (fun h11 => ?_) (fun h12 => ?_)
    · exact ca_pick [2] rfl (hK x2)
    · refine ca_aload_n hC 0 dX9_share_35 rfl rfl (q := 36) rfl ?_
      refine cg_X9_11 hC  dX9_share_36 (q := 39) rfl ?_
      refine ca_iload_n hC 3 dX9_share_39 rfl rfl (q := 40) rfl ?_
      refine ca_al1 hC  dX9_share_40 (q := 41) rfl (fun h13 => ?_)
      refine ca_callVr hC (rest := []) (cm_X0_countedAnswer κ.1 κ.2.2.2.1 σ (Int32.toNatClampNeg x3) (ca_in_lt h13)) ca_Y_X0_countedAnswer ca_L_X9_185 (ca_m2 (ca_in_lt h13)) rfl rfl rfl rfl (Nat.le_of_ble_eq_true rfl) ⟨Nat.le_of_ble_eq_true rfl, Nat.le_of_ble_eq_true rfl⟩ dX9_share_41 (q := 44) rfl (fun r14 h16 => ?_)
      refine ca_iload_n hC 1 dX9_share_44 rfl rfl (q := 45) rfl ?_
      refine ca_icmp_ne hC dX9_share_45 (t := 51) (q := 48) rfl rfl (fun h17 => ?_) (fun h18 => ?_)
      · refine ca_iinc hC 3 (v := (x3 + 1)) (lv' := [(3, .int (x3 + 1)), (0, .ref (ca_a κ (0, 0, 0))), (1, .int x1), (2, .int x2)]) dX9_share_51 rfl rfl (by decide) rfl (q := 54) rfl ?_
        refine ca_goto hC dX9_share_54 (q := 27) rfl ?_
        exact ca_pick [1, 2, 3, 0] rfl (ih x2 (x3 + 1))
      · refine ca_iinc hC 2 (v := (x2 + 1)) (lv' := [(2, .int (x2 + 1)), (0, .ref (ca_a κ (0, 0, 0))), (1, .int x1), (3, .int x3)]) dX9_share_48 rfl rfl (by decide) rfl (q := 51) rfl ?_
        refine ca_iinc hC 3 (v := (x3 + 1)) (lv' := [(3, .int (x3 + 1)), (2, .int (x2 + 1)), (0, .ref (ca_a κ (0, 0, 0))), (1, .int x1)]) dX9_share_51 rfl rfl (by decide) rfl (q := 54) rfl ?_
        refine ca_goto hC dX9_share_54 (q := 27) rfl ?_
        exact ca_pick [2, 3, 1, 0] rfl (ih (x2 + 1) (x3 + 1))
set_option maxRecDepth 100000 in
set_option maxHeartbeats 4000000 in
theorem ct_X9_share {κ : ca_K} (hC : ca_C κ ca_cC cX9_share 4 RX9 (some .int) 3 64) (σ : ca_S) (x1 : Int32) : ca_T κ (ca_Zr κ σ) σ 0 [(0, .ref (ca_a κ (0, 0, 0))), (1, .int x1)] [] (cf_X9_share σ x1) := by
  unfold cf_X9_share
  refine ca_iload_n hC 1 dX9_share_0 rfl rfl (q := 1) rfl ?_
  refine ca_iconst hC (v := 0) dX9_share_1 rfl (q := 2) rfl ?_
  refine ca_bipush hC (v := 7) dX9_share_2 rfl (q := 4) rfl ?_
  refine ca_callSr hC (rest := []) (cm_X9_isWithin κ.1 κ.2.2.2.1 σ x1 0 7) ca_Y_X9_isWithin ca_L_X9_76  rfl rfl (Nat.le_of_ble_eq_true rfl) ⟨Nat.le_of_ble_eq_true rfl, Nat.le_of_ble_eq_true rfl⟩ dX9_share_4 (q := 7) rfl (fun r1 h3 => ?_)
  refine ca_if_ne hC dX9_share_7 (t := 12) (q := 10) rfl rfl (fun h4 => ?_) (fun h5 => ?_)
  · refine ca_aload_n hC 0 dX9_share_12 rfl rfl (q := 13) rfl ?_
    refine ca_iconst hC (v := 0) dX9_share_13 rfl (q := 14) rfl ?_
    refine ca_callVr hC (rest := []) (cm_X9_areResultsShown κ.1 κ.2.2.2.1 σ 0) ca_Y_X9_areResultsShown ca_L_X9_194 ca_m0 rfl rfl rfl rfl (Nat.le_of_ble_eq_true rfl) ⟨Nat.le_of_ble_eq_true rfl, Nat.le_of_ble_eq_true rfl⟩ dX9_share_14 (q := 17) rfl (fun r6 h8 => ?_)
    refine ca_if_ne hC dX9_share_17 (t := 23) (q := 20) rfl rfl (fun h9 => ?_) (fun h10 => ?_)
    · refine ca_iconst hC (v := 0) dX9_share_23 rfl (q := 24) rfl ?_
      refine ca_istore_n hC (lv' := [(2, .int 0), (0, .ref (ca_a κ (0, 0, 0))), (1, .int x1)]) dX9_share_24 rfl (by decide) rfl (q := 25) rfl ?_
      refine ca_iconst hC (v := 0) dX9_share_25 rfl (q := 26) rfl ?_
      refine ca_istore_n hC (lv' := [(3, .int 0), (2, .int 0), (0, .ref (ca_a κ (0, 0, 0))), (1, .int x1)]) dX9_share_26 rfl (by decide) rfl (q := 27) rfl ?_
      refine ca_pick [2, 3, 1, 0] rfl (ct_X9_share_27 hC σ x1 ?_ ca_FU 0 0)
      intro x19
      refine ca_iload_n hC 0 dX9_share_57 rfl rfl (q := 58) rfl ?_
      exact ca_iretr hC dX9_share_58 rfl
    · refine ca_bipush hC (v := (-2)) dX9_share_20 rfl (q := 22) rfl ?_
      exact ca_iretr hC dX9_share_22 rfl
  · refine ca_iconst hC (v := (-1)) dX9_share_10 rfl (q := 11) rfl ?_
    exact ca_iretr hC dX9_share_11 rfl
theorem cm_X9_share (Γ : ca_G) (l : Launch) (σ : ca_S) (x1 : Int32) : ca_Mr Γ ca_cC l yX9_share cX9_share 4 (some .int) 3 64 [.ref (Γ.2.1 (0, 0, 0)), .int x1] σ (cf_X9_share σ x1) :=
  ca_met (by decide) (Nat.le_of_ble_eq_true rfl) rfl (fun κ h1 h2 hC => by
    subst h1
    have h := ct_X9_share hC σ x1
    unfold ca_Zr at h
    rw [h2] at h
    exact h)
-- X9_number
set_option maxRecDepth 100000 in
set_option maxHeartbeats 4000000 in
theorem ct_X9_number {κ : ca_K} (hC : ca_C κ ca_cC cX9_number 2 RX9 (some .int) 3 66) (σ : ca_S) (x1 : Int32) : ca_T κ (ca_Zi κ) σ 0 [(0, .ref (ca_a κ (0, 0, 0))), (1, .int x1)] [] (cf_X9_number σ x1) := by
  unfold cf_X9_number
  refine ca_iload_n hC 1 dX9_number_0 rfl rfl (q := 1) rfl ?_
  refine ca_iconst hC (v := 0) dX9_number_1 rfl (q := 2) rfl ?_
  refine ca_iconst hC (v := 2) dX9_number_2 rfl (q := 3) rfl ?_
  refine ca_callSr hC (rest := []) (cm_X9_isWithin κ.1 κ.2.2.2.1 σ x1 0 2) ca_Y_X9_isWithin ca_L_X9_76  rfl rfl (Nat.le_of_ble_eq_true rfl) ⟨Nat.le_of_ble_eq_true rfl, Nat.le_of_ble_eq_true rfl⟩ dX9_number_3 (q := 6) rfl (fun r1 h3 => ?_)
  refine ca_if_ne hC dX9_number_6 (t := 11) (q := 9) rfl rfl (fun h4 => ?_) (fun h5 => ?_)
  · refine ca_aload_n hC 0 dX9_number_11 rfl rfl (q := 12) rfl ?_
    refine ca_iconst hC (v := 1) dX9_number_12 rfl (q := 13) rfl ?_
    refine ca_callVr hC (rest := []) (cm_X9_areResultsShown κ.1 κ.2.2.2.1 σ 1) ca_Y_X9_areResultsShown ca_L_X9_194 ca_m0 rfl rfl rfl rfl (Nat.le_of_ble_eq_true rfl) ⟨Nat.le_of_ble_eq_true rfl, Nat.le_of_ble_eq_true rfl⟩ dX9_number_13 (q := 16) rfl (fun r6 h8 => ?_)
    refine ca_if_eq hC dX9_number_16 (t := 26) (q := 19) rfl rfl (fun h9 => ?_) (fun h10 => ?_)
    · refine ca_bipush hC (v := (-2)) dX9_number_26 rfl (q := 28) rfl ?_
      exact ca_ireti hC dX9_number_28 rfl
    · refine ca_aload_n hC 0 dX9_number_19 rfl rfl (q := 20) rfl ?_
      refine ca_callVr hC (rest := []) (cm_X9_countAnswered κ.1 κ.2.2.2.1 σ) ca_Y_X9_countAnswered ca_L_X9_191 ca_m0 rfl rfl rfl rfl (Nat.le_of_ble_eq_true rfl) ⟨Nat.le_of_ble_eq_true rfl, Nat.le_of_ble_eq_true rfl⟩ dX9_number_20 (q := 23) rfl (fun r11 h13 => ?_)
      refine ca_if_ne hC dX9_number_23 (t := 29) (q := 26) rfl rfl (fun h14 => ?_) (fun h15 => ?_)
      · refine ca_aload_n hC 0 dX9_number_29 rfl rfl (q := 30) rfl ?_
        refine cg_X9_46 hC  dX9_number_30 (q := 33) rfl ?_
        refine ca_aload_n hC 0 dX9_number_33 rfl rfl (q := 34) rfl ?_
        refine cg_X9_11 hC  dX9_number_34 (q := 37) rfl ?_
        refine ca_aload_n hC 0 dX9_number_37 rfl rfl (q := 38) rfl ?_
        refine cg_X9_62 hC  dX9_number_38 (q := 41) rfl ?_
        refine ca_callVv hC (rest := []) (cm_X5_look κ.1 κ.2.2.2.1 σ (σ.1 (0, 0, 0) 1)) ca_Y_X5_look ca_L_X9_197 ca_m14 rfl rfl rfl rfl (Nat.le_of_ble_eq_true rfl) ⟨Nat.le_of_ble_eq_true rfl, Nat.le_of_ble_eq_true rfl⟩ dX9_number_41 (q := 44) rfl (fun σ17 h18 => ?_)
        refine ca_iload_n hC 1 dX9_number_44 rfl rfl (q := 45) rfl ?_
        refine ca_if_ne hC dX9_number_45 (t := 56) (q := 48) rfl rfl (fun h19 => ?_) (fun h20 => ?_)
        · refine ca_iload_n hC 1 dX9_number_56 rfl rfl (q := 57) rfl ?_
          refine ca_iconst hC (v := 1) dX9_number_57 rfl (q := 58) rfl ?_
          refine ca_icmp_ne hC dX9_number_58 (t := 74) (q := 61) rfl rfl (fun h21 => ?_) (fun h22 => ?_)
          · refine ca_aload_n hC 0 dX9_number_74 rfl rfl (q := 75) rfl ?_
            refine cg_X9_46 hC  dX9_number_75 (q := 78) rfl ?_
            refine cg_X9_204 hC  dX9_number_78 (q := 81) rfl ?_
            exact ca_ireti hC dX9_number_81 rfl
          · refine ca_aload_n hC 0 dX9_number_61 rfl rfl (q := 62) rfl ?_
            refine cg_X9_46 hC  dX9_number_62 (q := 65) rfl ?_
            refine cg_X9_204 hC  dX9_number_65 (q := 68) rfl ?_
            refine ca_callSr hC (rest := []) (cm_J6_bitCount_0f7a4 κ.1 κ.2.2.2.1 σ17 (σ17.1 (14, 0, 0) 3)) ca_Y_J6_bitCount_0f7a4 ca_L_X9_207  rfl rfl (Nat.le_of_ble_eq_true rfl) ⟨Nat.le_of_ble_eq_true rfl, Nat.le_of_ble_eq_true rfl⟩ dX9_number_68 (q := 71) rfl (fun r23 h25 => ?_)
            refine ca_goto hC dX9_number_71 (q := 81) rfl ?_
            exact ca_ireti hC dX9_number_81 rfl
        · refine ca_aload_n hC 0 dX9_number_48 rfl rfl (q := 49) rfl ?_
          refine cg_X9_46 hC  dX9_number_49 (q := 52) rfl ?_
          refine cg_X9_201 hC  dX9_number_52 (q := 55) rfl ?_
          exact ca_ireti hC dX9_number_55 rfl
      · refine ca_bipush hC (v := (-2)) dX9_number_26 rfl (q := 28) rfl ?_
        exact ca_ireti hC dX9_number_28 rfl
  · refine ca_iconst hC (v := (-1)) dX9_number_9 rfl (q := 10) rfl ?_
    exact ca_ireti hC dX9_number_10 rfl
theorem cm_X9_number (Γ : ca_G) (l : Launch) (σ : ca_S) (x1 : Int32) : ca_Mi Γ ca_cC l yX9_number cX9_number 2 (some .int) 3 66 [.ref (Γ.2.1 (0, 0, 0)), .int x1] σ (cf_X9_number σ x1) :=
  ca_met (by decide) (Nat.le_of_ble_eq_true rfl) rfl (fun κ h1 h2 hC => by
    subst h1
    have h := ct_X9_number hC σ x1
    unfold ca_Zi at h
    rw [h2] at h
    exact h)
-- X9_order
set_option maxRecDepth 100000 in
set_option maxHeartbeats 4000000 in
theorem ct_X9_order {κ : ca_K} (hC : ca_C κ ca_cC cX9_order 2 RX9 (some .int) 3 77) (σ : ca_S) (x1 : Int32) : ca_T κ (ca_Zi κ) σ 0 [(0, .ref (ca_a κ (0, 0, 0))), (1, .int x1)] [] (cf_X9_order σ x1) := by
  unfold cf_X9_order
  refine ca_iload_n hC 1 dX9_order_0 rfl rfl (q := 1) rfl ?_
  refine ca_iconst hC (v := 0) dX9_order_1 rfl (q := 2) rfl ?_
  refine ca_iconst hC (v := 1) dX9_order_2 rfl (q := 3) rfl ?_
  refine ca_callSr hC (rest := []) (cm_X9_isWithin κ.1 κ.2.2.2.1 σ x1 0 1) ca_Y_X9_isWithin ca_L_X9_76  rfl rfl (Nat.le_of_ble_eq_true rfl) ⟨Nat.le_of_ble_eq_true rfl, Nat.le_of_ble_eq_true rfl⟩ dX9_order_3 (q := 6) rfl (fun r1 h3 => ?_)
  refine ca_if_ne hC dX9_order_6 (t := 11) (q := 9) rfl rfl (fun h4 => ?_) (fun h5 => ?_)
  · refine ca_aload_n hC 0 dX9_order_11 rfl rfl (q := 12) rfl ?_
    refine ca_iconst hC (v := 2) dX9_order_12 rfl (q := 13) rfl ?_
    refine ca_callVr hC (rest := []) (cm_X9_areResultsShown κ.1 κ.2.2.2.1 σ 2) ca_Y_X9_areResultsShown ca_L_X9_194 ca_m0 rfl rfl rfl rfl (Nat.le_of_ble_eq_true rfl) ⟨Nat.le_of_ble_eq_true rfl, Nat.le_of_ble_eq_true rfl⟩ dX9_order_13 (q := 16) rfl (fun r6 h8 => ?_)
    refine ca_if_eq hC dX9_order_16 (t := 26) (q := 19) rfl rfl (fun h9 => ?_) (fun h10 => ?_)
    · refine ca_bipush hC (v := (-2)) dX9_order_26 rfl (q := 28) rfl ?_
      exact ca_ireti hC dX9_order_28 rfl
    · refine ca_aload_n hC 0 dX9_order_19 rfl rfl (q := 20) rfl ?_
      refine ca_callVr hC (rest := []) (cm_X9_countAnswered κ.1 κ.2.2.2.1 σ) ca_Y_X9_countAnswered ca_L_X9_191 ca_m0 rfl rfl rfl rfl (Nat.le_of_ble_eq_true rfl) ⟨Nat.le_of_ble_eq_true rfl, Nat.le_of_ble_eq_true rfl⟩ dX9_order_20 (q := 23) rfl (fun r11 h13 => ?_)
      refine ca_if_ne hC dX9_order_23 (t := 29) (q := 26) rfl rfl (fun h14 => ?_) (fun h15 => ?_)
      · refine ca_aload_n hC 0 dX9_order_29 rfl rfl (q := 30) rfl ?_
        refine cg_X9_53 hC  dX9_order_30 (q := 33) rfl ?_
        refine ca_aload_n hC 0 dX9_order_33 rfl rfl (q := 34) rfl ?_
        refine cg_X9_11 hC  dX9_order_34 (q := 37) rfl ?_
        refine ca_aload_n hC 0 dX9_order_37 rfl rfl (q := 38) rfl ?_
        refine cg_X9_62 hC  dX9_order_38 (q := 41) rfl ?_
        refine ca_aload_n hC 0 dX9_order_41 rfl rfl (q := 42) rfl ?_
        refine cg_X9_18 hC  dX9_order_42 (q := 45) rfl ?_
        refine cg_X9_213 hC  dX9_order_45 (q := 48) rfl ?_
        refine ca_callVv hC (rest := []) (cm_X1_join κ.1 κ.2.2.2.1 σ (σ.1 (0, 0, 0) 1) (σ.1 (7, 0, 0) 2)) ca_Y_X1_join ca_L_X9_216 ca_m16 rfl rfl rfl rfl (Nat.le_of_ble_eq_true rfl) ⟨Nat.le_of_ble_eq_true rfl, Nat.le_of_ble_eq_true rfl⟩ dX9_order_48 (q := 51) rfl (fun σ17 h18 => ?_)
        refine ca_iload_n hC 1 dX9_order_51 rfl rfl (q := 52) rfl ?_
        refine ca_if_ne hC dX9_order_52 (t := 65) (q := 55) rfl rfl (fun h19 => ?_) (fun h20 => ?_)
        · refine ca_aload_n hC 0 dX9_order_65 rfl rfl (q := 66) rfl ?_
          refine cg_X9_53 hC  dX9_order_66 (q := 69) rfl ?_
          refine cg_X9_223 hC  dX9_order_69 (q := 72) rfl ?_
          exact ca_ireti hC dX9_order_72 rfl
        · refine ca_aload_n hC 0 dX9_order_55 rfl rfl (q := 56) rfl ?_
          refine cg_X9_53 hC  dX9_order_56 (q := 59) rfl ?_
          refine cg_X9_220 hC  dX9_order_59 (q := 62) rfl ?_
          refine ca_goto hC dX9_order_62 (q := 72) rfl ?_
          exact ca_ireti hC dX9_order_72 rfl
      · refine ca_bipush hC (v := (-2)) dX9_order_26 rfl (q := 28) rfl ?_
        exact ca_ireti hC dX9_order_28 rfl
  · refine ca_iconst hC (v := (-1)) dX9_order_9 rfl (q := 10) rfl ?_
    exact ca_ireti hC dX9_order_10 rfl
theorem cm_X9_order (Γ : ca_G) (l : Launch) (σ : ca_S) (x1 : Int32) : ca_Mi Γ ca_cC l yX9_order cX9_order 2 (some .int) 3 77 [.ref (Γ.2.1 (0, 0, 0)), .int x1] σ (cf_X9_order σ x1) :=
  ca_met (by decide) (Nat.le_of_ble_eq_true rfl) rfl (fun κ h1 h2 hC => by
    subst h1
    have h := ct_X9_order hC σ x1
    unfold ca_Zi at h
    rw [h2] at h
    exact h)
-- X9_close
set_option maxRecDepth 100000 in
set_option maxHeartbeats 4000000 in
theorem ct_X9_close {κ : ca_K} (hC : ca_C κ ca_cC cX9_close 2 RX9 (some .int) 2 47) (σ : ca_S) (x1 : Int32) : ca_T κ (ca_Zi κ) σ 0 [(0, .ref (ca_a κ (0, 0, 0))), (1, .int x1)] [] (cf_X9_close σ x1) := by
  unfold cf_X9_close
  refine ca_aload_n hC 0 dX9_close_0 rfl rfl (q := 1) rfl ?_
  refine cg_X9_18 hC  dX9_close_1 (q := 4) rfl ?_
  refine cg_X9_58 hC  dX9_close_4 (q := 7) rfl ?_
  refine ca_if_ne hC dX9_close_7 (t := 13) (q := 10) rfl rfl (fun h1 => ?_) (fun h2 => ?_)
  · refine ca_aload_n hC 0 dX9_close_13 rfl rfl (q := 14) rfl ?_
    refine cg_X9_18 hC  dX9_close_14 (q := 17) rfl ?_
    refine ca_iload_n hC 1 dX9_close_17 rfl rfl (q := 18) rfl ?_
    refine ca_callVr hC (rest := []) (cm_X7_takes κ.1 κ.2.2.2.1 σ x1) ca_Y_X7_takes ca_L_X9_109 ca_m7 rfl rfl rfl rfl (Nat.le_of_ble_eq_true rfl) ⟨Nat.le_of_ble_eq_true rfl, Nat.le_of_ble_eq_true rfl⟩ dX9_close_18 (q := 21) rfl (fun r3 h5 => ?_)
    refine ca_if_ne hC dX9_close_21 (t := 26) (q := 24) rfl rfl (fun h6 => ?_) (fun h7 => ?_)
    · refine ca_aload_n hC 0 dX9_close_26 rfl rfl (q := 27) rfl ?_
      refine cg_X9_98 hC  dX9_close_27 (q := 30) rfl ?_
      refine ca_aload_n hC 0 dX9_close_30 rfl rfl (q := 31) rfl ?_
      refine cg_X9_18 hC  dX9_close_31 (q := 34) rfl ?_
      refine cg_X9_134 hC  dX9_close_34 (q := 37) rfl ?_
      refine ca_icmp_ge hC dX9_close_37 (t := 43) (q := 40) rfl rfl (fun h8 => ?_) (fun h9 => ?_)
      · refine ca_aload_n hC 0 dX9_close_43 rfl rfl (q := 44) rfl ?_
        refine cg_X9_32 hC  dX9_close_44 (q := 47) rfl ?_
        refine ca_callVr hC (rest := []) (cm_X3_isFull κ.1 κ.2.2.2.1 σ) ca_Y_X3_isFull ca_L_X9_229 ca_m10 rfl rfl rfl rfl (Nat.le_of_ble_eq_true rfl) ⟨Nat.le_of_ble_eq_true rfl, Nat.le_of_ble_eq_true rfl⟩ dX9_close_47 (q := 50) rfl (fun r10 h12 => ?_)
        refine ca_if_eq hC dX9_close_50 (t := 56) (q := 53) rfl rfl (fun h13 => ?_) (fun h14 => ?_)
        · refine ca_aload_n hC 0 dX9_close_56 rfl rfl (q := 57) rfl ?_
          refine cg_X9_18 hC  dX9_close_57 (q := 60) rfl ?_
          refine ca_iconst hC (v := 0) dX9_close_60 rfl (q := 61) rfl ?_
          refine cp_X9_58 hC rfl dX9_close_61 (q := 64) rfl ?_
          refine ca_let (fun σ15 _ => ?_)
          refine ca_aload_n hC 0 dX9_close_64 rfl rfl (q := 65) rfl ?_
          refine cg_X9_25 hC  dX9_close_65 (q := 68) rfl ?_
          refine ca_iconst hC (v := 0) dX9_close_68 rfl (q := 69) rfl ?_
          refine cp_X9_123 hC  dX9_close_69 (q := 72) rfl ?_
          refine ca_let (fun σ16 _ => ?_)
          refine ca_aload_n hC 0 dX9_close_72 rfl rfl (q := 73) rfl ?_
          refine cg_X9_32 hC  dX9_close_73 (q := 76) rfl ?_
          refine ca_aload_n hC 0 dX9_close_76 rfl rfl (q := 77) rfl ?_
          refine cg_X9_11 hC  dX9_close_77 (q := 80) rfl ?_
          refine ca_aload_n hC 0 dX9_close_80 rfl rfl (q := 81) rfl ?_
          refine cg_X9_62 hC  dX9_close_81 (q := 84) rfl ?_
          refine ca_iload_n hC 1 dX9_close_84 rfl rfl (q := 85) rfl ?_
          refine ca_callVi hC (rest := []) (cm_X3_enter κ.1 κ.2.2.2.1 σ16 (σ16.1 (0, 0, 0) 1) x1) ca_Y_X3_enter ca_L_X9_232 ca_m10 rfl rfl rfl rfl (Nat.le_of_ble_eq_true rfl) ⟨Nat.le_of_ble_eq_true rfl, Nat.le_of_ble_eq_true rfl⟩ dX9_close_85 (q := 88) rfl (fun r17 σ18 h19 => ?_)
          exact ca_ireti hC dX9_close_88 rfl
        · refine ca_bipush hC (v := (-3)) dX9_close_53 rfl (q := 55) rfl ?_
          exact ca_ireti hC dX9_close_55 rfl
      · refine ca_bipush hC (v := (-2)) dX9_close_40 rfl (q := 42) rfl ?_
        exact ca_ireti hC dX9_close_42 rfl
    · refine ca_iconst hC (v := (-1)) dX9_close_24 rfl (q := 25) rfl ?_
      exact ca_ireti hC dX9_close_25 rfl
  · refine ca_bipush hC (v := (-2)) dX9_close_10 rfl (q := 12) rfl ?_
    exact ca_ireti hC dX9_close_12 rfl
theorem cm_X9_close (Γ : ca_G) (l : Launch) (σ : ca_S) (x1 : Int32) : ca_Mi Γ ca_cC l yX9_close cX9_close 2 (some .int) 2 47 [.ref (Γ.2.1 (0, 0, 0)), .int x1] σ (cf_X9_close σ x1) :=
  ca_met (by decide) (Nat.le_of_ble_eq_true rfl) rfl (fun κ h1 h2 hC => by
    subst h1
    have h := ct_X9_close hC σ x1
    unfold ca_Zi at h
    rw [h2] at h
    exact h)
-- X9_book
set_option maxRecDepth 100000 in
set_option maxHeartbeats 4000000 in
theorem ct_X9_book {κ : ca_K} (hC : ca_C κ ca_cC cX9_book 3 RX9 (some .int) 1 21) (σ : ca_S) (x1 : Int32) (x2 : Int32) : ca_T κ (ca_Zr κ σ) σ 0 [(0, .ref (ca_a κ (0, 0, 0))), (1, .int x1), (2, .int x2)] [] (cf_X9_book σ x1 x2) := by
  unfold cf_X9_book
  refine ca_iload_n hC 1 dX9_book_0 rfl rfl (q := 1) rfl ?_
  refine ca_if_lt hC dX9_book_1 (t := 23) (q := 4) rfl rfl (fun h1 => ?_) (fun h2 => ?_)
  · refine ca_bipush hC (v := (-9)) dX9_book_23 rfl (q := 25) rfl ?_
    exact ca_iretr hC dX9_book_25 rfl
  · refine ca_iload_n hC 1 dX9_book_4 rfl rfl (q := 5) rfl ?_
    refine ca_aload_n hC 0 dX9_book_5 rfl rfl (q := 6) rfl ?_
    refine cg_X9_32 hC  dX9_book_6 (q := 9) rfl ?_
    refine cg_X9_236 hC  dX9_book_9 (q := 12) rfl ?_
    refine ca_icmp_ge hC dX9_book_12 (t := 23) (q := 15) rfl rfl (fun h3 => ?_) (fun h4 => ?_)
    · refine ca_bipush hC (v := (-9)) dX9_book_23 rfl (q := 25) rfl ?_
      exact ca_iretr hC dX9_book_25 rfl
    · refine ca_aload_n hC 0 dX9_book_15 rfl rfl (q := 16) rfl ?_
      refine ca_iload_n hC 2 dX9_book_16 rfl rfl (q := 17) rfl ?_
      refine ca_callVr hC (rest := []) (cm_X9_isBox κ.1 κ.2.2.2.1 σ x2) ca_Y_X9_isBox ca_L_X9_66 ca_m0 rfl rfl rfl rfl (Nat.le_of_ble_eq_true rfl) ⟨Nat.le_of_ble_eq_true rfl, Nat.le_of_ble_eq_true rfl⟩ dX9_book_17 (q := 20) rfl (fun r5 h7 => ?_)
      refine ca_if_ne hC dX9_book_20 (t := 26) (q := 23) rfl rfl (fun h8 => ?_) (fun h9 => ?_)
      · refine ca_aload_n hC 0 dX9_book_26 rfl rfl (q := 27) rfl ?_
        refine cg_X9_32 hC  dX9_book_27 (q := 30) rfl ?_
        refine cg_X9_239 hC  dX9_book_30 (q := 33) rfl ?_
        refine ca_iload_n hC 1 dX9_book_33 rfl rfl (q := 34) rfl ?_
        refine ca_al11 hC  dX9_book_34 (q := 35) rfl (fun h10 => ?_)
        refine ca_iload_n hC 2 dX9_book_35 rfl rfl (q := 36) rfl ?_
        refine ca_ildQ hC (n := 16) (ca_m12 (ca_in_lt h10)) rfl rfl rfl dX9_book_36 (q := 37) rfl (fun h11 => ?_)
        exact ca_iretr hC dX9_book_37 rfl
      · refine ca_bipush hC (v := (-9)) dX9_book_23 rfl (q := 25) rfl ?_
        exact ca_iretr hC dX9_book_25 rfl
theorem cm_X9_book (Γ : ca_G) (l : Launch) (σ : ca_S) (x1 : Int32) (x2 : Int32) : ca_Mr Γ ca_cC l yX9_book cX9_book 3 (some .int) 1 21 [.ref (Γ.2.1 (0, 0, 0)), .int x1, .int x2] σ (cf_X9_book σ x1 x2) :=
  ca_met (by decide) (Nat.le_of_ble_eq_true rfl) rfl (fun κ h1 h2 hC => by
    subst h1
    have h := ct_X9_book hC σ x1 x2
    unfold ca_Zr at h
    rw [h2] at h
    exact h)
-- X9_marks
set_option maxRecDepth 100000 in
set_option maxHeartbeats 4000000 in
theorem ct_X9_marks {κ : ca_K} (hC : ca_C κ ca_cC cX9_marks 2 RX9 (some .int) 1 21) (σ : ca_S) (x1 : Int32) : ca_T κ (ca_Zr κ σ) σ 0 [(0, .ref (ca_a κ (0, 0, 0))), (1, .int x1)] [] (cf_X9_marks σ x1) := by
  unfold cf_X9_marks
  refine ca_aload_n hC 0 dX9_marks_0 rfl rfl (q := 1) rfl ?_
  refine ca_iload_n hC 1 dX9_marks_1 rfl rfl (q := 2) rfl ?_
  refine ca_callVr hC (rest := []) (cm_X9_isBox κ.1 κ.2.2.2.1 σ x1) ca_Y_X9_isBox ca_L_X9_66 ca_m0 rfl rfl rfl rfl (Nat.le_of_ble_eq_true rfl) ⟨Nat.le_of_ble_eq_true rfl, Nat.le_of_ble_eq_true rfl⟩ dX9_marks_2 (q := 5) rfl (fun r1 h3 => ?_)
  refine ca_if_eq hC dX9_marks_5 (t := 20) (q := 8) rfl rfl (fun h4 => ?_) (fun h5 => ?_)
  · refine ca_iconst hC (v := (-1)) dX9_marks_20 rfl (q := 21) rfl ?_
    exact ca_iretr hC dX9_marks_21 rfl
  · refine ca_aload_n hC 0 dX9_marks_8 rfl rfl (q := 9) rfl ?_
    refine cg_X9_11 hC  dX9_marks_9 (q := 12) rfl ?_
    refine ca_iload_n hC 1 dX9_marks_12 rfl rfl (q := 13) rfl ?_
    refine ca_al1 hC  dX9_marks_13 (q := 14) rfl (fun h6 => ?_)
    refine cg_X9_243 hC (ca_in_lt h6) dX9_marks_14 (q := 17) rfl ?_
    refine ca_goto hC dX9_marks_17 (q := 21) rfl ?_
    exact ca_iretr hC dX9_marks_21 rfl
theorem cm_X9_marks (Γ : ca_G) (l : Launch) (σ : ca_S) (x1 : Int32) : ca_Mr Γ ca_cC l yX9_marks cX9_marks 2 (some .int) 1 21 [.ref (Γ.2.1 (0, 0, 0)), .int x1] σ (cf_X9_marks σ x1) :=
  ca_met (by decide) (Nat.le_of_ble_eq_true rfl) rfl (fun κ h1 h2 hC => by
    subst h1
    have h := ct_X9_marks hC σ x1
    unfold ca_Zr at h
    rw [h2] at h
    exact h)
-- X9_canBeTeams
set_option maxRecDepth 100000 in
set_option maxHeartbeats 4000000 in
theorem ct_X9_canBeTeams {κ : ca_K} (hC : ca_C κ ca_cC cX9_canBeTeams 3 RX9 (some .boolean) 1 22) (σ : ca_S) (x1 : Int32) : ca_T κ (ca_Zr κ σ) σ 0 [(0, .ref (ca_a κ (0, 0, 0))), (1, .int x1)] [] (cf_X9_canBeTeams σ x1) := by
  unfold cf_X9_canBeTeams
  refine ca_iconst hC (v := 1) dX9_canBeTeams_0 rfl (q := 1) rfl ?_
  refine ca_aload_n hC 0 dX9_canBeTeams_1 rfl rfl (q := 2) rfl ?_
  refine cg_X9_62 hC  dX9_canBeTeams_2 (q := 5) rfl ?_
  refine ca_ishl hC dX9_canBeTeams_5 (q := 6) rfl ?_
  refine ca_iconst hC (v := 1) dX9_canBeTeams_6 rfl (q := 7) rfl ?_
  refine ca_isub hC dX9_canBeTeams_7 (q := 8) rfl ?_
  refine ca_istore_n hC (lv' := [(2, .int ((1 <<< ((σ.1 (0, 0, 0) 1) &&& 31)) - 1)), (0, .ref (ca_a κ (0, 0, 0))), (1, .int x1)]) dX9_canBeTeams_8 rfl (by decide) rfl (q := 9) rfl ?_
  refine ca_pick [0, 2] (lv' := [(2, .int ((1 <<< ((σ.1 (0, 0, 0) 1) &&& 31)) - 1)), (1, .int x1)]) rfl ?_
  refine ca_iload_n hC 1 dX9_canBeTeams_9 rfl rfl (q := 10) rfl ?_
  refine ca_iload_n hC 0 dX9_canBeTeams_10 rfl rfl (q := 11) rfl ?_
  refine ca_iconst hC (v := (-1)) dX9_canBeTeams_11 rfl (q := 12) rfl ?_
  refine ca_ixor hC dX9_canBeTeams_12 (q := 13) rfl ?_
  refine ca_iand hC dX9_canBeTeams_13 (q := 14) rfl ?_
  refine ca_if_ne hC dX9_canBeTeams_14 (t := 34) (q := 17) rfl rfl (fun h1 => ?_) (fun h2 => ?_)
  · refine ca_iconst hC (v := 0) dX9_canBeTeams_34 rfl (q := 35) rfl ?_
    exact ca_iretr hC dX9_canBeTeams_35 rfl
  · refine ca_iload_n hC 1 dX9_canBeTeams_17 rfl rfl (q := 18) rfl ?_
    refine ca_callSr hC (rest := []) (cm_J6_bitCount_0f7a4 κ.1 κ.2.2.2.1 σ x1) ca_Y_J6_bitCount_0f7a4 ca_L_X9_207  rfl rfl (Nat.le_of_ble_eq_true rfl) ⟨Nat.le_of_ble_eq_true rfl, Nat.le_of_ble_eq_true rfl⟩ dX9_canBeTeams_18 (q := 21) rfl (fun r3 h5 => ?_)
    refine ca_iconst hC (v := 2) dX9_canBeTeams_21 rfl (q := 22) rfl ?_
    refine ca_bipush hC (v := 12) dX9_canBeTeams_22 rfl (q := 24) rfl ?_
    refine ca_callSr hC (rest := []) (cm_X9_isWithin κ.1 κ.2.2.2.1 σ r3 2 12) ca_Y_X9_isWithin ca_L_X9_76  rfl rfl (Nat.le_of_ble_eq_true rfl) ⟨Nat.le_of_ble_eq_true rfl, Nat.le_of_ble_eq_true rfl⟩ dX9_canBeTeams_24 (q := 27) rfl (fun r6 h8 => ?_)
    refine ca_if_eq hC dX9_canBeTeams_27 (t := 34) (q := 30) rfl rfl (fun h9 => ?_) (fun h10 => ?_)
    · refine ca_iconst hC (v := 0) dX9_canBeTeams_34 rfl (q := 35) rfl ?_
      exact ca_iretr hC dX9_canBeTeams_35 rfl
    · refine ca_iconst hC (v := 1) dX9_canBeTeams_30 rfl (q := 31) rfl ?_
      refine ca_goto hC dX9_canBeTeams_31 (q := 35) rfl ?_
      exact ca_iretr hC dX9_canBeTeams_35 rfl
theorem cm_X9_canBeTeams (Γ : ca_G) (l : Launch) (σ : ca_S) (x1 : Int32) : ca_Mr Γ ca_cC l yX9_canBeTeams cX9_canBeTeams 3 (some .boolean) 1 22 [.ref (Γ.2.1 (0, 0, 0)), .int x1] σ (cf_X9_canBeTeams σ x1) :=
  ca_met (by decide) (Nat.le_of_ble_eq_true rfl) rfl (fun κ h1 h2 hC => by
    subst h1
    have h := ct_X9_canBeTeams hC σ x1
    unfold ca_Zr at h
    rw [h2] at h
    exact h)
-- J6_lowestOneBit_0f7a4
set_option maxRecDepth 100000 in
set_option maxHeartbeats 4000000 in
theorem ct_J6_lowestOneBit_0f7a4 {κ : ca_K} (hC : ca_C κ ca_cC cJ6_lowestOneBit_0f7a4 1 RJ6 (some .int) 0 0) (σ : ca_S) (x0 : Int32) : ca_T κ (ca_Zr κ σ) σ 0 [(0, .int x0)] [] (cf_J6_lowestOneBit_0f7a4 x0) := by
  unfold cf_J6_lowestOneBit_0f7a4
  refine ca_iload_n hC 0 dJ6_lowestOneBit_0f7a4_0 rfl rfl (q := 1) rfl ?_
  refine ca_iload_n hC 0 dJ6_lowestOneBit_0f7a4_1 rfl rfl (q := 2) rfl ?_
  refine ca_ineg hC dJ6_lowestOneBit_0f7a4_2 (q := 3) rfl ?_
  refine ca_iand hC dJ6_lowestOneBit_0f7a4_3 (q := 4) rfl ?_
  exact ca_iretr hC dJ6_lowestOneBit_0f7a4_4 rfl
theorem cm_J6_lowestOneBit_0f7a4 (Γ : ca_G) (l : Launch) (σ : ca_S) (x0 : Int32) : ca_Mr Γ ca_cC l yJ6_lowestOneBit_0f7a4 cJ6_lowestOneBit_0f7a4 1 (some .int) 0 0 [.int x0] σ (cf_J6_lowestOneBit_0f7a4 x0) :=
  ca_met (by decide) (Nat.le_of_ble_eq_true rfl) rfl (fun κ h1 h2 hC => by
    subst h1
    have h := ct_J6_lowestOneBit_0f7a4 hC σ x0
    unfold ca_Zr at h
    rw [h2] at h
    exact h)
-- X9_marksApart
set_option maxRecDepth 100000 in
set_option maxHeartbeats 4000000 in
theorem ct_X9_marksApart_5 {κ : ca_K} (hC : ca_C κ ca_cC cX9_marksApart 5 RX9 (some .int) 1 21) (σ : ca_S) (x1 : Int32) (x2 : Int32) {K : Int32 → Option (Int32)} (hK : ∀ (x3 : Int32), ca_T κ (ca_Zr κ σ) σ 69 [(3, .int x3)] [] (K x3)) : ∀ (n : Nat) (x3 : Int32) (x4 : Int32), ca_T κ (ca_Zr κ σ) σ 5 [(0, .ref (ca_a κ (0, 0, 0))), (1, .int x1), (2, .int x2), (3, .int x3), (4, .int x4)] [] (cl_X9_marksApart_5 σ x1 x2 K n x3 x4) := by
  intro n
  induction n with
  | zero => intro x3 x4; exact ca_no
  | succ n ih =>
    intro x3 x4
    rw [cl_X9_marksApart_5]
    refine ca_iload hC 4 dX9_marksApart_5 rfl (q := 7) rfl ?_
    refine ca_aload_n hC 0 dX9_marksApart_7 rfl rfl (q := 8) rfl ?_
    refine cg_X9_62 hC  dX9_marksApart_8 (q := 11) rfl ?_
    refine ca_icmp_ge hC dX9_marksApart_11 (t := 69) (q := 14) rfl rfl (fun h1 => ?_) (fun h2 => ?_)
    · exact ca_pick [3] rfl (hK x3)
    · refine ca_iload_n hC 1 dX9_marksApart_14 rfl rfl (q := 15) rfl ?_
      refine ca_iload hC 4 dX9_marksApart_15 rfl (q := 17) rfl ?_
      refine ca_ishr hC dX9_marksApart_17 (q := 18) rfl ?_
      refine ca_iconst hC (v := 1) dX9_marksApart_18 rfl (q := 19) rfl ?_
      refine ca_iand hC dX9_marksApart_19 (q := 20) rfl ?_
      refine ca_iconst hC (v := 1) dX9_marksApart_20 rfl (q := 21) rfl ?_
      refine ca_icmp_ne hC dX9_marksApart_21 (t := 40) (q := 24) rfl rfl (fun h3 => ?_) (fun h4 => ?_)
      · refine ca_iload_n hC 2 dX9_marksApart_40 rfl rfl (q := 41) rfl ?_
        refine ca_iload hC 4 dX9_marksApart_41 rfl (q := 43) rfl ?_
        refine ca_ishr hC dX9_marksApart_43 (q := 44) rfl ?_
        refine ca_iconst hC (v := 1) dX9_marksApart_44 rfl (q := 45) rfl ?_
        refine ca_iand hC dX9_marksApart_45 (q := 46) rfl ?_
        refine ca_iconst hC (v := 1) dX9_marksApart_46 rfl (q := 47) rfl ?_
        refine ca_icmp_ne hC dX9_marksApart_47 (t := 63) (q := 50) rfl rfl (fun h5 => ?_) (fun h6 => ?_)
        · refine ca_iinc hC 4 (v := (x4 + 1)) (lv' := [(4, .int (x4 + 1)), (0, .ref (ca_a κ (0, 0, 0))), (1, .int x1), (2, .int x2), (3, .int x3)]) dX9_marksApart_63 rfl rfl (by decide) rfl (q := 66) rfl ?_
          refine ca_goto hC dX9_marksApart_66 (q := 5) rfl ?_
          exact ca_pick [1, 2, 3, 4, 0] rfl (ih x3 (x4 + 1))
        · refine ca_iload_n hC 3 dX9_marksApart_50 rfl rfl (q := 51) rfl ?_
          refine ca_aload_n hC 0 dX9_marksApart_51 rfl rfl (q := 52) rfl ?_
          refine cg_X9_11 hC  dX9_marksApart_52 (q := 55) rfl ?_
          refine ca_iload hC 4 dX9_marksApart_55 rfl (q := 57) rfl ?_
          refine ca_al1 hC  dX9_marksApart_57 (q := 58) rfl (fun h7 => ?_)
          refine cg_X9_243 hC (ca_in_lt h7) dX9_marksApart_58 (q := 61) rfl ?_
          refine ca_isub hC dX9_marksApart_61 (q := 62) rfl ?_
          refine ca_istore_n hC (lv' := [(3, .int (x3 - (σ.1 (2, (Int32.toNatClampNeg x4), 0) 6))), (0, .ref (ca_a κ (0, 0, 0))), (1, .int x1), (2, .int x2), (4, .int x4)]) dX9_marksApart_62 rfl (by decide) rfl (q := 63) rfl ?_
          refine ca_letv (P := fun v8 X => ca_T κ (ca_Zr κ σ) σ 63 [(3, .int v8), (0, .ref (ca_a κ (0, 0, 0))), (1, .int x1), (2, .int x2), (4, .int x4)] [] X) (x3 - (σ.1 (2, (Int32.toNatClampNeg x4), 0) 6)) (fun v8 _ => ?_)
          refine ca_iinc hC 4 (v := (x4 + 1)) (lv' := [(4, .int (x4 + 1)), (3, .int v8), (0, .ref (ca_a κ (0, 0, 0))), (1, .int x1), (2, .int x2)]) dX9_marksApart_63 rfl rfl (by decide) rfl (q := 66) rfl ?_
          refine ca_goto hC dX9_marksApart_66 (q := 5) rfl ?_
          exact ca_pick [2, 3, 4, 1, 0] rfl (ih v8 (x4 + 1))
      · refine ca_iload_n hC 3 dX9_marksApart_24 rfl rfl (q := 25) rfl ?_
        refine ca_aload_n hC 0 dX9_marksApart_25 rfl rfl (q := 26) rfl ?_
        refine cg_X9_11 hC  dX9_marksApart_26 (q := 29) rfl ?_
        refine ca_iload hC 4 dX9_marksApart_29 rfl (q := 31) rfl ?_
        refine ca_al1 hC  dX9_marksApart_31 (q := 32) rfl (fun h9 => ?_)
        refine cg_X9_243 hC (ca_in_lt h9) dX9_marksApart_32 (q := 35) rfl ?_
        refine ca_iadd hC dX9_marksApart_35 (q := 36) rfl ?_
        refine ca_istore_n hC (lv' := [(3, .int (x3 + (σ.1 (2, (Int32.toNatClampNeg x4), 0) 6))), (0, .ref (ca_a κ (0, 0, 0))), (1, .int x1), (2, .int x2), (4, .int x4)]) dX9_marksApart_36 rfl (by decide) rfl (q := 37) rfl ?_
        refine ca_letv (P := fun v10 X => ca_T κ (ca_Zr κ σ) σ 37 [(3, .int v10), (0, .ref (ca_a κ (0, 0, 0))), (1, .int x1), (2, .int x2), (4, .int x4)] [] X) (x3 + (σ.1 (2, (Int32.toNatClampNeg x4), 0) 6)) (fun v10 _ => ?_)
        refine ca_goto hC dX9_marksApart_37 (q := 63) rfl ?_
        refine ca_iinc hC 4 (v := (x4 + 1)) (lv' := [(4, .int (x4 + 1)), (3, .int v10), (0, .ref (ca_a κ (0, 0, 0))), (1, .int x1), (2, .int x2)]) dX9_marksApart_63 rfl rfl (by decide) rfl (q := 66) rfl ?_
        refine ca_goto hC dX9_marksApart_66 (q := 5) rfl ?_
        exact ca_pick [2, 3, 4, 1, 0] rfl (ih v10 (x4 + 1))
set_option maxRecDepth 100000 in
set_option maxHeartbeats 4000000 in
theorem ct_X9_marksApart {κ : ca_K} (hC : ca_C κ ca_cC cX9_marksApart 5 RX9 (some .int) 1 21) (σ : ca_S) (x1 : Int32) (x2 : Int32) : ca_T κ (ca_Zr κ σ) σ 0 [(0, .ref (ca_a κ (0, 0, 0))), (1, .int x1), (2, .int x2)] [] (cf_X9_marksApart σ x1 x2) := by
  unfold cf_X9_marksApart
  refine ca_iconst hC (v := 0) dX9_marksApart_0 rfl (q := 1) rfl ?_
  refine ca_istore_n hC (lv' := [(3, .int 0), (0, .ref (ca_a κ (0, 0, 0))), (1, .int x1), (2, .int x2)]) dX9_marksApart_1 rfl (by decide) rfl (q := 2) rfl ?_
  refine ca_iconst hC (v := 0) dX9_marksApart_2 rfl (q := 3) rfl ?_
  refine ca_istore hC (lv' := [(4, .int 0), (3, .int 0), (0, .ref (ca_a κ (0, 0, 0))), (1, .int x1), (2, .int x2)]) dX9_marksApart_3 (by decide) rfl (q := 5) rfl ?_
  refine ca_pick [2, 3, 4, 1, 0] rfl (ct_X9_marksApart_5 hC σ x1 x2 ?_ ca_FU 0 0)
  intro x11
  refine ca_iload_n hC 0 dX9_marksApart_69 rfl rfl (q := 70) rfl ?_
  refine ca_mabs hC ca_w560 ca_w476 ca_w49 ca_w477 (by decide) (Nat.le_of_ble_eq_true rfl) dX9_marksApart_70 (q := 73) rfl ?_
  exact ca_iretr hC dX9_marksApart_73 rfl
theorem cm_X9_marksApart (Γ : ca_G) (l : Launch) (σ : ca_S) (x1 : Int32) (x2 : Int32) : ca_Mr Γ ca_cC l yX9_marksApart cX9_marksApart 5 (some .int) 1 21 [.ref (Γ.2.1 (0, 0, 0)), .int x1, .int x2] σ (cf_X9_marksApart σ x1 x2) :=
  ca_met (by decide) (Nat.le_of_ble_eq_true rfl) rfl (fun κ h1 h2 hC => by
    subst h1
    have h := ct_X9_marksApart hC σ x1 x2
    unfold ca_Zr at h
    rw [h2] at h
    exact h)
-- X9_evenestTeam
set_option maxRecDepth 100000 in
set_option maxHeartbeats 4000000 in
theorem ct_X9_evenestTeam_37 {κ : ca_K} (hC : ca_C κ ca_cC cX9_evenestTeam 12 RX9 (some .int) 2 45) (σ : ca_S) (x1 : Int32) (x2 : Int32) (x3 : Int32) (x4 : Int32) (x5 : Int32) {K : Int32 → Option (Int32)} (hK : ∀ (x6 : Int32), ca_T κ (ca_Zr κ σ) σ 105 [(6, .int x6)] [] (K x6)) : ∀ (n : Nat) (x6 : Int32) (x7 : Int32) (x8 : Int32) (x9 : Int32), ca_T κ (ca_Zr κ σ) σ 37 [(0, .ref (ca_a κ (0, 0, 0))), (1, .int x1), (2, .int x2), (3, .int x3), (4, .int x4), (5, .int x5), (6, .int x6), (7, .int x7), (8, .int x8), (9, .int x9)] [] (cl_X9_evenestTeam_37 σ x1 x2 x3 x4 x5 K n x6 x7 x8 x9) := by
  intro n
  induction n with
  | zero => intro x6 x7 x8 x9; exact ca_no
  | succ n ih =>
    intro x6 x7 x8 x9
    rw [cl_X9_evenestTeam_37]
    refine ca_iload hC 9 dX9_evenestTeam_37 rfl (q := 39) rfl ?_
    refine ca_iload hC 5 dX9_evenestTeam_39 rfl (q := 41) rfl ?_
    refine ca_icmp_ge hC dX9_evenestTeam_41 (t := 105) (q := 44) rfl rfl (fun h7 => ?_) (fun h8 => ?_)
    · exact ca_pick [6] rfl (hK x6)
    · refine ca_iload_n hC 2 dX9_evenestTeam_44 rfl rfl (q := 45) rfl ?_
      refine ca_iload hC 8 dX9_evenestTeam_45 rfl (q := 47) rfl ?_
      refine ca_ior hC dX9_evenestTeam_47 (q := 48) rfl ?_
      refine ca_istore hC (lv' := [(10, .int (x2 ||| x8)), (0, .ref (ca_a κ (0, 0, 0))), (1, .int x1), (2, .int x2), (3, .int x3), (4, .int x4), (5, .int x5), (6, .int x6), (7, .int x7), (8, .int x8), (9, .int x9)]) dX9_evenestTeam_48 (by decide) rfl (q := 50) rfl ?_
      refine ca_iconst hC (v := 2) dX9_evenestTeam_50 rfl (q := 51) rfl ?_
      refine ca_iload hC 0 dX9_evenestTeam_51 rfl (q := 53) rfl ?_
      refine ca_callSr hC (rest := [.int 2]) (cm_J6_bitCount_0f7a4 κ.1 κ.2.2.2.1 σ (x2 ||| x8)) ca_Y_J6_bitCount_0f7a4 ca_L_X9_207  rfl rfl (Nat.le_of_ble_eq_true rfl) ⟨Nat.le_of_ble_eq_true rfl, Nat.le_of_ble_eq_true rfl⟩ dX9_evenestTeam_53 (q := 56) rfl (fun r9 h11 => ?_)
      refine ca_imul hC dX9_evenestTeam_56 (q := 57) rfl ?_
      refine ca_iload hC 5 dX9_evenestTeam_57 rfl (q := 59) rfl ?_
      refine ca_isub hC dX9_evenestTeam_59 (q := 60) rfl ?_
      refine ca_mabs hC ca_w560 ca_w476 ca_w49 ca_w477 (by decide) (Nat.le_of_ble_eq_true rfl) dX9_evenestTeam_60 (q := 63) rfl ?_
      refine ca_iconst hC (v := 1) dX9_evenestTeam_63 rfl (q := 64) rfl ?_
      refine ca_icmp_gt hC dX9_evenestTeam_64 (t := 91) (q := 67) rfl rfl (fun h12 => ?_) (fun h13 => ?_)
      · refine ca_iload hC 9 dX9_evenestTeam_91 rfl (q := 93) rfl ?_
        refine ca_iload_n hC 4 dX9_evenestTeam_93 rfl rfl (q := 94) rfl ?_
        refine ca_isub hC dX9_evenestTeam_94 (q := 95) rfl ?_
        refine ca_iload_n hC 4 dX9_evenestTeam_95 rfl rfl (q := 96) rfl ?_
        refine ca_iand hC dX9_evenestTeam_96 (q := 97) rfl ?_
        refine ca_istore hC (lv' := [(8, .int ((x8 - x3) &&& x3)), (10, .int (x2 ||| x8)), (0, .ref (ca_a κ (0, 0, 0))), (1, .int x1), (2, .int x2), (3, .int x3), (4, .int x4), (5, .int x5), (6, .int x6), (7, .int x7), (9, .int x9)]) dX9_evenestTeam_97 (by decide) rfl (q := 99) rfl ?_
        refine ca_pick [0, 2, 3, 4, 5, 6, 7, 8, 9, 10] (lv' := [(8, .int ((x8 - x3) &&& x3)), (0, .ref (ca_a κ (0, 0, 0))), (1, .int x1), (2, .int x2), (3, .int x3), (4, .int x4), (5, .int x5), (6, .int x6), (7, .int x7), (9, .int x9)]) rfl ?_
        refine ca_iinc hC 9 (v := (x9 + 1)) (lv' := [(9, .int (x9 + 1)), (8, .int ((x8 - x3) &&& x3)), (0, .ref (ca_a κ (0, 0, 0))), (1, .int x1), (2, .int x2), (3, .int x3), (4, .int x4), (5, .int x5), (6, .int x6), (7, .int x7)]) dX9_evenestTeam_99 rfl rfl (by decide) rfl (q := 102) rfl ?_
        refine ca_goto hC dX9_evenestTeam_102 (q := 37) rfl ?_
        exact ca_pick [2, 3, 4, 5, 6, 7, 8, 9, 1, 0] rfl (ih x6 x7 ((x8 - x3) &&& x3) (x9 + 1))
      · refine ca_aload_n hC 1 dX9_evenestTeam_67 rfl rfl (q := 68) rfl ?_
        refine ca_iload hC 0 dX9_evenestTeam_68 rfl (q := 70) rfl ?_
        refine ca_iload_n hC 2 dX9_evenestTeam_70 rfl rfl (q := 71) rfl ?_
        refine ca_callVr hC (rest := []) (cm_X9_marksApart κ.1 κ.2.2.2.1 σ (x2 ||| x8) x1) ca_Y_X9_marksApart ca_L_X9_252 ca_m0 rfl rfl rfl rfl (Nat.le_of_ble_eq_true rfl) ⟨Nat.le_of_ble_eq_true rfl, Nat.le_of_ble_eq_true rfl⟩ dX9_evenestTeam_71 (q := 74) rfl (fun r14 h16 => ?_)
        refine ca_istore hC (lv' := [(11, .int r14), (10, .int (x2 ||| x8)), (0, .ref (ca_a κ (0, 0, 0))), (1, .int x1), (2, .int x2), (3, .int x3), (4, .int x4), (5, .int x5), (6, .int x6), (7, .int x7), (8, .int x8), (9, .int x9)]) dX9_evenestTeam_74 (by decide) rfl (q := 76) rfl ?_
        refine ca_iload hC 0 dX9_evenestTeam_76 rfl (q := 78) rfl ?_
        refine ca_iload hC 9 dX9_evenestTeam_78 rfl (q := 80) rfl ?_
        refine ca_icmp_ge hC dX9_evenestTeam_80 (t := 91) (q := 83) rfl rfl (fun h17 => ?_) (fun h18 => ?_)
        · refine ca_iload hC 10 dX9_evenestTeam_91 rfl (q := 93) rfl ?_
          refine ca_iload_n hC 5 dX9_evenestTeam_93 rfl rfl (q := 94) rfl ?_
          refine ca_isub hC dX9_evenestTeam_94 (q := 95) rfl ?_
          refine ca_iload_n hC 5 dX9_evenestTeam_95 rfl rfl (q := 96) rfl ?_
          refine ca_iand hC dX9_evenestTeam_96 (q := 97) rfl ?_
          refine ca_istore hC (lv' := [(8, .int ((x8 - x3) &&& x3)), (11, .int r14), (10, .int (x2 ||| x8)), (0, .ref (ca_a κ (0, 0, 0))), (1, .int x1), (2, .int x2), (3, .int x3), (4, .int x4), (5, .int x5), (6, .int x6), (7, .int x7), (9, .int x9)]) dX9_evenestTeam_97 (by decide) rfl (q := 99) rfl ?_
          refine ca_pick [0, 3, 4, 5, 6, 7, 8, 9, 10, 11] (lv' := [(8, .int ((x8 - x3) &&& x3)), (0, .ref (ca_a κ (0, 0, 0))), (1, .int x1), (2, .int x2), (3, .int x3), (4, .int x4), (5, .int x5), (6, .int x6), (7, .int x7), (9, .int x9)]) rfl ?_
          refine ca_iinc hC 9 (v := (x9 + 1)) (lv' := [(9, .int (x9 + 1)), (8, .int ((x8 - x3) &&& x3)), (0, .ref (ca_a κ (0, 0, 0))), (1, .int x1), (2, .int x2), (3, .int x3), (4, .int x4), (5, .int x5), (6, .int x6), (7, .int x7)]) dX9_evenestTeam_99 rfl rfl (by decide) rfl (q := 102) rfl ?_
          refine ca_goto hC dX9_evenestTeam_102 (q := 37) rfl ?_
          exact ca_pick [2, 3, 4, 5, 6, 7, 8, 9, 1, 0] rfl (ih x6 x7 ((x8 - x3) &&& x3) (x9 + 1))
        · refine ca_iload hC 1 dX9_evenestTeam_83 rfl (q := 85) rfl ?_
          refine ca_istore hC (lv' := [(6, .int (x2 ||| x8)), (11, .int r14), (10, .int (x2 ||| x8)), (0, .ref (ca_a κ (0, 0, 0))), (1, .int x1), (2, .int x2), (3, .int x3), (4, .int x4), (5, .int x5), (7, .int x7), (8, .int x8), (9, .int x9)]) dX9_evenestTeam_85 (by decide) rfl (q := 87) rfl ?_
          refine ca_pick [0, 1, 3, 4, 5, 6, 7, 8, 10, 11] (lv' := [(6, .int (x2 ||| x8)), (11, .int r14), (0, .ref (ca_a κ (0, 0, 0))), (1, .int x1), (2, .int x2), (3, .int x3), (4, .int x4), (5, .int x5), (8, .int x8), (9, .int x9)]) rfl ?_
          refine ca_iload hC 1 dX9_evenestTeam_87 rfl (q := 89) rfl ?_
          refine ca_istore hC (lv' := [(7, .int r14), (6, .int (x2 ||| x8)), (11, .int r14), (0, .ref (ca_a κ (0, 0, 0))), (1, .int x1), (2, .int x2), (3, .int x3), (4, .int x4), (5, .int x5), (8, .int x8), (9, .int x9)]) dX9_evenestTeam_89 (by decide) rfl (q := 91) rfl ?_
          refine ca_pick [0, 1, 3, 4, 5, 6, 7, 8, 9, 10] (lv' := [(7, .int r14), (6, .int (x2 ||| x8)), (0, .ref (ca_a κ (0, 0, 0))), (1, .int x1), (2, .int x2), (3, .int x3), (4, .int x4), (5, .int x5), (8, .int x8), (9, .int x9)]) rfl ?_
          refine ca_iload hC 8 dX9_evenestTeam_91 rfl (q := 93) rfl ?_
          refine ca_iload_n hC 5 dX9_evenestTeam_93 rfl rfl (q := 94) rfl ?_
          refine ca_isub hC dX9_evenestTeam_94 (q := 95) rfl ?_
          refine ca_iload_n hC 5 dX9_evenestTeam_95 rfl rfl (q := 96) rfl ?_
          refine ca_iand hC dX9_evenestTeam_96 (q := 97) rfl ?_
          refine ca_istore hC (lv' := [(8, .int ((x8 - x3) &&& x3)), (7, .int r14), (6, .int (x2 ||| x8)), (0, .ref (ca_a κ (0, 0, 0))), (1, .int x1), (2, .int x2), (3, .int x3), (4, .int x4), (5, .int x5), (9, .int x9)]) dX9_evenestTeam_97 (by decide) rfl (q := 99) rfl ?_
          refine ca_iinc hC 9 (v := (x9 + 1)) (lv' := [(9, .int (x9 + 1)), (8, .int ((x8 - x3) &&& x3)), (7, .int r14), (6, .int (x2 ||| x8)), (0, .ref (ca_a κ (0, 0, 0))), (1, .int x1), (2, .int x2), (3, .int x3), (4, .int x4), (5, .int x5)]) dX9_evenestTeam_99 rfl rfl (by decide) rfl (q := 102) rfl ?_
          refine ca_goto hC dX9_evenestTeam_102 (q := 37) rfl ?_
          exact ca_pick [4, 5, 6, 7, 8, 9, 3, 2, 1, 0] rfl (ih (x2 ||| x8) r14 ((x8 - x3) &&& x3) (x9 + 1))
set_option maxRecDepth 100000 in
set_option maxHeartbeats 4000000 in
theorem ct_X9_evenestTeam {κ : ca_K} (hC : ca_C κ ca_cC cX9_evenestTeam 12 RX9 (some .int) 2 45) (σ : ca_S) (x1 : Int32) : ca_T κ (ca_Zr κ σ) σ 0 [(0, .ref (ca_a κ (0, 0, 0))), (1, .int x1)] [] (cf_X9_evenestTeam σ x1) := by
  unfold cf_X9_evenestTeam
  refine ca_iload_n hC 1 dX9_evenestTeam_0 rfl rfl (q := 1) rfl ?_
  refine ca_callSr hC (rest := []) (cm_J6_lowestOneBit_0f7a4 κ.1 κ.2.2.2.1 σ x1) ca_Y_J6_lowestOneBit_0f7a4 ca_L_X9_255  rfl rfl (Nat.le_of_ble_eq_true rfl) ⟨Nat.le_of_ble_eq_true rfl, Nat.le_of_ble_eq_true rfl⟩ dX9_evenestTeam_1 (q := 4) rfl (fun r1 h3 => ?_)
  refine ca_istore_n hC (lv' := [(2, .int r1), (0, .ref (ca_a κ (0, 0, 0))), (1, .int x1)]) dX9_evenestTeam_4 rfl (by decide) rfl (q := 5) rfl ?_
  refine ca_iload_n hC 2 dX9_evenestTeam_5 rfl rfl (q := 6) rfl ?_
  refine ca_iload_n hC 0 dX9_evenestTeam_6 rfl rfl (q := 7) rfl ?_
  refine ca_ixor hC dX9_evenestTeam_7 (q := 8) rfl ?_
  refine ca_istore_n hC (lv' := [(3, .int (x1 ^^^ r1)), (2, .int r1), (0, .ref (ca_a κ (0, 0, 0))), (1, .int x1)]) dX9_evenestTeam_8 rfl (by decide) rfl (q := 9) rfl ?_
  refine ca_iload_n hC 3 dX9_evenestTeam_9 rfl rfl (q := 10) rfl ?_
  refine ca_callSr hC (rest := []) (cm_J6_bitCount_0f7a4 κ.1 κ.2.2.2.1 σ x1) ca_Y_J6_bitCount_0f7a4 ca_L_X9_207  rfl rfl (Nat.le_of_ble_eq_true rfl) ⟨Nat.le_of_ble_eq_true rfl, Nat.le_of_ble_eq_true rfl⟩ dX9_evenestTeam_10 (q := 13) rfl (fun r4 h6 => ?_)
  refine ca_istore hC (lv' := [(4, .int r4), (3, .int (x1 ^^^ r1)), (2, .int r1), (0, .ref (ca_a κ (0, 0, 0))), (1, .int x1)]) dX9_evenestTeam_13 (by decide) rfl (q := 15) rfl ?_
  refine ca_iconst hC (v := 1) dX9_evenestTeam_15 rfl (q := 16) rfl ?_
  refine ca_iload hC 0 dX9_evenestTeam_16 rfl (q := 18) rfl ?_
  refine ca_iconst hC (v := 1) dX9_evenestTeam_18 rfl (q := 19) rfl ?_
  refine ca_isub hC dX9_evenestTeam_19 (q := 20) rfl ?_
  refine ca_ishl hC dX9_evenestTeam_20 (q := 21) rfl ?_
  refine ca_istore hC (lv' := [(5, .int (1 <<< ((r4 - 1) &&& 31))), (4, .int r4), (3, .int (x1 ^^^ r1)), (2, .int r1), (0, .ref (ca_a κ (0, 0, 0))), (1, .int x1)]) dX9_evenestTeam_21 (by decide) rfl (q := 23) rfl ?_
  refine ca_iconst hC (v := 0) dX9_evenestTeam_23 rfl (q := 24) rfl ?_
  refine ca_istore hC (lv' := [(6, .int 0), (5, .int (1 <<< ((r4 - 1) &&& 31))), (4, .int r4), (3, .int (x1 ^^^ r1)), (2, .int r1), (0, .ref (ca_a κ (0, 0, 0))), (1, .int x1)]) dX9_evenestTeam_24 (by decide) rfl (q := 26) rfl ?_
  refine ca_ldcw hC (v := 2147483647) ca_w559 dX9_evenestTeam_26 (q := 29) rfl ?_
  refine ca_istore hC (lv' := [(7, .int 2147483647), (6, .int 0), (5, .int (1 <<< ((r4 - 1) &&& 31))), (4, .int r4), (3, .int (x1 ^^^ r1)), (2, .int r1), (0, .ref (ca_a κ (0, 0, 0))), (1, .int x1)]) dX9_evenestTeam_29 (by decide) rfl (q := 31) rfl ?_
  refine ca_iconst hC (v := 0) dX9_evenestTeam_31 rfl (q := 32) rfl ?_
  refine ca_istore hC (lv' := [(8, .int 0), (7, .int 2147483647), (6, .int 0), (5, .int (1 <<< ((r4 - 1) &&& 31))), (4, .int r4), (3, .int (x1 ^^^ r1)), (2, .int r1), (0, .ref (ca_a κ (0, 0, 0))), (1, .int x1)]) dX9_evenestTeam_32 (by decide) rfl (q := 34) rfl ?_
  refine ca_iconst hC (v := 0) dX9_evenestTeam_34 rfl (q := 35) rfl ?_
  refine ca_istore hC (lv' := [(9, .int 0), (8, .int 0), (7, .int 2147483647), (6, .int 0), (5, .int (1 <<< ((r4 - 1) &&& 31))), (4, .int r4), (3, .int (x1 ^^^ r1)), (2, .int r1), (0, .ref (ca_a κ (0, 0, 0))), (1, .int x1)]) dX9_evenestTeam_35 (by decide) rfl (q := 37) rfl ?_
  refine ca_pick [8, 9, 7, 6, 5, 4, 3, 2, 1, 0] rfl (ct_X9_evenestTeam_37 hC σ x1 r1 (x1 ^^^ r1) r4 (1 <<< ((r4 - 1) &&& 31)) ?_ ca_FU 0 2147483647 0 0)
  intro x19
  refine ca_iload hC 0 dX9_evenestTeam_105 rfl (q := 107) rfl ?_
  exact ca_iretr hC dX9_evenestTeam_107 rfl
theorem cm_X9_evenestTeam (Γ : ca_G) (l : Launch) (σ : ca_S) (x1 : Int32) : ca_Mr Γ ca_cC l yX9_evenestTeam cX9_evenestTeam 12 (some .int) 2 45 [.ref (Γ.2.1 (0, 0, 0)), .int x1] σ (cf_X9_evenestTeam σ x1) :=
  ca_met (by decide) (Nat.le_of_ble_eq_true rfl) rfl (fun κ h1 h2 hC => by
    subst h1
    have h := ct_X9_evenestTeam hC σ x1
    unfold ca_Zr at h
    rw [h2] at h
    exact h)
-- X9_teams
set_option maxRecDepth 100000 in
set_option maxHeartbeats 4000000 in
theorem ct_X9_teams {κ : ca_K} (hC : ca_C κ ca_cC cX9_teams 4 RX9 (some .int) 3 76) (σ : ca_S) (x1 : Int32) (x2 : Int32) : ca_T κ (ca_Zr κ σ) σ 0 [(0, .ref (ca_a κ (0, 0, 0))), (1, .int x1), (2, .int x2)] [] (cf_X9_teams σ x1 x2) := by
  unfold cf_X9_teams
  refine ca_iload_n hC 2 dX9_teams_0 rfl rfl (q := 1) rfl ?_
  refine ca_iconst hC (v := 0) dX9_teams_1 rfl (q := 2) rfl ?_
  refine ca_iconst hC (v := 1) dX9_teams_2 rfl (q := 3) rfl ?_
  refine ca_callSr hC (rest := []) (cm_X9_isWithin κ.1 κ.2.2.2.1 σ x2 0 1) ca_Y_X9_isWithin ca_L_X9_76  rfl rfl (Nat.le_of_ble_eq_true rfl) ⟨Nat.le_of_ble_eq_true rfl, Nat.le_of_ble_eq_true rfl⟩ dX9_teams_3 (q := 6) rfl (fun r1 h3 => ?_)
  refine ca_if_eq hC dX9_teams_6 (t := 17) (q := 9) rfl rfl (fun h4 => ?_) (fun h5 => ?_)
  · refine ca_iconst hC (v := (-1)) dX9_teams_17 rfl (q := 18) rfl ?_
    exact ca_iretr hC dX9_teams_18 rfl
  · refine ca_aload_n hC 0 dX9_teams_9 rfl rfl (q := 10) rfl ?_
    refine ca_iload_n hC 1 dX9_teams_10 rfl rfl (q := 11) rfl ?_
    refine ca_callVr hC (rest := []) (cm_X9_canBeTeams κ.1 κ.2.2.2.1 σ x1) ca_Y_X9_canBeTeams ca_L_X9_246 ca_m0 rfl rfl rfl rfl (Nat.le_of_ble_eq_true rfl) ⟨Nat.le_of_ble_eq_true rfl, Nat.le_of_ble_eq_true rfl⟩ dX9_teams_11 (q := 14) rfl (fun r6 h8 => ?_)
    refine ca_if_ne hC dX9_teams_14 (t := 19) (q := 17) rfl rfl (fun h9 => ?_) (fun h10 => ?_)
    · refine ca_aload_n hC 0 dX9_teams_19 rfl rfl (q := 20) rfl ?_
      refine ca_iload_n hC 1 dX9_teams_20 rfl rfl (q := 21) rfl ?_
      refine ca_callVr hC (rest := []) (cm_X9_evenestTeam κ.1 κ.2.2.2.1 σ x1) ca_Y_X9_evenestTeam ca_L_X9_249 ca_m0 rfl rfl rfl rfl (Nat.le_of_ble_eq_true rfl) ⟨Nat.le_of_ble_eq_true rfl, Nat.le_of_ble_eq_true rfl⟩ dX9_teams_21 (q := 24) rfl (fun r11 h13 => ?_)
      refine ca_istore_n hC (lv' := [(3, .int r11), (0, .ref (ca_a κ (0, 0, 0))), (1, .int x1), (2, .int x2)]) dX9_teams_24 rfl (by decide) rfl (q := 25) rfl ?_
      refine ca_iload_n hC 3 dX9_teams_25 rfl rfl (q := 26) rfl ?_
      refine ca_if_ne hC dX9_teams_26 (t := 33) (q := 29) rfl rfl (fun h14 => ?_) (fun h15 => ?_)
      · refine ca_aload_n hC 1 dX9_teams_33 rfl rfl (q := 34) rfl ?_
        refine ca_iload_n hC 0 dX9_teams_34 rfl rfl (q := 35) rfl ?_
        refine ca_iload_n hC 2 dX9_teams_35 rfl rfl (q := 36) rfl ?_
        refine ca_callVr hC (rest := []) (cm_X9_marksApart κ.1 κ.2.2.2.1 σ r11 x1) ca_Y_X9_marksApart ca_L_X9_252 ca_m0 rfl rfl rfl rfl (Nat.le_of_ble_eq_true rfl) ⟨Nat.le_of_ble_eq_true rfl, Nat.le_of_ble_eq_true rfl⟩ dX9_teams_36 (q := 39) rfl (fun r16 h18 => ?_)
        exact ca_iretr hC dX9_teams_39 rfl
      · refine ca_iload_n hC 0 dX9_teams_29 rfl rfl (q := 30) rfl ?_
        refine ca_goto hC dX9_teams_30 (q := 39) rfl ?_
        exact ca_iretr hC dX9_teams_39 rfl
    · refine ca_iconst hC (v := (-1)) dX9_teams_17 rfl (q := 18) rfl ?_
      exact ca_iretr hC dX9_teams_18 rfl
theorem cm_X9_teams (Γ : ca_G) (l : Launch) (σ : ca_S) (x1 : Int32) (x2 : Int32) : ca_Mr Γ ca_cC l yX9_teams cX9_teams 4 (some .int) 3 76 [.ref (Γ.2.1 (0, 0, 0)), .int x1, .int x2] σ (cf_X9_teams σ x1 x2) :=
  ca_met (by decide) (Nat.le_of_ble_eq_true rfl) rfl (fun κ h1 h2 hC => by
    subst h1
    have h := ct_X9_teams hC σ x1 x2
    unfold ca_Zr at h
    rw [h2] at h
    exact h)
-- X9_best
set_option maxRecDepth 100000 in
set_option maxHeartbeats 4000000 in
theorem ct_X9_best {κ : ca_K} (hC : ca_C κ ca_cC cX9_best 1 RX9 (some .int) 2 48) (σ : ca_S) : ca_T κ (ca_Zr κ σ) σ 0 [(0, .ref (ca_a κ (0, 0, 0)))] [] (cf_X9_best σ) := by
  unfold cf_X9_best
  refine ca_aload_n hC 0 dX9_best_0 rfl rfl (q := 1) rfl ?_
  refine cg_X9_32 hC  dX9_best_1 (q := 4) rfl ?_
  refine ca_callVr hC (rest := []) (cm_X3_bestPage κ.1 κ.2.2.2.1 σ) ca_Y_X3_bestPage ca_L_X9_264 ca_m10 rfl rfl rfl rfl (Nat.le_of_ble_eq_true rfl) ⟨Nat.le_of_ble_eq_true rfl, Nat.le_of_ble_eq_true rfl⟩ dX9_best_4 (q := 7) rfl (fun r1 h3 => ?_)
  exact ca_iretr hC dX9_best_7 rfl
theorem cm_X9_best (Γ : ca_G) (l : Launch) (σ : ca_S) : ca_Mr Γ ca_cC l yX9_best cX9_best 1 (some .int) 2 48 [.ref (Γ.2.1 (0, 0, 0))] σ (cf_X9_best σ) :=
  ca_met (by decide) (Nat.le_of_ble_eq_true rfl) rfl (fun κ h1 h2 hC => by
    subst h1
    have h := ct_X9_best hC σ 
    unfold ca_Zr at h
    rw [h2] at h
    exact h)
-- X9_seed
set_option maxRecDepth 100000 in
set_option maxHeartbeats 4000000 in
theorem ct_X9_seed {κ : ca_K} (hC : ca_C κ ca_cC cX9_seed 2 RX9 (some .int) 1 22) (σ : ca_S) (x1 : Int32) : ca_T κ (ca_Zi κ) σ 0 [(0, .ref (ca_a κ (0, 0, 0))), (1, .int x1)] [] (cf_X9_seed σ x1) := by
  unfold cf_X9_seed
  refine ca_iload_n hC 1 dX9_seed_0 rfl rfl (q := 1) rfl ?_
  refine ca_iconst hC (v := 1) dX9_seed_1 rfl (q := 2) rfl ?_
  refine ca_ldcw hC (v := 2147483646) ca_w584 dX9_seed_2 (q := 5) rfl ?_
  refine ca_callSr hC (rest := []) (cm_X9_isWithin κ.1 κ.2.2.2.1 σ x1 1 2147483646) ca_Y_X9_isWithin ca_L_X9_76  rfl rfl (Nat.le_of_ble_eq_true rfl) ⟨Nat.le_of_ble_eq_true rfl, Nat.le_of_ble_eq_true rfl⟩ dX9_seed_5 (q := 8) rfl (fun r1 h3 => ?_)
  refine ca_if_ne hC dX9_seed_8 (t := 13) (q := 11) rfl rfl (fun h4 => ?_) (fun h5 => ?_)
  · refine ca_aload_n hC 0 dX9_seed_13 rfl rfl (q := 14) rfl ?_
    refine cg_X9_39 hC  dX9_seed_14 (q := 17) rfl ?_
    refine ca_iload_n hC 1 dX9_seed_17 rfl rfl (q := 18) rfl ?_
    refine ca_callVv hC (rest := []) (cm_X4_begin κ.1 κ.2.2.2.1 σ x1) ca_Y_X4_begin ca_L_X9_268 ca_m13 rfl rfl rfl rfl (Nat.le_of_ble_eq_true rfl) ⟨Nat.le_of_ble_eq_true rfl, Nat.le_of_ble_eq_true rfl⟩ dX9_seed_18 (q := 21) rfl (fun σ7 h8 => ?_)
    refine ca_aload_n hC 0 dX9_seed_21 rfl rfl (q := 22) rfl ?_
    refine cg_X9_62 hC  dX9_seed_22 (q := 25) rfl ?_
    exact ca_ireti hC dX9_seed_25 rfl
  · refine ca_iconst hC (v := (-1)) dX9_seed_11 rfl (q := 12) rfl ?_
    exact ca_ireti hC dX9_seed_12 rfl
theorem cm_X9_seed (Γ : ca_G) (l : Launch) (σ : ca_S) (x1 : Int32) : ca_Mi Γ ca_cC l yX9_seed cX9_seed 2 (some .int) 1 22 [.ref (Γ.2.1 (0, 0, 0)), .int x1] σ (cf_X9_seed σ x1) :=
  ca_met (by decide) (Nat.le_of_ble_eq_true rfl) rfl (fun κ h1 h2 hC => by
    subst h1
    have h := ct_X9_seed hC σ x1
    unfold ca_Zi at h
    rw [h2] at h
    exact h)
-- X9_draw
set_option maxRecDepth 100000 in
set_option maxHeartbeats 4000000 in
theorem ct_X9_draw {κ : ca_K} (hC : ca_C κ ca_cC cX9_draw 1 RX9 (some .int) 2 47) (σ : ca_S) : ca_T κ (ca_Zi κ) σ 0 [(0, .ref (ca_a κ (0, 0, 0)))] [] (cf_X9_draw σ) := by
  unfold cf_X9_draw
  refine ca_aload_n hC 0 dX9_draw_0 rfl rfl (q := 1) rfl ?_
  refine cg_X9_39 hC  dX9_draw_1 (q := 4) rfl ?_
  refine ca_aload_n hC 0 dX9_draw_4 rfl rfl (q := 5) rfl ?_
  refine cg_X9_62 hC  dX9_draw_5 (q := 8) rfl ?_
  refine ca_callVi hC (rest := []) (cm_X4_next κ.1 κ.2.2.2.1 σ (σ.1 (0, 0, 0) 1)) ca_Y_X4_next ca_L_X9_270 ca_m13 rfl rfl rfl rfl (Nat.le_of_ble_eq_true rfl) ⟨Nat.le_of_ble_eq_true rfl, Nat.le_of_ble_eq_true rfl⟩ dX9_draw_8 (q := 11) rfl (fun r1 σ2 h3 => ?_)
  exact ca_ireti hC dX9_draw_11 rfl
theorem cm_X9_draw (Γ : ca_G) (l : Launch) (σ : ca_S) : ca_Mi Γ ca_cC l yX9_draw cX9_draw 1 (some .int) 2 47 [.ref (Γ.2.1 (0, 0, 0))] σ (cf_X9_draw σ) :=
  ca_met (by decide) (Nat.le_of_ble_eq_true rfl) rfl (fun κ h1 h2 hC => by
    subst h1
    have h := ct_X9_draw hC σ 
    unfold ca_Zi at h
    rw [h2] at h
    exact h)
