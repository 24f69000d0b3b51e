-- X10_many
set_option maxRecDepth 100000 in
set_option maxHeartbeats 4000000 in
theorem ct_X10_many_4 {κ : ca_K} (hC : ca_C κ ca_cM cX10_many 3 RX10 (some .int) 1 23) (σ : ca_S) {K : Int32 → Option (Int32)} (hK : ∀ (x1 : Int32), ca_T κ (ca_Zr κ σ) σ 34 [(1, .int x1)] [] (K x1)) : ∀ (n : Nat) (x1 : Int32) (x2 : Int32), ca_T κ (ca_Zr κ σ) σ 4 [(0, .ref (ca_a κ (20, 0, 0))), (1, .int x1), (2, .int x2)] [] (cl_X10_many_4 σ K n x1 x2) := by
  intro n
  induction n with
  | zero => intro x1 x2; exact ca_no
  | succ n ih =>
    intro x1 x2
    rw [cl_X10_many_4]
    refine ca_iload_n hC 2 dX10_many_4 rfl rfl (q := 5) rfl ?_
    refine ca_aload_n hC 0 dX10_many_5 rfl rfl (q := 6) rfl ?_
    refine cg_X10_68 hC  dX10_many_6 (q := 9) rfl ?_
    refine ca_icmp_ge hC dX10_many_9 (t := 34) (q := 12) rfl rfl (fun h1 => ?_) (fun h2 => ?_)
    · exact ca_pick [1] rfl (hK x1)
    · refine ca_iload_n hC 1 dX10_many_12 rfl rfl (q := 13) rfl ?_
      refine ca_aload_n hC 0 dX10_many_13 rfl rfl (q := 14) rfl ?_
      refine ca_iload_n hC 2 dX10_many_14 rfl rfl (q := 15) rfl ?_
      refine ca_callVr hC (rest := [.int x1]) (cm_X10_answerOf κ.1 κ.2.2.2.1 σ x2) ca_Y_X10_answerOf ca_L_X10_126 ca_m20 rfl rfl rfl rfl (Nat.le_of_ble_eq_true rfl) ⟨Nat.le_of_ble_eq_true rfl, Nat.le_of_ble_eq_true rfl⟩ dX10_many_15 (q := 18) rfl (fun r3 h5 => ?_)
      refine ca_if_lt hC dX10_many_18 (t := 25) (q := 21) rfl rfl (fun h6 => ?_) (fun h7 => ?_)
      · refine ca_iconst hC (v := 0) dX10_many_25 rfl (q := 26) rfl ?_
        refine ca_iadd hC dX10_many_26 (q := 27) rfl ?_
        refine ca_istore_n hC (lv' := [(1, .int (x1 + 0)), (0, .ref (ca_a κ (20, 0, 0))), (2, .int x2)]) dX10_many_27 rfl (by decide) rfl (q := 28) rfl ?_
        refine ca_iinc hC 2 (v := (x2 + 1)) (lv' := [(2, .int (x2 + 1)), (1, .int (x1 + 0)), (0, .ref (ca_a κ (20, 0, 0)))]) dX10_many_28 rfl rfl (by decide) rfl (q := 31) rfl ?_
        refine ca_goto hC dX10_many_31 (q := 4) rfl ?_
        exact ca_pick [2, 1, 0] rfl (ih (x1 + 0) (x2 + 1))
      · refine ca_iconst hC (v := 1) dX10_many_21 rfl (q := 22) rfl ?_
        refine ca_goto hC dX10_many_22 (q := 26) rfl ?_
        refine ca_iadd hC dX10_many_26 (q := 27) rfl ?_
        refine ca_istore_n hC (lv' := [(1, .int (x1 + 1)), (0, .ref (ca_a κ (20, 0, 0))), (2, .int x2)]) dX10_many_27 rfl (by decide) rfl (q := 28) rfl ?_
        refine ca_iinc hC 2 (v := (x2 + 1)) (lv' := [(2, .int (x2 + 1)), (1, .int (x1 + 1)), (0, .ref (ca_a κ (20, 0, 0)))]) dX10_many_28 rfl rfl (by decide) rfl (q := 31) rfl ?_
        refine ca_goto hC dX10_many_31 (q := 4) rfl ?_
        exact ca_pick [2, 1, 0] rfl (ih (x1 + 1) (x2 + 1))
set_option maxRecDepth 100000 in
set_option maxHeartbeats 4000000 in
theorem ct_X10_many {κ : ca_K} (hC : ca_C κ ca_cM cX10_many 3 RX10 (some .int) 1 23) (σ : ca_S) : ca_T κ (ca_Zr κ σ) σ 0 [(0, .ref (ca_a κ (20, 0, 0)))] [] (cf_X10_many σ) := by
  unfold cf_X10_many
  refine ca_iconst hC (v := 0) dX10_many_0 rfl (q := 1) rfl ?_
  refine ca_istore_n hC (lv' := [(1, .int 0), (0, .ref (ca_a κ (20, 0, 0)))]) dX10_many_1 rfl (by decide) rfl (q := 2) rfl ?_
  refine ca_iconst hC (v := 0) dX10_many_2 rfl (q := 3) rfl ?_
  refine ca_istore_n hC (lv' := [(2, .int 0), (1, .int 0), (0, .ref (ca_a κ (20, 0, 0)))]) dX10_many_3 rfl (by decide) rfl (q := 4) rfl ?_
  refine ca_pick [2, 1, 0] rfl (ct_X10_many_4 hC σ ?_ ca_FU 0 0)
  intro x8
  refine ca_iload_n hC 0 dX10_many_34 rfl rfl (q := 35) rfl ?_
  exact ca_iretr hC dX10_many_35 rfl
theorem cm_X10_many (Γ : ca_G) (l : Launch) (σ : ca_S) : ca_Mr Γ ca_cM l yX10_many cX10_many 3 (some .int) 1 23 [.ref (Γ.2.1 (20, 0, 0))] σ (cf_X10_many σ) :=
  ca_met (by decide) (Nat.le_of_ble_eq_true rfl) rfl (fun κ h1 h2 hC => by
    subst h1
    have h := ct_X10_many hC σ 
    unfold ca_Zr at h
    rw [h2] at h
    exact h)
-- X10_isShown
set_option maxRecDepth 100000 in
set_option maxHeartbeats 4000000 in
theorem ct_X10_isShown {κ : ca_K} (hC : ca_C κ ca_cM cX10_isShown 1 RX10 (some .boolean) 0 0) (σ : ca_S) : ca_T κ (ca_Zr κ σ) σ 0 [(0, .ref (ca_a κ (20, 0, 0)))] [] (cf_X10_isShown σ) := by
  unfold cf_X10_isShown
  refine ca_aload_n hC 0 dX10_isShown_0 rfl rfl (q := 1) rfl ?_
  refine cg_X10_76 hC  dX10_isShown_1 (q := 4) rfl ?_
  refine ca_if_eq hC dX10_isShown_4 (t := 29) (q := 7) rfl rfl (fun h1 => ?_) (fun h2 => ?_)
  · refine ca_iconst hC (v := 0) dX10_isShown_29 rfl (q := 30) rfl ?_
    exact ca_iretr hC dX10_isShown_30 rfl
  · refine ca_aload_n hC 0 dX10_isShown_7 rfl rfl (q := 8) rfl ?_
    refine cg_X10_91 hC  dX10_isShown_8 (q := 11) rfl ?_
    refine ca_if_eq hC dX10_isShown_11 (t := 25) (q := 14) rfl rfl (fun h3 => ?_) (fun h4 => ?_)
    · refine ca_iconst hC (v := 1) dX10_isShown_25 rfl (q := 26) rfl ?_
      refine ca_goto hC dX10_isShown_26 (q := 30) rfl ?_
      exact ca_iretr hC dX10_isShown_30 rfl
    · refine ca_aload_n hC 0 dX10_isShown_14 rfl rfl (q := 15) rfl ?_
      refine cg_X10_94 hC  dX10_isShown_15 (q := 18) rfl ?_
      refine ca_aload_n hC 0 dX10_isShown_18 rfl rfl (q := 19) rfl ?_
      refine cg_X10_104 hC  dX10_isShown_19 (q := 22) rfl ?_
      refine ca_icmp_lt hC dX10_isShown_22 (t := 29) (q := 25) rfl rfl (fun h5 => ?_) (fun h6 => ?_)
      · refine ca_iconst hC (v := 0) dX10_isShown_29 rfl (q := 30) rfl ?_
        exact ca_iretr hC dX10_isShown_30 rfl
      · refine ca_iconst hC (v := 1) dX10_isShown_25 rfl (q := 26) rfl ?_
        refine ca_goto hC dX10_isShown_26 (q := 30) rfl ?_
        exact ca_iretr hC dX10_isShown_30 rfl
theorem cm_X10_isShown (Γ : ca_G) (l : Launch) (σ : ca_S) : ca_Mr Γ ca_cM l yX10_isShown cX10_isShown 1 (some .boolean) 0 0 [.ref (Γ.2.1 (20, 0, 0))] σ (cf_X10_isShown σ) :=
  ca_met (by decide) (Nat.le_of_ble_eq_true rfl) rfl (fun κ h1 h2 hC => by
    subst h1
    have h := ct_X10_isShown hC σ 
    unfold ca_Zr at h
    rw [h2] at h
    exact h)
-- X10_answers
set_option maxRecDepth 100000 in
set_option maxHeartbeats 4000000 in
theorem ct_X10_answers {κ : ca_K} (hC : ca_C κ ca_cM cX10_answers 1 RX10 (some .int) 2 45) (σ : ca_S) : ca_T κ (ca_Zr κ σ) σ 0 [(0, .ref (ca_a κ (20, 0, 0)))] [] (cf_X10_answers σ) := by
  unfold cf_X10_answers
  refine ca_aload_n hC 0 dX10_answers_0 rfl rfl (q := 1) rfl ?_
  refine ca_callVr hC (rest := []) (cm_X10_isShown κ.1 κ.2.2.2.1 σ) ca_Y_X10_isShown ca_L_X10_130 ca_m20 rfl rfl rfl rfl (Nat.le_of_ble_eq_true rfl) ⟨Nat.le_of_ble_eq_true rfl, Nat.le_of_ble_eq_true rfl⟩ dX10_answers_1 (q := 4) rfl (fun r1 h3 => ?_)
  refine ca_if_eq hC dX10_answers_4 (t := 14) (q := 7) rfl rfl (fun h4 => ?_) (fun h5 => ?_)
  · refine ca_bipush hC (v := (-2)) dX10_answers_14 rfl (q := 16) rfl ?_
    exact ca_iretr hC dX10_answers_16 rfl
  · refine ca_aload_n hC 0 dX10_answers_7 rfl rfl (q := 8) rfl ?_
    refine ca_callVr hC (rest := []) (cm_X10_many κ.1 κ.2.2.2.1 σ) ca_Y_X10_many ca_L_X10_134 ca_m20 rfl rfl rfl rfl (Nat.le_of_ble_eq_true rfl) ⟨Nat.le_of_ble_eq_true rfl, Nat.le_of_ble_eq_true rfl⟩ dX10_answers_8 (q := 11) rfl (fun r6 h8 => ?_)
    refine ca_goto hC dX10_answers_11 (q := 16) rfl ?_
    exact ca_iretr hC dX10_answers_16 rfl
theorem cm_X10_answers (Γ : ca_G) (l : Launch) (σ : ca_S) : ca_Mr Γ ca_cM l yX10_answers cX10_answers 1 (some .int) 2 45 [.ref (Γ.2.1 (20, 0, 0))] σ (cf_X10_answers σ) :=
  ca_met (by decide) (Nat.le_of_ble_eq_true rfl) rfl (fun κ h1 h2 hC => by
    subst h1
    have h := ct_X10_answers hC σ 
    unfold ca_Zr at h
    rw [h2] at h
    exact h)
-- X10_isShownOf
set_option maxRecDepth 100000 in
set_option maxHeartbeats 4000000 in
theorem ct_X10_isShownOf {κ : ca_K} (hC : ca_C κ ca_cM cX10_isShownOf 2 RX10 (some .boolean) 2 45) (σ : ca_S) (x1 : Int32) : ca_T κ (ca_Zr κ σ) σ 0 [(0, .ref (ca_a κ (20, 0, 0))), (1, .int x1)] [] (cf_X10_isShownOf σ x1) := by
  unfold cf_X10_isShownOf
  refine ca_aload_n hC 0 dX10_isShownOf_0 rfl rfl (q := 1) rfl ?_
  refine ca_callVr hC (rest := []) (cm_X10_isShown κ.1 κ.2.2.2.1 σ) ca_Y_X10_isShown ca_L_X10_130 ca_m20 rfl rfl rfl rfl (Nat.le_of_ble_eq_true rfl) ⟨Nat.le_of_ble_eq_true rfl, Nat.le_of_ble_eq_true rfl⟩ dX10_isShownOf_1 (q := 4) rfl (fun r1 h3 => ?_)
  refine ca_if_eq hC dX10_isShownOf_4 (t := 30) (q := 7) rfl rfl (fun h4 => ?_) (fun h5 => ?_)
  · refine ca_iconst hC (v := 0) dX10_isShownOf_30 rfl (q := 31) rfl ?_
    exact ca_iretr hC dX10_isShownOf_31 rfl
  · refine ca_aload_n hC 0 dX10_isShownOf_7 rfl rfl (q := 8) rfl ?_
    refine cg_X10_98 hC  dX10_isShownOf_8 (q := 11) rfl ?_
    refine ca_iload_n hC 1 dX10_isShownOf_11 rfl rfl (q := 12) rfl ?_
    refine ca_icmp_ne hC dX10_isShownOf_12 (t := 30) (q := 15) rfl rfl (fun h6 => ?_) (fun h7 => ?_)
    · refine ca_iconst hC (v := 0) dX10_isShownOf_30 rfl (q := 31) rfl ?_
      exact ca_iretr hC dX10_isShownOf_31 rfl
    · refine ca_aload_n hC 0 dX10_isShownOf_15 rfl rfl (q := 16) rfl ?_
      refine ca_callVr hC (rest := []) (cm_X10_many κ.1 κ.2.2.2.1 σ) ca_Y_X10_many ca_L_X10_134 ca_m20 rfl rfl rfl rfl (Nat.le_of_ble_eq_true rfl) ⟨Nat.le_of_ble_eq_true rfl, Nat.le_of_ble_eq_true rfl⟩ dX10_isShownOf_16 (q := 19) rfl (fun r8 h10 => ?_)
      refine ca_aload_n hC 0 dX10_isShownOf_19 rfl rfl (q := 20) rfl ?_
      refine cg_X10_88 hC  dX10_isShownOf_20 (q := 23) rfl ?_
      refine ca_icmp_lt hC dX10_isShownOf_23 (t := 30) (q := 26) rfl rfl (fun h11 => ?_) (fun h12 => ?_)
      · refine ca_iconst hC (v := 0) dX10_isShownOf_30 rfl (q := 31) rfl ?_
        exact ca_iretr hC dX10_isShownOf_31 rfl
      · refine ca_iconst hC (v := 1) dX10_isShownOf_26 rfl (q := 27) rfl ?_
        refine ca_goto hC dX10_isShownOf_27 (q := 31) rfl ?_
        exact ca_iretr hC dX10_isShownOf_31 rfl
theorem cm_X10_isShownOf (Γ : ca_G) (l : Launch) (σ : ca_S) (x1 : Int32) : ca_Mr Γ ca_cM l yX10_isShownOf cX10_isShownOf 2 (some .boolean) 2 45 [.ref (Γ.2.1 (20, 0, 0)), .int x1] σ (cf_X10_isShownOf σ x1) :=
  ca_met (by decide) (Nat.le_of_ble_eq_true rfl) rfl (fun κ h1 h2 hC => by
    subst h1
    have h := ct_X10_isShownOf hC σ x1
    unfold ca_Zr at h
    rw [h2] at h
    exact h)
-- X10_share
set_option maxRecDepth 100000 in
set_option maxHeartbeats 4000000 in
theorem ct_X10_share_27 {κ : ca_K} (hC : ca_C κ ca_cM cX10_share 4 RX10 (some .int) 3 66) (σ : ca_S) (x1 : Int32) {K : Int32 → Option (Int32)} (hK : ∀ (x2 : Int32), ca_T κ (ca_Zr κ σ) σ 58 [(2, .int x2)] [] (K x2)) : ∀ (n : Nat) (x2 : Int32) (x3 : Int32), ca_T κ (ca_Zr κ σ) σ 27 [(0, .ref (ca_a κ (20, 0, 0))), (1, .int x1), (2, .int x2), (3, .int x3)] [] (cl_X10_share_27 σ x1 K n x2 x3) := by
  intro n
  induction n with
  | zero => intro x2 x3; exact ca_no
  | succ n ih =>
    intro x2 x3
    rw [cl_X10_share_27]
    refine ca_iload_n hC 3 dX10_share_27 rfl rfl (q := 28) rfl ?_
    refine ca_aload_n hC 0 dX10_share_28 rfl rfl (q := 29) rfl ?_
    refine cg_X10_68 hC  dX10_share_29 (q := 32) rfl ?_
    refine ca_icmp_ge hC dX10_share_32 (t := 58) (q := 35) rfl rfl (fun h11 => ?_) (fun h12 => ?_)
    · exact ca_pick [2] rfl (hK x2)
    · refine ca_iload_n hC 2 dX10_share_35 rfl rfl (q := 36) rfl ?_
      refine ca_aload_n hC 0 dX10_share_36 rfl rfl (q := 37) rfl ?_
      refine ca_iload_n hC 3 dX10_share_37 rfl rfl (q := 38) rfl ?_
      refine ca_callVr hC (rest := [.int x2]) (cm_X10_answerOf κ.1 κ.2.2.2.1 σ x3) ca_Y_X10_answerOf ca_L_X10_126 ca_m20 rfl rfl rfl rfl (Nat.le_of_ble_eq_true rfl) ⟨Nat.le_of_ble_eq_true rfl, Nat.le_of_ble_eq_true rfl⟩ dX10_share_38 (q := 41) rfl (fun r13 h15 => ?_)
      refine ca_iload_n hC 1 dX10_share_41 rfl rfl (q := 42) rfl ?_
      refine ca_icmp_ne hC dX10_share_42 (t := 49) (q := 45) rfl rfl (fun h16 => ?_) (fun h17 => ?_)
      · refine ca_iconst hC (v := 0) dX10_share_49 rfl (q := 50) rfl ?_
        refine ca_iadd hC dX10_share_50 (q := 51) rfl ?_
        refine ca_istore_n hC (lv' := [(2, .int (x2 + 0)), (0, .ref (ca_a κ (20, 0, 0))), (1, .int x1), (3, .int x3)]) dX10_share_51 rfl (by decide) rfl (q := 52) rfl ?_
        refine ca_iinc hC 3 (v := (x3 + 1)) (lv' := [(3, .int (x3 + 1)), (2, .int (x2 + 0)), (0, .ref (ca_a κ (20, 0, 0))), (1, .int x1)]) dX10_share_52 rfl rfl (by decide) rfl (q := 55) rfl ?_
        refine ca_goto hC dX10_share_55 (q := 27) rfl ?_
        exact ca_pick [2, 3, 1, 0] rfl (ih (x2 + 0) (x3 + 1))
      · refine ca_iconst hC (v := 1) dX10_share_45 rfl (q := 46) rfl ?_
        refine ca_goto hC dX10_share_46 (q := 50) rfl ?_
        refine ca_iadd hC dX10_share_50 (q := 51) rfl ?_
        refine ca_istore_n hC (lv' := [(2, .int (x2 + 1)), (0, .ref (ca_a κ (20, 0, 0))), (1, .int x1), (3, .int x3)]) dX10_share_51 rfl (by decide) rfl (q := 52) rfl ?_
        refine ca_iinc hC 3 (v := (x3 + 1)) (lv' := [(3, .int (x3 + 1)), (2, .int (x2 + 1)), (0, .ref (ca_a κ (20, 0, 0))), (1, .int x1)]) dX10_share_52 rfl rfl (by decide) rfl (q := 55) rfl ?_
        refine ca_goto hC dX10_share_55 (q := 27) rfl ?_
        exact ca_pick [2, 3, 1, 0] rfl (ih (x2 + 1) (x3 + 1))
set_option maxRecDepth 100000 in
set_option maxHeartbeats 4000000 in
theorem ct_X10_share {κ : ca_K} (hC : ca_C κ ca_cM cX10_share 4 RX10 (some .int) 3 66) (σ : ca_S) (x1 : Int32) : ca_T κ (ca_Zr κ σ) σ 0 [(0, .ref (ca_a κ (20, 0, 0))), (1, .int x1)] [] (cf_X10_share σ x1) := by
  unfold cf_X10_share
  refine ca_iload_n hC 1 dX10_share_0 rfl rfl (q := 1) rfl ?_
  refine ca_iconst hC (v := 0) dX10_share_1 rfl (q := 2) rfl ?_
  refine ca_bipush hC (v := 7) dX10_share_2 rfl (q := 4) rfl ?_
  refine ca_callSr hC (rest := []) (cm_X10_in κ.1 κ.2.2.2.1 σ x1 0 7) ca_Y_X10_in ca_L_X10_72  rfl rfl (Nat.le_of_ble_eq_true rfl) ⟨Nat.le_of_ble_eq_true rfl, Nat.le_of_ble_eq_true rfl⟩ dX10_share_4 (q := 7) rfl (fun r1 h3 => ?_)
  refine ca_if_ne hC dX10_share_7 (t := 12) (q := 10) rfl rfl (fun h4 => ?_) (fun h5 => ?_)
  · refine ca_aload_n hC 0 dX10_share_12 rfl rfl (q := 13) rfl ?_
    refine ca_iconst hC (v := 0) dX10_share_13 rfl (q := 14) rfl ?_
    refine ca_callVr hC (rest := []) (cm_X10_isShownOf κ.1 κ.2.2.2.1 σ 0) ca_Y_X10_isShownOf ca_L_X10_138 ca_m20 rfl rfl rfl rfl (Nat.le_of_ble_eq_true rfl) ⟨Nat.le_of_ble_eq_true rfl, Nat.le_of_ble_eq_true rfl⟩ dX10_share_14 (q := 17) rfl (fun r6 h8 => ?_)
    refine ca_if_ne hC dX10_share_17 (t := 23) (q := 20) rfl rfl (fun h9 => ?_) (fun h10 => ?_)
    · refine ca_iconst hC (v := 0) dX10_share_23 rfl (q := 24) rfl ?_
      refine ca_istore_n hC (lv' := [(2, .int 0), (0, .ref (ca_a κ (20, 0, 0))), (1, .int x1)]) dX10_share_24 rfl (by decide) rfl (q := 25) rfl ?_
      refine ca_iconst hC (v := 0) dX10_share_25 rfl (q := 26) rfl ?_
      refine ca_istore_n hC (lv' := [(3, .int 0), (2, .int 0), (0, .ref (ca_a κ (20, 0, 0))), (1, .int x1)]) dX10_share_26 rfl (by decide) rfl (q := 27) rfl ?_
      refine ca_pick [2, 3, 1, 0] rfl (ct_X10_share_27 hC σ x1 ?_ ca_FU 0 0)
      intro x18
      refine ca_iload_n hC 0 dX10_share_58 rfl rfl (q := 59) rfl ?_
      exact ca_iretr hC dX10_share_59 rfl
    · refine ca_bipush hC (v := (-2)) dX10_share_20 rfl (q := 22) rfl ?_
      exact ca_iretr hC dX10_share_22 rfl
  · refine ca_iconst hC (v := (-1)) dX10_share_10 rfl (q := 11) rfl ?_
    exact ca_iretr hC dX10_share_11 rfl
theorem cm_X10_share (Γ : ca_G) (l : Launch) (σ : ca_S) (x1 : Int32) : ca_Mr Γ ca_cM l yX10_share cX10_share 4 (some .int) 3 66 [.ref (Γ.2.1 (20, 0, 0)), .int x1] σ (cf_X10_share σ x1) :=
  ca_met (by decide) (Nat.le_of_ble_eq_true rfl) rfl (fun κ h1 h2 hC => by
    subst h1
    have h := ct_X10_share hC σ x1
    unfold ca_Zr at h
    rw [h2] at h
    exact h)
-- X10_middle
set_option maxRecDepth 100000 in
set_option maxHeartbeats 4000000 in
theorem ct_X10_middle_43 {κ : ca_K} (hC : ca_C κ ca_cM cX10_middle 6 RX10 (some .int) 0 0) (σ : ca_S) (x1 : Int32) (x2 : Int32) (x4 : Int32) (x5 : Int32) (xs0 : Int32) (xs1 : Int32) {KB : Int32 → Int32 → Int32 → Option (Int32)} {KX : Int32 → Int32 → Option (Int32)} (hKB : ∀ (x3 : Int32) (x4 : Int32) (x5 : Int32), ca_T κ (ca_Zr κ σ) σ 15 [(0, .ref (ca_a κ (20, 0, 0))), (1, .int x1), (2, .int x2), (3, .int x3), (4, .int x4), (5, .int x5)] [] (KB x3 x4 x5)) (hKX : ∀ (x3 : Int32) (x4 : Int32), ca_T κ (ca_Zr κ σ) σ 77 [(0, .ref (ca_a κ (20, 0, 0))), (1, .int x1), (2, .int x2), (3, .int x3), (4, .int x4)] [] (KX x3 x4)) : ca_T κ (ca_Zr κ σ) σ 43 [(0, .ref (ca_a κ (20, 0, 0))), (1, .int x1), (2, .int x2), (4, .int x4), (5, .int x5)] [.int xs0, .int xs1] (cj_X10_middle_43 KB KX σ x1 x2 x4 x5 xs0 xs1) := by
  unfold cj_X10_middle_43
  refine ca_iadd hC dX10_middle_43 (q := 44) rfl ?_
  refine ca_istore_n hC (lv' := [(3, .int (xs1 + xs0)), (0, .ref (ca_a κ (20, 0, 0))), (1, .int x1), (2, .int x2), (4, .int x4), (5, .int x5)]) dX10_middle_44 rfl (by decide) rfl (q := 45) rfl ?_
  refine ca_iload hC 4 dX10_middle_45 rfl (q := 47) rfl ?_
  refine ca_aload_n hC 1 dX10_middle_47 rfl rfl (q := 48) rfl ?_
  refine cg_X10_65 hC  dX10_middle_48 (q := 51) rfl ?_
  refine ca_iload hC 5 dX10_middle_51 rfl (q := 53) rfl ?_
  refine ca_ildQ hC (n := 16) (ca_m21 (k := 31) (by decide)) rfl rfl rfl dX10_middle_53 (q := 54) rfl (fun h9 => ?_)
  refine ca_aload_n hC 1 dX10_middle_54 rfl rfl (q := 55) rfl ?_
  refine cg_X10_65 hC  dX10_middle_55 (q := 58) rfl ?_
  refine ca_iload_n hC 3 dX10_middle_58 rfl rfl (q := 59) rfl ?_
  refine ca_ildQ hC (n := 16) (ca_m21 (k := 31) (by decide)) rfl rfl rfl dX10_middle_59 (q := 60) rfl (fun h10 => ?_)
  refine ca_icmp_ne hC dX10_middle_60 (t := 67) (q := 63) rfl rfl (fun h11 => ?_) (fun h12 => ?_)
  · refine ca_iconst hC (v := 0) dX10_middle_67 rfl (q := 68) rfl ?_
    refine ca_iadd hC dX10_middle_68 (q := 69) rfl ?_
    refine ca_istore hC (lv' := [(4, .int (x4 + 0)), (3, .int (xs1 + xs0)), (0, .ref (ca_a κ (20, 0, 0))), (1, .int x1), (2, .int x2), (5, .int x5)]) dX10_middle_69 (by decide) rfl (q := 71) rfl ?_
    refine ca_iinc hC 5 (v := (x5 + 1)) (lv' := [(5, .int (x5 + 1)), (4, .int (x4 + 0)), (3, .int (xs1 + xs0)), (0, .ref (ca_a κ (20, 0, 0))), (1, .int x1), (2, .int x2)]) dX10_middle_71 rfl rfl (by decide) rfl (q := 74) rfl ?_
    refine ca_goto hC dX10_middle_74 (q := 15) rfl ?_
    exact ca_pick [3, 4, 5, 2, 1, 0] rfl (hKB (xs1 + xs0) (x4 + 0) (x5 + 1))
  · refine ca_iconst hC (v := 1) dX10_middle_63 rfl (q := 64) rfl ?_
    refine ca_goto hC dX10_middle_64 (q := 68) rfl ?_
    refine ca_iadd hC dX10_middle_68 (q := 69) rfl ?_
    refine ca_istore hC (lv' := [(4, .int (x4 + 1)), (3, .int (xs1 + xs0)), (0, .ref (ca_a κ (20, 0, 0))), (1, .int x1), (2, .int x2), (5, .int x5)]) dX10_middle_69 (by decide) rfl (q := 71) rfl ?_
    refine ca_iinc hC 5 (v := (x5 + 1)) (lv' := [(5, .int (x5 + 1)), (4, .int (x4 + 1)), (3, .int (xs1 + xs0)), (0, .ref (ca_a κ (20, 0, 0))), (1, .int x1), (2, .int x2)]) dX10_middle_71 rfl rfl (by decide) rfl (q := 74) rfl ?_
    refine ca_goto hC dX10_middle_74 (q := 15) rfl ?_
    exact ca_pick [3, 4, 5, 2, 1, 0] rfl (hKB (xs1 + xs0) (x4 + 1) (x5 + 1))
set_option maxRecDepth 100000 in
set_option maxHeartbeats 4000000 in
theorem ct_X10_middle_15 {κ : ca_K} (hC : ca_C κ ca_cM cX10_middle 6 RX10 (some .int) 0 0) (σ : ca_S) (x1 : Int32) (x2 : Int32) {K : Int32 → Int32 → Option (Int32)} (hK : ∀ (x3 : Int32) (x4 : Int32), ca_T κ (ca_Zr κ σ) σ 77 [(0, .ref (ca_a κ (20, 0, 0))), (1, .int x1), (2, .int x2), (3, .int x3), (4, .int x4)] [] (K x3 x4)) : ∀ (n : Nat) (x3 : Int32) (x4 : Int32) (x5 : Int32), ca_T κ (ca_Zr κ σ) σ 15 [(0, .ref (ca_a κ (20, 0, 0))), (1, .int x1), (2, .int x2), (3, .int x3), (4, .int x4), (5, .int x5)] [] (cl_X10_middle_15 σ x1 x2 K n x3 x4 x5) := by
  intro n
  induction n with
  | zero => intro x3 x4 x5; exact ca_no
  | succ n ih =>
    intro x3 x4 x5
    rw [cl_X10_middle_15]
    refine ca_iload hC 5 dX10_middle_15 rfl (q := 17) rfl ?_
    refine ca_iload_n hC 1 dX10_middle_17 rfl rfl (q := 18) rfl ?_
    refine ca_icmp_ge hC dX10_middle_18 (t := 77) (q := 21) rfl rfl (fun h3 => ?_) (fun h4 => ?_)
    · exact ca_pick [0, 1, 2, 3, 4] rfl (hK x3 x4)
    · refine ca_iload_n hC 3 dX10_middle_21 rfl rfl (q := 22) rfl ?_
      refine ca_aload_n hC 0 dX10_middle_22 rfl rfl (q := 23) rfl ?_
      refine cg_X10_65 hC  dX10_middle_23 (q := 26) rfl ?_
      refine ca_iload hC 5 dX10_middle_26 rfl (q := 28) rfl ?_
      refine ca_ildQ hC (n := 16) (ca_m21 (k := 31) (by decide)) rfl rfl rfl dX10_middle_28 (q := 29) rfl (fun h5 => ?_)
      refine ca_aload_n hC 0 dX10_middle_29 rfl rfl (q := 30) rfl ?_
      refine cg_X10_65 hC  dX10_middle_30 (q := 33) rfl ?_
      refine ca_iload_n hC 2 dX10_middle_33 rfl rfl (q := 34) rfl ?_
      refine ca_ildQ hC (n := 16) (ca_m21 (k := 31) (by decide)) rfl rfl rfl dX10_middle_34 (q := 35) rfl (fun h6 => ?_)
      refine ca_icmp_ge hC dX10_middle_35 (t := 42) (q := 38) rfl rfl (fun h7 => ?_) (fun h8 => ?_)
      · refine ca_iconst hC (v := 0) dX10_middle_42 rfl (q := 43) rfl ?_
        exact ca_pick [0, 1, 2, 4, 5] rfl (ct_X10_middle_43 hC σ x1 x2 x4 x5 0 x3 ih hK )
      · refine ca_iconst hC (v := 1) dX10_middle_38 rfl (q := 39) rfl ?_
        refine ca_goto hC dX10_middle_39 (q := 43) rfl ?_
        exact ca_pick [0, 1, 2, 4, 5] rfl (ct_X10_middle_43 hC σ x1 x2 x4 x5 1 x3 ih hK )
set_option maxRecDepth 100000 in
set_option maxHeartbeats 4000000 in
theorem ct_X10_middle_2 {κ : ca_K} (hC : ca_C κ ca_cM cX10_middle 6 RX10 (some .int) 0 0) (σ : ca_S) (x1 : Int32) {K : Option (Int32)} (hK : ca_T κ (ca_Zr κ σ) σ 111 [] [] K) : ∀ (n : Nat) (x2 : Int32), ca_T κ (ca_Zr κ σ) σ 2 [(0, .ref (ca_a κ (20, 0, 0))), (1, .int x1), (2, .int x2)] [] (cl_X10_middle_2 σ x1 K n x2) := by
  intro n
  induction n with
  | zero => intro x2; exact ca_no
  | succ n ih =>
    intro x2
    rw [cl_X10_middle_2]
    refine ca_iload_n hC 2 dX10_middle_2 rfl rfl (q := 3) rfl ?_
    refine ca_iload_n hC 1 dX10_middle_3 rfl rfl (q := 4) rfl ?_
    refine ca_icmp_ge hC dX10_middle_4 (t := 111) (q := 7) rfl rfl (fun h1 => ?_) (fun h2 => ?_)
    · exact ca_pick [] rfl (hK)
    · refine ca_iconst hC (v := 0) dX10_middle_7 rfl (q := 8) rfl ?_
      refine ca_istore_n hC (lv' := [(3, .int 0), (0, .ref (ca_a κ (20, 0, 0))), (1, .int x1), (2, .int x2)]) dX10_middle_8 rfl (by decide) rfl (q := 9) rfl ?_
      refine ca_iconst hC (v := 0) dX10_middle_9 rfl (q := 10) rfl ?_
      refine ca_istore hC (lv' := [(4, .int 0), (3, .int 0), (0, .ref (ca_a κ (20, 0, 0))), (1, .int x1), (2, .int x2)]) dX10_middle_10 (by decide) rfl (q := 12) rfl ?_
      refine ca_iconst hC (v := 0) dX10_middle_12 rfl (q := 13) rfl ?_
      refine ca_istore hC (lv' := [(5, .int 0), (4, .int 0), (3, .int 0), (0, .ref (ca_a κ (20, 0, 0))), (1, .int x1), (2, .int x2)]) dX10_middle_13 (by decide) rfl (q := 15) rfl ?_
      refine ca_pick [3, 4, 5, 2, 1, 0] rfl (ct_X10_middle_15 hC σ x1 x2 ?_ ca_FU 0 0 0)
      intro x13 x14
      refine ca_iload_n hC 3 dX10_middle_77 rfl rfl (q := 78) rfl ?_
      refine ca_iload_n hC 1 dX10_middle_78 rfl rfl (q := 79) rfl ?_
      refine ca_iconst hC (v := 1) dX10_middle_79 rfl (q := 80) rfl ?_
      refine ca_isub hC dX10_middle_80 (q := 81) rfl ?_
      refine ca_iconst hC (v := 2) dX10_middle_81 rfl (q := 82) rfl ?_
      refine ca_idiv hC dX10_middle_82 (q := 83) rfl (fun h15 => ?_)
      refine ca_icmp_gt hC dX10_middle_83 (t := 105) (q := 86) rfl rfl (fun h16 => ?_) (fun h17 => ?_)
      · refine ca_iinc hC 2 (v := (x2 + 1)) (lv' := [(2, .int (x2 + 1)), (0, .ref (ca_a κ (20, 0, 0))), (1, .int x1), (3, .int x13), (4, .int x14)]) dX10_middle_105 rfl rfl (by decide) rfl (q := 108) rfl ?_
        refine ca_goto hC dX10_middle_108 (q := 2) rfl ?_
        exact ca_pick [1, 2, 0] rfl (ih (x2 + 1))
      · refine ca_iload_n hC 3 dX10_middle_86 rfl rfl (q := 87) rfl ?_
        refine ca_iload hC 4 dX10_middle_87 rfl (q := 89) rfl ?_
        refine ca_iadd hC dX10_middle_89 (q := 90) rfl ?_
        refine ca_iload_n hC 1 dX10_middle_90 rfl rfl (q := 91) rfl ?_
        refine ca_iconst hC (v := 1) dX10_middle_91 rfl (q := 92) rfl ?_
        refine ca_isub hC dX10_middle_92 (q := 93) rfl ?_
        refine ca_iconst hC (v := 2) dX10_middle_93 rfl (q := 94) rfl ?_
        refine ca_idiv hC dX10_middle_94 (q := 95) rfl (fun h18 => ?_)
        refine ca_icmp_le hC dX10_middle_95 (t := 105) (q := 98) rfl rfl (fun h19 => ?_) (fun h20 => ?_)
        · refine ca_iinc hC 2 (v := (x2 + 1)) (lv' := [(2, .int (x2 + 1)), (0, .ref (ca_a κ (20, 0, 0))), (1, .int x1), (3, .int x13), (4, .int x14)]) dX10_middle_105 rfl rfl (by decide) rfl (q := 108) rfl ?_
          refine ca_goto hC dX10_middle_108 (q := 2) rfl ?_
          exact ca_pick [1, 2, 0] rfl (ih (x2 + 1))
        · refine ca_aload_n hC 0 dX10_middle_98 rfl rfl (q := 99) rfl ?_
          refine cg_X10_65 hC  dX10_middle_99 (q := 102) rfl ?_
          refine ca_iload_n hC 2 dX10_middle_102 rfl rfl (q := 103) rfl ?_
          refine ca_ildQ hC (n := 16) (ca_m21 (k := 31) (by decide)) rfl rfl rfl dX10_middle_103 (q := 104) rfl (fun h21 => ?_)
          exact ca_iretr hC dX10_middle_104 rfl
set_option maxRecDepth 100000 in
set_option maxHeartbeats 4000000 in
theorem ct_X10_middle {κ : ca_K} (hC : ca_C κ ca_cM cX10_middle 6 RX10 (some .int) 0 0) (σ : ca_S) (x1 : Int32) : ca_T κ (ca_Zr κ σ) σ 0 [(0, .ref (ca_a κ (20, 0, 0))), (1, .int x1)] [] (cf_X10_middle σ x1) := by
  unfold cf_X10_middle
  refine ca_iconst hC (v := 0) dX10_middle_0 rfl (q := 1) rfl ?_
  refine ca_istore_n hC (lv' := [(2, .int 0), (0, .ref (ca_a κ (20, 0, 0))), (1, .int x1)]) dX10_middle_1 rfl (by decide) rfl (q := 2) rfl ?_
  refine ca_pick [1, 2, 0] rfl (ct_X10_middle_2 hC σ x1 ?_ ca_FU 0)
  refine ca_iconst hC (v := 0) dX10_middle_111 rfl (q := 112) rfl ?_
  exact ca_iretr hC dX10_middle_112 rfl
theorem cm_X10_middle (Γ : ca_G) (l : Launch) (σ : ca_S) (x1 : Int32) : ca_Mr Γ ca_cM l yX10_middle cX10_middle 6 (some .int) 0 0 [.ref (Γ.2.1 (20, 0, 0)), .int x1] σ (cf_X10_middle σ x1) :=
  ca_met (by decide) (Nat.le_of_ble_eq_true rfl) rfl (fun κ h1 h2 hC => by
    subst h1
    have h := ct_X10_middle hC σ x1
    unfold ca_Zr at h
    rw [h2] at h
    exact h)
-- X10_size
set_option maxRecDepth 100000 in
set_option maxHeartbeats 4000000 in
theorem ct_X10_size {κ : ca_K} (hC : ca_C κ ca_cM cX10_size 1 RX10 (some .int) 0 0) (σ : ca_S) (x0 : Int32) : ca_T κ (ca_Zr κ σ) σ 0 [(0, .int x0)] [] (cf_X10_size x0) := by
  unfold cf_X10_size
  refine ca_iload_n hC 0 dX10_size_0 rfl rfl (q := 1) rfl ?_
  refine ca_if_ge hC dX10_size_1 (t := 9) (q := 4) rfl rfl (fun h1 => ?_) (fun h2 => ?_)
  · refine ca_iload_n hC 0 dX10_size_9 rfl rfl (q := 10) rfl ?_
    exact ca_iretr hC dX10_size_10 rfl
  · refine ca_iload_n hC 0 dX10_size_4 rfl rfl (q := 5) rfl ?_
    refine ca_ineg hC dX10_size_5 (q := 6) rfl ?_
    refine ca_goto hC dX10_size_6 (q := 10) rfl ?_
    exact ca_iretr hC dX10_size_10 rfl
theorem cm_X10_size (Γ : ca_G) (l : Launch) (σ : ca_S) (x0 : Int32) : ca_Mr Γ ca_cM l yX10_size cX10_size 1 (some .int) 0 0 [.int x0] σ (cf_X10_size x0) :=
  ca_met (by decide) (Nat.le_of_ble_eq_true rfl) rfl (fun κ h1 h2 hC => by
    subst h1
    have h := ct_X10_size hC σ x0
    unfold ca_Zr at h
    rw [h2] at h
    exact h)
-- X10_number
set_option maxRecDepth 100000 in
set_option maxHeartbeats 4000000 in
theorem ct_X10_number_33 {κ : ca_K} (hC : ca_C κ ca_cM cX10_number 9 RX10 (some .int) 3 66) (x1 : Int32) {K : ca_S → Int32 → Option (Int32 × ca_S)} (hK : ∀ (σ : ca_S) (x2 : Int32), ca_T κ (ca_Zi κ) σ 69 [(0, .ref (ca_a κ (20, 0, 0))), (1, .int x1), (2, .int x2)] [] (K σ x2)) : ∀ (n : Nat) (σ : ca_S) (x2 : Int32) (x3 : Int32), ca_T κ (ca_Zi κ) σ 33 [(0, .ref (ca_a κ (20, 0, 0))), (1, .int x1), (2, .int x2), (3, .int x3)] [] (cl_X10_number_33 x1 K n σ x2 x3) := by
  intro n
  induction n with
  | zero => intro σ x2 x3; exact ca_no
  | succ n ih =>
    intro σ x2 x3
    rw [cl_X10_number_33]
    refine ca_iload_n hC 3 dX10_number_33 rfl rfl (q := 34) rfl ?_
    refine ca_aload_n hC 0 dX10_number_34 rfl rfl (q := 35) rfl ?_
    refine cg_X10_68 hC  dX10_number_35 (q := 38) rfl ?_
    refine ca_icmp_ge hC dX10_number_38 (t := 69) (q := 41) rfl rfl (fun h16 => ?_) (fun h17 => ?_)
    · exact ca_pick [0, 1, 2] rfl (hK σ x2)
    · refine ca_aload_n hC 0 dX10_number_41 rfl rfl (q := 42) rfl ?_
      refine ca_iload_n hC 3 dX10_number_42 rfl rfl (q := 43) rfl ?_
      refine ca_callVr hC (rest := []) (cm_X10_answerOf κ.1 κ.2.2.2.1 σ x3) ca_Y_X10_answerOf ca_L_X10_126 ca_m20 rfl rfl rfl rfl (Nat.le_of_ble_eq_true rfl) ⟨Nat.le_of_ble_eq_true rfl, Nat.le_of_ble_eq_true rfl⟩ dX10_number_43 (q := 46) rfl (fun r18 h20 => ?_)
      refine ca_if_lt hC dX10_number_46 (t := 63) (q := 49) rfl rfl (fun h21 => ?_) (fun h22 => ?_)
      · refine ca_iinc hC 3 (v := (x3 + 1)) (lv' := [(3, .int (x3 + 1)), (0, .ref (ca_a κ (20, 0, 0))), (1, .int x1), (2, .int x2)]) dX10_number_63 rfl rfl (by decide) rfl (q := 66) rfl ?_
        refine ca_goto hC dX10_number_66 (q := 33) rfl ?_
        exact ca_pick [1, 2, 3, 0] rfl (ih σ x2 (x3 + 1))
      · refine ca_aload_n hC 0 dX10_number_49 rfl rfl (q := 50) rfl ?_
        refine cg_X10_65 hC  dX10_number_50 (q := 53) rfl ?_
        refine ca_iload_n hC 2 dX10_number_53 rfl rfl (q := 54) rfl ?_
        refine ca_aload_n hC 0 dX10_number_54 rfl rfl (q := 55) rfl ?_
        refine ca_iload_n hC 3 dX10_number_55 rfl rfl (q := 56) rfl ?_
        refine ca_callVr hC (rest := [.int x2, .ref (ca_a κ (21, 31, 0))]) (cm_X10_answerOf κ.1 κ.2.2.2.1 σ x3) ca_Y_X10_answerOf ca_L_X10_126 ca_m20 rfl rfl rfl rfl (Nat.le_of_ble_eq_true rfl) ⟨Nat.le_of_ble_eq_true rfl, Nat.le_of_ble_eq_true rfl⟩ dX10_number_56 (q := 59) rfl (fun r23 h25 => ?_)
        refine ca_istQ hC (n := 16) (ca_m21 (k := 31) (by decide)) rfl rfl rfl dX10_number_59 (q := 60) rfl (fun h26 => ?_)
        refine ca_let (fun σ27 _ => ?_)
        refine ca_iinc hC 2 (v := (x2 + 1)) (lv' := [(2, .int (x2 + 1)), (0, .ref (ca_a κ (20, 0, 0))), (1, .int x1), (3, .int x3)]) dX10_number_60 rfl rfl (by decide) rfl (q := 63) rfl ?_
        refine ca_iinc hC 3 (v := (x3 + 1)) (lv' := [(3, .int (x3 + 1)), (2, .int (x2 + 1)), (0, .ref (ca_a κ (20, 0, 0))), (1, .int x1)]) dX10_number_63 rfl rfl (by decide) rfl (q := 66) rfl ?_
        refine ca_goto hC dX10_number_66 (q := 33) rfl ?_
        exact ca_pick [2, 3, 1, 0] rfl (ih σ27 (x2 + 1) (x3 + 1))
set_option maxRecDepth 100000 in
set_option maxHeartbeats 4000000 in
theorem ct_X10_number_78 {κ : ca_K} (hC : ca_C κ ca_cM cX10_number 9 RX10 (some .int) 3 66) (x1 : Int32) (x2 : Int32) (x3 : Int32) {K : ca_S → Option (Int32 × ca_S)} (hK : ∀ (σ : ca_S), ca_T κ (ca_Zi κ) σ 109 [(0, .ref (ca_a κ (20, 0, 0))), (1, .int x1), (2, .int x2), (3, .int x3)] [] (K σ)) : ∀ (n : Nat) (σ : ca_S) (x4 : Int32), ca_T κ (ca_Zi κ) σ 78 [(0, .ref (ca_a κ (20, 0, 0))), (1, .int x1), (2, .int x2), (3, .int x3), (4, .int x4)] [] (cl_X10_number_78 x1 x2 x3 K n σ x4) := by
  intro n
  induction n with
  | zero => intro σ x4; exact ca_no
  | succ n ih =>
    intro σ x4
    rw [cl_X10_number_78]
    refine ca_iload hC 4 dX10_number_78 rfl (q := 80) rfl ?_
    refine ca_iload_n hC 2 dX10_number_80 rfl rfl (q := 81) rfl ?_
    refine ca_icmp_ge hC dX10_number_81 (t := 109) (q := 84) rfl rfl (fun h33 => ?_) (fun h34 => ?_)
    · exact ca_pick [0, 1, 2, 3] rfl (hK σ)
    · refine ca_aload_n hC 0 dX10_number_84 rfl rfl (q := 85) rfl ?_
      refine cg_X10_65 hC  dX10_number_85 (q := 88) rfl ?_
      refine ca_iload hC 4 dX10_number_88 rfl (q := 90) rfl ?_
      refine ca_aload_n hC 0 dX10_number_90 rfl rfl (q := 91) rfl ?_
      refine cg_X10_65 hC  dX10_number_91 (q := 94) rfl ?_
      refine ca_iload hC 4 dX10_number_94 rfl (q := 96) rfl ?_
      refine ca_ildQ hC (n := 16) (ca_m21 (k := 31) (by decide)) rfl rfl rfl dX10_number_96 (q := 97) rfl (fun h35 => ?_)
      refine ca_iload_n hC 3 dX10_number_97 rfl rfl (q := 98) rfl ?_
      refine ca_isub hC dX10_number_98 (q := 99) rfl ?_
      refine ca_callSr hC (rest := [.int x4, .ref (ca_a κ (21, 31, 0))]) (cm_X10_size κ.1 κ.2.2.2.1 σ ((σ.1 (21, 31, 0) (Int32.toNatClampNeg x4)) - x3)) ca_Y_X10_size ca_L_X10_144  rfl rfl (Nat.le_of_ble_eq_true rfl) ⟨Nat.le_of_ble_eq_true rfl, Nat.le_of_ble_eq_true rfl⟩ dX10_number_99 (q := 102) rfl (fun r36 h38 => ?_)
      refine ca_istQ hC (n := 16) (ca_m21 (k := 31) (by decide)) rfl rfl rfl dX10_number_102 (q := 103) rfl (fun h39 => ?_)
      refine ca_let (fun σ40 _ => ?_)
      refine ca_iinc hC 4 (v := (x4 + 1)) (lv' := [(4, .int (x4 + 1)), (0, .ref (ca_a κ (20, 0, 0))), (1, .int x1), (2, .int x2), (3, .int x3)]) dX10_number_103 rfl rfl (by decide) rfl (q := 106) rfl ?_
      refine ca_goto hC dX10_number_106 (q := 78) rfl ?_
      exact ca_pick [1, 2, 3, 4, 0] rfl (ih σ40 (x4 + 1))
set_option maxRecDepth 100000 in
set_option maxHeartbeats 4000000 in
theorem ct_X10_number_183 {κ : ca_K} (hC : ca_C κ ca_cM cX10_number 9 RX10 (some .int) 3 66) (σ : ca_S) (x1 : Int32) (x3 : Int32) (x4 : Int32) (x6 : Int32) (x7 : Int32) (x8 : Int32) (xs0 : Int32) (xs1 : Int32) {KB : Int32 → Int32 → Int32 → Option (Int32 × ca_S)} {KX : Int32 → Int32 → Option (Int32 × ca_S)} (hKB : ∀ (x5 : Int32) (x6 : Int32) (x7 : Int32), ca_T κ (ca_Zi κ) σ 125 [(0, .ref (ca_a κ (20, 0, 0))), (1, .int x1), (3, .int x3), (4, .int x4), (5, .int x5), (6, .int x6), (7, .int x7)] [] (KB x5 x6 x7)) (hKX : ∀ (x5 : Int32) (x6 : Int32), ca_T κ (ca_Zi κ) σ 207 [(1, .int x1), (3, .int x3), (5, .int x5), (6, .int x6)] [] (KX x5 x6)) : ca_T κ (ca_Zi κ) σ 183 [(0, .ref (ca_a κ (20, 0, 0))), (1, .int x1), (3, .int x3), (4, .int x4), (6, .int x6), (7, .int x7), (8, .int x8)] [.int xs0, .int xs1] (cj_X10_number_183 KB KX σ x1 x3 x4 x6 x7 x8 xs0 xs1) := by
  unfold cj_X10_number_183
  refine ca_ior hC dX10_number_183 (q := 184) rfl ?_
  refine ca_istore hC (lv' := [(5, .int (xs1 ||| xs0)), (0, .ref (ca_a κ (20, 0, 0))), (1, .int x1), (3, .int x3), (4, .int x4), (6, .int x6), (7, .int x7), (8, .int x8)]) dX10_number_184 (by decide) rfl (q := 186) rfl ?_
  refine ca_iload hC 5 dX10_number_186 rfl (q := 188) rfl ?_
  refine ca_iload hC 7 dX10_number_188 rfl (q := 190) rfl ?_
  refine ca_if_eq hC dX10_number_190 (t := 197) (q := 193) rfl rfl (fun h54 => ?_) (fun h55 => ?_)
  · refine ca_iconst hC (v := 0) dX10_number_197 rfl (q := 198) rfl ?_
    refine ca_iadd hC dX10_number_198 (q := 199) rfl ?_
    refine ca_istore hC (lv' := [(6, .int (x6 + 0)), (5, .int (xs1 ||| xs0)), (0, .ref (ca_a κ (20, 0, 0))), (1, .int x1), (3, .int x3), (4, .int x4), (7, .int x7), (8, .int x8)]) dX10_number_199 (by decide) rfl (q := 201) rfl ?_
    refine ca_pick [0, 1, 2, 3, 4, 5, 6] (lv' := [(6, .int (x6 + 0)), (5, .int (xs1 ||| xs0)), (0, .ref (ca_a κ (20, 0, 0))), (1, .int x1), (3, .int x3), (4, .int x4), (7, .int x7)]) rfl ?_
    refine ca_iinc hC 6 (v := (x7 + 1)) (lv' := [(7, .int (x7 + 1)), (6, .int (x6 + 0)), (5, .int (xs1 ||| xs0)), (0, .ref (ca_a κ (20, 0, 0))), (1, .int x1), (3, .int x3), (4, .int x4)]) dX10_number_201 rfl rfl (by decide) rfl (q := 204) rfl ?_
    refine ca_goto hC dX10_number_204 (q := 125) rfl ?_
    exact ca_pick [3, 4, 5, 6, 2, 1, 0] rfl (hKB (xs1 ||| xs0) (x6 + 0) (x7 + 1))
  · refine ca_iconst hC (v := 1) dX10_number_193 rfl (q := 194) rfl ?_
    refine ca_goto hC dX10_number_194 (q := 198) rfl ?_
    refine ca_iadd hC dX10_number_198 (q := 199) rfl ?_
    refine ca_istore hC (lv' := [(6, .int (x6 + 1)), (5, .int (xs1 ||| xs0)), (0, .ref (ca_a κ (20, 0, 0))), (1, .int x1), (3, .int x3), (4, .int x4), (7, .int x7), (8, .int x8)]) dX10_number_199 (by decide) rfl (q := 201) rfl ?_
    refine ca_pick [0, 1, 2, 3, 4, 5, 6] (lv' := [(6, .int (x6 + 1)), (5, .int (xs1 ||| xs0)), (0, .ref (ca_a κ (20, 0, 0))), (1, .int x1), (3, .int x3), (4, .int x4), (7, .int x7)]) rfl ?_
    refine ca_iinc hC 6 (v := (x7 + 1)) (lv' := [(7, .int (x7 + 1)), (6, .int (x6 + 1)), (5, .int (xs1 ||| xs0)), (0, .ref (ca_a κ (20, 0, 0))), (1, .int x1), (3, .int x3), (4, .int x4)]) dX10_number_201 rfl rfl (by decide) rfl (q := 204) rfl ?_
    refine ca_goto hC dX10_number_204 (q := 125) rfl ?_
    exact ca_pick [3, 4, 5, 6, 2, 1, 0] rfl (hKB (xs1 ||| xs0) (x6 + 1) (x7 + 1))
set_option maxRecDepth 100000 in
set_option maxHeartbeats 4000000 in
theorem ct_X10_number_166 {κ : ca_K} (hC : ca_C κ ca_cM cX10_number 9 RX10 (some .int) 3 66) (σ : ca_S) (x1 : Int32) (x3 : Int32) (x4 : Int32) (x5 : Int32) (x6 : Int32) (x7 : Int32) (xs0 : Int32) {KB : Int32 → Int32 → Int32 → Option (Int32 × ca_S)} {KX : Int32 → Int32 → Option (Int32 × ca_S)} (hKB : ∀ (x5 : Int32) (x6 : Int32) (x7 : Int32), ca_T κ (ca_Zi κ) σ 125 [(0, .ref (ca_a κ (20, 0, 0))), (1, .int x1), (3, .int x3), (4, .int x4), (5, .int x5), (6, .int x6), (7, .int x7)] [] (KB x5 x6 x7)) (hKX : ∀ (x5 : Int32) (x6 : Int32), ca_T κ (ca_Zi κ) σ 207 [(1, .int x1), (3, .int x3), (5, .int x5), (6, .int x6)] [] (KX x5 x6)) : ca_T κ (ca_Zi κ) σ 166 [(0, .ref (ca_a κ (20, 0, 0))), (1, .int x1), (3, .int x3), (4, .int x4), (5, .int x5), (6, .int x6), (7, .int x7)] [.int xs0] (cj_X10_number_166 KB KX σ x1 x3 x4 x5 x6 x7 xs0) := by
  unfold cj_X10_number_166
  refine ca_istore hC (lv' := [(8, .int xs0), (0, .ref (ca_a κ (20, 0, 0))), (1, .int x1), (3, .int x3), (4, .int x4), (5, .int x5), (6, .int x6), (7, .int x7)]) dX10_number_166 (by decide) rfl (q := 168) rfl ?_
  refine ca_iload hC 5 dX10_number_168 rfl (q := 170) rfl ?_
  refine ca_iload hC 0 dX10_number_170 rfl (q := 172) rfl ?_
  refine ca_if_eq hC dX10_number_172 (t := 182) (q := 175) rfl rfl (fun h52 => ?_) (fun h53 => ?_)
  · refine ca_iconst hC (v := 0) dX10_number_182 rfl (q := 183) rfl ?_
    exact ca_pick [1, 2, 3, 4, 6, 7, 0] rfl (ct_X10_number_183 hC σ x1 x3 x4 x6 x7 xs0 0 x5 hKB hKX )
  · refine ca_iconst hC (v := 1) dX10_number_175 rfl (q := 176) rfl ?_
    refine ca_iload hC 7 dX10_number_176 rfl (q := 178) rfl ?_
    refine ca_ishl hC dX10_number_178 (q := 179) rfl ?_
    refine ca_goto hC dX10_number_179 (q := 183) rfl ?_
    exact ca_pick [1, 2, 3, 4, 6, 7, 0] rfl (ct_X10_number_183 hC σ x1 x3 x4 x6 x7 xs0 (1 <<< (x7 &&& 31)) x5 hKB hKX )
set_option maxRecDepth 100000 in
set_option maxHeartbeats 4000000 in
theorem ct_X10_number_125 {κ : ca_K} (hC : ca_C κ ca_cM cX10_number 9 RX10 (some .int) 3 66) (σ : ca_S) (x1 : Int32) (x3 : Int32) (x4 : Int32) {K : Int32 → Int32 → Option (Int32 × ca_S)} (hK : ∀ (x5 : Int32) (x6 : Int32), ca_T κ (ca_Zi κ) σ 207 [(1, .int x1), (3, .int x3), (5, .int x5), (6, .int x6)] [] (K x5 x6)) : ∀ (n : Nat) (x5 : Int32) (x6 : Int32) (x7 : Int32), ca_T κ (ca_Zi κ) σ 125 [(0, .ref (ca_a κ (20, 0, 0))), (1, .int x1), (3, .int x3), (4, .int x4), (5, .int x5), (6, .int x6), (7, .int x7)] [] (cl_X10_number_125 σ x1 x3 x4 K n x5 x6 x7) := by
  intro n
  induction n with
  | zero => intro x5 x6 x7; exact ca_no
  | succ n ih =>
    intro x5 x6 x7
    rw [cl_X10_number_125]
    refine ca_iload hC 6 dX10_number_125 rfl (q := 127) rfl ?_
    refine ca_aload_n hC 0 dX10_number_127 rfl rfl (q := 128) rfl ?_
    refine cg_X10_68 hC  dX10_number_128 (q := 131) rfl ?_
    refine ca_icmp_ge hC dX10_number_131 (t := 207) (q := 134) rfl rfl (fun h45 => ?_) (fun h46 => ?_)
    · exact ca_pick [1, 2, 4, 5] rfl (hK x5 x6)
    · refine ca_aload_n hC 0 dX10_number_134 rfl rfl (q := 135) rfl ?_
      refine ca_iload hC 6 dX10_number_135 rfl (q := 137) rfl ?_
      refine ca_callVr hC (rest := []) (cm_X10_answerOf κ.1 κ.2.2.2.1 σ x7) ca_Y_X10_answerOf ca_L_X10_126 ca_m20 rfl rfl rfl rfl (Nat.le_of_ble_eq_true rfl) ⟨Nat.le_of_ble_eq_true rfl, Nat.le_of_ble_eq_true rfl⟩ dX10_number_137 (q := 140) rfl (fun r47 h49 => ?_)
      refine ca_if_lt hC dX10_number_140 (t := 165) (q := 143) rfl rfl (fun h50 => ?_) (fun h51 => ?_)
      · refine ca_iconst hC (v := 0) dX10_number_165 rfl (q := 166) rfl ?_
        exact ca_pick [0, 1, 2, 3, 4, 5, 6] rfl (ct_X10_number_166 hC σ x1 x3 x4 x5 x6 x7 0 ih hK )
      · refine ca_aload_n hC 0 dX10_number_143 rfl rfl (q := 144) rfl ?_
        refine ca_iload hC 6 dX10_number_144 rfl (q := 146) rfl ?_
        refine ca_callVr hC (rest := []) (cm_X10_answerOf κ.1 κ.2.2.2.1 σ x7) ca_Y_X10_answerOf ca_L_X10_126 ca_m20 rfl rfl rfl rfl (Nat.le_of_ble_eq_true rfl) ⟨Nat.le_of_ble_eq_true rfl, Nat.le_of_ble_eq_true rfl⟩ dX10_number_146 (q := 149) rfl (fun r56 h58 => ?_)
        refine ca_iload_n hC 2 dX10_number_149 rfl rfl (q := 150) rfl ?_
        refine ca_isub hC dX10_number_150 (q := 151) rfl ?_
        refine ca_callSr hC (rest := []) (cm_X10_size κ.1 κ.2.2.2.1 σ (r56 - x3)) ca_Y_X10_size ca_L_X10_144  rfl rfl (Nat.le_of_ble_eq_true rfl) ⟨Nat.le_of_ble_eq_true rfl, Nat.le_of_ble_eq_true rfl⟩ dX10_number_151 (q := 154) rfl (fun r59 h61 => ?_)
        refine ca_iconst hC (v := 3) dX10_number_154 rfl (q := 155) rfl ?_
        refine ca_iload hC 3 dX10_number_155 rfl (q := 157) rfl ?_
        refine ca_imul hC dX10_number_157 (q := 158) rfl ?_
        refine ca_icmp_le hC dX10_number_158 (t := 165) (q := 161) rfl rfl (fun h62 => ?_) (fun h63 => ?_)
        · refine ca_iconst hC (v := 0) dX10_number_165 rfl (q := 166) rfl ?_
          exact ca_pick [0, 1, 2, 3, 4, 5, 6] rfl (ct_X10_number_166 hC σ x1 x3 x4 x5 x6 x7 0 ih hK )
        · refine ca_iconst hC (v := 1) dX10_number_161 rfl (q := 162) rfl ?_
          refine ca_goto hC dX10_number_162 (q := 166) rfl ?_
          exact ca_pick [0, 1, 2, 3, 4, 5, 6] rfl (ct_X10_number_166 hC σ x1 x3 x4 x5 x6 x7 1 ih hK )
set_option maxRecDepth 100000 in
set_option maxHeartbeats 4000000 in
theorem ct_X10_number {κ : ca_K} (hC : ca_C κ ca_cM cX10_number 9 RX10 (some .int) 3 66) (σ : ca_S) (x1 : Int32) : ca_T κ (ca_Zi κ) σ 0 [(0, .ref (ca_a κ (20, 0, 0))), (1, .int x1)] [] (cf_X10_number σ x1) := by
  unfold cf_X10_number
  refine ca_iload_n hC 1 dX10_number_0 rfl rfl (q := 1) rfl ?_
  refine ca_iconst hC (v := 0) dX10_number_1 rfl (q := 2) rfl ?_
  refine ca_iconst hC (v := 2) dX10_number_2 rfl (q := 3) rfl ?_
  refine ca_callSr hC (rest := []) (cm_X10_in κ.1 κ.2.2.2.1 σ x1 0 2) ca_Y_X10_in ca_L_X10_72  rfl rfl (Nat.le_of_ble_eq_true rfl) ⟨Nat.le_of_ble_eq_true rfl, Nat.le_of_ble_eq_true rfl⟩ dX10_number_3 (q := 6) rfl (fun r1 h3 => ?_)
  refine ca_if_ne hC dX10_number_6 (t := 11) (q := 9) rfl rfl (fun h4 => ?_) (fun h5 => ?_)
  · refine ca_aload_n hC 0 dX10_number_11 rfl rfl (q := 12) rfl ?_
    refine ca_iconst hC (v := 1) dX10_number_12 rfl (q := 13) rfl ?_
    refine ca_callVr hC (rest := []) (cm_X10_isShownOf κ.1 κ.2.2.2.1 σ 1) ca_Y_X10_isShownOf ca_L_X10_138 ca_m20 rfl rfl rfl rfl (Nat.le_of_ble_eq_true rfl) ⟨Nat.le_of_ble_eq_true rfl, Nat.le_of_ble_eq_true rfl⟩ dX10_number_13 (q := 16) rfl (fun r6 h8 => ?_)
    refine ca_if_eq hC dX10_number_16 (t := 26) (q := 19) rfl rfl (fun h9 => ?_) (fun h10 => ?_)
    · refine ca_bipush hC (v := (-2)) dX10_number_26 rfl (q := 28) rfl ?_
      exact ca_ireti hC dX10_number_28 rfl
    · refine ca_aload_n hC 0 dX10_number_19 rfl rfl (q := 20) rfl ?_
      refine ca_callVr hC (rest := []) (cm_X10_many κ.1 κ.2.2.2.1 σ) ca_Y_X10_many ca_L_X10_134 ca_m20 rfl rfl rfl rfl (Nat.le_of_ble_eq_true rfl) ⟨Nat.le_of_ble_eq_true rfl, Nat.le_of_ble_eq_true rfl⟩ dX10_number_20 (q := 23) rfl (fun r11 h13 => ?_)
      refine ca_if_ne hC dX10_number_23 (t := 29) (q := 26) rfl rfl (fun h14 => ?_) (fun h15 => ?_)
      · refine ca_iconst hC (v := 0) dX10_number_29 rfl (q := 30) rfl ?_
        refine ca_istore_n hC (lv' := [(2, .int 0), (0, .ref (ca_a κ (20, 0, 0))), (1, .int x1)]) dX10_number_30 rfl (by decide) rfl (q := 31) rfl ?_
        refine ca_iconst hC (v := 0) dX10_number_31 rfl (q := 32) rfl ?_
        refine ca_istore_n hC (lv' := [(3, .int 0), (2, .int 0), (0, .ref (ca_a κ (20, 0, 0))), (1, .int x1)]) dX10_number_32 rfl (by decide) rfl (q := 33) rfl ?_
        refine ca_pick [2, 3, 1, 0] rfl (ct_X10_number_33 hC x1 ?_ ca_FU σ 0 0)
        intro σ28 x29
        refine ca_aload_n hC 0 dX10_number_69 rfl rfl (q := 70) rfl ?_
        refine ca_iload_n hC 2 dX10_number_70 rfl rfl (q := 71) rfl ?_
        refine ca_callVr hC (rest := []) (cm_X10_middle κ.1 κ.2.2.2.1 σ28 x29) ca_Y_X10_middle ca_L_X10_141 ca_m20 rfl rfl rfl rfl (Nat.le_of_ble_eq_true rfl) ⟨Nat.le_of_ble_eq_true rfl, Nat.le_of_ble_eq_true rfl⟩ dX10_number_71 (q := 74) rfl (fun r30 h32 => ?_)
        refine ca_istore_n hC (lv' := [(3, .int r30), (0, .ref (ca_a κ (20, 0, 0))), (1, .int x1), (2, .int x29)]) dX10_number_74 rfl (by decide) rfl (q := 75) rfl ?_
        refine ca_iconst hC (v := 0) dX10_number_75 rfl (q := 76) rfl ?_
        refine ca_istore hC (lv' := [(4, .int 0), (3, .int r30), (0, .ref (ca_a κ (20, 0, 0))), (1, .int x1), (2, .int x29)]) dX10_number_76 (by decide) rfl (q := 78) rfl ?_
        refine ca_pick [2, 3, 4, 1, 0] rfl (ct_X10_number_78 hC x1 x29 r30 ?_ ca_FU σ28 0)
        intro σ41
        refine ca_aload_n hC 0 dX10_number_109 rfl rfl (q := 110) rfl ?_
        refine ca_iload_n hC 2 dX10_number_110 rfl rfl (q := 111) rfl ?_
        refine ca_callVr hC (rest := []) (cm_X10_middle κ.1 κ.2.2.2.1 σ41 x29) ca_Y_X10_middle ca_L_X10_141 ca_m20 rfl rfl rfl rfl (Nat.le_of_ble_eq_true rfl) ⟨Nat.le_of_ble_eq_true rfl, Nat.le_of_ble_eq_true rfl⟩ dX10_number_111 (q := 114) rfl (fun r42 h44 => ?_)
        refine ca_istore hC (lv' := [(4, .int r42), (0, .ref (ca_a κ (20, 0, 0))), (1, .int x1), (2, .int x29), (3, .int r30)]) dX10_number_114 (by decide) rfl (q := 116) rfl ?_
        refine ca_pick [0, 1, 2, 4] (lv' := [(4, .int r42), (0, .ref (ca_a κ (20, 0, 0))), (1, .int x1), (3, .int r30)]) rfl ?_
        refine ca_iconst hC (v := 0) dX10_number_116 rfl (q := 117) rfl ?_
        refine ca_istore hC (lv' := [(5, .int 0), (4, .int r42), (0, .ref (ca_a κ (20, 0, 0))), (1, .int x1), (3, .int r30)]) dX10_number_117 (by decide) rfl (q := 119) rfl ?_
        refine ca_iconst hC (v := 0) dX10_number_119 rfl (q := 120) rfl ?_
        refine ca_istore hC (lv' := [(6, .int 0), (5, .int 0), (4, .int r42), (0, .ref (ca_a κ (20, 0, 0))), (1, .int x1), (3, .int r30)]) dX10_number_120 (by decide) rfl (q := 122) rfl ?_
        refine ca_iconst hC (v := 0) dX10_number_122 rfl (q := 123) rfl ?_
        refine ca_istore hC (lv' := [(7, .int 0), (6, .int 0), (5, .int 0), (4, .int r42), (0, .ref (ca_a κ (20, 0, 0))), (1, .int x1), (3, .int r30)]) dX10_number_123 (by decide) rfl (q := 125) rfl ?_
        refine ca_pick [4, 5, 6, 3, 2, 1, 0] rfl (ct_X10_number_125 hC σ41 x1 r30 r42 ?_ ca_FU 0 0 0)
        intro x64 x65
        refine ca_iload_n hC 0 dX10_number_207 rfl rfl (q := 208) rfl ?_
        refine ca_if_ne hC dX10_number_208 (t := 215) (q := 211) rfl rfl (fun h66 => ?_) (fun h67 => ?_)
        · refine ca_iload_n hC 0 dX10_number_215 rfl rfl (q := 216) rfl ?_
          refine ca_iconst hC (v := 1) dX10_number_216 rfl (q := 217) rfl ?_
          refine ca_icmp_ne hC dX10_number_217 (t := 225) (q := 220) rfl rfl (fun h68 => ?_) (fun h69 => ?_)
          · refine ca_iload hC 2 dX10_number_225 rfl (q := 227) rfl ?_
            exact ca_ireti hC dX10_number_227 rfl
          · refine ca_iload hC 3 dX10_number_220 rfl (q := 222) rfl ?_
            refine ca_goto hC dX10_number_222 (q := 227) rfl ?_
            exact ca_ireti hC dX10_number_227 rfl
        · refine ca_iload_n hC 1 dX10_number_211 rfl rfl (q := 212) rfl ?_
          refine ca_goto hC dX10_number_212 (q := 227) rfl ?_
          exact ca_ireti hC dX10_number_227 rfl
      · refine ca_bipush hC (v := (-2)) dX10_number_26 rfl (q := 28) rfl ?_
        exact ca_ireti hC dX10_number_28 rfl
  · refine ca_iconst hC (v := (-1)) dX10_number_9 rfl (q := 10) rfl ?_
    exact ca_ireti hC dX10_number_10 rfl
theorem cm_X10_number (Γ : ca_G) (l : Launch) (σ : ca_S) (x1 : Int32) : ca_Mi Γ ca_cM l yX10_number cX10_number 9 (some .int) 3 66 [.ref (Γ.2.1 (20, 0, 0)), .int x1] σ (cf_X10_number σ x1) :=
  ca_met (by decide) (Nat.le_of_ble_eq_true rfl) rfl (fun κ h1 h2 hC => by
    subst h1
    have h := ct_X10_number hC σ x1
    unfold ca_Zi at h
    rw [h2] at h
    exact h)
-- X10_place
set_option maxRecDepth 100000 in
set_option maxHeartbeats 4000000 in
theorem ct_X10_place_2 {κ : ca_K} (hC : ca_C κ ca_cM cX10_place 4 RX10 (some .int) 0 0) (σ : ca_S) (x1 : Int32) (x2 : Int32) {K : Int32 → Option (Int32)} (hK : ∀ (x3 : Int32), ca_T κ (ca_Zr κ σ) σ 20 [(3, .int x3)] [] (K x3)) : ∀ (n : Nat) (x3 : Int32), ca_T κ (ca_Zr κ σ) σ 2 [(1, .int x1), (2, .int x2), (3, .int x3)] [] (cl_X10_place_2 x1 x2 K n x3) := by
  intro n
  induction n with
  | zero => intro x3; exact ca_no
  | succ n ih =>
    intro x3
    rw [cl_X10_place_2]
    refine ca_iload_n hC 0 dX10_place_2 rfl rfl (q := 3) rfl ?_
    refine ca_iconst hC (v := 3) dX10_place_3 rfl (q := 4) rfl ?_
    refine ca_iload_n hC 2 dX10_place_4 rfl rfl (q := 5) rfl ?_
    refine ca_imul hC dX10_place_5 (q := 6) rfl ?_
    refine ca_ishr hC dX10_place_6 (q := 7) rfl ?_
    refine ca_bipush hC (v := 7) dX10_place_7 rfl (q := 9) rfl ?_
    refine ca_iand hC dX10_place_9 (q := 10) rfl ?_
    refine ca_iload_n hC 1 dX10_place_10 rfl rfl (q := 11) rfl ?_
    refine ca_icmp_eq hC dX10_place_11 (t := 20) (q := 14) rfl rfl (fun h1 => ?_) (fun h2 => ?_)
    · exact ca_pick [2] rfl (hK x3)
    · refine ca_iinc hC 2 (v := (x3 + 1)) (lv' := [(3, .int (x3 + 1)), (1, .int x1), (2, .int x2)]) dX10_place_14 rfl rfl (by decide) rfl (q := 17) rfl ?_
      refine ca_goto hC dX10_place_17 (q := 2) rfl ?_
      exact ca_pick [1, 2, 0] rfl (ih (x3 + 1))
set_option maxRecDepth 100000 in
set_option maxHeartbeats 4000000 in
theorem ct_X10_place {κ : ca_K} (hC : ca_C κ ca_cM cX10_place 4 RX10 (some .int) 0 0) (σ : ca_S) (x1 : Int32) (x2 : Int32) : ca_T κ (ca_Zr κ σ) σ 0 [(0, .ref (ca_a κ (20, 0, 0))), (1, .int x1), (2, .int x2)] [] (cf_X10_place x1 x2) := by
  unfold cf_X10_place
  refine ca_iconst hC (v := 0) dX10_place_0 rfl (q := 1) rfl ?_
  refine ca_istore_n hC (lv' := [(3, .int 0), (0, .ref (ca_a κ (20, 0, 0))), (1, .int x1), (2, .int x2)]) dX10_place_1 rfl (by decide) rfl (q := 2) rfl ?_
  refine ca_pick [0, 2, 3] (lv' := [(3, .int 0), (1, .int x1), (2, .int x2)]) rfl ?_
  refine ca_pick [1, 2, 0] rfl (ct_X10_place_2 hC σ x1 x2 ?_ ca_FU 0)
  intro x3
  refine ca_iload_n hC 0 dX10_place_20 rfl rfl (q := 21) rfl ?_
  exact ca_iretr hC dX10_place_21 rfl
theorem cm_X10_place (Γ : ca_G) (l : Launch) (σ : ca_S) (x1 : Int32) (x2 : Int32) : ca_Mr Γ ca_cM l yX10_place cX10_place 4 (some .int) 0 0 [.ref (Γ.2.1 (20, 0, 0)), .int x1, .int x2] σ (cf_X10_place x1 x2) :=
  ca_met (by decide) (Nat.le_of_ble_eq_true rfl) rfl (fun κ h1 h2 hC => by
    subst h1
    have h := ct_X10_place hC σ x1 x2
    unfold ca_Zr at h
    rw [h2] at h
    exact h)
-- X10_turned
set_option maxRecDepth 100000 in
set_option maxHeartbeats 4000000 in
theorem ct_X10_turned_98 {κ : ca_K} (hC : ca_C κ ca_cM cX10_turned 7 RX10 (some .int) 1 23) (σ : ca_S) (x1 : Int32) (x3 : Int32) (x4 : Int32) (x5 : Int32) (x6 : Int32) (xs0 : Int32) (xs1 : Int32) (xs2 : Int32) {KB : Int32 → Int32 → Option (Int32)} {KX : Int32 → Option (Int32)} (hKB : ∀ (x2 : Int32) (x6 : Int32), ca_T κ (ca_Zr κ σ) σ 42 [(0, .ref (ca_a κ (20, 0, 0))), (1, .int x1), (2, .int x2), (3, .int x3), (4, .int x4), (5, .int x5), (6, .int x6)] [] (KB x2 x6)) (hKX : ∀ (x2 : Int32), ca_T κ (ca_Zr κ σ) σ 114 [(0, .ref (ca_a κ (20, 0, 0))), (1, .int x1), (2, .int x2), (3, .int x3), (4, .int x4), (5, .int x5)] [] (KX x2)) : ca_T κ (ca_Zr κ σ) σ 98 [(0, .ref (ca_a κ (20, 0, 0))), (1, .int x1), (3, .int x3), (4, .int x4), (5, .int x5), (6, .int x6)] [.int xs0, .int xs1, .int xs2] (cj_X10_turned_98 KB KX σ x1 x3 x4 x5 x6 xs0 xs1 xs2) := by
  unfold cj_X10_turned_98
  refine ca_icmp_eq hC dX10_turned_98 (t := 105) (q := 101) rfl rfl (fun h28 => ?_) (fun h29 => ?_)
  · refine ca_iconst hC (v := 0) dX10_turned_105 rfl (q := 106) rfl ?_
    refine ca_iadd hC dX10_turned_106 (q := 107) rfl ?_
    refine ca_istore_n hC (lv' := [(2, .int (xs2 + 0)), (0, .ref (ca_a κ (20, 0, 0))), (1, .int x1), (3, .int x3), (4, .int x4), (5, .int x5), (6, .int x6)]) dX10_turned_107 rfl (by decide) rfl (q := 108) rfl ?_
    refine ca_iinc hC 6 (v := (x6 + 1)) (lv' := [(6, .int (x6 + 1)), (2, .int (xs2 + 0)), (0, .ref (ca_a κ (20, 0, 0))), (1, .int x1), (3, .int x3), (4, .int x4), (5, .int x5)]) dX10_turned_108 rfl rfl (by decide) rfl (q := 111) rfl ?_
    refine ca_goto hC dX10_turned_111 (q := 42) rfl ?_
    exact ca_pick [2, 3, 1, 4, 5, 6, 0] rfl (hKB (xs2 + 0) (x6 + 1))
  · refine ca_iconst hC (v := 1) dX10_turned_101 rfl (q := 102) rfl ?_
    refine ca_goto hC dX10_turned_102 (q := 106) rfl ?_
    refine ca_iadd hC dX10_turned_106 (q := 107) rfl ?_
    refine ca_istore_n hC (lv' := [(2, .int (xs2 + 1)), (0, .ref (ca_a κ (20, 0, 0))), (1, .int x1), (3, .int x3), (4, .int x4), (5, .int x5), (6, .int x6)]) dX10_turned_107 rfl (by decide) rfl (q := 108) rfl ?_
    refine ca_iinc hC 6 (v := (x6 + 1)) (lv' := [(6, .int (x6 + 1)), (2, .int (xs2 + 1)), (0, .ref (ca_a κ (20, 0, 0))), (1, .int x1), (3, .int x3), (4, .int x4), (5, .int x5)]) dX10_turned_108 rfl rfl (by decide) rfl (q := 111) rfl ?_
    refine ca_goto hC dX10_turned_111 (q := 42) rfl ?_
    exact ca_pick [2, 3, 1, 4, 5, 6, 0] rfl (hKB (xs2 + 1) (x6 + 1))
set_option maxRecDepth 100000 in
set_option maxHeartbeats 4000000 in
theorem ct_X10_turned_74 {κ : ca_K} (hC : ca_C κ ca_cM cX10_turned 7 RX10 (some .int) 1 23) (σ : ca_S) (x1 : Int32) (x3 : Int32) (x4 : Int32) (x5 : Int32) (x6 : Int32) (xs0 : Int32) (xs1 : Int32) {KB : Int32 → Int32 → Option (Int32)} {KX : Int32 → Option (Int32)} (hKB : ∀ (x2 : Int32) (x6 : Int32), ca_T κ (ca_Zr κ σ) σ 42 [(0, .ref (ca_a κ (20, 0, 0))), (1, .int x1), (2, .int x2), (3, .int x3), (4, .int x4), (5, .int x5), (6, .int x6)] [] (KB x2 x6)) (hKX : ∀ (x2 : Int32), ca_T κ (ca_Zr κ σ) σ 114 [(0, .ref (ca_a κ (20, 0, 0))), (1, .int x1), (2, .int x2), (3, .int x3), (4, .int x4), (5, .int x5)] [] (KX x2)) : ca_T κ (ca_Zr κ σ) σ 74 [(0, .ref (ca_a κ (20, 0, 0))), (1, .int x1), (3, .int x3), (4, .int x4), (5, .int x5), (6, .int x6)] [.int xs0, .int xs1] (cj_X10_turned_74 KB KX σ x1 x3 x4 x5 x6 xs0 xs1) := by
  unfold cj_X10_turned_74
  refine ca_aload_n hC 0 dX10_turned_74 rfl rfl (q := 75) rfl ?_
  refine ca_iload hC 3 dX10_turned_75 rfl (q := 77) rfl ?_
  refine ca_iload hC 4 dX10_turned_77 rfl (q := 79) rfl ?_
  refine ca_callVr hC (rest := [.int xs0, .int xs1]) (cm_X10_place κ.1 κ.2.2.2.1 σ x4 x5) ca_Y_X10_place ca_L_X10_147 ca_m20 rfl rfl rfl rfl (Nat.le_of_ble_eq_true rfl) ⟨Nat.le_of_ble_eq_true rfl, Nat.le_of_ble_eq_true rfl⟩ dX10_turned_79 (q := 82) rfl (fun r20 h22 => ?_)
  refine ca_aload_n hC 0 dX10_turned_82 rfl rfl (q := 83) rfl ?_
  refine ca_iload hC 3 dX10_turned_83 rfl (q := 85) rfl ?_
  refine ca_iload hC 5 dX10_turned_85 rfl (q := 87) rfl ?_
  refine ca_callVr hC (rest := [.int r20, .int xs0, .int xs1]) (cm_X10_place κ.1 κ.2.2.2.1 σ x4 x6) ca_Y_X10_place ca_L_X10_147 ca_m20 rfl rfl rfl rfl (Nat.le_of_ble_eq_true rfl) ⟨Nat.le_of_ble_eq_true rfl, Nat.le_of_ble_eq_true rfl⟩ dX10_turned_87 (q := 90) rfl (fun r23 h25 => ?_)
  refine ca_icmp_ge hC dX10_turned_90 (t := 97) (q := 93) rfl rfl (fun h26 => ?_) (fun h27 => ?_)
  · refine ca_iconst hC (v := 0) dX10_turned_97 rfl (q := 98) rfl ?_
    exact ca_pick [0, 1, 2, 3, 4, 5] rfl (ct_X10_turned_98 hC σ x1 x3 x4 x5 x6 0 xs0 xs1 hKB hKX )
  · refine ca_iconst hC (v := 1) dX10_turned_93 rfl (q := 94) rfl ?_
    refine ca_goto hC dX10_turned_94 (q := 98) rfl ?_
    exact ca_pick [0, 1, 2, 3, 4, 5] rfl (ct_X10_turned_98 hC σ x1 x3 x4 x5 x6 1 xs0 xs1 hKB hKX )
set_option maxRecDepth 100000 in
set_option maxHeartbeats 4000000 in
theorem ct_X10_turned_42 {κ : ca_K} (hC : ca_C κ ca_cM cX10_turned 7 RX10 (some .int) 1 23) (σ : ca_S) (x1 : Int32) (x3 : Int32) (x4 : Int32) (x5 : Int32) {K : Int32 → Option (Int32)} (hK : ∀ (x2 : Int32), ca_T κ (ca_Zr κ σ) σ 114 [(0, .ref (ca_a κ (20, 0, 0))), (1, .int x1), (2, .int x2), (3, .int x3), (4, .int x4), (5, .int x5)] [] (K x2)) : ∀ (n : Nat) (x2 : Int32) (x6 : Int32), ca_T κ (ca_Zr κ σ) σ 42 [(0, .ref (ca_a κ (20, 0, 0))), (1, .int x1), (2, .int x2), (3, .int x3), (4, .int x4), (5, .int x5), (6, .int x6)] [] (cl_X10_turned_42 σ x1 x3 x4 x5 K n x2 x6) := by
  intro n
  induction n with
  | zero => intro x2 x6; exact ca_no
  | succ n ih =>
    intro x2 x6
    rw [cl_X10_turned_42]
    refine ca_iload hC 6 dX10_turned_42 rfl (q := 44) rfl ?_
    refine ca_aload_n hC 0 dX10_turned_44 rfl rfl (q := 45) rfl ?_
    refine cg_X10_101 hC  dX10_turned_45 (q := 48) rfl ?_
    refine ca_icmp_ge hC dX10_turned_48 (t := 114) (q := 51) rfl rfl (fun h10 => ?_) (fun h11 => ?_)
    · exact ca_pick [0, 1, 2, 3, 4, 5] rfl (hK x2)
    · refine ca_iload_n hC 2 dX10_turned_51 rfl rfl (q := 52) rfl ?_
      refine ca_aload_n hC 0 dX10_turned_52 rfl rfl (q := 53) rfl ?_
      refine ca_iload_n hC 1 dX10_turned_53 rfl rfl (q := 54) rfl ?_
      refine ca_iload hC 5 dX10_turned_54 rfl (q := 56) rfl ?_
      refine ca_callVr hC (rest := [.int x2]) (cm_X10_place κ.1 κ.2.2.2.1 σ x1 x5) ca_Y_X10_place ca_L_X10_147 ca_m20 rfl rfl rfl rfl (Nat.le_of_ble_eq_true rfl) ⟨Nat.le_of_ble_eq_true rfl, Nat.le_of_ble_eq_true rfl⟩ dX10_turned_56 (q := 59) rfl (fun r12 h14 => ?_)
      refine ca_aload_n hC 0 dX10_turned_59 rfl rfl (q := 60) rfl ?_
      refine ca_iload_n hC 1 dX10_turned_60 rfl rfl (q := 61) rfl ?_
      refine ca_iload hC 6 dX10_turned_61 rfl (q := 63) rfl ?_
      refine ca_callVr hC (rest := [.int r12, .int x2]) (cm_X10_place κ.1 κ.2.2.2.1 σ x1 x6) ca_Y_X10_place ca_L_X10_147 ca_m20 rfl rfl rfl rfl (Nat.le_of_ble_eq_true rfl) ⟨Nat.le_of_ble_eq_true rfl, Nat.le_of_ble_eq_true rfl⟩ dX10_turned_63 (q := 66) rfl (fun r15 h17 => ?_)
      refine ca_icmp_ge hC dX10_turned_66 (t := 73) (q := 69) rfl rfl (fun h18 => ?_) (fun h19 => ?_)
      · refine ca_iconst hC (v := 0) dX10_turned_73 rfl (q := 74) rfl ?_
        exact ca_pick [0, 1, 3, 4, 5, 6] rfl (ct_X10_turned_74 hC σ x1 x3 x4 x5 x6 0 x2 ih hK )
      · refine ca_iconst hC (v := 1) dX10_turned_69 rfl (q := 70) rfl ?_
        refine ca_goto hC dX10_turned_70 (q := 74) rfl ?_
        exact ca_pick [0, 1, 3, 4, 5, 6] rfl (ct_X10_turned_74 hC σ x1 x3 x4 x5 x6 1 x2 ih hK )
set_option maxRecDepth 100000 in
set_option maxHeartbeats 4000000 in
theorem ct_X10_turned_22 {κ : ca_K} (hC : ca_C κ ca_cM cX10_turned 7 RX10 (some .int) 1 23) (σ : ca_S) (x1 : Int32) (x3 : Int32) (x4 : Int32) {K : Int32 → Option (Int32)} (hK : ∀ (x2 : Int32), ca_T κ (ca_Zr κ σ) σ 120 [(0, .ref (ca_a κ (20, 0, 0))), (1, .int x1), (2, .int x2), (3, .int x3)] [] (K x2)) : ∀ (n : Nat) (x2 : Int32) (x5 : Int32), ca_T κ (ca_Zr κ σ) σ 22 [(0, .ref (ca_a κ (20, 0, 0))), (1, .int x1), (2, .int x2), (3, .int x3), (4, .int x4), (5, .int x5)] [] (cl_X10_turned_22 σ x1 x3 x4 K n x2 x5) := by
  intro n
  induction n with
  | zero => intro x2 x5; exact ca_no
  | succ n ih =>
    intro x2 x5
    rw [cl_X10_turned_22]
    refine ca_iload hC 5 dX10_turned_22 rfl (q := 24) rfl ?_
    refine ca_aload_n hC 0 dX10_turned_24 rfl rfl (q := 25) rfl ?_
    refine cg_X10_101 hC  dX10_turned_25 (q := 28) rfl ?_
    refine ca_icmp_ge hC dX10_turned_28 (t := 120) (q := 31) rfl rfl (fun h6 => ?_) (fun h7 => ?_)
    · exact ca_pick [0, 1, 2, 3] rfl (hK x2)
    · refine ca_iload hC 4 dX10_turned_31 rfl (q := 33) rfl ?_
      refine ca_if_lt hC dX10_turned_33 (t := 120) (q := 36) rfl rfl (fun h8 => ?_) (fun h9 => ?_)
      · exact ca_pick [0, 1, 2, 3] rfl (hK x2)
      · refine ca_iload hC 5 dX10_turned_36 rfl (q := 38) rfl ?_
        refine ca_iconst hC (v := 1) dX10_turned_38 rfl (q := 39) rfl ?_
        refine ca_iadd hC dX10_turned_39 (q := 40) rfl ?_
        refine ca_istore hC (lv' := [(6, .int (x5 + 1)), (0, .ref (ca_a κ (20, 0, 0))), (1, .int x1), (2, .int x2), (3, .int x3), (4, .int x4), (5, .int x5)]) dX10_turned_40 (by decide) rfl (q := 42) rfl ?_
        refine ca_pick [1, 2, 3, 4, 5, 6, 0] rfl (ct_X10_turned_42 hC σ x1 x3 x4 x5 ?_ ca_FU x2 (x5 + 1))
        intro x30
        refine ca_iinc hC 5 (v := (x5 + 1)) (lv' := [(5, .int (x5 + 1)), (0, .ref (ca_a κ (20, 0, 0))), (1, .int x1), (2, .int x30), (3, .int x3), (4, .int x4)]) dX10_turned_114 rfl rfl (by decide) rfl (q := 117) rfl ?_
        refine ca_goto hC dX10_turned_117 (q := 22) rfl ?_
        exact ca_pick [1, 2, 3, 4, 5, 0] rfl (ih x30 (x5 + 1))
set_option maxRecDepth 100000 in
set_option maxHeartbeats 4000000 in
theorem ct_X10_turned_4 {κ : ca_K} (hC : ca_C κ ca_cM cX10_turned 7 RX10 (some .int) 1 23) (σ : ca_S) (x1 : Int32) {K : Int32 → Option (Int32)} (hK : ∀ (x2 : Int32), ca_T κ (ca_Zr κ σ) σ 126 [(2, .int x2)] [] (K x2)) : ∀ (n : Nat) (x2 : Int32) (x3 : Int32), ca_T κ (ca_Zr κ σ) σ 4 [(0, .ref (ca_a κ (20, 0, 0))), (1, .int x1), (2, .int x2), (3, .int x3)] [] (cl_X10_turned_4 σ x1 K n x2 x3) := by
  intro n
  induction n with
  | zero => intro x2 x3; exact ca_no
  | succ n ih =>
    intro x2 x3
    rw [cl_X10_turned_4]
    refine ca_iload_n hC 3 dX10_turned_4 rfl rfl (q := 5) rfl ?_
    refine ca_aload_n hC 0 dX10_turned_5 rfl rfl (q := 6) rfl ?_
    refine cg_X10_68 hC  dX10_turned_6 (q := 9) rfl ?_
    refine ca_icmp_ge hC dX10_turned_9 (t := 126) (q := 12) rfl rfl (fun h1 => ?_) (fun h2 => ?_)
    · exact ca_pick [2] rfl (hK x2)
    · refine ca_aload_n hC 0 dX10_turned_12 rfl rfl (q := 13) rfl ?_
      refine ca_iload_n hC 3 dX10_turned_13 rfl rfl (q := 14) rfl ?_
      refine ca_callVr hC (rest := []) (cm_X10_answerOf κ.1 κ.2.2.2.1 σ x3) ca_Y_X10_answerOf ca_L_X10_126 ca_m20 rfl rfl rfl rfl (Nat.le_of_ble_eq_true rfl) ⟨Nat.le_of_ble_eq_true rfl, Nat.le_of_ble_eq_true rfl⟩ dX10_turned_14 (q := 17) rfl (fun r3 h5 => ?_)
      refine ca_istore hC (lv' := [(4, .int r3), (0, .ref (ca_a κ (20, 0, 0))), (1, .int x1), (2, .int x2), (3, .int x3)]) dX10_turned_17 (by decide) rfl (q := 19) rfl ?_
      refine ca_iconst hC (v := 0) dX10_turned_19 rfl (q := 20) rfl ?_
      refine ca_istore hC (lv' := [(5, .int 0), (4, .int r3), (0, .ref (ca_a κ (20, 0, 0))), (1, .int x1), (2, .int x2), (3, .int x3)]) dX10_turned_20 (by decide) rfl (q := 22) rfl ?_
      refine ca_pick [2, 3, 4, 5, 1, 0] rfl (ct_X10_turned_22 hC σ x1 x3 r3 ?_ ca_FU x2 0)
      intro x31
      refine ca_iinc hC 3 (v := (x3 + 1)) (lv' := [(3, .int (x3 + 1)), (0, .ref (ca_a κ (20, 0, 0))), (1, .int x1), (2, .int x31)]) dX10_turned_120 rfl rfl (by decide) rfl (q := 123) rfl ?_
      refine ca_goto hC dX10_turned_123 (q := 4) rfl ?_
      exact ca_pick [1, 2, 3, 0] rfl (ih x31 (x3 + 1))
set_option maxRecDepth 100000 in
set_option maxHeartbeats 4000000 in
theorem ct_X10_turned {κ : ca_K} (hC : ca_C κ ca_cM cX10_turned 7 RX10 (some .int) 1 23) (σ : ca_S) (x1 : Int32) : ca_T κ (ca_Zr κ σ) σ 0 [(0, .ref (ca_a κ (20, 0, 0))), (1, .int x1)] [] (cf_X10_turned σ x1) := by
  unfold cf_X10_turned
  refine ca_iconst hC (v := 0) dX10_turned_0 rfl (q := 1) rfl ?_
  refine ca_istore_n hC (lv' := [(2, .int 0), (0, .ref (ca_a κ (20, 0, 0))), (1, .int x1)]) dX10_turned_1 rfl (by decide) rfl (q := 2) rfl ?_
  refine ca_iconst hC (v := 0) dX10_turned_2 rfl (q := 3) rfl ?_
  refine ca_istore_n hC (lv' := [(3, .int 0), (2, .int 0), (0, .ref (ca_a κ (20, 0, 0))), (1, .int x1)]) dX10_turned_3 rfl (by decide) rfl (q := 4) rfl ?_
  refine ca_pick [2, 3, 1, 0] rfl (ct_X10_turned_4 hC σ x1 ?_ ca_FU 0 0)
  intro x32
  refine ca_iload_n hC 0 dX10_turned_126 rfl rfl (q := 127) rfl ?_
  exact ca_iretr hC dX10_turned_127 rfl
theorem cm_X10_turned (Γ : ca_G) (l : Launch) (σ : ca_S) (x1 : Int32) : ca_Mr Γ ca_cM l yX10_turned cX10_turned 7 (some .int) 1 23 [.ref (Γ.2.1 (20, 0, 0)), .int x1] σ (cf_X10_turned σ x1) :=
  ca_met (by decide) (Nat.le_of_ble_eq_true rfl) rfl (fun κ h1 h2 hC => by
    subst h1
    have h := ct_X10_turned hC σ x1
    unfold ca_Zr at h
    rw [h2] at h
    exact h)
-- X10_isLower
set_option maxRecDepth 100000 in
set_option maxHeartbeats 4000000 in
theorem ct_X10_isLower_2 {κ : ca_K} (hC : ca_C κ ca_cM cX10_isLower 3 RX10 (some .boolean) 0 0) (σ : ca_S) (x0 : Int32) (x1 : Int32) {K : Int32 → Option (Int32)} (hK : ∀ (x2 : Int32), ca_T κ (ca_Zr κ σ) σ 27 [(0, .int x0), (1, .int x1), (2, .int x2)] [] (K x2)) : ∀ (n : Nat) (x2 : Int32), ca_T κ (ca_Zr κ σ) σ 2 [(0, .int x0), (1, .int x1), (2, .int x2)] [] (cl_X10_isLower_2 x0 x1 K n x2) := by
  intro n
  induction n with
  | zero => intro x2; exact ca_no
  | succ n ih =>
    intro x2
    rw [cl_X10_isLower_2]
    refine ca_iload_n hC 0 dX10_isLower_2 rfl rfl (q := 3) rfl ?_
    refine ca_iconst hC (v := 3) dX10_isLower_3 rfl (q := 4) rfl ?_
    refine ca_iload_n hC 2 dX10_isLower_4 rfl rfl (q := 5) rfl ?_
    refine ca_imul hC dX10_isLower_5 (q := 6) rfl ?_
    refine ca_ishr hC dX10_isLower_6 (q := 7) rfl ?_
    refine ca_bipush hC (v := 7) dX10_isLower_7 rfl (q := 9) rfl ?_
    refine ca_iand hC dX10_isLower_9 (q := 10) rfl ?_
    refine ca_iload_n hC 1 dX10_isLower_10 rfl rfl (q := 11) rfl ?_
    refine ca_iconst hC (v := 3) dX10_isLower_11 rfl (q := 12) rfl ?_
    refine ca_iload_n hC 2 dX10_isLower_12 rfl rfl (q := 13) rfl ?_
    refine ca_imul hC dX10_isLower_13 (q := 14) rfl ?_
    refine ca_ishr hC dX10_isLower_14 (q := 15) rfl ?_
    refine ca_bipush hC (v := 7) dX10_isLower_15 rfl (q := 17) rfl ?_
    refine ca_iand hC dX10_isLower_17 (q := 18) rfl ?_
    refine ca_icmp_ne hC dX10_isLower_18 (t := 27) (q := 21) rfl rfl (fun h1 => ?_) (fun h2 => ?_)
    · exact ca_pick [0, 1, 2] rfl (hK x2)
    · refine ca_iinc hC 2 (v := (x2 + 1)) (lv' := [(2, .int (x2 + 1)), (0, .int x0), (1, .int x1)]) dX10_isLower_21 rfl rfl (by decide) rfl (q := 24) rfl ?_
      refine ca_goto hC dX10_isLower_24 (q := 2) rfl ?_
      exact ca_pick [1, 2, 0] rfl (ih (x2 + 1))
set_option maxRecDepth 100000 in
set_option maxHeartbeats 4000000 in
theorem ct_X10_isLower {κ : ca_K} (hC : ca_C κ ca_cM cX10_isLower 3 RX10 (some .boolean) 0 0) (σ : ca_S) (x0 : Int32) (x1 : Int32) : ca_T κ (ca_Zr κ σ) σ 0 [(0, .int x0), (1, .int x1)] [] (cf_X10_isLower x0 x1) := by
  unfold cf_X10_isLower
  refine ca_iconst hC (v := 0) dX10_isLower_0 rfl (q := 1) rfl ?_
  refine ca_istore_n hC (lv' := [(2, .int 0), (0, .int x0), (1, .int x1)]) dX10_isLower_1 rfl (by decide) rfl (q := 2) rfl ?_
  refine ca_pick [1, 2, 0] rfl (ct_X10_isLower_2 hC σ x0 x1 ?_ ca_FU 0)
  intro x3
  refine ca_iload_n hC 0 dX10_isLower_27 rfl rfl (q := 28) rfl ?_
  refine ca_iconst hC (v := 3) dX10_isLower_28 rfl (q := 29) rfl ?_
  refine ca_iload_n hC 2 dX10_isLower_29 rfl rfl (q := 30) rfl ?_
  refine ca_imul hC dX10_isLower_30 (q := 31) rfl ?_
  refine ca_ishr hC dX10_isLower_31 (q := 32) rfl ?_
  refine ca_bipush hC (v := 7) dX10_isLower_32 rfl (q := 34) rfl ?_
  refine ca_iand hC dX10_isLower_34 (q := 35) rfl ?_
  refine ca_iload_n hC 1 dX10_isLower_35 rfl rfl (q := 36) rfl ?_
  refine ca_iconst hC (v := 3) dX10_isLower_36 rfl (q := 37) rfl ?_
  refine ca_iload_n hC 2 dX10_isLower_37 rfl rfl (q := 38) rfl ?_
  refine ca_imul hC dX10_isLower_38 (q := 39) rfl ?_
  refine ca_ishr hC dX10_isLower_39 (q := 40) rfl ?_
  refine ca_bipush hC (v := 7) dX10_isLower_40 rfl (q := 42) rfl ?_
  refine ca_iand hC dX10_isLower_42 (q := 43) rfl ?_
  refine ca_icmp_ge hC dX10_isLower_43 (t := 50) (q := 46) rfl rfl (fun h4 => ?_) (fun h5 => ?_)
  · refine ca_iconst hC (v := 0) dX10_isLower_50 rfl (q := 51) rfl ?_
    exact ca_iretr hC dX10_isLower_51 rfl
  · refine ca_iconst hC (v := 1) dX10_isLower_46 rfl (q := 47) rfl ?_
    refine ca_goto hC dX10_isLower_47 (q := 51) rfl ?_
    exact ca_iretr hC dX10_isLower_51 rfl
theorem cm_X10_isLower (Γ : ca_G) (l : Launch) (σ : ca_S) (x0 : Int32) (x1 : Int32) : ca_Mr Γ ca_cM l yX10_isLower cX10_isLower 3 (some .boolean) 0 0 [.int x0, .int x1] σ (cf_X10_isLower x0 x1) :=
  ca_met (by decide) (Nat.le_of_ble_eq_true rfl) rfl (fun κ h1 h2 hC => by
    subst h1
    have h := ct_X10_isLower hC σ x0 x1
    unfold ca_Zr at h
    rw [h2] at h
    exact h)
-- X10_order
set_option maxRecDepth 100000 in
set_option maxHeartbeats 4000000 in
theorem ct_X10_order_36 {κ : ca_K} (hC : ca_C κ ca_cM cX10_order 6 RX10 (some .int) 3 66) (σ : ca_S) (x1 : Int32) {K : Int32 → Int32 → Option (Int32)} (hK : ∀ (x2 : Int32) (x3 : Int32), ca_T κ (ca_Zr κ σ) σ 103 [(1, .int x1), (2, .int x2), (3, .int x3)] [] (K x2 x3)) : ∀ (n : Nat) (x2 : Int32) (x3 : Int32) (x4 : Int32), ca_T κ (ca_Zr κ σ) σ 36 [(0, .ref (ca_a κ (20, 0, 0))), (1, .int x1), (2, .int x2), (3, .int x3), (4, .int x4)] [] (cl_X10_order_36 σ x1 K n x2 x3 x4) := by
  intro n
  induction n with
  | zero => intro x2 x3 x4; exact ca_no
  | succ n ih =>
    intro x2 x3 x4
    rw [cl_X10_order_36]
    refine ca_iload hC 4 dX10_order_36 rfl (q := 38) rfl ?_
    refine ca_iconst hC (v := 1) dX10_order_38 rfl (q := 39) rfl ?_
    refine ca_iconst hC (v := 3) dX10_order_39 rfl (q := 40) rfl ?_
    refine ca_aload_n hC 0 dX10_order_40 rfl rfl (q := 41) rfl ?_
    refine cg_X10_101 hC  dX10_order_41 (q := 44) rfl ?_
    refine ca_imul hC dX10_order_44 (q := 45) rfl ?_
    refine ca_ishl hC dX10_order_45 (q := 46) rfl ?_
    refine ca_icmp_ge hC dX10_order_46 (t := 103) (q := 49) rfl rfl (fun h16 => ?_) (fun h17 => ?_)
    · exact ca_pick [1, 2, 3] rfl (hK x2 x3)
    · refine ca_aload_n hC 0 dX10_order_49 rfl rfl (q := 50) rfl ?_
      refine ca_iload hC 4 dX10_order_50 rfl (q := 52) rfl ?_
      refine ca_callVr hC (rest := []) (cm_X10_isAnswer κ.1 κ.2.2.2.1 σ x4) ca_Y_X10_isAnswer ca_L_X10_110 ca_m20 rfl rfl rfl rfl (Nat.le_of_ble_eq_true rfl) ⟨Nat.le_of_ble_eq_true rfl, Nat.le_of_ble_eq_true rfl⟩ dX10_order_52 (q := 55) rfl (fun r18 h20 => ?_)
      refine ca_if_eq hC dX10_order_55 (t := 97) (q := 58) rfl rfl (fun h21 => ?_) (fun h22 => ?_)
      · refine ca_iinc hC 4 (v := (x4 + 1)) (lv' := [(4, .int (x4 + 1)), (0, .ref (ca_a κ (20, 0, 0))), (1, .int x1), (2, .int x2), (3, .int x3)]) dX10_order_97 rfl rfl (by decide) rfl (q := 100) rfl ?_
        refine ca_goto hC dX10_order_100 (q := 36) rfl ?_
        exact ca_pick [1, 2, 3, 4, 0] rfl (ih x2 x3 (x4 + 1))
      · refine ca_aload_n hC 0 dX10_order_58 rfl rfl (q := 59) rfl ?_
        refine ca_iload hC 4 dX10_order_59 rfl (q := 61) rfl ?_
        refine ca_callVr hC (rest := []) (cm_X10_turned κ.1 κ.2.2.2.1 σ x4) ca_Y_X10_turned ca_L_X10_151 ca_m20 rfl rfl rfl rfl (Nat.le_of_ble_eq_true rfl) ⟨Nat.le_of_ble_eq_true rfl, Nat.le_of_ble_eq_true rfl⟩ dX10_order_61 (q := 64) rfl (fun r23 h25 => ?_)
        refine ca_istore hC (lv' := [(5, .int r23), (0, .ref (ca_a κ (20, 0, 0))), (1, .int x1), (2, .int x2), (3, .int x3), (4, .int x4)]) dX10_order_64 (by decide) rfl (q := 66) rfl ?_
        refine ca_iload_n hC 3 dX10_order_66 rfl rfl (q := 67) rfl ?_
        refine ca_if_lt hC dX10_order_67 (t := 91) (q := 70) rfl rfl (fun h26 => ?_) (fun h27 => ?_)
        · refine ca_iload hC 5 dX10_order_91 rfl (q := 93) rfl ?_
          refine ca_istore_n hC (lv' := [(2, .int x4), (5, .int r23), (0, .ref (ca_a κ (20, 0, 0))), (1, .int x1), (3, .int x3), (4, .int x4)]) dX10_order_93 rfl (by decide) rfl (q := 94) rfl ?_
          refine ca_pick [0, 1, 2, 3, 5] (lv' := [(2, .int x4), (5, .int r23), (0, .ref (ca_a κ (20, 0, 0))), (1, .int x1), (4, .int x4)]) rfl ?_
          refine ca_iload hC 1 dX10_order_94 rfl (q := 96) rfl ?_
          refine ca_istore_n hC (lv' := [(3, .int r23), (2, .int x4), (5, .int r23), (0, .ref (ca_a κ (20, 0, 0))), (1, .int x1), (4, .int x4)]) dX10_order_96 rfl (by decide) rfl (q := 97) rfl ?_
          refine ca_pick [0, 1, 3, 4, 5] (lv' := [(3, .int r23), (2, .int x4), (0, .ref (ca_a κ (20, 0, 0))), (1, .int x1), (4, .int x4)]) rfl ?_
          refine ca_iinc hC 4 (v := (x4 + 1)) (lv' := [(4, .int (x4 + 1)), (3, .int r23), (2, .int x4), (0, .ref (ca_a κ (20, 0, 0))), (1, .int x1)]) dX10_order_97 rfl rfl (by decide) rfl (q := 100) rfl ?_
          refine ca_goto hC dX10_order_100 (q := 36) rfl ?_
          exact ca_pick [3, 4, 2, 1, 0] rfl (ih x4 r23 (x4 + 1))
        · refine ca_iload hC 0 dX10_order_70 rfl (q := 72) rfl ?_
          refine ca_iload_n hC 4 dX10_order_72 rfl rfl (q := 73) rfl ?_
          refine ca_icmp_lt hC dX10_order_73 (t := 91) (q := 76) rfl rfl (fun h28 => ?_) (fun h29 => ?_)
          · refine ca_iload hC 5 dX10_order_91 rfl (q := 93) rfl ?_
            refine ca_istore_n hC (lv' := [(2, .int x4), (5, .int r23), (0, .ref (ca_a κ (20, 0, 0))), (1, .int x1), (3, .int x3), (4, .int x4)]) dX10_order_93 rfl (by decide) rfl (q := 94) rfl ?_
            refine ca_pick [0, 1, 2, 3, 5] (lv' := [(2, .int x4), (5, .int r23), (0, .ref (ca_a κ (20, 0, 0))), (1, .int x1), (4, .int x4)]) rfl ?_
            refine ca_iload hC 1 dX10_order_94 rfl (q := 96) rfl ?_
            refine ca_istore_n hC (lv' := [(3, .int r23), (2, .int x4), (5, .int r23), (0, .ref (ca_a κ (20, 0, 0))), (1, .int x1), (4, .int x4)]) dX10_order_96 rfl (by decide) rfl (q := 97) rfl ?_
            refine ca_pick [0, 1, 3, 4, 5] (lv' := [(3, .int r23), (2, .int x4), (0, .ref (ca_a κ (20, 0, 0))), (1, .int x1), (4, .int x4)]) rfl ?_
            refine ca_iinc hC 4 (v := (x4 + 1)) (lv' := [(4, .int (x4 + 1)), (3, .int r23), (2, .int x4), (0, .ref (ca_a κ (20, 0, 0))), (1, .int x1)]) dX10_order_97 rfl rfl (by decide) rfl (q := 100) rfl ?_
            refine ca_goto hC dX10_order_100 (q := 36) rfl ?_
            exact ca_pick [3, 4, 2, 1, 0] rfl (ih x4 r23 (x4 + 1))
          · refine ca_iload hC 0 dX10_order_76 rfl (q := 78) rfl ?_
            refine ca_iload_n hC 4 dX10_order_78 rfl rfl (q := 79) rfl ?_
            refine ca_icmp_ne hC dX10_order_79 (t := 97) (q := 82) rfl rfl (fun h30 => ?_) (fun h31 => ?_)
            · refine ca_iinc hC 5 (v := (x4 + 1)) (lv' := [(4, .int (x4 + 1)), (5, .int r23), (0, .ref (ca_a κ (20, 0, 0))), (1, .int x1), (2, .int x2), (3, .int x3)]) dX10_order_97 rfl rfl (by decide) rfl (q := 100) rfl ?_
              refine ca_goto hC dX10_order_100 (q := 36) rfl ?_
              exact ca_pick [2, 3, 4, 5, 0] rfl (ih x2 x3 (x4 + 1))
            · refine ca_iload hC 5 dX10_order_82 rfl (q := 84) rfl ?_
              refine ca_iload_n hC 3 dX10_order_84 rfl rfl (q := 85) rfl ?_
              refine ca_callSr hC (rest := []) (cm_X10_isLower κ.1 κ.2.2.2.1 σ x4 x2) ca_Y_X10_isLower ca_L_X10_154  rfl rfl (Nat.le_of_ble_eq_true rfl) ⟨Nat.le_of_ble_eq_true rfl, Nat.le_of_ble_eq_true rfl⟩ dX10_order_85 (q := 88) rfl (fun r32 h34 => ?_)
              refine ca_if_eq hC dX10_order_88 (t := 97) (q := 91) rfl rfl (fun h35 => ?_) (fun h36 => ?_)
              · refine ca_iinc hC 5 (v := (x4 + 1)) (lv' := [(4, .int (x4 + 1)), (5, .int r23), (0, .ref (ca_a κ (20, 0, 0))), (1, .int x1), (2, .int x2), (3, .int x3)]) dX10_order_97 rfl rfl (by decide) rfl (q := 100) rfl ?_
                refine ca_goto hC dX10_order_100 (q := 36) rfl ?_
                exact ca_pick [2, 3, 4, 5, 0] rfl (ih x2 x3 (x4 + 1))
              · refine ca_iload hC 5 dX10_order_91 rfl (q := 93) rfl ?_
                refine ca_istore_n hC (lv' := [(2, .int x4), (5, .int r23), (0, .ref (ca_a κ (20, 0, 0))), (1, .int x1), (3, .int x3), (4, .int x4)]) dX10_order_93 rfl (by decide) rfl (q := 94) rfl ?_
                refine ca_pick [0, 1, 2, 3, 5] (lv' := [(2, .int x4), (5, .int r23), (0, .ref (ca_a κ (20, 0, 0))), (1, .int x1), (4, .int x4)]) rfl ?_
                refine ca_iload hC 1 dX10_order_94 rfl (q := 96) rfl ?_
                refine ca_istore_n hC (lv' := [(3, .int r23), (2, .int x4), (5, .int r23), (0, .ref (ca_a κ (20, 0, 0))), (1, .int x1), (4, .int x4)]) dX10_order_96 rfl (by decide) rfl (q := 97) rfl ?_
                refine ca_pick [0, 1, 3, 4, 5] (lv' := [(3, .int r23), (2, .int x4), (0, .ref (ca_a κ (20, 0, 0))), (1, .int x1), (4, .int x4)]) rfl ?_
                refine ca_iinc hC 4 (v := (x4 + 1)) (lv' := [(4, .int (x4 + 1)), (3, .int r23), (2, .int x4), (0, .ref (ca_a κ (20, 0, 0))), (1, .int x1)]) dX10_order_97 rfl rfl (by decide) rfl (q := 100) rfl ?_
                refine ca_goto hC dX10_order_100 (q := 36) rfl ?_
                exact ca_pick [3, 4, 2, 1, 0] rfl (ih x4 r23 (x4 + 1))
set_option maxRecDepth 100000 in
set_option maxHeartbeats 4000000 in
theorem ct_X10_order {κ : ca_K} (hC : ca_C κ ca_cM cX10_order 6 RX10 (some .int) 3 66) (σ : ca_S) (x1 : Int32) : ca_T κ (ca_Zr κ σ) σ 0 [(0, .ref (ca_a κ (20, 0, 0))), (1, .int x1)] [] (cf_X10_order σ x1) := by
  unfold cf_X10_order
  refine ca_iload_n hC 1 dX10_order_0 rfl rfl (q := 1) rfl ?_
  refine ca_iconst hC (v := 0) dX10_order_1 rfl (q := 2) rfl ?_
  refine ca_iconst hC (v := 1) dX10_order_2 rfl (q := 3) rfl ?_
  refine ca_callSr hC (rest := []) (cm_X10_in κ.1 κ.2.2.2.1 σ x1 0 1) ca_Y_X10_in ca_L_X10_72  rfl rfl (Nat.le_of_ble_eq_true rfl) ⟨Nat.le_of_ble_eq_true rfl, Nat.le_of_ble_eq_true rfl⟩ dX10_order_3 (q := 6) rfl (fun r1 h3 => ?_)
  refine ca_if_ne hC dX10_order_6 (t := 11) (q := 9) rfl rfl (fun h4 => ?_) (fun h5 => ?_)
  · refine ca_aload_n hC 0 dX10_order_11 rfl rfl (q := 12) rfl ?_
    refine ca_iconst hC (v := 2) dX10_order_12 rfl (q := 13) rfl ?_
    refine ca_callVr hC (rest := []) (cm_X10_isShownOf κ.1 κ.2.2.2.1 σ 2) ca_Y_X10_isShownOf ca_L_X10_138 ca_m20 rfl rfl rfl rfl (Nat.le_of_ble_eq_true rfl) ⟨Nat.le_of_ble_eq_true rfl, Nat.le_of_ble_eq_true rfl⟩ dX10_order_13 (q := 16) rfl (fun r6 h8 => ?_)
    refine ca_if_eq hC dX10_order_16 (t := 26) (q := 19) rfl rfl (fun h9 => ?_) (fun h10 => ?_)
    · refine ca_bipush hC (v := (-2)) dX10_order_26 rfl (q := 28) rfl ?_
      exact ca_iretr hC dX10_order_28 rfl
    · refine ca_aload_n hC 0 dX10_order_19 rfl rfl (q := 20) rfl ?_
      refine ca_callVr hC (rest := []) (cm_X10_many κ.1 κ.2.2.2.1 σ) ca_Y_X10_many ca_L_X10_134 ca_m20 rfl rfl rfl rfl (Nat.le_of_ble_eq_true rfl) ⟨Nat.le_of_ble_eq_true rfl, Nat.le_of_ble_eq_true rfl⟩ dX10_order_20 (q := 23) rfl (fun r11 h13 => ?_)
      refine ca_if_ne hC dX10_order_23 (t := 29) (q := 26) rfl rfl (fun h14 => ?_) (fun h15 => ?_)
      · refine ca_iconst hC (v := (-1)) dX10_order_29 rfl (q := 30) rfl ?_
        refine ca_istore_n hC (lv' := [(2, .int (-1)), (0, .ref (ca_a κ (20, 0, 0))), (1, .int x1)]) dX10_order_30 rfl (by decide) rfl (q := 31) rfl ?_
        refine ca_iconst hC (v := 0) dX10_order_31 rfl (q := 32) rfl ?_
        refine ca_istore_n hC (lv' := [(3, .int 0), (2, .int (-1)), (0, .ref (ca_a κ (20, 0, 0))), (1, .int x1)]) dX10_order_32 rfl (by decide) rfl (q := 33) rfl ?_
        refine ca_iconst hC (v := 0) dX10_order_33 rfl (q := 34) rfl ?_
        refine ca_istore hC (lv' := [(4, .int 0), (3, .int 0), (2, .int (-1)), (0, .ref (ca_a κ (20, 0, 0))), (1, .int x1)]) dX10_order_34 (by decide) rfl (q := 36) rfl ?_
        refine ca_pick [3, 4, 2, 1, 0] rfl (ct_X10_order_36 hC σ x1 ?_ ca_FU (-1) 0 0)
        intro x37 x38
        refine ca_iload_n hC 0 dX10_order_103 rfl rfl (q := 104) rfl ?_
        refine ca_if_ne hC dX10_order_104 (t := 111) (q := 107) rfl rfl (fun h39 => ?_) (fun h40 => ?_)
        · refine ca_iload_n hC 2 dX10_order_111 rfl rfl (q := 112) rfl ?_
          exact ca_iretr hC dX10_order_112 rfl
        · refine ca_iload_n hC 1 dX10_order_107 rfl rfl (q := 108) rfl ?_
          refine ca_goto hC dX10_order_108 (q := 112) rfl ?_
          exact ca_iretr hC dX10_order_112 rfl
      · refine ca_bipush hC (v := (-2)) dX10_order_26 rfl (q := 28) rfl ?_
        exact ca_iretr hC dX10_order_28 rfl
  · refine ca_iconst hC (v := (-1)) dX10_order_9 rfl (q := 10) rfl ?_
    exact ca_iretr hC dX10_order_10 rfl
theorem cm_X10_order (Γ : ca_G) (l : Launch) (σ : ca_S) (x1 : Int32) : ca_Mr Γ ca_cM l yX10_order cX10_order 6 (some .int) 3 66 [.ref (Γ.2.1 (20, 0, 0)), .int x1] σ (cf_X10_order σ x1) :=
  ca_met (by decide) (Nat.le_of_ble_eq_true rfl) rfl (fun κ h1 h2 hC => by
    subst h1
    have h := ct_X10_order hC σ x1
    unfold ca_Zr at h
    rw [h2] at h
    exact h)
-- X10_close
set_option maxRecDepth 100000 in
set_option maxHeartbeats 4000000 in
theorem ct_X10_close_109 {κ : ca_K} (hC : ca_C κ ca_cM cX10_close 5 RX10 (some .int) 2 45) (σ : ca_S) (x1 : Int32) (x2 : Int32) (x3 : Int32) (x4 : Int32) (xs0 : Int32) (xs1 : Int32) {KB : ca_S → Int32 → Int32 → Option (Int32 × ca_S)} {KX : ca_S → Int32 → Option (Int32 × ca_S)} (hKB : ∀ (σ : ca_S) (x2 : Int32) (x3 : Int32), ca_T κ (ca_Zi κ) σ 50 [(0, .ref (ca_a κ (20, 0, 0))), (1, .int x1), (2, .int x2), (3, .int x3)] [] (KB σ x2 x3)) (hKX : ∀ (σ : ca_S) (x2 : Int32), ca_T κ (ca_Zi κ) σ 130 [(0, .ref (ca_a κ (20, 0, 0))), (2, .int x2)] [] (KX σ x2)) : ca_T κ (ca_Zi κ) σ 109 [(0, .ref (ca_a κ (20, 0, 0))), (1, .int x1), (2, .int x2), (3, .int x3), (4, .int x4)] [.int xs0, .int xs1, .ref (ca_a κ (21, 28, 0))] (cj_X10_close_109 KB KX σ x1 x2 x3 x4 xs0 xs1) := by
  unfold cj_X10_close_109
  refine ca_istQ hC (n := 320) (ca_m21 (k := 28) (by decide)) rfl rfl rfl dX10_close_109 (q := 110) rfl (fun h20 => ?_)
  refine ca_let (fun σ21 _ => ?_)
  refine ca_iload_n hC 2 dX10_close_110 rfl rfl (q := 111) rfl ?_
  refine ca_iload hC 4 dX10_close_111 rfl (q := 113) rfl ?_
  refine ca_iload_n hC 1 dX10_close_113 rfl rfl (q := 114) rfl ?_
  refine ca_icmp_ne hC dX10_close_114 (t := 121) (q := 117) rfl rfl (fun h22 => ?_) (fun h23 => ?_)
  · refine ca_iconst hC (v := 0) dX10_close_121 rfl (q := 122) rfl ?_
    refine ca_iadd hC dX10_close_122 (q := 123) rfl ?_
    refine ca_istore_n hC (lv' := [(2, .int (x2 + 0)), (0, .ref (ca_a κ (20, 0, 0))), (1, .int x1), (3, .int x3), (4, .int x4)]) dX10_close_123 rfl (by decide) rfl (q := 124) rfl ?_
    refine ca_pick [0, 1, 2, 3] (lv' := [(2, .int (x2 + 0)), (0, .ref (ca_a κ (20, 0, 0))), (1, .int x1), (3, .int x3)]) rfl ?_
    refine ca_iinc hC 3 (v := (x3 + 1)) (lv' := [(3, .int (x3 + 1)), (2, .int (x2 + 0)), (0, .ref (ca_a κ (20, 0, 0))), (1, .int x1)]) dX10_close_124 rfl rfl (by decide) rfl (q := 127) rfl ?_
    refine ca_goto hC dX10_close_127 (q := 50) rfl ?_
    exact ca_pick [2, 3, 1, 0] rfl (hKB σ21 (x2 + 0) (x3 + 1))
  · refine ca_iconst hC (v := 1) dX10_close_117 rfl (q := 118) rfl ?_
    refine ca_goto hC dX10_close_118 (q := 122) rfl ?_
    refine ca_iadd hC dX10_close_122 (q := 123) rfl ?_
    refine ca_istore_n hC (lv' := [(2, .int (x2 + 1)), (0, .ref (ca_a κ (20, 0, 0))), (1, .int x1), (3, .int x3), (4, .int x4)]) dX10_close_123 rfl (by decide) rfl (q := 124) rfl ?_
    refine ca_pick [0, 1, 2, 3] (lv' := [(2, .int (x2 + 1)), (0, .ref (ca_a κ (20, 0, 0))), (1, .int x1), (3, .int x3)]) rfl ?_
    refine ca_iinc hC 3 (v := (x3 + 1)) (lv' := [(3, .int (x3 + 1)), (2, .int (x2 + 1)), (0, .ref (ca_a κ (20, 0, 0))), (1, .int x1)]) dX10_close_124 rfl rfl (by decide) rfl (q := 127) rfl ?_
    refine ca_goto hC dX10_close_127 (q := 50) rfl ?_
    exact ca_pick [2, 3, 1, 0] rfl (hKB σ21 (x2 + 1) (x3 + 1))
set_option maxRecDepth 100000 in
set_option maxHeartbeats 4000000 in
theorem ct_X10_close_74 {κ : ca_K} (hC : ca_C κ ca_cM cX10_close 5 RX10 (some .int) 2 45) (σ : ca_S) (x1 : Int32) (x2 : Int32) (x3 : Int32) (xs0 : Int32) {KB : ca_S → Int32 → Int32 → Option (Int32 × ca_S)} {KX : ca_S → Int32 → Option (Int32 × ca_S)} (hKB : ∀ (σ : ca_S) (x2 : Int32) (x3 : Int32), ca_T κ (ca_Zi κ) σ 50 [(0, .ref (ca_a κ (20, 0, 0))), (1, .int x1), (2, .int x2), (3, .int x3)] [] (KB σ x2 x3)) (hKX : ∀ (σ : ca_S) (x2 : Int32), ca_T κ (ca_Zi κ) σ 130 [(0, .ref (ca_a κ (20, 0, 0))), (2, .int x2)] [] (KX σ x2)) : ca_T κ (ca_Zi κ) σ 74 [(0, .ref (ca_a κ (20, 0, 0))), (1, .int x1), (2, .int x2), (3, .int x3)] [.int xs0] (cj_X10_close_74 KB KX σ x1 x2 x3 xs0) := by
  unfold cj_X10_close_74
  refine ca_istore hC (lv' := [(4, .int xs0), (0, .ref (ca_a κ (20, 0, 0))), (1, .int x1), (2, .int x2), (3, .int x3)]) dX10_close_74 (by decide) rfl (q := 76) rfl ?_
  refine ca_aload_n hC 1 dX10_close_76 rfl rfl (q := 77) rfl ?_
  refine cg_X10_62 hC  dX10_close_77 (q := 80) rfl ?_
  refine ca_bipush hC (v := 16) dX10_close_80 rfl (q := 82) rfl ?_
  refine ca_aload_n hC 1 dX10_close_82 rfl rfl (q := 83) rfl ?_
  refine cg_X10_158 hC  dX10_close_83 (q := 86) rfl ?_
  refine ca_imul hC dX10_close_86 (q := 87) rfl ?_
  refine ca_iload_n hC 4 dX10_close_87 rfl rfl (q := 88) rfl ?_
  refine ca_iadd hC dX10_close_88 (q := 89) rfl ?_
  refine ca_iload hC 0 dX10_close_89 rfl (q := 91) rfl ?_
  refine ca_if_ge hC dX10_close_91 (t := 98) (q := 94) rfl rfl (fun h16 => ?_) (fun h17 => ?_)
  · refine ca_iload hC 0 dX10_close_98 rfl (q := 100) rfl ?_
    refine ca_iload_n hC 2 dX10_close_100 rfl rfl (q := 101) rfl ?_
    refine ca_icmp_ne hC dX10_close_101 (t := 108) (q := 104) rfl rfl (fun h18 => ?_) (fun h19 => ?_)
    · refine ca_iconst hC (v := 0) dX10_close_108 rfl (q := 109) rfl ?_
      exact ca_pick [1, 2, 3, 4, 0] rfl (ct_X10_close_109 hC σ x1 x2 x3 xs0 0 ((16 * (σ.1 (20, 0, 0) 27)) + x3) hKB hKX )
    · refine ca_iconst hC (v := 1) dX10_close_104 rfl (q := 105) rfl ?_
      refine ca_goto hC dX10_close_105 (q := 109) rfl ?_
      exact ca_pick [1, 2, 3, 4, 0] rfl (ct_X10_close_109 hC σ x1 x2 x3 xs0 1 ((16 * (σ.1 (20, 0, 0) 27)) + x3) hKB hKX )
  · refine ca_iconst hC (v := (-1)) dX10_close_94 rfl (q := 95) rfl ?_
    refine ca_goto hC dX10_close_95 (q := 109) rfl ?_
    exact ca_pick [1, 2, 3, 4, 0] rfl (ct_X10_close_109 hC σ x1 x2 x3 xs0 (-1) ((16 * (σ.1 (20, 0, 0) 27)) + x3) hKB hKX )
set_option maxRecDepth 100000 in
set_option maxHeartbeats 4000000 in
theorem ct_X10_close_50 {κ : ca_K} (hC : ca_C κ ca_cM cX10_close 5 RX10 (some .int) 2 45) (x1 : Int32) {K : ca_S → Int32 → Option (Int32 × ca_S)} (hK : ∀ (σ : ca_S) (x2 : Int32), ca_T κ (ca_Zi κ) σ 130 [(0, .ref (ca_a κ (20, 0, 0))), (2, .int x2)] [] (K σ x2)) : ∀ (n : Nat) (σ : ca_S) (x2 : Int32) (x3 : Int32), ca_T κ (ca_Zi κ) σ 50 [(0, .ref (ca_a κ (20, 0, 0))), (1, .int x1), (2, .int x2), (3, .int x3)] [] (cl_X10_close_50 x1 K n σ x2 x3) := by
  intro n
  induction n with
  | zero => intro σ x2 x3; exact ca_no
  | succ n ih =>
    intro σ x2 x3
    rw [cl_X10_close_50]
    refine ca_iload_n hC 3 dX10_close_50 rfl rfl (q := 51) rfl ?_
    refine ca_bipush hC (v := 16) dX10_close_51 rfl (q := 53) rfl ?_
    refine ca_icmp_ge hC dX10_close_53 (t := 130) (q := 56) rfl rfl (fun h12 => ?_) (fun h13 => ?_)
    · exact ca_pick [0, 2] rfl (hK σ x2)
    · refine ca_iload_n hC 3 dX10_close_56 rfl rfl (q := 57) rfl ?_
      refine ca_aload_n hC 0 dX10_close_57 rfl rfl (q := 58) rfl ?_
      refine cg_X10_68 hC  dX10_close_58 (q := 61) rfl ?_
      refine ca_icmp_ge hC dX10_close_61 (t := 72) (q := 64) rfl rfl (fun h14 => ?_) (fun h15 => ?_)
      · refine ca_bipush hC (v := (-4)) dX10_close_72 rfl (q := 74) rfl ?_
        exact ca_pick [0, 1, 2, 3] rfl (ct_X10_close_74 hC σ x1 x2 x3 (-4) ih hK )
      · refine ca_aload_n hC 0 dX10_close_64 rfl rfl (q := 65) rfl ?_
        refine ca_iload_n hC 3 dX10_close_65 rfl rfl (q := 66) rfl ?_
        refine ca_callVr hC (rest := []) (cm_X10_answerOf κ.1 κ.2.2.2.1 σ x3) ca_Y_X10_answerOf ca_L_X10_126 ca_m20 rfl rfl rfl rfl (Nat.le_of_ble_eq_true rfl) ⟨Nat.le_of_ble_eq_true rfl, Nat.le_of_ble_eq_true rfl⟩ dX10_close_66 (q := 69) rfl (fun r24 h26 => ?_)
        refine ca_goto hC dX10_close_69 (q := 74) rfl ?_
        exact ca_pick [0, 1, 2, 3] rfl (ct_X10_close_74 hC σ x1 x2 x3 r24 ih hK )
set_option maxRecDepth 100000 in
set_option maxHeartbeats 4000000 in
theorem ct_X10_close {κ : ca_K} (hC : ca_C κ ca_cM cX10_close 5 RX10 (some .int) 2 45) (σ : ca_S) (x1 : Int32) : ca_T κ (ca_Zi κ) σ 0 [(0, .ref (ca_a κ (20, 0, 0))), (1, .int x1)] [] (cf_X10_close σ x1) := by
  unfold cf_X10_close
  refine ca_aload_n hC 0 dX10_close_0 rfl rfl (q := 1) rfl ?_
  refine cg_X10_76 hC  dX10_close_1 (q := 4) rfl ?_
  refine ca_if_ne hC dX10_close_4 (t := 10) (q := 7) rfl rfl (fun h1 => ?_) (fun h2 => ?_)
  · refine ca_aload_n hC 0 dX10_close_10 rfl rfl (q := 11) rfl ?_
    refine ca_iload_n hC 1 dX10_close_11 rfl rfl (q := 12) rfl ?_
    refine ca_callVr hC (rest := []) (cm_X10_isAnswer κ.1 κ.2.2.2.1 σ x1) ca_Y_X10_isAnswer ca_L_X10_110 ca_m20 rfl rfl rfl rfl (Nat.le_of_ble_eq_true rfl) ⟨Nat.le_of_ble_eq_true rfl, Nat.le_of_ble_eq_true rfl⟩ dX10_close_12 (q := 15) rfl (fun r3 h5 => ?_)
    refine ca_if_ne hC dX10_close_15 (t := 20) (q := 18) rfl rfl (fun h6 => ?_) (fun h7 => ?_)
    · refine ca_aload_n hC 0 dX10_close_20 rfl rfl (q := 21) rfl ?_
      refine cg_X10_94 hC  dX10_close_21 (q := 24) rfl ?_
      refine ca_aload_n hC 0 dX10_close_24 rfl rfl (q := 25) rfl ?_
      refine cg_X10_104 hC  dX10_close_25 (q := 28) rfl ?_
      refine ca_icmp_ge hC dX10_close_28 (t := 34) (q := 31) rfl rfl (fun h8 => ?_) (fun h9 => ?_)
      · refine ca_aload_n hC 0 dX10_close_34 rfl rfl (q := 35) rfl ?_
        refine cg_X10_158 hC  dX10_close_35 (q := 38) rfl ?_
        refine ca_bipush hC (v := 20) dX10_close_38 rfl (q := 40) rfl ?_
        refine ca_icmp_ne hC dX10_close_40 (t := 46) (q := 43) rfl rfl (fun h10 => ?_) (fun h11 => ?_)
        · refine ca_iconst hC (v := 0) dX10_close_46 rfl (q := 47) rfl ?_
          refine ca_istore_n hC (lv' := [(2, .int 0), (0, .ref (ca_a κ (20, 0, 0))), (1, .int x1)]) dX10_close_47 rfl (by decide) rfl (q := 48) rfl ?_
          refine ca_iconst hC (v := 0) dX10_close_48 rfl (q := 49) rfl ?_
          refine ca_istore_n hC (lv' := [(3, .int 0), (2, .int 0), (0, .ref (ca_a κ (20, 0, 0))), (1, .int x1)]) dX10_close_49 rfl (by decide) rfl (q := 50) rfl ?_
          refine ca_pick [2, 3, 1, 0] rfl (ct_X10_close_50 hC x1 ?_ ca_FU σ 0 0)
          intro σ27 x28
          refine ca_aload_n hC 0 dX10_close_130 rfl rfl (q := 131) rfl ?_
          refine ca_dup hC dX10_close_131 rfl (q := 132) rfl ?_
          refine cg_X10_158 hC  dX10_close_132 (q := 135) rfl ?_
          refine ca_iconst hC (v := 1) dX10_close_135 rfl (q := 136) rfl ?_
          refine ca_iadd hC dX10_close_136 (q := 137) rfl ?_
          refine cp_X10_158 hC  dX10_close_137 (q := 140) rfl ?_
          refine ca_let (fun σ29 _ => ?_)
          refine ca_aload_n hC 0 dX10_close_140 rfl rfl (q := 141) rfl ?_
          refine ca_iconst hC (v := 0) dX10_close_141 rfl (q := 142) rfl ?_
          refine cp_X10_76 hC rfl dX10_close_142 (q := 145) rfl ?_
          refine ca_let (fun σ30 _ => ?_)
          refine ca_aload_n hC 0 dX10_close_145 rfl rfl (q := 146) rfl ?_
          refine ca_iconst hC (v := 0) dX10_close_146 rfl (q := 147) rfl ?_
          refine cp_X10_107 hC  dX10_close_147 (q := 150) rfl ?_
          refine ca_let (fun σ31 _ => ?_)
          refine ca_iload_n hC 1 dX10_close_150 rfl rfl (q := 151) rfl ?_
          exact ca_ireti hC dX10_close_151 rfl
        · refine ca_bipush hC (v := (-3)) dX10_close_43 rfl (q := 45) rfl ?_
          exact ca_ireti hC dX10_close_45 rfl
      · refine ca_bipush hC (v := (-2)) dX10_close_31 rfl (q := 33) rfl ?_
        exact ca_ireti hC dX10_close_33 rfl
    · refine ca_iconst hC (v := (-1)) dX10_close_18 rfl (q := 19) rfl ?_
      exact ca_ireti hC dX10_close_19 rfl
  · refine ca_bipush hC (v := (-2)) dX10_close_7 rfl (q := 9) rfl ?_
    exact ca_ireti hC dX10_close_9 rfl
theorem cm_X10_close (Γ : ca_G) (l : Launch) (σ : ca_S) (x1 : Int32) : ca_Mi Γ ca_cM l yX10_close cX10_close 5 (some .int) 2 45 [.ref (Γ.2.1 (20, 0, 0)), .int x1] σ (cf_X10_close σ x1) :=
  ca_met (by decide) (Nat.le_of_ble_eq_true rfl) rfl (fun κ h1 h2 hC => by
    subst h1
    have h := ct_X10_close hC σ x1
    unfold ca_Zi at h
    rw [h2] at h
    exact h)
