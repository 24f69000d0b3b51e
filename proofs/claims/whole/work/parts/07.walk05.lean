-- X10_book
set_option maxRecDepth 100000 in
set_option maxHeartbeats 4000000 in
theorem ct_X10_book {κ : ca_K} (hC : ca_C κ ca_cM cX10_book 3 RX10 (some .int) 2 43) (σ : ca_S) (x1 : Int32) (x2 : Int32) : ca_T κ (ca_Zr κ σ) σ 0 [(0, .ref (ca_a κ (20, 0, 0))), (1, .int x1), (2, .int x2)] [] (cf_X10_book σ x1 x2) := by
  unfold cf_X10_book
  refine ca_iload_n hC 1 dX10_book_0 rfl rfl (q := 1) rfl ?_
  refine ca_iconst hC (v := 0) dX10_book_1 rfl (q := 2) rfl ?_
  refine ca_aload_n hC 0 dX10_book_2 rfl rfl (q := 3) rfl ?_
  refine cg_X10_158 hC  dX10_book_3 (q := 6) rfl ?_
  refine ca_iconst hC (v := 1) dX10_book_6 rfl (q := 7) rfl ?_
  refine ca_isub hC dX10_book_7 (q := 8) rfl ?_
  refine ca_callSr hC (rest := []) (cm_X10_in κ.1 κ.2.2.2.1 σ x1 0 ((σ.1 (20, 0, 0) 27) - 1)) ca_Y_X10_in ca_L_X10_72  rfl rfl (Nat.le_of_ble_eq_true rfl) ⟨Nat.le_of_ble_eq_true rfl, Nat.le_of_ble_eq_true rfl⟩ dX10_book_8 (q := 11) rfl (fun r1 h3 => ?_)
  refine ca_if_eq hC dX10_book_11 (t := 36) (q := 14) rfl rfl (fun h4 => ?_) (fun h5 => ?_)
  · refine ca_bipush hC (v := (-9)) dX10_book_36 rfl (q := 38) rfl ?_
    exact ca_iretr hC dX10_book_38 rfl
  · refine ca_aload_n hC 0 dX10_book_14 rfl rfl (q := 15) rfl ?_
    refine ca_iload_n hC 2 dX10_book_15 rfl rfl (q := 16) rfl ?_
    refine ca_callVr hC (rest := []) (cm_X10_isBox κ.1 κ.2.2.2.1 σ x2) ca_Y_X10_isBox ca_L_X10_80 ca_m20 rfl rfl rfl rfl (Nat.le_of_ble_eq_true rfl) ⟨Nat.le_of_ble_eq_true rfl, Nat.le_of_ble_eq_true rfl⟩ dX10_book_16 (q := 19) rfl (fun r6 h8 => ?_)
    refine ca_if_eq hC dX10_book_19 (t := 36) (q := 22) rfl rfl (fun h9 => ?_) (fun h10 => ?_)
    · refine ca_bipush hC (v := (-9)) dX10_book_36 rfl (q := 38) rfl ?_
      exact ca_iretr hC dX10_book_38 rfl
    · refine ca_aload_n hC 0 dX10_book_22 rfl rfl (q := 23) rfl ?_
      refine cg_X10_62 hC  dX10_book_23 (q := 26) rfl ?_
      refine ca_bipush hC (v := 16) dX10_book_26 rfl (q := 28) rfl ?_
      refine ca_iload_n hC 1 dX10_book_28 rfl rfl (q := 29) rfl ?_
      refine ca_imul hC dX10_book_29 (q := 30) rfl ?_
      refine ca_iload_n hC 2 dX10_book_30 rfl rfl (q := 31) rfl ?_
      refine ca_iadd hC dX10_book_31 (q := 32) rfl ?_
      refine ca_ildQ hC (n := 320) (ca_m21 (k := 28) (by decide)) rfl rfl rfl dX10_book_32 (q := 33) rfl (fun h11 => ?_)
      refine ca_goto hC dX10_book_33 (q := 38) rfl ?_
      exact ca_iretr hC dX10_book_38 rfl
theorem cm_X10_book (Γ : ca_G) (l : Launch) (σ : ca_S) (x1 : Int32) (x2 : Int32) : ca_Mr Γ ca_cM l yX10_book cX10_book 3 (some .int) 2 43 [.ref (Γ.2.1 (20, 0, 0)), .int x1, .int x2] σ (cf_X10_book σ x1 x2) :=
  ca_met (by decide) (Nat.le_of_ble_eq_true rfl) rfl (fun κ h1 h2 hC => by
    subst h1
    have h := ct_X10_book hC σ x1 x2
    unfold ca_Zr at h
    rw [h2] at h
    exact h)
-- X10_marksOf
set_option maxRecDepth 100000 in
set_option maxHeartbeats 4000000 in
theorem ct_X10_marksOf_4 {κ : ca_K} (hC : ca_C κ ca_cM cX10_marksOf 4 RX10 (some .int) 0 0) (σ : ca_S) (x1 : Int32) {K : Int32 → Option (Int32)} (hK : ∀ (x2 : Int32), ca_T κ (ca_Zr κ σ) σ 41 [(2, .int x2)] [] (K x2)) : ∀ (n : Nat) (x2 : Int32) (x3 : Int32), ca_T κ (ca_Zr κ σ) σ 4 [(0, .ref (ca_a κ (20, 0, 0))), (1, .int x1), (2, .int x2), (3, .int x3)] [] (cl_X10_marksOf_4 σ x1 K n x2 x3) := by
  intro n
  induction n with
  | zero => intro x2 x3; exact ca_no
  | succ n ih =>
    intro x2 x3
    rw [cl_X10_marksOf_4]
    refine ca_iload_n hC 3 dX10_marksOf_4 rfl rfl (q := 5) rfl ?_
    refine ca_aload_n hC 0 dX10_marksOf_5 rfl rfl (q := 6) rfl ?_
    refine cg_X10_158 hC  dX10_marksOf_6 (q := 9) rfl ?_
    refine ca_icmp_ge hC dX10_marksOf_9 (t := 41) (q := 12) rfl rfl (fun h1 => ?_) (fun h2 => ?_)
    · exact ca_pick [2] rfl (hK x2)
    · refine ca_iload_n hC 2 dX10_marksOf_12 rfl rfl (q := 13) rfl ?_
      refine ca_aload_n hC 0 dX10_marksOf_13 rfl rfl (q := 14) rfl ?_
      refine cg_X10_62 hC  dX10_marksOf_14 (q := 17) rfl ?_
      refine ca_bipush hC (v := 16) dX10_marksOf_17 rfl (q := 19) rfl ?_
      refine ca_iload_n hC 3 dX10_marksOf_19 rfl rfl (q := 20) rfl ?_
      refine ca_imul hC dX10_marksOf_20 (q := 21) rfl ?_
      refine ca_iload_n hC 1 dX10_marksOf_21 rfl rfl (q := 22) rfl ?_
      refine ca_iadd hC dX10_marksOf_22 (q := 23) rfl ?_
      refine ca_ildQ hC (n := 320) (ca_m21 (k := 28) (by decide)) rfl rfl rfl dX10_marksOf_23 (q := 24) rfl (fun h3 => ?_)
      refine ca_iconst hC (v := 1) dX10_marksOf_24 rfl (q := 25) rfl ?_
      refine ca_icmp_ne hC dX10_marksOf_25 (t := 32) (q := 28) rfl rfl (fun h4 => ?_) (fun h5 => ?_)
      · refine ca_iconst hC (v := 0) dX10_marksOf_32 rfl (q := 33) rfl ?_
        refine ca_iadd hC dX10_marksOf_33 (q := 34) rfl ?_
        refine ca_istore_n hC (lv' := [(2, .int (x2 + 0)), (0, .ref (ca_a κ (20, 0, 0))), (1, .int x1), (3, .int x3)]) dX10_marksOf_34 rfl (by decide) rfl (q := 35) rfl ?_
        refine ca_iinc hC 3 (v := (x3 + 1)) (lv' := [(3, .int (x3 + 1)), (2, .int (x2 + 0)), (0, .ref (ca_a κ (20, 0, 0))), (1, .int x1)]) dX10_marksOf_35 rfl rfl (by decide) rfl (q := 38) rfl ?_
        refine ca_goto hC dX10_marksOf_38 (q := 4) rfl ?_
        exact ca_pick [2, 3, 1, 0] rfl (ih (x2 + 0) (x3 + 1))
      · refine ca_iconst hC (v := 1) dX10_marksOf_28 rfl (q := 29) rfl ?_
        refine ca_goto hC dX10_marksOf_29 (q := 33) rfl ?_
        refine ca_iadd hC dX10_marksOf_33 (q := 34) rfl ?_
        refine ca_istore_n hC (lv' := [(2, .int (x2 + 1)), (0, .ref (ca_a κ (20, 0, 0))), (1, .int x1), (3, .int x3)]) dX10_marksOf_34 rfl (by decide) rfl (q := 35) rfl ?_
        refine ca_iinc hC 3 (v := (x3 + 1)) (lv' := [(3, .int (x3 + 1)), (2, .int (x2 + 1)), (0, .ref (ca_a κ (20, 0, 0))), (1, .int x1)]) dX10_marksOf_35 rfl rfl (by decide) rfl (q := 38) rfl ?_
        refine ca_goto hC dX10_marksOf_38 (q := 4) rfl ?_
        exact ca_pick [2, 3, 1, 0] rfl (ih (x2 + 1) (x3 + 1))
set_option maxRecDepth 100000 in
set_option maxHeartbeats 4000000 in
theorem ct_X10_marksOf {κ : ca_K} (hC : ca_C κ ca_cM cX10_marksOf 4 RX10 (some .int) 0 0) (σ : ca_S) (x1 : Int32) : ca_T κ (ca_Zr κ σ) σ 0 [(0, .ref (ca_a κ (20, 0, 0))), (1, .int x1)] [] (cf_X10_marksOf σ x1) := by
  unfold cf_X10_marksOf
  refine ca_iconst hC (v := 0) dX10_marksOf_0 rfl (q := 1) rfl ?_
  refine ca_istore_n hC (lv' := [(2, .int 0), (0, .ref (ca_a κ (20, 0, 0))), (1, .int x1)]) dX10_marksOf_1 rfl (by decide) rfl (q := 2) rfl ?_
  refine ca_iconst hC (v := 0) dX10_marksOf_2 rfl (q := 3) rfl ?_
  refine ca_istore_n hC (lv' := [(3, .int 0), (2, .int 0), (0, .ref (ca_a κ (20, 0, 0))), (1, .int x1)]) dX10_marksOf_3 rfl (by decide) rfl (q := 4) rfl ?_
  refine ca_pick [2, 3, 1, 0] rfl (ct_X10_marksOf_4 hC σ x1 ?_ ca_FU 0 0)
  intro x6
  refine ca_iload_n hC 0 dX10_marksOf_41 rfl rfl (q := 42) rfl ?_
  exact ca_iretr hC dX10_marksOf_42 rfl
theorem cm_X10_marksOf (Γ : ca_G) (l : Launch) (σ : ca_S) (x1 : Int32) : ca_Mr Γ ca_cM l yX10_marksOf cX10_marksOf 4 (some .int) 0 0 [.ref (Γ.2.1 (20, 0, 0)), .int x1] σ (cf_X10_marksOf σ x1) :=
  ca_met (by decide) (Nat.le_of_ble_eq_true rfl) rfl (fun κ h1 h2 hC => by
    subst h1
    have h := ct_X10_marksOf hC σ x1
    unfold ca_Zr at h
    rw [h2] at h
    exact h)
-- X10_marks
set_option maxRecDepth 100000 in
set_option maxHeartbeats 4000000 in
theorem ct_X10_marks {κ : ca_K} (hC : ca_C κ ca_cM cX10_marks 2 RX10 (some .int) 2 43) (σ : ca_S) (x1 : Int32) : ca_T κ (ca_Zr κ σ) σ 0 [(0, .ref (ca_a κ (20, 0, 0))), (1, .int x1)] [] (cf_X10_marks σ x1) := by
  unfold cf_X10_marks
  refine ca_aload_n hC 0 dX10_marks_0 rfl rfl (q := 1) rfl ?_
  refine ca_iload_n hC 1 dX10_marks_1 rfl rfl (q := 2) rfl ?_
  refine ca_callVr hC (rest := []) (cm_X10_isBox κ.1 κ.2.2.2.1 σ x1) ca_Y_X10_isBox ca_L_X10_80 ca_m20 rfl rfl rfl rfl (Nat.le_of_ble_eq_true rfl) ⟨Nat.le_of_ble_eq_true rfl, Nat.le_of_ble_eq_true rfl⟩ dX10_marks_2 (q := 5) rfl (fun r1 h3 => ?_)
  refine ca_if_eq hC dX10_marks_5 (t := 16) (q := 8) rfl rfl (fun h4 => ?_) (fun h5 => ?_)
  · refine ca_iconst hC (v := (-1)) dX10_marks_16 rfl (q := 17) rfl ?_
    exact ca_iretr hC dX10_marks_17 rfl
  · refine ca_aload_n hC 0 dX10_marks_8 rfl rfl (q := 9) rfl ?_
    refine ca_iload_n hC 1 dX10_marks_9 rfl rfl (q := 10) rfl ?_
    refine ca_callVr hC (rest := []) (cm_X10_marksOf κ.1 κ.2.2.2.1 σ x1) ca_Y_X10_marksOf ca_L_X10_161 ca_m20 rfl rfl rfl rfl (Nat.le_of_ble_eq_true rfl) ⟨Nat.le_of_ble_eq_true rfl, Nat.le_of_ble_eq_true rfl⟩ dX10_marks_10 (q := 13) rfl (fun r6 h8 => ?_)
    refine ca_goto hC dX10_marks_13 (q := 17) rfl ?_
    exact ca_iretr hC dX10_marks_17 rfl
theorem cm_X10_marks (Γ : ca_G) (l : Launch) (σ : ca_S) (x1 : Int32) : ca_Mr Γ ca_cM l yX10_marks cX10_marks 2 (some .int) 2 43 [.ref (Γ.2.1 (20, 0, 0)), .int x1] σ (cf_X10_marks σ x1) :=
  ca_met (by decide) (Nat.le_of_ble_eq_true rfl) rfl (fun κ h1 h2 hC => by
    subst h1
    have h := ct_X10_marks hC σ x1
    unfold ca_Zr at h
    rw [h2] at h
    exact h)
-- X10_sizeOf
set_option maxRecDepth 100000 in
set_option maxHeartbeats 4000000 in
theorem ct_X10_sizeOf_4 {κ : ca_K} (hC : ca_C κ ca_cM cX10_sizeOf 3 RX10 (some .int) 0 0) (σ : ca_S) (x0 : Int32) {K : Int32 → Option (Int32)} (hK : ∀ (x1 : Int32), ca_T κ (ca_Zr κ σ) σ 24 [(1, .int x1)] [] (K x1)) : ∀ (n : Nat) (x1 : Int32) (x2 : Int32), ca_T κ (ca_Zr κ σ) σ 4 [(0, .int x0), (1, .int x1), (2, .int x2)] [] (cl_X10_sizeOf_4 x0 K n x1 x2) := by
  intro n
  induction n with
  | zero => intro x1 x2; exact ca_no
  | succ n ih =>
    intro x1 x2
    rw [cl_X10_sizeOf_4]
    refine ca_iload_n hC 2 dX10_sizeOf_4 rfl rfl (q := 5) rfl ?_
    refine ca_bipush hC (v := 16) dX10_sizeOf_5 rfl (q := 7) rfl ?_
    refine ca_icmp_ge hC dX10_sizeOf_7 (t := 24) (q := 10) rfl rfl (fun h1 => ?_) (fun h2 => ?_)
    · exact ca_pick [1] rfl (hK x1)
    · refine ca_iload_n hC 1 dX10_sizeOf_10 rfl rfl (q := 11) rfl ?_
      refine ca_iload_n hC 0 dX10_sizeOf_11 rfl rfl (q := 12) rfl ?_
      refine ca_iload_n hC 2 dX10_sizeOf_12 rfl rfl (q := 13) rfl ?_
      refine ca_ishr hC dX10_sizeOf_13 (q := 14) rfl ?_
      refine ca_iconst hC (v := 1) dX10_sizeOf_14 rfl (q := 15) rfl ?_
      refine ca_iand hC dX10_sizeOf_15 (q := 16) rfl ?_
      refine ca_iadd hC dX10_sizeOf_16 (q := 17) rfl ?_
      refine ca_istore_n hC (lv' := [(1, .int (x1 + ((x0 >>> (x2 &&& 31)) &&& 1))), (0, .int x0), (2, .int x2)]) dX10_sizeOf_17 rfl (by decide) rfl (q := 18) rfl ?_
      refine ca_iinc hC 2 (v := (x2 + 1)) (lv' := [(2, .int (x2 + 1)), (1, .int (x1 + ((x0 >>> (x2 &&& 31)) &&& 1))), (0, .int x0)]) dX10_sizeOf_18 rfl rfl (by decide) rfl (q := 21) rfl ?_
      refine ca_goto hC dX10_sizeOf_21 (q := 4) rfl ?_
      exact ca_pick [2, 1, 0] rfl (ih (x1 + ((x0 >>> (x2 &&& 31)) &&& 1)) (x2 + 1))
set_option maxRecDepth 100000 in
set_option maxHeartbeats 4000000 in
theorem ct_X10_sizeOf {κ : ca_K} (hC : ca_C κ ca_cM cX10_sizeOf 3 RX10 (some .int) 0 0) (σ : ca_S) (x0 : Int32) : ca_T κ (ca_Zr κ σ) σ 0 [(0, .int x0)] [] (cf_X10_sizeOf x0) := by
  unfold cf_X10_sizeOf
  refine ca_iconst hC (v := 0) dX10_sizeOf_0 rfl (q := 1) rfl ?_
  refine ca_istore_n hC (lv' := [(1, .int 0), (0, .int x0)]) dX10_sizeOf_1 rfl (by decide) rfl (q := 2) rfl ?_
  refine ca_iconst hC (v := 0) dX10_sizeOf_2 rfl (q := 3) rfl ?_
  refine ca_istore_n hC (lv' := [(2, .int 0), (1, .int 0), (0, .int x0)]) dX10_sizeOf_3 rfl (by decide) rfl (q := 4) rfl ?_
  refine ca_pick [2, 1, 0] rfl (ct_X10_sizeOf_4 hC σ x0 ?_ ca_FU 0 0)
  intro x3
  refine ca_iload_n hC 0 dX10_sizeOf_24 rfl rfl (q := 25) rfl ?_
  exact ca_iretr hC dX10_sizeOf_25 rfl
theorem cm_X10_sizeOf (Γ : ca_G) (l : Launch) (σ : ca_S) (x0 : Int32) : ca_Mr Γ ca_cM l yX10_sizeOf cX10_sizeOf 3 (some .int) 0 0 [.int x0] σ (cf_X10_sizeOf x0) :=
  ca_met (by decide) (Nat.le_of_ble_eq_true rfl) rfl (fun κ h1 h2 hC => by
    subst h1
    have h := ct_X10_sizeOf hC σ x0
    unfold ca_Zr at h
    rw [h2] at h
    exact h)
-- X10_marksIn
set_option maxRecDepth 100000 in
set_option maxHeartbeats 4000000 in
theorem ct_X10_marksIn_4 {κ : ca_K} (hC : ca_C κ ca_cM cX10_marksIn 4 RX10 (some .int) 1 23) (σ : ca_S) (x1 : Int32) {K : Int32 → Option (Int32)} (hK : ∀ (x2 : Int32), ca_T κ (ca_Zr κ σ) σ 39 [(2, .int x2)] [] (K x2)) : ∀ (n : Nat) (x2 : Int32) (x3 : Int32), ca_T κ (ca_Zr κ σ) σ 4 [(0, .ref (ca_a κ (20, 0, 0))), (1, .int x1), (2, .int x2), (3, .int x3)] [] (cl_X10_marksIn_4 σ x1 K n x2 x3) := by
  intro n
  induction n with
  | zero => intro x2 x3; exact ca_no
  | succ n ih =>
    intro x2 x3
    rw [cl_X10_marksIn_4]
    refine ca_iload_n hC 3 dX10_marksIn_4 rfl rfl (q := 5) rfl ?_
    refine ca_aload_n hC 0 dX10_marksIn_5 rfl rfl (q := 6) rfl ?_
    refine cg_X10_68 hC  dX10_marksIn_6 (q := 9) rfl ?_
    refine ca_icmp_ge hC dX10_marksIn_9 (t := 39) (q := 12) rfl rfl (fun h1 => ?_) (fun h2 => ?_)
    · exact ca_pick [2] rfl (hK x2)
    · refine ca_iload_n hC 2 dX10_marksIn_12 rfl rfl (q := 13) rfl ?_
      refine ca_iload_n hC 1 dX10_marksIn_13 rfl rfl (q := 14) rfl ?_
      refine ca_iload_n hC 3 dX10_marksIn_14 rfl rfl (q := 15) rfl ?_
      refine ca_ishr hC dX10_marksIn_15 (q := 16) rfl ?_
      refine ca_iconst hC (v := 1) dX10_marksIn_16 rfl (q := 17) rfl ?_
      refine ca_iand hC dX10_marksIn_17 (q := 18) rfl ?_
      refine ca_iconst hC (v := 1) dX10_marksIn_18 rfl (q := 19) rfl ?_
      refine ca_icmp_ne hC dX10_marksIn_19 (t := 30) (q := 22) rfl rfl (fun h3 => ?_) (fun h4 => ?_)
      · refine ca_iconst hC (v := 0) dX10_marksIn_30 rfl (q := 31) rfl ?_
        refine ca_iadd hC dX10_marksIn_31 (q := 32) rfl ?_
        refine ca_istore_n hC (lv' := [(2, .int (x2 + 0)), (0, .ref (ca_a κ (20, 0, 0))), (1, .int x1), (3, .int x3)]) dX10_marksIn_32 rfl (by decide) rfl (q := 33) rfl ?_
        refine ca_iinc hC 3 (v := (x3 + 1)) (lv' := [(3, .int (x3 + 1)), (2, .int (x2 + 0)), (0, .ref (ca_a κ (20, 0, 0))), (1, .int x1)]) dX10_marksIn_33 rfl rfl (by decide) rfl (q := 36) rfl ?_
        refine ca_goto hC dX10_marksIn_36 (q := 4) rfl ?_
        exact ca_pick [2, 3, 1, 0] rfl (ih (x2 + 0) (x3 + 1))
      · refine ca_aload_n hC 0 dX10_marksIn_22 rfl rfl (q := 23) rfl ?_
        refine ca_iload_n hC 3 dX10_marksIn_23 rfl rfl (q := 24) rfl ?_
        refine ca_callVr hC (rest := [.int x2]) (cm_X10_marksOf κ.1 κ.2.2.2.1 σ x3) ca_Y_X10_marksOf ca_L_X10_161 ca_m20 rfl rfl rfl rfl (Nat.le_of_ble_eq_true rfl) ⟨Nat.le_of_ble_eq_true rfl, Nat.le_of_ble_eq_true rfl⟩ dX10_marksIn_24 (q := 27) rfl (fun r5 h7 => ?_)
        refine ca_goto hC dX10_marksIn_27 (q := 31) rfl ?_
        refine ca_iadd hC dX10_marksIn_31 (q := 32) rfl ?_
        refine ca_istore_n hC (lv' := [(2, .int (x2 + r5)), (0, .ref (ca_a κ (20, 0, 0))), (1, .int x1), (3, .int x3)]) dX10_marksIn_32 rfl (by decide) rfl (q := 33) rfl ?_
        refine ca_iinc hC 3 (v := (x3 + 1)) (lv' := [(3, .int (x3 + 1)), (2, .int (x2 + r5)), (0, .ref (ca_a κ (20, 0, 0))), (1, .int x1)]) dX10_marksIn_33 rfl rfl (by decide) rfl (q := 36) rfl ?_
        refine ca_goto hC dX10_marksIn_36 (q := 4) rfl ?_
        exact ca_pick [2, 3, 1, 0] rfl (ih (x2 + r5) (x3 + 1))
set_option maxRecDepth 100000 in
set_option maxHeartbeats 4000000 in
theorem ct_X10_marksIn {κ : ca_K} (hC : ca_C κ ca_cM cX10_marksIn 4 RX10 (some .int) 1 23) (σ : ca_S) (x1 : Int32) : ca_T κ (ca_Zr κ σ) σ 0 [(0, .ref (ca_a κ (20, 0, 0))), (1, .int x1)] [] (cf_X10_marksIn σ x1) := by
  unfold cf_X10_marksIn
  refine ca_iconst hC (v := 0) dX10_marksIn_0 rfl (q := 1) rfl ?_
  refine ca_istore_n hC (lv' := [(2, .int 0), (0, .ref (ca_a κ (20, 0, 0))), (1, .int x1)]) dX10_marksIn_1 rfl (by decide) rfl (q := 2) rfl ?_
  refine ca_iconst hC (v := 0) dX10_marksIn_2 rfl (q := 3) rfl ?_
  refine ca_istore_n hC (lv' := [(3, .int 0), (2, .int 0), (0, .ref (ca_a κ (20, 0, 0))), (1, .int x1)]) dX10_marksIn_3 rfl (by decide) rfl (q := 4) rfl ?_
  refine ca_pick [2, 3, 1, 0] rfl (ct_X10_marksIn_4 hC σ x1 ?_ ca_FU 0 0)
  intro x8
  refine ca_iload_n hC 0 dX10_marksIn_39 rfl rfl (q := 40) rfl ?_
  exact ca_iretr hC dX10_marksIn_40 rfl
theorem cm_X10_marksIn (Γ : ca_G) (l : Launch) (σ : ca_S) (x1 : Int32) : ca_Mr Γ ca_cM l yX10_marksIn cX10_marksIn 4 (some .int) 1 23 [.ref (Γ.2.1 (20, 0, 0)), .int x1] σ (cf_X10_marksIn σ x1) :=
  ca_met (by decide) (Nat.le_of_ble_eq_true rfl) rfl (fun κ h1 h2 hC => by
    subst h1
    have h := ct_X10_marksIn hC σ x1
    unfold ca_Zr at h
    rw [h2] at h
    exact h)
-- X10_teams
set_option maxRecDepth 100000 in
set_option maxHeartbeats 4000000 in
theorem ct_X10_teams_115 {κ : ca_K} (hC : ca_C κ ca_cM cX10_teams 9 RX10 (some .int) 2 46) (σ : ca_S) (x1 : Int32) (x2 : Int32) (x3 : Int32) (x4 : Int32) (x5 : Int32) (x6 : Int32) (x7 : Int32) (xs0 : Int32) {KB : Int32 → Int32 → Int32 → Option (Int32)} {KX : Int32 → Int32 → Option (Int32)} (hKB : ∀ (x3 : Int32) (x4 : Int32) (x6 : Int32), ca_T κ (ca_Zr κ σ) σ 56 [(0, .ref (ca_a κ (20, 0, 0))), (1, .int x1), (2, .int x2), (3, .int x3), (4, .int x4), (5, .int x5), (6, .int x6)] [] (KB x3 x4 x6)) (hKX : ∀ (x3 : Int32) (x4 : Int32), ca_T κ (ca_Zr κ σ) σ 147 [(2, .int x2), (3, .int x3), (4, .int x4)] [] (KX x3 x4)) : ca_T κ (ca_Zr κ σ) σ 115 [(0, .ref (ca_a κ (20, 0, 0))), (1, .int x1), (2, .int x2), (3, .int x3), (4, .int x4), (5, .int x5), (6, .int x6), (7, .int x7)] [.int xs0] (cj_X10_teams_115 KB KX σ x1 x2 x3 x4 x5 x6 x7 xs0) := by
  unfold cj_X10_teams_115
  refine ca_istore hC (lv' := [(8, .int xs0), (0, .ref (ca_a κ (20, 0, 0))), (1, .int x1), (2, .int x2), (3, .int x3), (4, .int x4), (5, .int x5), (6, .int x6), (7, .int x7)]) dX10_teams_115 (by decide) rfl (q := 117) rfl ?_
  refine ca_iload hC 0 dX10_teams_117 rfl (q := 119) rfl ?_
  refine ca_if_eq hC dX10_teams_119 (t := 136) (q := 122) rfl rfl (fun h32 => ?_) (fun h33 => ?_)
  · refine ca_iload hC 7 dX10_teams_136 rfl (q := 138) rfl ?_
    refine ca_iconst hC (v := 1) dX10_teams_138 rfl (q := 139) rfl ?_
    refine ca_isub hC dX10_teams_139 (q := 140) rfl ?_
    refine ca_iload_n hC 2 dX10_teams_140 rfl rfl (q := 141) rfl ?_
    refine ca_iand hC dX10_teams_141 (q := 142) rfl ?_
    refine ca_istore hC (lv' := [(6, .int ((x6 - 1) &&& x1)), (8, .int xs0), (0, .ref (ca_a κ (20, 0, 0))), (1, .int x1), (2, .int x2), (3, .int x3), (4, .int x4), (5, .int x5), (7, .int x7)]) dX10_teams_142 (by decide) rfl (q := 144) rfl ?_
    refine ca_pick [0, 2, 3, 4, 5, 6, 7] (lv' := [(6, .int ((x6 - 1) &&& x1)), (0, .ref (ca_a κ (20, 0, 0))), (1, .int x1), (2, .int x2), (3, .int x3), (4, .int x4), (5, .int x5)]) rfl ?_
    refine ca_goto hC dX10_teams_144 (q := 56) rfl ?_
    exact ca_pick [1, 2, 3, 4, 5, 6, 0] rfl (hKB x3 x4 ((x6 - 1) &&& x1))
  · refine ca_iload hC 8 dX10_teams_122 rfl (q := 124) rfl ?_
    refine ca_iload hC 5 dX10_teams_124 rfl (q := 126) rfl ?_
    refine ca_icmp_gt hC dX10_teams_126 (t := 136) (q := 129) rfl rfl (fun h34 => ?_) (fun h35 => ?_)
    · refine ca_iload hC 7 dX10_teams_136 rfl (q := 138) rfl ?_
      refine ca_iconst hC (v := 1) dX10_teams_138 rfl (q := 139) rfl ?_
      refine ca_isub hC dX10_teams_139 (q := 140) rfl ?_
      refine ca_iload_n hC 2 dX10_teams_140 rfl rfl (q := 141) rfl ?_
      refine ca_iand hC dX10_teams_141 (q := 142) rfl ?_
      refine ca_istore hC (lv' := [(6, .int ((x6 - 1) &&& x1)), (8, .int xs0), (0, .ref (ca_a κ (20, 0, 0))), (1, .int x1), (2, .int x2), (3, .int x3), (4, .int x4), (5, .int x5), (7, .int x7)]) dX10_teams_142 (by decide) rfl (q := 144) rfl ?_
      refine ca_pick [0, 2, 3, 4, 5, 6, 7] (lv' := [(6, .int ((x6 - 1) &&& x1)), (0, .ref (ca_a κ (20, 0, 0))), (1, .int x1), (2, .int x2), (3, .int x3), (4, .int x4), (5, .int x5)]) rfl ?_
      refine ca_goto hC dX10_teams_144 (q := 56) rfl ?_
      exact ca_pick [1, 2, 3, 4, 5, 6, 0] rfl (hKB x3 x4 ((x6 - 1) &&& x1))
    · refine ca_iload hC 7 dX10_teams_129 rfl (q := 131) rfl ?_
      refine ca_istore_n hC (lv' := [(3, .int x6), (8, .int xs0), (0, .ref (ca_a κ (20, 0, 0))), (1, .int x1), (2, .int x2), (4, .int x4), (5, .int x5), (6, .int x6), (7, .int x7)]) dX10_teams_131 rfl (by decide) rfl (q := 132) rfl ?_
      refine ca_pick [0, 2, 3, 4, 6, 7, 8] (lv' := [(3, .int x6), (0, .ref (ca_a κ (20, 0, 0))), (1, .int x1), (2, .int x2), (5, .int x5), (6, .int x6), (7, .int x7)]) rfl ?_
      refine ca_iload hC 6 dX10_teams_132 rfl (q := 134) rfl ?_
      refine ca_istore hC (lv' := [(4, .int x7), (3, .int x6), (0, .ref (ca_a κ (20, 0, 0))), (1, .int x1), (2, .int x2), (5, .int x5), (6, .int x6), (7, .int x7)]) dX10_teams_134 (by decide) rfl (q := 136) rfl ?_
      refine ca_pick [0, 1, 2, 3, 4, 5, 6] (lv' := [(4, .int x7), (3, .int x6), (0, .ref (ca_a κ (20, 0, 0))), (1, .int x1), (2, .int x2), (5, .int x5), (6, .int x6)]) rfl ?_
      refine ca_iload hC 6 dX10_teams_136 rfl (q := 138) rfl ?_
      refine ca_iconst hC (v := 1) dX10_teams_138 rfl (q := 139) rfl ?_
      refine ca_isub hC dX10_teams_139 (q := 140) rfl ?_
      refine ca_iload_n hC 3 dX10_teams_140 rfl rfl (q := 141) rfl ?_
      refine ca_iand hC dX10_teams_141 (q := 142) rfl ?_
      refine ca_istore hC (lv' := [(6, .int ((x6 - 1) &&& x1)), (4, .int x7), (3, .int x6), (0, .ref (ca_a κ (20, 0, 0))), (1, .int x1), (2, .int x2), (5, .int x5)]) dX10_teams_142 (by decide) rfl (q := 144) rfl ?_
      refine ca_goto hC dX10_teams_144 (q := 56) rfl ?_
      exact ca_pick [3, 4, 5, 2, 1, 6, 0] rfl (hKB x6 x7 ((x6 - 1) &&& x1))
set_option maxRecDepth 100000 in
set_option maxHeartbeats 4000000 in
theorem ct_X10_teams_56 {κ : ca_K} (hC : ca_C κ ca_cM cX10_teams 9 RX10 (some .int) 2 46) (σ : ca_S) (x1 : Int32) (x2 : Int32) (x5 : Int32) {K : Int32 → Int32 → Option (Int32)} (hK : ∀ (x3 : Int32) (x4 : Int32), ca_T κ (ca_Zr κ σ) σ 147 [(2, .int x2), (3, .int x3), (4, .int x4)] [] (K x3 x4)) : ∀ (n : Nat) (x3 : Int32) (x4 : Int32) (x6 : Int32), ca_T κ (ca_Zr κ σ) σ 56 [(0, .ref (ca_a κ (20, 0, 0))), (1, .int x1), (2, .int x2), (3, .int x3), (4, .int x4), (5, .int x5), (6, .int x6)] [] (cl_X10_teams_56 σ x1 x2 x5 K n x3 x4 x6) := by
  intro n
  induction n with
  | zero => intro x3 x4 x6; exact ca_no
  | succ n ih =>
    intro x3 x4 x6
    rw [cl_X10_teams_56]
    refine ca_iload hC 6 dX10_teams_56 rfl (q := 58) rfl ?_
    refine ca_if_le hC dX10_teams_58 (t := 147) (q := 61) rfl rfl (fun h19 => ?_) (fun h20 => ?_)
    · exact ca_pick [2, 3, 4] rfl (hK x3 x4)
    · refine ca_aload_n hC 0 dX10_teams_61 rfl rfl (q := 62) rfl ?_
      refine ca_iload hC 6 dX10_teams_62 rfl (q := 64) rfl ?_
      refine ca_callVr hC (rest := []) (cm_X10_marksIn κ.1 κ.2.2.2.1 σ x6) ca_Y_X10_marksIn ca_L_X10_167 ca_m20 rfl rfl rfl rfl (Nat.le_of_ble_eq_true rfl) ⟨Nat.le_of_ble_eq_true rfl, Nat.le_of_ble_eq_true rfl⟩ dX10_teams_64 (q := 67) rfl (fun r21 h23 => ?_)
      refine ca_aload_n hC 0 dX10_teams_67 rfl rfl (q := 68) rfl ?_
      refine ca_iload_n hC 1 dX10_teams_68 rfl rfl (q := 69) rfl ?_
      refine ca_iload hC 6 dX10_teams_69 rfl (q := 71) rfl ?_
      refine ca_iconst hC (v := (-1)) dX10_teams_71 rfl (q := 72) rfl ?_
      refine ca_ixor hC dX10_teams_72 (q := 73) rfl ?_
      refine ca_iand hC dX10_teams_73 (q := 74) rfl ?_
      refine ca_callVr hC (rest := [.int r21]) (cm_X10_marksIn κ.1 κ.2.2.2.1 σ (x1 &&& (x6 ^^^ (-1)))) ca_Y_X10_marksIn ca_L_X10_167 ca_m20 rfl rfl rfl rfl (Nat.le_of_ble_eq_true rfl) ⟨Nat.le_of_ble_eq_true rfl, Nat.le_of_ble_eq_true rfl⟩ dX10_teams_74 (q := 77) rfl (fun r24 h26 => ?_)
      refine ca_isub hC dX10_teams_77 (q := 78) rfl ?_
      refine ca_callSr hC (rest := []) (cm_X10_size κ.1 κ.2.2.2.1 σ (r21 - r24)) ca_Y_X10_size ca_L_X10_144  rfl rfl (Nat.le_of_ble_eq_true rfl) ⟨Nat.le_of_ble_eq_true rfl, Nat.le_of_ble_eq_true rfl⟩ dX10_teams_78 (q := 81) rfl (fun r27 h29 => ?_)
      refine ca_istore hC (lv' := [(7, .int r27), (0, .ref (ca_a κ (20, 0, 0))), (1, .int x1), (2, .int x2), (3, .int x3), (4, .int x4), (5, .int x5), (6, .int x6)]) dX10_teams_81 (by decide) rfl (q := 83) rfl ?_
      refine ca_iload hC 7 dX10_teams_83 rfl (q := 85) rfl ?_
      refine ca_iload hC 6 dX10_teams_85 rfl (q := 87) rfl ?_
      refine ca_iand hC dX10_teams_87 (q := 88) rfl ?_
      refine ca_if_le hC dX10_teams_88 (t := 114) (q := 91) rfl rfl (fun h30 => ?_) (fun h31 => ?_)
      · refine ca_iconst hC (v := 0) dX10_teams_114 rfl (q := 115) rfl ?_
        exact ca_pick [1, 2, 3, 4, 5, 6, 7, 0] rfl (ct_X10_teams_115 hC σ x1 x2 x3 x4 x5 x6 r27 0 ih hK )
      · refine ca_iconst hC (v := 2) dX10_teams_91 rfl (q := 92) rfl ?_
        refine ca_iload hC 7 dX10_teams_92 rfl (q := 94) rfl ?_
        refine ca_callSr hC (rest := [.int 2]) (cm_X10_sizeOf κ.1 κ.2.2.2.1 σ x6) ca_Y_X10_sizeOf ca_L_X10_164  rfl rfl (Nat.le_of_ble_eq_true rfl) ⟨Nat.le_of_ble_eq_true rfl, Nat.le_of_ble_eq_true rfl⟩ dX10_teams_94 (q := 97) rfl (fun r36 h38 => ?_)
        refine ca_imul hC dX10_teams_97 (q := 98) rfl ?_
        refine ca_iload_n hC 2 dX10_teams_98 rfl rfl (q := 99) rfl ?_
        refine ca_callSr hC (rest := [.int (2 * r36)]) (cm_X10_sizeOf κ.1 κ.2.2.2.1 σ x1) ca_Y_X10_sizeOf ca_L_X10_164  rfl rfl (Nat.le_of_ble_eq_true rfl) ⟨Nat.le_of_ble_eq_true rfl, Nat.le_of_ble_eq_true rfl⟩ dX10_teams_99 (q := 102) rfl (fun r39 h41 => ?_)
        refine ca_isub hC dX10_teams_102 (q := 103) rfl ?_
        refine ca_callSr hC (rest := []) (cm_X10_size κ.1 κ.2.2.2.1 σ ((2 * r36) - r39)) ca_Y_X10_size ca_L_X10_144  rfl rfl (Nat.le_of_ble_eq_true rfl) ⟨Nat.le_of_ble_eq_true rfl, Nat.le_of_ble_eq_true rfl⟩ dX10_teams_103 (q := 106) rfl (fun r42 h44 => ?_)
        refine ca_iconst hC (v := 1) dX10_teams_106 rfl (q := 107) rfl ?_
        refine ca_icmp_gt hC dX10_teams_107 (t := 114) (q := 110) rfl rfl (fun h45 => ?_) (fun h46 => ?_)
        · refine ca_iconst hC (v := 0) dX10_teams_114 rfl (q := 115) rfl ?_
          exact ca_pick [1, 2, 3, 4, 5, 6, 7, 0] rfl (ct_X10_teams_115 hC σ x1 x2 x3 x4 x5 x6 r27 0 ih hK )
        · refine ca_iconst hC (v := 1) dX10_teams_110 rfl (q := 111) rfl ?_
          refine ca_goto hC dX10_teams_111 (q := 115) rfl ?_
          exact ca_pick [1, 2, 3, 4, 5, 6, 7, 0] rfl (ct_X10_teams_115 hC σ x1 x2 x3 x4 x5 x6 r27 1 ih hK )
set_option maxRecDepth 100000 in
set_option maxHeartbeats 4000000 in
theorem ct_X10_teams {κ : ca_K} (hC : ca_C κ ca_cM cX10_teams 9 RX10 (some .int) 2 46) (σ : ca_S) (x1 : Int32) (x2 : Int32) : ca_T κ (ca_Zr κ σ) σ 0 [(0, .ref (ca_a κ (20, 0, 0))), (1, .int x1), (2, .int x2)] [] (cf_X10_teams σ x1 x2) := by
  unfold cf_X10_teams
  refine ca_iload_n hC 1 dX10_teams_0 rfl rfl (q := 1) rfl ?_
  refine ca_iconst hC (v := 0) dX10_teams_1 rfl (q := 2) rfl ?_
  refine ca_iconst hC (v := 1) dX10_teams_2 rfl (q := 3) rfl ?_
  refine ca_aload_n hC 0 dX10_teams_3 rfl rfl (q := 4) rfl ?_
  refine cg_X10_68 hC  dX10_teams_4 (q := 7) rfl ?_
  refine ca_ishl hC dX10_teams_7 (q := 8) rfl ?_
  refine ca_iconst hC (v := 1) dX10_teams_8 rfl (q := 9) rfl ?_
  refine ca_isub hC dX10_teams_9 (q := 10) rfl ?_
  refine ca_callSr hC (rest := []) (cm_X10_in κ.1 κ.2.2.2.1 σ x1 0 ((1 <<< ((σ.1 (20, 0, 0) 0) &&& 31)) - 1)) ca_Y_X10_in ca_L_X10_72  rfl rfl (Nat.le_of_ble_eq_true rfl) ⟨Nat.le_of_ble_eq_true rfl, Nat.le_of_ble_eq_true rfl⟩ dX10_teams_10 (q := 13) rfl (fun r1 h3 => ?_)
  refine ca_if_eq hC dX10_teams_13 (t := 38) (q := 16) rfl rfl (fun h4 => ?_) (fun h5 => ?_)
  · refine ca_iconst hC (v := (-1)) dX10_teams_38 rfl (q := 39) rfl ?_
    exact ca_iretr hC dX10_teams_39 rfl
  · refine ca_iload_n hC 1 dX10_teams_16 rfl rfl (q := 17) rfl ?_
    refine ca_callSr hC (rest := []) (cm_X10_sizeOf κ.1 κ.2.2.2.1 σ x1) ca_Y_X10_sizeOf ca_L_X10_164  rfl rfl (Nat.le_of_ble_eq_true rfl) ⟨Nat.le_of_ble_eq_true rfl, Nat.le_of_ble_eq_true rfl⟩ dX10_teams_17 (q := 20) rfl (fun r6 h8 => ?_)
    refine ca_iconst hC (v := 2) dX10_teams_20 rfl (q := 21) rfl ?_
    refine ca_bipush hC (v := 12) dX10_teams_21 rfl (q := 23) rfl ?_
    refine ca_callSr hC (rest := []) (cm_X10_in κ.1 κ.2.2.2.1 σ r6 2 12) ca_Y_X10_in ca_L_X10_72  rfl rfl (Nat.le_of_ble_eq_true rfl) ⟨Nat.le_of_ble_eq_true rfl, Nat.le_of_ble_eq_true rfl⟩ dX10_teams_23 (q := 26) rfl (fun r9 h11 => ?_)
    refine ca_if_eq hC dX10_teams_26 (t := 38) (q := 29) rfl rfl (fun h12 => ?_) (fun h13 => ?_)
    · refine ca_iconst hC (v := (-1)) dX10_teams_38 rfl (q := 39) rfl ?_
      exact ca_iretr hC dX10_teams_39 rfl
    · refine ca_iload_n hC 2 dX10_teams_29 rfl rfl (q := 30) rfl ?_
      refine ca_iconst hC (v := 0) dX10_teams_30 rfl (q := 31) rfl ?_
      refine ca_iconst hC (v := 1) dX10_teams_31 rfl (q := 32) rfl ?_
      refine ca_callSr hC (rest := []) (cm_X10_in κ.1 κ.2.2.2.1 σ x2 0 1) ca_Y_X10_in ca_L_X10_72  rfl rfl (Nat.le_of_ble_eq_true rfl) ⟨Nat.le_of_ble_eq_true rfl, Nat.le_of_ble_eq_true rfl⟩ dX10_teams_32 (q := 35) rfl (fun r14 h16 => ?_)
      refine ca_if_ne hC dX10_teams_35 (t := 40) (q := 38) rfl rfl (fun h17 => ?_) (fun h18 => ?_)
      · refine ca_iconst hC (v := 0) dX10_teams_40 rfl (q := 41) rfl ?_
        refine ca_istore_n hC (lv' := [(3, .int 0), (0, .ref (ca_a κ (20, 0, 0))), (1, .int x1), (2, .int x2)]) dX10_teams_41 rfl (by decide) rfl (q := 42) rfl ?_
        refine ca_sipush hC (v := 9999) dX10_teams_42 rfl (q := 45) rfl ?_
        refine ca_istore hC (lv' := [(4, .int 9999), (3, .int 0), (0, .ref (ca_a κ (20, 0, 0))), (1, .int x1), (2, .int x2)]) dX10_teams_45 (by decide) rfl (q := 47) rfl ?_
        refine ca_iload_n hC 3 dX10_teams_47 rfl rfl (q := 48) rfl ?_
        refine ca_iload_n hC 3 dX10_teams_48 rfl rfl (q := 49) rfl ?_
        refine ca_ineg hC dX10_teams_49 (q := 50) rfl ?_
        refine ca_iand hC dX10_teams_50 (q := 51) rfl ?_
        refine ca_istore hC (lv' := [(5, .int (x1 &&& (-x1))), (4, .int 9999), (3, .int 0), (0, .ref (ca_a κ (20, 0, 0))), (1, .int x1), (2, .int x2)]) dX10_teams_51 (by decide) rfl (q := 53) rfl ?_
        refine ca_iload_n hC 4 dX10_teams_53 rfl rfl (q := 54) rfl ?_
        refine ca_istore hC (lv' := [(6, .int x1), (5, .int (x1 &&& (-x1))), (4, .int 9999), (3, .int 0), (0, .ref (ca_a κ (20, 0, 0))), (1, .int x1), (2, .int x2)]) dX10_teams_54 (by decide) rfl (q := 56) rfl ?_
        refine ca_pick [4, 5, 6, 3, 2, 1, 0] rfl (ct_X10_teams_56 hC σ x1 x2 (x1 &&& (-x1)) ?_ ca_FU 0 9999 x1)
        intro x47 x48
        refine ca_iload_n hC 0 dX10_teams_147 rfl rfl (q := 148) rfl ?_
        refine ca_if_ne hC dX10_teams_148 (t := 155) (q := 151) rfl rfl (fun h49 => ?_) (fun h50 => ?_)
        · refine ca_iload hC 2 dX10_teams_155 rfl (q := 157) rfl ?_
          exact ca_iretr hC dX10_teams_157 rfl
        · refine ca_iload_n hC 1 dX10_teams_151 rfl rfl (q := 152) rfl ?_
          refine ca_goto hC dX10_teams_152 (q := 157) rfl ?_
          exact ca_iretr hC dX10_teams_157 rfl
      · refine ca_iconst hC (v := (-1)) dX10_teams_38 rfl (q := 39) rfl ?_
        exact ca_iretr hC dX10_teams_39 rfl
theorem cm_X10_teams (Γ : ca_G) (l : Launch) (σ : ca_S) (x1 : Int32) (x2 : Int32) : ca_Mr Γ ca_cM l yX10_teams cX10_teams 9 (some .int) 2 46 [.ref (Γ.2.1 (20, 0, 0)), .int x1, .int x2] σ (cf_X10_teams σ x1 x2) :=
  ca_met (by decide) (Nat.le_of_ble_eq_true rfl) rfl (fun κ h1 h2 hC => by
    subst h1
    have h := ct_X10_teams hC σ x1 x2
    unfold ca_Zr at h
    rw [h2] at h
    exact h)
-- X10_best
set_option maxRecDepth 100000 in
set_option maxHeartbeats 4000000 in
theorem ct_X10_best_54 {κ : ca_K} (hC : ca_C κ ca_cM cX10_best 7 RX10 (some .int) 0 0) (σ : ca_S) (x1 : Int32) (x2 : Int32) (x3 : Int32) (x5 : Int32) (x6 : Int32) (xs0 : Int32) (xs1 : Int32) {KB : Int32 → Int32 → Int32 → Option (Int32)} {KX : Int32 → Int32 → Option (Int32)} (hKB : ∀ (x4 : Int32) (x5 : Int32) (x6 : Int32), ca_T κ (ca_Zr κ σ) σ 24 [(0, .ref (ca_a κ (20, 0, 0))), (1, .int x1), (2, .int x2), (3, .int x3), (4, .int x4), (5, .int x5), (6, .int x6)] [] (KB x4 x5 x6)) (hKX : ∀ (x4 : Int32) (x5 : Int32), ca_T κ (ca_Zr κ σ) σ 88 [(0, .ref (ca_a κ (20, 0, 0))), (1, .int x1), (2, .int x2), (3, .int x3), (4, .int x4), (5, .int x5)] [] (KX x4 x5)) : ca_T κ (ca_Zr κ σ) σ 54 [(0, .ref (ca_a κ (20, 0, 0))), (1, .int x1), (2, .int x2), (3, .int x3), (5, .int x5), (6, .int x6)] [.int xs0, .int xs1] (cj_X10_best_54 KB KX σ x1 x2 x3 x5 x6 xs0 xs1) := by
  unfold cj_X10_best_54
  refine ca_iadd hC dX10_best_54 (q := 55) rfl ?_
  refine ca_istore hC (lv' := [(4, .int (xs1 + xs0)), (0, .ref (ca_a κ (20, 0, 0))), (1, .int x1), (2, .int x2), (3, .int x3), (5, .int x5), (6, .int x6)]) dX10_best_55 (by decide) rfl (q := 57) rfl ?_
  refine ca_iload hC 5 dX10_best_57 rfl (q := 59) rfl ?_
  refine ca_aload_n hC 1 dX10_best_59 rfl rfl (q := 60) rfl ?_
  refine cg_X10_62 hC  dX10_best_60 (q := 63) rfl ?_
  refine ca_bipush hC (v := 16) dX10_best_63 rfl (q := 65) rfl ?_
  refine ca_iload_n hC 4 dX10_best_65 rfl rfl (q := 66) rfl ?_
  refine ca_imul hC dX10_best_66 (q := 67) rfl ?_
  refine ca_iload hC 6 dX10_best_67 rfl (q := 69) rfl ?_
  refine ca_iadd hC dX10_best_69 (q := 70) rfl ?_
  refine ca_ildQ hC (n := 320) (ca_m21 (k := 28) (by decide)) rfl rfl rfl dX10_best_70 (q := 71) rfl (fun h8 => ?_)
  refine ca_if_ne hC dX10_best_71 (t := 78) (q := 74) rfl rfl (fun h9 => ?_) (fun h10 => ?_)
  · refine ca_iconst hC (v := 0) dX10_best_78 rfl (q := 79) rfl ?_
    refine ca_iadd hC dX10_best_79 (q := 80) rfl ?_
    refine ca_istore hC (lv' := [(5, .int (x5 + 0)), (4, .int (xs1 + xs0)), (0, .ref (ca_a κ (20, 0, 0))), (1, .int x1), (2, .int x2), (3, .int x3), (6, .int x6)]) dX10_best_80 (by decide) rfl (q := 82) rfl ?_
    refine ca_iinc hC 6 (v := (x6 + 1)) (lv' := [(6, .int (x6 + 1)), (5, .int (x5 + 0)), (4, .int (xs1 + xs0)), (0, .ref (ca_a κ (20, 0, 0))), (1, .int x1), (2, .int x2), (3, .int x3)]) dX10_best_82 rfl rfl (by decide) rfl (q := 85) rfl ?_
    refine ca_goto hC dX10_best_85 (q := 24) rfl ?_
    exact ca_pick [3, 4, 5, 6, 2, 1, 0] rfl (hKB (xs1 + xs0) (x5 + 0) (x6 + 1))
  · refine ca_iconst hC (v := 1) dX10_best_74 rfl (q := 75) rfl ?_
    refine ca_goto hC dX10_best_75 (q := 79) rfl ?_
    refine ca_iadd hC dX10_best_79 (q := 80) rfl ?_
    refine ca_istore hC (lv' := [(5, .int (x5 + 1)), (4, .int (xs1 + xs0)), (0, .ref (ca_a κ (20, 0, 0))), (1, .int x1), (2, .int x2), (3, .int x3), (6, .int x6)]) dX10_best_80 (by decide) rfl (q := 82) rfl ?_
    refine ca_iinc hC 6 (v := (x6 + 1)) (lv' := [(6, .int (x6 + 1)), (5, .int (x5 + 1)), (4, .int (xs1 + xs0)), (0, .ref (ca_a κ (20, 0, 0))), (1, .int x1), (2, .int x2), (3, .int x3)]) dX10_best_82 rfl rfl (by decide) rfl (q := 85) rfl ?_
    refine ca_goto hC dX10_best_85 (q := 24) rfl ?_
    exact ca_pick [3, 4, 5, 6, 2, 1, 0] rfl (hKB (xs1 + xs0) (x5 + 1) (x6 + 1))
set_option maxRecDepth 100000 in
set_option maxHeartbeats 4000000 in
theorem ct_X10_best_24 {κ : ca_K} (hC : ca_C κ ca_cM cX10_best 7 RX10 (some .int) 0 0) (σ : ca_S) (x1 : Int32) (x2 : Int32) (x3 : Int32) {K : Int32 → Int32 → Option (Int32)} (hK : ∀ (x4 : Int32) (x5 : Int32), ca_T κ (ca_Zr κ σ) σ 88 [(0, .ref (ca_a κ (20, 0, 0))), (1, .int x1), (2, .int x2), (3, .int x3), (4, .int x4), (5, .int x5)] [] (K x4 x5)) : ∀ (n : Nat) (x4 : Int32) (x5 : Int32) (x6 : Int32), ca_T κ (ca_Zr κ σ) σ 24 [(0, .ref (ca_a κ (20, 0, 0))), (1, .int x1), (2, .int x2), (3, .int x3), (4, .int x4), (5, .int x5), (6, .int x6)] [] (cl_X10_best_24 σ x1 x2 x3 K n x4 x5 x6) := by
  intro n
  induction n with
  | zero => intro x4 x5 x6; exact ca_no
  | succ n ih =>
    intro x4 x5 x6
    rw [cl_X10_best_24]
    refine ca_iload hC 6 dX10_best_24 rfl (q := 26) rfl ?_
    refine ca_bipush hC (v := 16) dX10_best_26 rfl (q := 28) rfl ?_
    refine ca_icmp_ge hC dX10_best_28 (t := 88) (q := 31) rfl rfl (fun h3 => ?_) (fun h4 => ?_)
    · exact ca_pick [0, 1, 2, 3, 4, 5] rfl (hK x4 x5)
    · refine ca_iload hC 4 dX10_best_31 rfl (q := 33) rfl ?_
      refine ca_aload_n hC 0 dX10_best_33 rfl rfl (q := 34) rfl ?_
      refine cg_X10_62 hC  dX10_best_34 (q := 37) rfl ?_
      refine ca_bipush hC (v := 16) dX10_best_37 rfl (q := 39) rfl ?_
      refine ca_iload_n hC 3 dX10_best_39 rfl rfl (q := 40) rfl ?_
      refine ca_imul hC dX10_best_40 (q := 41) rfl ?_
      refine ca_iload hC 6 dX10_best_41 rfl (q := 43) rfl ?_
      refine ca_iadd hC dX10_best_43 (q := 44) rfl ?_
      refine ca_ildQ hC (n := 320) (ca_m21 (k := 28) (by decide)) rfl rfl rfl dX10_best_44 (q := 45) rfl (fun h5 => ?_)
      refine ca_iconst hC (v := 1) dX10_best_45 rfl (q := 46) rfl ?_
      refine ca_icmp_ne hC dX10_best_46 (t := 53) (q := 49) rfl rfl (fun h6 => ?_) (fun h7 => ?_)
      · refine ca_iconst hC (v := 0) dX10_best_53 rfl (q := 54) rfl ?_
        exact ca_pick [0, 1, 2, 3, 5, 6] rfl (ct_X10_best_54 hC σ x1 x2 x3 x5 x6 0 x4 ih hK )
      · refine ca_iconst hC (v := 1) dX10_best_49 rfl (q := 50) rfl ?_
        refine ca_goto hC dX10_best_50 (q := 54) rfl ?_
        exact ca_pick [0, 1, 2, 3, 5, 6] rfl (ct_X10_best_54 hC σ x1 x2 x3 x5 x6 1 x4 ih hK )
set_option maxRecDepth 100000 in
set_option maxHeartbeats 4000000 in
theorem ct_X10_best_115 {κ : ca_K} (hC : ca_C κ ca_cM cX10_best 7 RX10 (some .int) 0 0) (σ : ca_S) (x2 : Int32) (x3 : Int32) (x6 : Int32) (xs0 : Int32) {KB : Int32 → Int32 → Int32 → Option (Int32)} {KX : Int32 → Option (Int32)} (hKB : ∀ (x1 : Int32) (x2 : Int32) (x3 : Int32), ca_T κ (ca_Zr κ σ) σ 7 [(0, .ref (ca_a κ (20, 0, 0))), (1, .int x1), (2, .int x2), (3, .int x3)] [] (KB x1 x2 x3)) (hKX : ∀ (x1 : Int32), ca_T κ (ca_Zr κ σ) σ 135 [(1, .int x1)] [] (KX x1)) : ca_T κ (ca_Zr κ σ) σ 115 [(0, .ref (ca_a κ (20, 0, 0))), (2, .int x2), (3, .int x3), (6, .int x6)] [.int xs0] (cj_X10_best_115 KB KX σ x2 x3 x6 xs0) := by
  unfold cj_X10_best_115
  refine ca_istore_n hC (lv' := [(1, .int xs0), (0, .ref (ca_a κ (20, 0, 0))), (2, .int x2), (3, .int x3), (6, .int x6)]) dX10_best_115 rfl (by decide) rfl (q := 116) rfl ?_
  refine ca_iload hC 4 dX10_best_116 rfl (q := 118) rfl ?_
  refine ca_iload_n hC 2 dX10_best_118 rfl rfl (q := 119) rfl ?_
  refine ca_icmp_lt hC dX10_best_119 (t := 127) (q := 122) rfl rfl (fun h17 => ?_) (fun h18 => ?_)
  · refine ca_iload_n hC 2 dX10_best_127 rfl rfl (q := 128) rfl ?_
    refine ca_istore_n hC (lv' := [(2, .int x2), (1, .int xs0), (0, .ref (ca_a κ (20, 0, 0))), (3, .int x3), (6, .int x6)]) dX10_best_128 rfl (by decide) rfl (q := 129) rfl ?_
    refine ca_pick [0, 1, 2, 3] (lv' := [(2, .int x2), (1, .int xs0), (0, .ref (ca_a κ (20, 0, 0))), (3, .int x3)]) rfl ?_
    refine ca_iinc hC 3 (v := (x3 + 1)) (lv' := [(3, .int (x3 + 1)), (2, .int x2), (1, .int xs0), (0, .ref (ca_a κ (20, 0, 0)))]) dX10_best_129 rfl rfl (by decide) rfl (q := 132) rfl ?_
    refine ca_goto hC dX10_best_132 (q := 7) rfl ?_
    exact ca_pick [3, 2, 1, 0] rfl (hKB xs0 x2 (x3 + 1))
  · refine ca_iload hC 4 dX10_best_122 rfl (q := 124) rfl ?_
    refine ca_goto hC dX10_best_124 (q := 128) rfl ?_
    refine ca_istore_n hC (lv' := [(2, .int x6), (1, .int xs0), (0, .ref (ca_a κ (20, 0, 0))), (3, .int x3), (6, .int x6)]) dX10_best_128 rfl (by decide) rfl (q := 129) rfl ?_
    refine ca_pick [0, 1, 2, 3] (lv' := [(2, .int x6), (1, .int xs0), (0, .ref (ca_a κ (20, 0, 0))), (3, .int x3)]) rfl ?_
    refine ca_iinc hC 3 (v := (x3 + 1)) (lv' := [(3, .int (x3 + 1)), (2, .int x6), (1, .int xs0), (0, .ref (ca_a κ (20, 0, 0)))]) dX10_best_129 rfl rfl (by decide) rfl (q := 132) rfl ?_
    refine ca_goto hC dX10_best_132 (q := 7) rfl ?_
    exact ca_pick [3, 2, 1, 0] rfl (hKB xs0 x6 (x3 + 1))
set_option maxRecDepth 100000 in
set_option maxHeartbeats 4000000 in
theorem ct_X10_best_102 {κ : ca_K} (hC : ca_C κ ca_cM cX10_best 7 RX10 (some .int) 0 0) (σ : ca_S) (x1 : Int32) (x2 : Int32) (x3 : Int32) (xs0 : Int32) {KB : Int32 → Int32 → Int32 → Option (Int32)} {KX : Int32 → Option (Int32)} (hKB : ∀ (x1 : Int32) (x2 : Int32) (x3 : Int32), ca_T κ (ca_Zr κ σ) σ 7 [(0, .ref (ca_a κ (20, 0, 0))), (1, .int x1), (2, .int x2), (3, .int x3)] [] (KB x1 x2 x3)) (hKX : ∀ (x1 : Int32), ca_T κ (ca_Zr κ σ) σ 135 [(1, .int x1)] [] (KX x1)) : ca_T κ (ca_Zr κ σ) σ 102 [(0, .ref (ca_a κ (20, 0, 0))), (1, .int x1), (2, .int x2), (3, .int x3)] [.int xs0] (cj_X10_best_102 KB KX σ x1 x2 x3 xs0) := by
  unfold cj_X10_best_102
  refine ca_istore hC (lv' := [(6, .int xs0), (0, .ref (ca_a κ (20, 0, 0))), (1, .int x1), (2, .int x2), (3, .int x3)]) dX10_best_102 (by decide) rfl (q := 104) rfl ?_
  refine ca_iload hC 0 dX10_best_104 rfl (q := 106) rfl ?_
  refine ca_iload_n hC 3 dX10_best_106 rfl rfl (q := 107) rfl ?_
  refine ca_icmp_lt hC dX10_best_107 (t := 114) (q := 110) rfl rfl (fun h15 => ?_) (fun h16 => ?_)
  · refine ca_iload_n hC 2 dX10_best_114 rfl rfl (q := 115) rfl ?_
    exact ca_pick [1, 3, 4, 0] rfl (ct_X10_best_115 hC σ x2 x3 xs0 x1 hKB hKX )
  · refine ca_iload_n hC 4 dX10_best_110 rfl rfl (q := 111) rfl ?_
    refine ca_goto hC dX10_best_111 (q := 115) rfl ?_
    exact ca_pick [1, 3, 4, 0] rfl (ct_X10_best_115 hC σ x2 x3 xs0 x3 hKB hKX )
set_option maxRecDepth 100000 in
set_option maxHeartbeats 4000000 in
theorem ct_X10_best_7 {κ : ca_K} (hC : ca_C κ ca_cM cX10_best 7 RX10 (some .int) 0 0) (σ : ca_S) {K : Int32 → Option (Int32)} (hK : ∀ (x1 : Int32), ca_T κ (ca_Zr κ σ) σ 135 [(1, .int x1)] [] (K x1)) : ∀ (n : Nat) (x1 : Int32) (x2 : Int32) (x3 : Int32), ca_T κ (ca_Zr κ σ) σ 7 [(0, .ref (ca_a κ (20, 0, 0))), (1, .int x1), (2, .int x2), (3, .int x3)] [] (cl_X10_best_7 σ K n x1 x2 x3) := by
  intro n
  induction n with
  | zero => intro x1 x2 x3; exact ca_no
  | succ n ih =>
    intro x1 x2 x3
    rw [cl_X10_best_7]
    refine ca_iload_n hC 3 dX10_best_7 rfl rfl (q := 8) rfl ?_
    refine ca_aload_n hC 0 dX10_best_8 rfl rfl (q := 9) rfl ?_
    refine cg_X10_158 hC  dX10_best_9 (q := 12) rfl ?_
    refine ca_icmp_ge hC dX10_best_12 (t := 135) (q := 15) rfl rfl (fun h1 => ?_) (fun h2 => ?_)
    · exact ca_pick [1] rfl (hK x1)
    · refine ca_iconst hC (v := 0) dX10_best_15 rfl (q := 16) rfl ?_
      refine ca_istore hC (lv' := [(4, .int 0), (0, .ref (ca_a κ (20, 0, 0))), (1, .int x1), (2, .int x2), (3, .int x3)]) dX10_best_16 (by decide) rfl (q := 18) rfl ?_
      refine ca_iconst hC (v := 0) dX10_best_18 rfl (q := 19) rfl ?_
      refine ca_istore hC (lv' := [(5, .int 0), (4, .int 0), (0, .ref (ca_a κ (20, 0, 0))), (1, .int x1), (2, .int x2), (3, .int x3)]) dX10_best_19 (by decide) rfl (q := 21) rfl ?_
      refine ca_iconst hC (v := 0) dX10_best_21 rfl (q := 22) rfl ?_
      refine ca_istore hC (lv' := [(6, .int 0), (5, .int 0), (4, .int 0), (0, .ref (ca_a κ (20, 0, 0))), (1, .int x1), (2, .int x2), (3, .int x3)]) dX10_best_22 (by decide) rfl (q := 24) rfl ?_
      refine ca_pick [3, 4, 5, 6, 2, 1, 0] rfl (ct_X10_best_24 hC σ x1 x2 x3 ?_ ca_FU 0 0 0)
      intro x11 x12
      refine ca_iload hC 4 dX10_best_88 rfl (q := 90) rfl ?_
      refine ca_iload hC 5 dX10_best_90 rfl (q := 92) rfl ?_
      refine ca_icmp_ge hC dX10_best_92 (t := 100) (q := 95) rfl rfl (fun h13 => ?_) (fun h14 => ?_)
      · refine ca_iload hC 5 dX10_best_100 rfl (q := 102) rfl ?_
        exact ca_pick [0, 1, 2, 3] rfl (ct_X10_best_102 hC σ x1 x2 x3 x12 ih hK )
      · refine ca_iload hC 4 dX10_best_95 rfl (q := 97) rfl ?_
        refine ca_goto hC dX10_best_97 (q := 102) rfl ?_
        exact ca_pick [0, 1, 2, 3] rfl (ct_X10_best_102 hC σ x1 x2 x3 x11 ih hK )
set_option maxRecDepth 100000 in
set_option maxHeartbeats 4000000 in
theorem ct_X10_best {κ : ca_K} (hC : ca_C κ ca_cM cX10_best 7 RX10 (some .int) 0 0) (σ : ca_S) : ca_T κ (ca_Zr κ σ) σ 0 [(0, .ref (ca_a κ (20, 0, 0)))] [] (cf_X10_best σ) := by
  unfold cf_X10_best
  refine ca_bipush hC (v := (-4)) dX10_best_0 rfl (q := 2) rfl ?_
  refine ca_istore_n hC (lv' := [(1, .int (-4)), (0, .ref (ca_a κ (20, 0, 0)))]) dX10_best_2 rfl (by decide) rfl (q := 3) rfl ?_
  refine ca_iconst hC (v := (-1)) dX10_best_3 rfl (q := 4) rfl ?_
  refine ca_istore_n hC (lv' := [(2, .int (-1)), (1, .int (-4)), (0, .ref (ca_a κ (20, 0, 0)))]) dX10_best_4 rfl (by decide) rfl (q := 5) rfl ?_
  refine ca_iconst hC (v := 0) dX10_best_5 rfl (q := 6) rfl ?_
  refine ca_istore_n hC (lv' := [(3, .int 0), (2, .int (-1)), (1, .int (-4)), (0, .ref (ca_a κ (20, 0, 0)))]) dX10_best_6 rfl (by decide) rfl (q := 7) rfl ?_
  refine ca_pick [3, 2, 1, 0] rfl (ct_X10_best_7 hC σ ?_ ca_FU (-4) (-1) 0)
  intro x19
  refine ca_iload_n hC 0 dX10_best_135 rfl rfl (q := 136) rfl ?_
  exact ca_iretr hC dX10_best_136 rfl
theorem cm_X10_best (Γ : ca_G) (l : Launch) (σ : ca_S) : ca_Mr Γ ca_cM l yX10_best cX10_best 7 (some .int) 0 0 [.ref (Γ.2.1 (20, 0, 0))] σ (cf_X10_best σ) :=
  ca_met (by decide) (Nat.le_of_ble_eq_true rfl) rfl (fun κ h1 h2 hC => by
    subst h1
    have h := ct_X10_best hC σ 
    unfold ca_Zr at h
    rw [h2] at h
    exact h)
-- X10_seed
set_option maxRecDepth 100000 in
set_option maxHeartbeats 4000000 in
theorem ct_X10_seed {κ : ca_K} (hC : ca_C κ ca_cM cX10_seed 2 RX10 (some .int) 1 22) (σ : ca_S) (x1 : Int32) : ca_T κ (ca_Zi κ) σ 0 [(0, .ref (ca_a κ (20, 0, 0))), (1, .int x1)] [] (cf_X10_seed σ x1) := by
  unfold cf_X10_seed
  refine ca_iload_n hC 1 dX10_seed_0 rfl rfl (q := 1) rfl ?_
  refine ca_iconst hC (v := 1) dX10_seed_1 rfl (q := 2) rfl ?_
  refine ca_ldc hC (v := 2147483646) ca_w856 dX10_seed_2 (q := 4) rfl ?_
  refine ca_callSr hC (rest := []) (cm_X10_in κ.1 κ.2.2.2.1 σ x1 1 2147483646) ca_Y_X10_in ca_L_X10_72  rfl rfl (Nat.le_of_ble_eq_true rfl) ⟨Nat.le_of_ble_eq_true rfl, Nat.le_of_ble_eq_true rfl⟩ dX10_seed_4 (q := 7) rfl (fun r1 h3 => ?_)
  refine ca_if_ne hC dX10_seed_7 (t := 12) (q := 10) rfl rfl (fun h4 => ?_) (fun h5 => ?_)
  · refine ca_aload_n hC 0 dX10_seed_12 rfl rfl (q := 13) rfl ?_
    refine ca_iload_n hC 1 dX10_seed_13 rfl rfl (q := 14) rfl ?_
    refine ca_i2l hC dX10_seed_14 (q := 15) rfl ?_
    refine cp_X10_171 hC  dX10_seed_15 (q := 18) rfl ?_
    refine ca_let (fun σ6 _ => ?_)
    refine ca_aload_n hC 0 dX10_seed_18 rfl rfl (q := 19) rfl ?_
    refine ca_iconst hC (v := 0) dX10_seed_19 rfl (q := 20) rfl ?_
    refine cp_X10_175 hC  dX10_seed_20 (q := 23) rfl ?_
    refine ca_let (fun σ7 _ => ?_)
    refine ca_aload_n hC 0 dX10_seed_23 rfl rfl (q := 24) rfl ?_
    refine cg_X10_68 hC  dX10_seed_24 (q := 27) rfl ?_
    exact ca_ireti hC dX10_seed_27 rfl
  · refine ca_iconst hC (v := (-1)) dX10_seed_10 rfl (q := 11) rfl ?_
    exact ca_ireti hC dX10_seed_11 rfl
theorem cm_X10_seed (Γ : ca_G) (l : Launch) (σ : ca_S) (x1 : Int32) : ca_Mi Γ ca_cM l yX10_seed cX10_seed 2 (some .int) 1 22 [.ref (Γ.2.1 (20, 0, 0)), .int x1] σ (cf_X10_seed σ x1) :=
  ca_met (by decide) (Nat.le_of_ble_eq_true rfl) rfl (fun κ h1 h2 hC => by
    subst h1
    have h := ct_X10_seed hC σ x1
    unfold ca_Zi at h
    rw [h2] at h
    exact h)
-- X10_draw
set_option maxRecDepth 100000 in
set_option maxHeartbeats 4000000 in
theorem ct_X10_draw_75 {κ : ca_K} (hC : ca_C κ ca_cM cX10_draw 4 RX10 (some .int) 1 22) (σ : ca_S) (x2 : Int32) (x3 : Int32) {KB : Int32 → Int32 → Option (Int32 × ca_S)} {KX : Int32 → Option (Int32 × ca_S)} (hKB : ∀ (x2 : Int32) (x3 : Int32), ca_T κ (ca_Zi κ) σ 59 [(0, .ref (ca_a κ (20, 0, 0))), (2, .int x2), (3, .int x3)] [] (KB x2 x3)) (hKX : ∀ (x3 : Int32), ca_T κ (ca_Zi κ) σ 101 [(0, .ref (ca_a κ (20, 0, 0))), (3, .int x3)] [] (KX x3)) : ca_T κ (ca_Zi κ) σ 75 [(0, .ref (ca_a κ (20, 0, 0))), (2, .int x2), (3, .int x3)] [] (cj_X10_draw_75 KB KX σ x2 x3) := by
  unfold cj_X10_draw_75
  refine ca_iload_n hC 1 dX10_draw_75 rfl rfl (q := 76) rfl ?_
  refine ca_aload_n hC 0 dX10_draw_76 rfl rfl (q := 77) rfl ?_
  refine cg_X10_175 hC  dX10_draw_77 (q := 80) rfl ?_
  refine ca_iload_n hC 2 dX10_draw_80 rfl rfl (q := 81) rfl ?_
  refine ca_ishr hC dX10_draw_81 (q := 82) rfl ?_
  refine ca_iconst hC (v := 1) dX10_draw_82 rfl (q := 83) rfl ?_
  refine ca_iand hC dX10_draw_83 (q := 84) rfl ?_
  refine ca_iconst hC (v := 1) dX10_draw_84 rfl (q := 85) rfl ?_
  refine ca_icmp_ne hC dX10_draw_85 (t := 92) (q := 88) rfl rfl (fun h14 => ?_) (fun h15 => ?_)
  · refine ca_iconst hC (v := 1) dX10_draw_92 rfl (q := 93) rfl ?_
    refine ca_isub hC dX10_draw_93 (q := 94) rfl ?_
    refine ca_istore_n hC (lv' := [(2, .int (x2 - 1)), (0, .ref (ca_a κ (20, 0, 0))), (3, .int x3)]) dX10_draw_94 rfl (by decide) rfl (q := 95) rfl ?_
    refine ca_iinc hC 2 (v := (x3 + 1)) (lv' := [(3, .int (x3 + 1)), (2, .int (x2 - 1)), (0, .ref (ca_a κ (20, 0, 0)))]) dX10_draw_95 rfl rfl (by decide) rfl (q := 98) rfl ?_
    refine ca_goto hC dX10_draw_98 (q := 59) rfl ?_
    exact ca_pick [2, 1, 0] rfl (hKB (x2 - 1) (x3 + 1))
  · refine ca_iconst hC (v := 0) dX10_draw_88 rfl (q := 89) rfl ?_
    refine ca_goto hC dX10_draw_89 (q := 93) rfl ?_
    refine ca_isub hC dX10_draw_93 (q := 94) rfl ?_
    refine ca_istore_n hC (lv' := [(2, .int (x2 - 0)), (0, .ref (ca_a κ (20, 0, 0))), (3, .int x3)]) dX10_draw_94 rfl (by decide) rfl (q := 95) rfl ?_
    refine ca_iinc hC 2 (v := (x3 + 1)) (lv' := [(3, .int (x3 + 1)), (2, .int (x2 - 0)), (0, .ref (ca_a κ (20, 0, 0)))]) dX10_draw_95 rfl rfl (by decide) rfl (q := 98) rfl ?_
    refine ca_goto hC dX10_draw_98 (q := 59) rfl ?_
    exact ca_pick [2, 1, 0] rfl (hKB (x2 - 0) (x3 + 1))
set_option maxRecDepth 100000 in
set_option maxHeartbeats 4000000 in
theorem ct_X10_draw_59 {κ : ca_K} (hC : ca_C κ ca_cM cX10_draw 4 RX10 (some .int) 1 22) (σ : ca_S) {K : Int32 → Option (Int32 × ca_S)} (hK : ∀ (x3 : Int32), ca_T κ (ca_Zi κ) σ 101 [(0, .ref (ca_a κ (20, 0, 0))), (3, .int x3)] [] (K x3)) : ∀ (n : Nat) (x2 : Int32) (x3 : Int32), ca_T κ (ca_Zi κ) σ 59 [(0, .ref (ca_a κ (20, 0, 0))), (2, .int x2), (3, .int x3)] [] (cl_X10_draw_59 σ K n x2 x3) := by
  intro n
  induction n with
  | zero => intro x2 x3; exact ca_no
  | succ n ih =>
    intro x2 x3
    rw [cl_X10_draw_59]
    refine ca_aload_n hC 0 dX10_draw_59 rfl rfl (q := 60) rfl ?_
    refine cg_X10_175 hC  dX10_draw_60 (q := 63) rfl ?_
    refine ca_iload_n hC 2 dX10_draw_63 rfl rfl (q := 64) rfl ?_
    refine ca_ishr hC dX10_draw_64 (q := 65) rfl ?_
    refine ca_iconst hC (v := 1) dX10_draw_65 rfl (q := 66) rfl ?_
    refine ca_iand hC dX10_draw_66 (q := 67) rfl ?_
    refine ca_iconst hC (v := 1) dX10_draw_67 rfl (q := 68) rfl ?_
    refine ca_icmp_eq hC dX10_draw_68 (t := 75) (q := 71) rfl rfl (fun h12 => ?_) (fun h13 => ?_)
    · exact ca_pick [0, 1, 2] rfl (ct_X10_draw_75 hC σ x2 x3 ih hK )
    · refine ca_iload_n hC 1 dX10_draw_71 rfl rfl (q := 72) rfl ?_
      refine ca_if_le hC dX10_draw_72 (t := 101) (q := 75) rfl rfl (fun h16 => ?_) (fun h17 => ?_)
      · exact ca_pick [0, 2] rfl (hK x3)
      · exact ca_pick [0, 1, 2] rfl (ct_X10_draw_75 hC σ x2 x3 ih hK )
set_option maxRecDepth 100000 in
set_option maxHeartbeats 4000000 in
theorem ct_X10_draw {κ : ca_K} (hC : ca_C κ ca_cM cX10_draw 4 RX10 (some .int) 1 22) (σ : ca_S) : ca_T κ (ca_Zi κ) σ 0 [(0, .ref (ca_a κ (20, 0, 0)))] [] (cf_X10_draw σ) := by
  unfold cf_X10_draw
  refine ca_aload_n hC 0 dX10_draw_0 rfl rfl (q := 1) rfl ?_
  refine cg_X10_171 hC  dX10_draw_1 (q := 4) rfl ?_
  refine ca_lconst hC (v := 0) dX10_draw_4 rfl (q := 5) rfl ?_
  refine ca_lcmp hC dX10_draw_5 (q := 6) rfl dX10_draw_6 (t := 12) (u := 9) rfl rfl (fun h1 => ?_) (fun h2 => ?_)
  · refine ca_aload_n hC 0 dX10_draw_12 rfl rfl (q := 13) rfl ?_
    refine cg_X10_68 hC  dX10_draw_13 (q := 16) rfl ?_
    refine ca_aload_n hC 0 dX10_draw_16 rfl rfl (q := 17) rfl ?_
    refine cg_X10_175 hC  dX10_draw_17 (q := 20) rfl ?_
    refine ca_callSr hC (rest := [.int (σ.1 (20, 0, 0) 0)]) (cm_X10_sizeOf κ.1 κ.2.2.2.1 σ (σ.1 (20, 0, 0) 30)) ca_Y_X10_sizeOf ca_L_X10_164  rfl rfl (Nat.le_of_ble_eq_true rfl) ⟨Nat.le_of_ble_eq_true rfl, Nat.le_of_ble_eq_true rfl⟩ dX10_draw_20 (q := 23) rfl (fun r3 h5 => ?_)
    refine ca_isub hC dX10_draw_23 (q := 24) rfl ?_
    refine ca_istore_n hC (lv' := [(1, .int ((σ.1 (20, 0, 0) 0) - r3)), (0, .ref (ca_a κ (20, 0, 0)))]) dX10_draw_24 rfl (by decide) rfl (q := 25) rfl ?_
    refine ca_iload_n hC 0 dX10_draw_25 rfl rfl (q := 26) rfl ?_
    refine ca_if_ne hC dX10_draw_26 (t := 32) (q := 29) rfl rfl (fun h6 => ?_) (fun h7 => ?_)
    · refine ca_aload_n hC 1 dX10_draw_32 rfl rfl (q := 33) rfl ?_
      refine ca_aload_n hC 1 dX10_draw_33 rfl rfl (q := 34) rfl ?_
      refine cg_X10_171 hC  dX10_draw_34 (q := 37) rfl ?_
      refine ca_ldc2 hC (v := 48271) ca_w861 dX10_draw_37 (q := 40) rfl ?_
      refine ca_lmul hC dX10_draw_40 (q := 41) rfl ?_
      refine ca_ldc2 hC (v := 2147483647) ca_w862 dX10_draw_41 (q := 44) rfl ?_
      refine ca_lrem hC dX10_draw_44 (q := 45) rfl (fun h8 => ?_)
      refine cp_X10_171 hC  dX10_draw_45 (q := 48) rfl ?_
      refine ca_let (fun σ9 _ => ?_)
      refine ca_aload_n hC 1 dX10_draw_48 rfl rfl (q := 49) rfl ?_
      refine cg_X10_171 hC  dX10_draw_49 (q := 52) rfl ?_
      refine ca_iload_n hC 0 dX10_draw_52 rfl rfl (q := 53) rfl ?_
      refine ca_i2l hC dX10_draw_53 (q := 54) rfl ?_
      refine ca_lrem hC dX10_draw_54 (q := 55) rfl (fun h10 => ?_)
      refine ca_l2i hC dX10_draw_55 (q := 56) rfl ?_
      refine ca_istore_n hC (lv' := [(2, .int (Int64.toInt32 (σ9.2 - σ9.2 / (Int32.toInt64 ((σ.1 (20, 0, 0) 0) - r3)) * (Int32.toInt64 ((σ.1 (20, 0, 0) 0) - r3))))), (1, .int ((σ.1 (20, 0, 0) 0) - r3)), (0, .ref (ca_a κ (20, 0, 0)))]) dX10_draw_56 rfl (by decide) rfl (q := 57) rfl ?_
      refine ca_letv (P := fun v11 X => ca_T κ (ca_Zi κ) σ9 57 [(2, .int v11), (1, .int ((σ.1 (20, 0, 0) 0) - r3)), (0, .ref (ca_a κ (20, 0, 0)))] [] X) (Int64.toInt32 (σ9.2 - σ9.2 / (Int32.toInt64 ((σ.1 (20, 0, 0) 0) - r3)) * (Int32.toInt64 ((σ.1 (20, 0, 0) 0) - r3)))) (fun v11 _ => ?_)
      refine ca_pick [0, 2] (lv' := [(2, .int v11), (0, .ref (ca_a κ (20, 0, 0)))]) rfl ?_
      refine ca_iconst hC (v := 0) dX10_draw_57 rfl (q := 58) rfl ?_
      refine ca_istore_n hC (lv' := [(3, .int 0), (2, .int v11), (0, .ref (ca_a κ (20, 0, 0)))]) dX10_draw_58 rfl (by decide) rfl (q := 59) rfl ?_
      refine ca_pick [2, 1, 0] rfl (ct_X10_draw_59 hC σ9 ?_ ca_FU v11 0)
      intro x18
      refine ca_aload_n hC 0 dX10_draw_101 rfl rfl (q := 102) rfl ?_
      refine ca_dup hC dX10_draw_102 rfl (q := 103) rfl ?_
      refine cg_X10_175 hC  dX10_draw_103 (q := 106) rfl ?_
      refine ca_iconst hC (v := 1) dX10_draw_106 rfl (q := 107) rfl ?_
      refine ca_iload_n hC 1 dX10_draw_107 rfl rfl (q := 108) rfl ?_
      refine ca_ishl hC dX10_draw_108 (q := 109) rfl ?_
      refine ca_ior hC dX10_draw_109 (q := 110) rfl ?_
      refine cp_X10_175 hC  dX10_draw_110 (q := 113) rfl ?_
      refine ca_let (fun σ19 _ => ?_)
      refine ca_iload_n hC 1 dX10_draw_113 rfl rfl (q := 114) rfl ?_
      exact ca_ireti hC dX10_draw_114 rfl
    · refine ca_bipush hC (v := (-4)) dX10_draw_29 rfl (q := 31) rfl ?_
      exact ca_ireti hC dX10_draw_31 rfl
  · refine ca_bipush hC (v := (-2)) dX10_draw_9 rfl (q := 11) rfl ?_
    exact ca_ireti hC dX10_draw_11 rfl
theorem cm_X10_draw (Γ : ca_G) (l : Launch) (σ : ca_S) : ca_Mi Γ ca_cM l yX10_draw cX10_draw 4 (some .int) 1 22 [.ref (Γ.2.1 (20, 0, 0))] σ (cf_X10_draw σ) :=
  ca_met (by decide) (Nat.le_of_ble_eq_true rfl) rfl (fun κ h1 h2 hC => by
    subst h1
    have h := ct_X10_draw hC σ 
    unfold ca_Zi at h
    rw [h2] at h
    exact h)
-- X10_count
set_option maxRecDepth 100000 in
set_option maxHeartbeats 4000000 in
theorem ct_X10_count {κ : ca_K} (hC : ca_C κ ca_cM cX10_count 2 RX10 (some .int) 0 0) (σ : ca_S) (x1 : Int32) : ca_T κ (ca_Zr κ σ) σ 0 [(0, .ref (ca_a κ (20, 0, 0))), (1, .int x1)] [] (cf_X10_count σ x1) := by
  unfold cf_X10_count
  refine ca_iload_n hC 1 dX10_count_0 rfl rfl (q := 1) rfl ?_
  refine ca_ifs (x1 = 0) (fun h1 => ?_) (fun h1 => ?_)
  · refine ca_tin hC dX10_count_1 h1 (by decide) (by decide) rfl (q := 40) rfl ?_
    refine ca_aload_n hC 0 dX10_count_40 rfl rfl (q := 41) rfl ?_
    refine cg_X10_68 hC  dX10_count_41 (q := 44) rfl ?_
    exact ca_iretr hC dX10_count_44 rfl
  refine ca_ifs (x1 = 1) (fun h2 => ?_) (fun h2 => ?_)
  · refine ca_tin hC dX10_count_1 h2 (by decide) (by decide) rfl (q := 45) rfl ?_
    refine ca_aload_n hC 0 dX10_count_45 rfl rfl (q := 46) rfl ?_
    refine cg_X10_94 hC  dX10_count_46 (q := 49) rfl ?_
    exact ca_iretr hC dX10_count_49 rfl
  refine ca_ifs (x1 = 2) (fun h3 => ?_) (fun h3 => ?_)
  · refine ca_tin hC dX10_count_1 h3 (by decide) (by decide) rfl (q := 50) rfl ?_
    refine ca_aload_n hC 0 dX10_count_50 rfl rfl (q := 51) rfl ?_
    refine cg_X10_158 hC  dX10_count_51 (q := 54) rfl ?_
    exact ca_iretr hC dX10_count_54 rfl
  refine ca_ifs (x1 = 3) (fun h4 => ?_) (fun h4 => ?_)
  · refine ca_tin hC dX10_count_1 h4 (by decide) (by decide) rfl (q := 55) rfl ?_
    refine ca_aload_n hC 0 dX10_count_55 rfl rfl (q := 56) rfl ?_
    refine cg_X10_76 hC  dX10_count_56 (q := 59) rfl ?_
    refine ca_if_eq hC dX10_count_59 (t := 66) (q := 62) rfl rfl (fun h5 => ?_) (fun h6 => ?_)
    · refine ca_iconst hC (v := 0) dX10_count_66 rfl (q := 67) rfl ?_
      exact ca_iretr hC dX10_count_67 rfl
    · refine ca_iconst hC (v := 1) dX10_count_62 rfl (q := 63) rfl ?_
      refine ca_goto hC dX10_count_63 (q := 67) rfl ?_
      exact ca_iretr hC dX10_count_67 rfl
  refine ca_ifs (x1 = 4) (fun h7 => ?_) (fun h7 => ?_)
  · refine ca_tin hC dX10_count_1 h7 (by decide) (by decide) rfl (q := 68) rfl ?_
    refine ca_aload_n hC 0 dX10_count_68 rfl rfl (q := 69) rfl ?_
    refine cg_X10_107 hC  dX10_count_69 (q := 72) rfl ?_
    exact ca_iretr hC dX10_count_72 rfl
  refine ca_ifs (x1 = 5) (fun h8 => ?_) (fun h8 => ?_)
  · refine ca_tin hC dX10_count_1 h8 (by decide) (by decide) rfl (q := 73) rfl ?_
    refine ca_aload_n hC 0 dX10_count_73 rfl rfl (q := 74) rfl ?_
    refine cg_X10_113 hC  dX10_count_74 (q := 77) rfl ?_
    exact ca_iretr hC dX10_count_77 rfl
  · refine ca_tout hC dX10_count_1 (fun z g1 g2 => by rcases (show z = 0 ∨ z = 1 ∨ z = 2 ∨ z = 3 ∨ z = 4 ∨ z = 5 by omega) with rfl | rfl | rfl | rfl | rfl | rfl <;> assumption) (q := 78) rfl ?_
    refine ca_iconst hC (v := (-1)) dX10_count_78 rfl (q := 79) rfl ?_
    exact ca_iretr hC dX10_count_79 rfl
theorem cm_X10_count (Γ : ca_G) (l : Launch) (σ : ca_S) (x1 : Int32) : ca_Mr Γ ca_cM l yX10_count cX10_count 2 (some .int) 0 0 [.ref (Γ.2.1 (20, 0, 0)), .int x1] σ (cf_X10_count σ x1) :=
  ca_met (by decide) (Nat.le_of_ble_eq_true rfl) rfl (fun κ h1 h2 hC => by
    subst h1
    have h := ct_X10_count hC σ x1
    unfold ca_Zr at h
    rw [h2] at h
    exact h)
