-- X2_forget
set_option maxRecDepth 100000 in
set_option maxHeartbeats 4000000 in
theorem ct_X2_forget {κ : ca_K} (hC : ca_C κ ca_cC cX2_forget 1 RX2 none 0 0) (σ : ca_S) (i0 : Nat) (j0 : Nat) (hi0 : i0 < 16) (hj0 : j0 < 2) : ca_T κ (ca_Zv κ) σ 0 [(0, .ref (ca_a κ (6, i0, j0)))] [] (cf_X2_forget σ i0 j0) := by
  unfold cf_X2_forget
  refine ca_aload_n hC 0 dX2_forget_0 rfl rfl (q := 1) rfl ?_
  refine ca_iconst hC (v := 0) dX2_forget_1 rfl (q := 2) rfl ?_
  refine cp_X2_7 hC hi0 hj0 dX2_forget_2 (q := 5) rfl ?_
  refine ca_let (fun σ1 _ => ?_)
  refine ca_aload_n hC 0 dX2_forget_5 rfl rfl (q := 6) rfl ?_
  refine ca_iconst hC (v := 0) dX2_forget_6 rfl (q := 7) rfl ?_
  refine cp_X2_13 hC hi0 hj0 dX2_forget_7 (q := 10) rfl ?_
  refine ca_let (fun σ2 _ => ?_)
  refine ca_aload_n hC 0 dX2_forget_10 rfl rfl (q := 11) rfl ?_
  refine ca_iconst hC (v := 0) dX2_forget_11 rfl (q := 12) rfl ?_
  refine cp_X2_16 hC hi0 hj0 dX2_forget_12 (q := 15) rfl ?_
  refine ca_let (fun σ3 _ => ?_)
  exact ca_vret hC dX2_forget_15
theorem cm_X2_forget (Γ : ca_G) (l : Launch) (σ : ca_S) (i0 : Nat) (j0 : Nat) (hi0 : i0 < 16) (hj0 : j0 < 2) : ca_Mv Γ ca_cC l yX2_forget cX2_forget 1 none 0 0 [.ref (Γ.2.1 (6, i0, j0))] σ (cf_X2_forget σ i0 j0) :=
  ca_met (by decide) (Nat.le_of_ble_eq_true rfl) rfl (fun κ h1 h2 hC => by
    subst h1
    have h := ct_X2_forget hC σ i0 j0 hi0 hj0
    unfold ca_Zv at h
    rw [h2] at h
    exact h)
-- X0_forget
set_option maxRecDepth 100000 in
set_option maxHeartbeats 4000000 in
theorem ct_X0_forget_12 {κ : ca_K} (hC : ca_C κ ca_cC cX0_forget 2 RX0 none 1 20) (i0 : Nat) (hi0 : i0 < 16) {K : ca_S → Option (ca_S)} (hK : ∀ (σ : ca_S), ca_T κ (ca_Zv κ) σ 32 [] [] (K σ)) : ∀ (n : Nat) (σ : ca_S) (x1 : Int32), ca_T κ (ca_Zv κ) σ 12 [(0, .ref (ca_a κ (2, i0, 0))), (1, .int x1)] [] (cl_X0_forget_12 i0 K n σ x1) := by
  intro n
  induction n with
  | zero => intro σ x1; exact ca_no
  | succ n ih =>
    intro σ x1
    rw [cl_X0_forget_12]
    refine ca_iload_n hC 1 dX0_forget_12 rfl rfl (q := 13) rfl ?_
    refine ca_iconst hC (v := 2) dX0_forget_13 rfl (q := 14) rfl ?_
    refine ca_icmp_ge hC dX0_forget_14 (t := 32) (q := 17) rfl rfl (fun h3 => ?_) (fun h4 => ?_)
    · exact ca_pick [] rfl (hK σ)
    · refine ca_aload_n hC 0 dX0_forget_17 rfl rfl (q := 18) rfl ?_
      refine cg_X0_19 hC hi0 dX0_forget_18 (q := 21) rfl ?_
      refine ca_iload_n hC 1 dX0_forget_21 rfl rfl (q := 22) rfl ?_
      refine ca_al5 hC hi0 dX0_forget_22 (q := 23) rfl (fun h5 => ?_)
      refine ca_callVv hC (rest := []) (cm_X2_forget κ.1 κ.2.2.2.1 σ i0 (Int32.toNatClampNeg x1) hi0 (ca_in_lt h5)) ca_Y_X2_forget ca_L_X0_32 (ca_m6 hi0 (ca_in_lt h5)) rfl rfl rfl rfl (Nat.le_of_ble_eq_true rfl) ⟨Nat.le_of_ble_eq_true rfl, Nat.le_of_ble_eq_true rfl⟩ dX0_forget_23 (q := 26) rfl (fun σ7 h8 => ?_)
      refine ca_iinc hC 1 (v := (x1 + 1)) (lv' := [(1, .int (x1 + 1)), (0, .ref (ca_a κ (2, i0, 0)))]) dX0_forget_26 rfl rfl (by decide) rfl (q := 29) rfl ?_
      refine ca_goto hC dX0_forget_29 (q := 12) rfl ?_
      exact ca_pick [1, 0] rfl (ih σ7 (x1 + 1))
set_option maxRecDepth 100000 in
set_option maxHeartbeats 4000000 in
theorem ct_X0_forget {κ : ca_K} (hC : ca_C κ ca_cC cX0_forget 2 RX0 none 1 20) (σ : ca_S) (i0 : Nat) (hi0 : i0 < 16) : ca_T κ (ca_Zv κ) σ 0 [(0, .ref (ca_a κ (2, i0, 0)))] [] (cf_X0_forget σ i0) := by
  unfold cf_X0_forget
  refine ca_aload_n hC 0 dX0_forget_0 rfl rfl (q := 1) rfl ?_
  refine ca_iconst hC (v := 0) dX0_forget_1 rfl (q := 2) rfl ?_
  refine cp_X0_25 hC hi0 dX0_forget_2 (q := 5) rfl ?_
  refine ca_let (fun σ1 _ => ?_)
  refine ca_aload_n hC 0 dX0_forget_5 rfl rfl (q := 6) rfl ?_
  refine ca_iconst hC (v := 0) dX0_forget_6 rfl (q := 7) rfl ?_
  refine cp_X0_29 hC hi0 dX0_forget_7 (q := 10) rfl ?_
  refine ca_let (fun σ2 _ => ?_)
  refine ca_iconst hC (v := 0) dX0_forget_10 rfl (q := 11) rfl ?_
  refine ca_istore_n hC (lv' := [(1, .int 0), (0, .ref (ca_a κ (2, i0, 0)))]) dX0_forget_11 rfl (by decide) rfl (q := 12) rfl ?_
  refine ca_pick [1, 0] rfl (ct_X0_forget_12 hC i0 hi0 ?_ ca_FU σ2 0)
  intro σ9
  exact ca_vret hC dX0_forget_32
theorem cm_X0_forget (Γ : ca_G) (l : Launch) (σ : ca_S) (i0 : Nat) (hi0 : i0 < 16) : ca_Mv Γ ca_cC l yX0_forget cX0_forget 2 none 1 20 [.ref (Γ.2.1 (2, i0, 0))] σ (cf_X0_forget σ i0) :=
  ca_met (by decide) (Nat.le_of_ble_eq_true rfl) rfl (fun κ h1 h2 hC => by
    subst h1
    have h := ct_X0_forget hC σ i0 hi0
    unfold ca_Zv at h
    rw [h2] at h
    exact h)
-- X0_write
set_option maxRecDepth 100000 in
set_option maxHeartbeats 4000000 in
theorem ct_X0_write {κ : ca_K} (hC : ca_C κ ca_cC cX0_write 3 RX0 (some .int) 0 0) (σ : ca_S) (i0 : Nat) (x1 : Int32) (x2 : Int32) (hi0 : i0 < 16) : ca_T κ (ca_Zi κ) σ 0 [(0, .ref (ca_a κ (2, i0, 0))), (1, .int x1), (2, .int x2)] [] (cf_X0_write σ i0 x1 x2) := by
  unfold cf_X0_write
  refine ca_aload_n hC 0 dX0_write_0 rfl rfl (q := 1) rfl ?_
  refine ca_iload_n hC 1 dX0_write_1 rfl rfl (q := 2) rfl ?_
  refine cp_X0_35 hC hi0 dX0_write_2 (q := 5) rfl ?_
  refine ca_let (fun σ1 _ => ?_)
  refine ca_aload_n hC 0 dX0_write_5 rfl rfl (q := 6) rfl ?_
  refine ca_iload_n hC 2 dX0_write_6 rfl rfl (q := 7) rfl ?_
  refine cp_X0_38 hC hi0 dX0_write_7 (q := 10) rfl ?_
  refine ca_let (fun σ2 _ => ?_)
  refine ca_aload_n hC 0 dX0_write_10 rfl rfl (q := 11) rfl ?_
  refine ca_iconst hC (v := 0) dX0_write_11 rfl (q := 12) rfl ?_
  refine cp_X0_29 hC hi0 dX0_write_12 (q := 15) rfl ?_
  refine ca_let (fun σ3 _ => ?_)
  refine ca_aload_n hC 0 dX0_write_15 rfl rfl (q := 16) rfl ?_
  refine ca_dup hC dX0_write_16 rfl (q := 17) rfl ?_
  refine cg_X0_25 hC hi0 dX0_write_17 (q := 20) rfl ?_
  refine ca_iconst hC (v := 1) dX0_write_20 rfl (q := 21) rfl ?_
  refine ca_iadd hC dX0_write_21 (q := 22) rfl ?_
  refine cp_X0_25 hC hi0 dX0_write_22 (q := 25) rfl ?_
  refine ca_let (fun σ4 _ => ?_)
  refine ca_aload_n hC 0 dX0_write_25 rfl rfl (q := 26) rfl ?_
  refine cg_X0_25 hC hi0 dX0_write_26 (q := 29) rfl ?_
  exact ca_ireti hC dX0_write_29 rfl
theorem cm_X0_write (Γ : ca_G) (l : Launch) (σ : ca_S) (i0 : Nat) (x1 : Int32) (x2 : Int32) (hi0 : i0 < 16) : ca_Mi Γ ca_cC l yX0_write cX0_write 3 (some .int) 0 0 [.ref (Γ.2.1 (2, i0, 0)), .int x1, .int x2] σ (cf_X0_write σ i0 x1 x2) :=
  ca_met (by decide) (Nat.le_of_ble_eq_true rfl) rfl (fun κ h1 h2 hC => by
    subst h1
    have h := ct_X0_write hC σ i0 x1 x2 hi0
    unfold ca_Zi at h
    rw [h2] at h
    exact h)
-- X0_hasTriesLeft
set_option maxRecDepth 100000 in
set_option maxHeartbeats 4000000 in
theorem ct_X0_hasTriesLeft {κ : ca_K} (hC : ca_C κ ca_cC cX0_hasTriesLeft 1 RX0 (some .boolean) 0 0) (σ : ca_S) (i0 : Nat) (hi0 : i0 < 16) : ca_T κ (ca_Zr κ σ) σ 0 [(0, .ref (ca_a κ (2, i0, 0)))] [] (cf_X0_hasTriesLeft σ i0) := by
  unfold cf_X0_hasTriesLeft
  refine ca_aload_n hC 0 dX0_hasTriesLeft_0 rfl rfl (q := 1) rfl ?_
  refine cg_X0_25 hC hi0 dX0_hasTriesLeft_1 (q := 4) rfl ?_
  refine ca_if_le hC dX0_hasTriesLeft_4 (t := 19) (q := 7) rfl rfl (fun h1 => ?_) (fun h2 => ?_)
  · refine ca_iconst hC (v := 0) dX0_hasTriesLeft_19 rfl (q := 20) rfl ?_
    exact ca_iretr hC dX0_hasTriesLeft_20 rfl
  · refine ca_aload_n hC 0 dX0_hasTriesLeft_7 rfl rfl (q := 8) rfl ?_
    refine cg_X0_29 hC hi0 dX0_hasTriesLeft_8 (q := 11) rfl ?_
    refine ca_iconst hC (v := 5) dX0_hasTriesLeft_11 rfl (q := 12) rfl ?_
    refine ca_icmp_ge hC dX0_hasTriesLeft_12 (t := 19) (q := 15) rfl rfl (fun h3 => ?_) (fun h4 => ?_)
    · refine ca_iconst hC (v := 0) dX0_hasTriesLeft_19 rfl (q := 20) rfl ?_
      exact ca_iretr hC dX0_hasTriesLeft_20 rfl
    · refine ca_iconst hC (v := 1) dX0_hasTriesLeft_15 rfl (q := 16) rfl ?_
      refine ca_goto hC dX0_hasTriesLeft_16 (q := 20) rfl ?_
      exact ca_iretr hC dX0_hasTriesLeft_20 rfl
theorem cm_X0_hasTriesLeft (Γ : ca_G) (l : Launch) (σ : ca_S) (i0 : Nat) (hi0 : i0 < 16) : ca_Mr Γ ca_cC l yX0_hasTriesLeft cX0_hasTriesLeft 1 (some .boolean) 0 0 [.ref (Γ.2.1 (2, i0, 0))] σ (cf_X0_hasTriesLeft σ i0) :=
  ca_met (by decide) (Nat.le_of_ble_eq_true rfl) rfl (fun κ h1 h2 hC => by
    subst h1
    have h := ct_X0_hasTriesLeft hC σ i0 hi0
    unfold ca_Zr at h
    rw [h2] at h
    exact h)
-- X2_greatestCount
set_option maxRecDepth 100000 in
set_option maxHeartbeats 4000000 in
theorem ct_X2_greatestCount {κ : ca_K} (hC : ca_C κ ca_cC cX2_greatestCount 1 RX2 (some .int) 1 21) (σ : ca_S) (i0 : Nat) (j0 : Nat) (hi0 : i0 < 16) (hj0 : j0 < 2) : ca_T κ (ca_Zr κ σ) σ 0 [(0, .ref (ca_a κ (6, i0, j0)))] [] (cf_X2_greatestCount σ i0 j0) := by
  unfold cf_X2_greatestCount
  refine ca_aload_n hC 0 dX2_greatestCount_0 rfl rfl (q := 1) rfl ?_
  refine cg_X2_13 hC hi0 hj0 dX2_greatestCount_1 (q := 4) rfl ?_
  refine ca_aload_n hC 0 dX2_greatestCount_4 rfl rfl (q := 5) rfl ?_
  refine cg_X2_16 hC hi0 hj0 dX2_greatestCount_5 (q := 8) rfl ?_
  refine ca_mmax hC ca_w389 ca_w390 ca_w49 ca_w391 (by decide) (Nat.le_of_ble_eq_true rfl) dX2_greatestCount_8 (q := 11) rfl ?_
  exact ca_iretr hC dX2_greatestCount_11 rfl
theorem cm_X2_greatestCount (Γ : ca_G) (l : Launch) (σ : ca_S) (i0 : Nat) (j0 : Nat) (hi0 : i0 < 16) (hj0 : j0 < 2) : ca_Mr Γ ca_cC l yX2_greatestCount cX2_greatestCount 1 (some .int) 1 21 [.ref (Γ.2.1 (6, i0, j0))] σ (cf_X2_greatestCount σ i0 j0) :=
  ca_met (by decide) (Nat.le_of_ble_eq_true rfl) rfl (fun κ h1 h2 hC => by
    subst h1
    have h := ct_X2_greatestCount hC σ i0 j0 hi0 hj0
    unfold ca_Zr at h
    rw [h2] at h
    exact h)
-- X0_isAcknowledged
set_option maxRecDepth 100000 in
set_option maxHeartbeats 4000000 in
theorem ct_X0_isAcknowledged {κ : ca_K} (hC : ca_C κ ca_cC cX0_isAcknowledged 1 RX0 (some .boolean) 2 41) (σ : ca_S) (i0 : Nat) (hi0 : i0 < 16) : ca_T κ (ca_Zr κ σ) σ 0 [(0, .ref (ca_a κ (2, i0, 0)))] [] (cf_X0_isAcknowledged σ i0) := by
  unfold cf_X0_isAcknowledged
  refine ca_aload_n hC 0 dX0_isAcknowledged_0 rfl rfl (q := 1) rfl ?_
  refine cg_X0_25 hC hi0 dX0_isAcknowledged_1 (q := 4) rfl ?_
  refine ca_if_le hC dX0_isAcknowledged_4 (t := 39) (q := 7) rfl rfl (fun h1 => ?_) (fun h2 => ?_)
  · refine ca_iconst hC (v := 0) dX0_isAcknowledged_39 rfl (q := 40) rfl ?_
    exact ca_iretr hC dX0_isAcknowledged_40 rfl
  · refine ca_aload_n hC 0 dX0_isAcknowledged_7 rfl rfl (q := 8) rfl ?_
    refine cg_X0_19 hC hi0 dX0_isAcknowledged_8 (q := 11) rfl ?_
    refine ca_iconst hC (v := 0) dX0_isAcknowledged_11 rfl (q := 12) rfl ?_
    refine ca_al5 hC hi0 dX0_isAcknowledged_12 (q := 13) rfl (fun h3 => ?_)
    refine ca_callVr hC (rest := []) (cm_X2_greatestCount κ.1 κ.2.2.2.1 σ i0 (Int32.toNatClampNeg 0) hi0 (ca_in_lt h3)) ca_Y_X2_greatestCount ca_L_X0_41 (ca_m6 hi0 (ca_in_lt h3)) rfl rfl rfl rfl (Nat.le_of_ble_eq_true rfl) ⟨Nat.le_of_ble_eq_true rfl, Nat.le_of_ble_eq_true rfl⟩ dX0_isAcknowledged_13 (q := 16) rfl (fun r4 h6 => ?_)
    refine ca_aload_n hC 0 dX0_isAcknowledged_16 rfl rfl (q := 17) rfl ?_
    refine cg_X0_19 hC hi0 dX0_isAcknowledged_17 (q := 20) rfl ?_
    refine ca_iconst hC (v := 1) dX0_isAcknowledged_20 rfl (q := 21) rfl ?_
    refine ca_al5 hC hi0 dX0_isAcknowledged_21 (q := 22) rfl (fun h7 => ?_)
    refine ca_callVr hC (rest := [.int r4]) (cm_X2_greatestCount κ.1 κ.2.2.2.1 σ i0 (Int32.toNatClampNeg 1) hi0 (ca_in_lt h7)) ca_Y_X2_greatestCount ca_L_X0_41 (ca_m6 hi0 (ca_in_lt h7)) rfl rfl rfl rfl (Nat.le_of_ble_eq_true rfl) ⟨Nat.le_of_ble_eq_true rfl, Nat.le_of_ble_eq_true rfl⟩ dX0_isAcknowledged_22 (q := 25) rfl (fun r8 h10 => ?_)
    refine ca_mmax hC ca_w392 ca_w390 ca_w49 ca_w391 (by decide) (Nat.le_of_ble_eq_true rfl) dX0_isAcknowledged_25 (q := 28) rfl ?_
    refine ca_aload_n hC 0 dX0_isAcknowledged_28 rfl rfl (q := 29) rfl ?_
    refine cg_X0_25 hC hi0 dX0_isAcknowledged_29 (q := 32) rfl ?_
    refine ca_icmp_ne hC dX0_isAcknowledged_32 (t := 39) (q := 35) rfl rfl (fun h11 => ?_) (fun h12 => ?_)
    · refine ca_iconst hC (v := 0) dX0_isAcknowledged_39 rfl (q := 40) rfl ?_
      exact ca_iretr hC dX0_isAcknowledged_40 rfl
    · refine ca_iconst hC (v := 1) dX0_isAcknowledged_35 rfl (q := 36) rfl ?_
      refine ca_goto hC dX0_isAcknowledged_36 (q := 40) rfl ?_
      exact ca_iretr hC dX0_isAcknowledged_40 rfl
theorem cm_X0_isAcknowledged (Γ : ca_G) (l : Launch) (σ : ca_S) (i0 : Nat) (hi0 : i0 < 16) : ca_Mr Γ ca_cC l yX0_isAcknowledged cX0_isAcknowledged 1 (some .boolean) 2 41 [.ref (Γ.2.1 (2, i0, 0))] σ (cf_X0_isAcknowledged σ i0) :=
  ca_met (by decide) (Nat.le_of_ble_eq_true rfl) rfl (fun κ h1 h2 hC => by
    subst h1
    have h := ct_X0_isAcknowledged hC σ i0 hi0
    unfold ca_Zr at h
    rw [h2] at h
    exact h)
-- X0_countedAnswer
set_option maxRecDepth 100000 in
set_option maxHeartbeats 4000000 in
theorem ct_X0_countedAnswer_36 {κ : ca_K} (hC : ca_C κ ca_cC cX0_countedAnswer 2 RX0 (some .int) 0 0) (σ : ca_S) (is0 : Nat) (js0 : Nat) (his0 : is0 < 16) (hjs0 : js0 < 2) : ca_T κ (ca_Zr κ σ) σ 36 [] [.ref (ca_a κ (6, is0, js0))] (cj_X0_countedAnswer_36 σ is0 js0) := by
  unfold cj_X0_countedAnswer_36
  refine ca_astore_n hC (lv' := [(1, .ref (ca_a κ (6, is0, js0)))]) dX0_countedAnswer_36 rfl (by decide) rfl (q := 37) rfl ?_
  refine ca_aload_n hC 0 dX0_countedAnswer_37 rfl rfl (q := 38) rfl ?_
  refine cg_X0_51 hC his0 hjs0 dX0_countedAnswer_38 (q := 41) rfl ?_
  refine ca_if_le hC dX0_countedAnswer_41 (t := 51) (q := 44) rfl rfl (fun h6 => ?_) (fun h7 => ?_)
  · refine ca_bipush hC (v := (-4)) dX0_countedAnswer_51 rfl (q := 53) rfl ?_
    exact ca_iretr hC dX0_countedAnswer_53 rfl
  · refine ca_aload_n hC 0 dX0_countedAnswer_44 rfl rfl (q := 45) rfl ?_
    refine cg_X0_54 hC his0 hjs0 dX0_countedAnswer_45 (q := 48) rfl ?_
    refine ca_goto hC dX0_countedAnswer_48 (q := 53) rfl ?_
    exact ca_iretr hC dX0_countedAnswer_53 rfl
set_option maxRecDepth 100000 in
set_option maxHeartbeats 4000000 in
theorem ct_X0_countedAnswer {κ : ca_K} (hC : ca_C κ ca_cC cX0_countedAnswer 2 RX0 (some .int) 0 0) (σ : ca_S) (i0 : Nat) (hi0 : i0 < 16) : ca_T κ (ca_Zr κ σ) σ 0 [(0, .ref (ca_a κ (2, i0, 0)))] [] (cf_X0_countedAnswer σ i0) := by
  unfold cf_X0_countedAnswer
  refine ca_aload_n hC 0 dX0_countedAnswer_0 rfl rfl (q := 1) rfl ?_
  refine cg_X0_19 hC hi0 dX0_countedAnswer_1 (q := 4) rfl ?_
  refine ca_iconst hC (v := 0) dX0_countedAnswer_4 rfl (q := 5) rfl ?_
  refine ca_al5 hC hi0 dX0_countedAnswer_5 (q := 6) rfl (fun h1 => ?_)
  refine cg_X0_51 hC hi0 (ca_in_lt h1) dX0_countedAnswer_6 (q := 9) rfl ?_
  refine ca_aload_n hC 0 dX0_countedAnswer_9 rfl rfl (q := 10) rfl ?_
  refine cg_X0_19 hC hi0 dX0_countedAnswer_10 (q := 13) rfl ?_
  refine ca_iconst hC (v := 1) dX0_countedAnswer_13 rfl (q := 14) rfl ?_
  refine ca_al5 hC hi0 dX0_countedAnswer_14 (q := 15) rfl (fun h2 => ?_)
  refine cg_X0_51 hC hi0 (ca_in_lt h2) dX0_countedAnswer_15 (q := 18) rfl ?_
  refine ca_icmp_lt hC dX0_countedAnswer_18 (t := 30) (q := 21) rfl rfl (fun h3 => ?_) (fun h4 => ?_)
  · refine ca_aload_n hC 0 dX0_countedAnswer_30 rfl rfl (q := 31) rfl ?_
    refine cg_X0_19 hC hi0 dX0_countedAnswer_31 (q := 34) rfl ?_
    refine ca_iconst hC (v := 1) dX0_countedAnswer_34 rfl (q := 35) rfl ?_
    refine ca_al5 hC hi0 dX0_countedAnswer_35 (q := 36) rfl (fun h5 => ?_)
    exact ca_pick [] rfl (ct_X0_countedAnswer_36 hC σ i0 (Int32.toNatClampNeg 1) hi0 (ca_in_lt h5))
  · refine ca_aload_n hC 0 dX0_countedAnswer_21 rfl rfl (q := 22) rfl ?_
    refine cg_X0_19 hC hi0 dX0_countedAnswer_22 (q := 25) rfl ?_
    refine ca_iconst hC (v := 0) dX0_countedAnswer_25 rfl (q := 26) rfl ?_
    refine ca_al5 hC hi0 dX0_countedAnswer_26 (q := 27) rfl (fun h8 => ?_)
    refine ca_goto hC dX0_countedAnswer_27 (q := 36) rfl ?_
    exact ca_pick [] rfl (ct_X0_countedAnswer_36 hC σ i0 (Int32.toNatClampNeg 0) hi0 (ca_in_lt h8))
theorem cm_X0_countedAnswer (Γ : ca_G) (l : Launch) (σ : ca_S) (i0 : Nat) (hi0 : i0 < 16) : ca_Mr Γ ca_cC l yX0_countedAnswer cX0_countedAnswer 2 (some .int) 0 0 [.ref (Γ.2.1 (2, i0, 0))] σ (cf_X0_countedAnswer σ i0) :=
  ca_met (by decide) (Nat.le_of_ble_eq_true rfl) rfl (fun κ h1 h2 hC => by
    subst h1
    have h := ct_X0_countedAnswer hC σ i0 hi0
    unfold ca_Zr at h
    rw [h2] at h
    exact h)
-- X9_isWithin
set_option maxRecDepth 100000 in
set_option maxHeartbeats 4000000 in
theorem ct_X9_isWithin {κ : ca_K} (hC : ca_C κ ca_cC cX9_isWithin 3 RX9 (some .boolean) 0 0) (σ : ca_S) (x0 : Int32) (x1 : Int32) (x2 : Int32) : ca_T κ (ca_Zr κ σ) σ 0 [(0, .int x0), (1, .int x1), (2, .int x2)] [] (cf_X9_isWithin x0 x1 x2) := by
  unfold cf_X9_isWithin
  refine ca_iload_n hC 0 dX9_isWithin_0 rfl rfl (q := 1) rfl ?_
  refine ca_iload_n hC 1 dX9_isWithin_1 rfl rfl (q := 2) rfl ?_
  refine ca_icmp_lt hC dX9_isWithin_2 (t := 14) (q := 5) rfl rfl (fun h1 => ?_) (fun h2 => ?_)
  · refine ca_iconst hC (v := 0) dX9_isWithin_14 rfl (q := 15) rfl ?_
    exact ca_iretr hC dX9_isWithin_15 rfl
  · refine ca_iload_n hC 0 dX9_isWithin_5 rfl rfl (q := 6) rfl ?_
    refine ca_iload_n hC 2 dX9_isWithin_6 rfl rfl (q := 7) rfl ?_
    refine ca_icmp_gt hC dX9_isWithin_7 (t := 14) (q := 10) rfl rfl (fun h3 => ?_) (fun h4 => ?_)
    · refine ca_iconst hC (v := 0) dX9_isWithin_14 rfl (q := 15) rfl ?_
      exact ca_iretr hC dX9_isWithin_15 rfl
    · refine ca_iconst hC (v := 1) dX9_isWithin_10 rfl (q := 11) rfl ?_
      refine ca_goto hC dX9_isWithin_11 (q := 15) rfl ?_
      exact ca_iretr hC dX9_isWithin_15 rfl
theorem cm_X9_isWithin (Γ : ca_G) (l : Launch) (σ : ca_S) (x0 : Int32) (x1 : Int32) (x2 : Int32) : ca_Mr Γ ca_cC l yX9_isWithin cX9_isWithin 3 (some .boolean) 0 0 [.int x0, .int x1, .int x2] σ (cf_X9_isWithin x0 x1 x2) :=
  ca_met (by decide) (Nat.le_of_ble_eq_true rfl) rfl (fun κ h1 h2 hC => by
    subst h1
    have h := ct_X9_isWithin hC σ x0 x1 x2
    unfold ca_Zr at h
    rw [h2] at h
    exact h)
-- X1_addPairs
set_option maxRecDepth 100000 in
set_option maxHeartbeats 4000000 in
theorem ct_X1_addPairs_12 {κ : ca_K} (hC : ca_C κ ca_cC cX1_addPairs 7 RX1 none 0 0) (x1 : Int32) (x2 : Int32) (x3 : Int32) {K : ca_S → Option (ca_S)} (hK : ∀ (σ : ca_S), ca_T κ (ca_Zv κ) σ 71 [(0, .ref (ca_a κ (16, 0, 0))), (1, .int x1), (2, .int x2), (3, .int x3)] [] (K σ)) : ∀ (n : Nat) (σ : ca_S) (x4 : Int32), ca_T κ (ca_Zv κ) σ 12 [(0, .ref (ca_a κ (16, 0, 0))), (1, .int x1), (2, .int x2), (3, .int x3), (4, .int x4)] [] (cl_X1_addPairs_12 x1 x2 x3 K n σ x4) := by
  intro n
  induction n with
  | zero => intro σ x4; exact ca_no
  | succ n ih =>
    intro σ x4
    rw [cl_X1_addPairs_12]
    refine ca_iload hC 4 dX1_addPairs_12 rfl (q := 14) rfl ?_
    refine ca_iload_n hC 2 dX1_addPairs_14 rfl rfl (q := 15) rfl ?_
    refine ca_icmp_ge hC dX1_addPairs_15 (t := 71) (q := 18) rfl rfl (fun h3 => ?_) (fun h4 => ?_)
    · exact ca_pick [0, 1, 2, 3] rfl (hK σ)
    · refine ca_iload_n hC 1 dX1_addPairs_18 rfl rfl (q := 19) rfl ?_
      refine ca_iconst hC (v := 3) dX1_addPairs_19 rfl (q := 20) rfl ?_
      refine ca_iload_n hC 3 dX1_addPairs_20 rfl rfl (q := 21) rfl ?_
      refine ca_imul hC dX1_addPairs_21 (q := 22) rfl ?_
      refine ca_ishr hC dX1_addPairs_22 (q := 23) rfl ?_
      refine ca_bipush hC (v := 7) dX1_addPairs_23 rfl (q := 25) rfl ?_
      refine ca_iand hC dX1_addPairs_25 (q := 26) rfl ?_
      refine ca_istore hC (lv' := [(5, .int ((x1 >>> ((3 * x3) &&& 31)) &&& 7)), (0, .ref (ca_a κ (16, 0, 0))), (1, .int x1), (2, .int x2), (3, .int x3), (4, .int x4)]) dX1_addPairs_26 (by decide) rfl (q := 28) rfl ?_
      refine ca_iload_n hC 2 dX1_addPairs_28 rfl rfl (q := 29) rfl ?_
      refine ca_iconst hC (v := 3) dX1_addPairs_29 rfl (q := 30) rfl ?_
      refine ca_iload hC 5 dX1_addPairs_30 rfl (q := 32) rfl ?_
      refine ca_imul hC dX1_addPairs_32 (q := 33) rfl ?_
      refine ca_ishr hC dX1_addPairs_33 (q := 34) rfl ?_
      refine ca_bipush hC (v := 7) dX1_addPairs_34 rfl (q := 36) rfl ?_
      refine ca_iand hC dX1_addPairs_36 (q := 37) rfl ?_
      refine ca_istore hC (lv' := [(6, .int ((x1 >>> ((3 * x4) &&& 31)) &&& 7)), (5, .int ((x1 >>> ((3 * x3) &&& 31)) &&& 7)), (0, .ref (ca_a κ (16, 0, 0))), (1, .int x1), (2, .int x2), (3, .int x3), (4, .int x4)]) dX1_addPairs_37 (by decide) rfl (q := 39) rfl ?_
      refine ca_iload hC 1 dX1_addPairs_39 rfl (q := 41) rfl ?_
      refine ca_iload_n hC 4 dX1_addPairs_41 rfl rfl (q := 42) rfl ?_
      refine ca_icmp_ge hC dX1_addPairs_42 (t := 65) (q := 45) rfl rfl (fun h5 => ?_) (fun h6 => ?_)
      · refine ca_iinc hC 6 (v := (x4 + 1)) (lv' := [(4, .int (x4 + 1)), (6, .int ((x1 >>> ((3 * x4) &&& 31)) &&& 7)), (5, .int ((x1 >>> ((3 * x3) &&& 31)) &&& 7)), (0, .ref (ca_a κ (16, 0, 0))), (1, .int x1), (2, .int x2), (3, .int x3)]) dX1_addPairs_65 rfl rfl (by decide) rfl (q := 68) rfl ?_
        refine ca_goto hC dX1_addPairs_68 (q := 12) rfl ?_
        exact ca_pick [3, 4, 5, 6, 0] rfl (ih σ (x4 + 1))
      · refine ca_iload hC 0 dX1_addPairs_45 rfl (q := 47) rfl ?_
        refine ca_iload_n hC 4 dX1_addPairs_47 rfl rfl (q := 48) rfl ?_
        refine ca_icmp_ge hC dX1_addPairs_48 (t := 65) (q := 51) rfl rfl (fun h7 => ?_) (fun h8 => ?_)
        · refine ca_iinc hC 6 (v := (x4 + 1)) (lv' := [(4, .int (x4 + 1)), (6, .int ((x1 >>> ((3 * x4) &&& 31)) &&& 7)), (5, .int ((x1 >>> ((3 * x3) &&& 31)) &&& 7)), (0, .ref (ca_a κ (16, 0, 0))), (1, .int x1), (2, .int x2), (3, .int x3)]) dX1_addPairs_65 rfl rfl (by decide) rfl (q := 68) rfl ?_
          refine ca_goto hC dX1_addPairs_68 (q := 12) rfl ?_
          exact ca_pick [3, 4, 5, 6, 0] rfl (ih σ (x4 + 1))
        · refine ca_aload_n hC 2 dX1_addPairs_51 rfl rfl (q := 52) rfl ?_
          refine cg_X1_13 hC  dX1_addPairs_52 (q := 55) rfl ?_
          refine ca_iload hC 1 dX1_addPairs_55 rfl (q := 57) rfl ?_
          refine ca_al17 hC  dX1_addPairs_57 (q := 58) rfl (fun h9 => ?_)
          refine ca_iload hC 0 dX1_addPairs_58 rfl (q := 60) rfl ?_
          refine ca_dup2 hC dX1_addPairs_60 rfl rfl (q := 61) rfl ?_
          refine ca_ildQ hC (n := 5) (ca_m18 (ca_in_lt h9)) rfl rfl rfl dX1_addPairs_61 (q := 62) rfl (fun h10 => ?_)
          refine ca_iconst hC (v := 1) dX1_addPairs_62 rfl (q := 63) rfl ?_
          refine ca_iadd hC dX1_addPairs_63 (q := 64) rfl ?_
          refine ca_istQ hC (n := 5) (ca_m18 (ca_in_lt h9)) rfl rfl rfl dX1_addPairs_64 (q := 65) rfl (fun h11 => ?_)
          refine ca_let (fun σ12 _ => ?_)
          refine ca_iinc hC 6 (v := (x4 + 1)) (lv' := [(4, .int (x4 + 1)), (6, .int ((x1 >>> ((3 * x4) &&& 31)) &&& 7)), (5, .int ((x1 >>> ((3 * x3) &&& 31)) &&& 7)), (0, .ref (ca_a κ (16, 0, 0))), (1, .int x1), (2, .int x2), (3, .int x3)]) dX1_addPairs_65 rfl rfl (by decide) rfl (q := 68) rfl ?_
          refine ca_goto hC dX1_addPairs_68 (q := 12) rfl ?_
          exact ca_pick [3, 4, 5, 6, 0] rfl (ih σ12 (x4 + 1))
set_option maxRecDepth 100000 in
set_option maxHeartbeats 4000000 in
theorem ct_X1_addPairs_2 {κ : ca_K} (hC : ca_C κ ca_cC cX1_addPairs 7 RX1 none 0 0) (x1 : Int32) (x2 : Int32) {K : ca_S → Option (ca_S)} (hK : ∀ (σ : ca_S), ca_T κ (ca_Zv κ) σ 77 [] [] (K σ)) : ∀ (n : Nat) (σ : ca_S) (x3 : Int32), ca_T κ (ca_Zv κ) σ 2 [(0, .ref (ca_a κ (16, 0, 0))), (1, .int x1), (2, .int x2), (3, .int x3)] [] (cl_X1_addPairs_2 x1 x2 K n σ x3) := by
  intro n
  induction n with
  | zero => intro σ x3; exact ca_no
  | succ n ih =>
    intro σ x3
    rw [cl_X1_addPairs_2]
    refine ca_iload_n hC 3 dX1_addPairs_2 rfl rfl (q := 3) rfl ?_
    refine ca_iload_n hC 2 dX1_addPairs_3 rfl rfl (q := 4) rfl ?_
    refine ca_icmp_ge hC dX1_addPairs_4 (t := 77) (q := 7) rfl rfl (fun h1 => ?_) (fun h2 => ?_)
    · exact ca_pick [] rfl (hK σ)
    · refine ca_iload_n hC 3 dX1_addPairs_7 rfl rfl (q := 8) rfl ?_
      refine ca_iconst hC (v := 1) dX1_addPairs_8 rfl (q := 9) rfl ?_
      refine ca_iadd hC dX1_addPairs_9 (q := 10) rfl ?_
      refine ca_istore hC (lv' := [(4, .int (x3 + 1)), (0, .ref (ca_a κ (16, 0, 0))), (1, .int x1), (2, .int x2), (3, .int x3)]) dX1_addPairs_10 (by decide) rfl (q := 12) rfl ?_
      refine ca_pick [1, 2, 3, 4, 0] rfl (ct_X1_addPairs_12 hC x1 x2 x3 ?_ ca_FU σ (x3 + 1))
      intro σ13
      refine ca_iinc hC 3 (v := (x3 + 1)) (lv' := [(3, .int (x3 + 1)), (0, .ref (ca_a κ (16, 0, 0))), (1, .int x1), (2, .int x2)]) dX1_addPairs_71 rfl rfl (by decide) rfl (q := 74) rfl ?_
      refine ca_goto hC dX1_addPairs_74 (q := 2) rfl ?_
      exact ca_pick [1, 2, 3, 0] rfl (ih σ13 (x3 + 1))
set_option maxRecDepth 100000 in
set_option maxHeartbeats 4000000 in
theorem ct_X1_addPairs {κ : ca_K} (hC : ca_C κ ca_cC cX1_addPairs 7 RX1 none 0 0) (σ : ca_S) (x1 : Int32) (x2 : Int32) : ca_T κ (ca_Zv κ) σ 0 [(0, .ref (ca_a κ (16, 0, 0))), (1, .int x1), (2, .int x2)] [] (cf_X1_addPairs σ x1 x2) := by
  unfold cf_X1_addPairs
  refine ca_iconst hC (v := 0) dX1_addPairs_0 rfl (q := 1) rfl ?_
  refine ca_istore_n hC (lv' := [(3, .int 0), (0, .ref (ca_a κ (16, 0, 0))), (1, .int x1), (2, .int x2)]) dX1_addPairs_1 rfl (by decide) rfl (q := 2) rfl ?_
  refine ca_pick [1, 2, 3, 0] rfl (ct_X1_addPairs_2 hC x1 x2 ?_ ca_FU σ 0)
  intro σ14
  exact ca_vret hC dX1_addPairs_77
theorem cm_X1_addPairs (Γ : ca_G) (l : Launch) (σ : ca_S) (x1 : Int32) (x2 : Int32) : ca_Mv Γ ca_cC l yX1_addPairs cX1_addPairs 7 none 0 0 [.ref (Γ.2.1 (16, 0, 0)), .int x1, .int x2] σ (cf_X1_addPairs σ x1 x2) :=
  ca_met (by decide) (Nat.le_of_ble_eq_true rfl) rfl (fun κ h1 h2 hC => by
    subst h1
    have h := ct_X1_addPairs hC σ x1 x2
    unfold ca_Zv at h
    rw [h2] at h
    exact h)
-- X1_countPairs
set_option maxRecDepth 100000 in
set_option maxHeartbeats 4000000 in
theorem ct_X1_countPairs_12 {κ : ca_K} (hC : ca_C κ ca_cC cX1_countPairs 6 RX1 none 1 26) (x2 : Int32) (x3 : Int32) (x4 : Int32) {K : ca_S → Option (ca_S)} (hK : ∀ (σ : ca_S), ca_T κ (ca_Zv κ) σ 35 [(0, .ref (ca_a κ (16, 0, 0))), (1, .ref (ca_a κ (1, 0, 0))), (2, .int x2), (3, .int x3), (4, .int x4)] [] (K σ)) : ∀ (n : Nat) (σ : ca_S) (x5 : Int32), ca_T κ (ca_Zv κ) σ 12 [(0, .ref (ca_a κ (16, 0, 0))), (1, .ref (ca_a κ (1, 0, 0))), (2, .int x2), (3, .int x3), (4, .int x4), (5, .int x5)] [] (cl_X1_countPairs_12 x2 x3 x4 K n σ x5) := by
  intro n
  induction n with
  | zero => intro σ x5; exact ca_no
  | succ n ih =>
    intro σ x5
    rw [cl_X1_countPairs_12]
    refine ca_iload hC 5 dX1_countPairs_12 rfl (q := 14) rfl ?_
    refine ca_iload_n hC 3 dX1_countPairs_14 rfl rfl (q := 15) rfl ?_
    refine ca_icmp_ge hC dX1_countPairs_15 (t := 35) (q := 18) rfl rfl (fun h3 => ?_) (fun h4 => ?_)
    · exact ca_pick [0, 1, 2, 3, 4] rfl (hK σ)
    · refine ca_aload_n hC 0 dX1_countPairs_18 rfl rfl (q := 19) rfl ?_
      refine cg_X1_13 hC  dX1_countPairs_19 (q := 22) rfl ?_
      refine ca_iload hC 4 dX1_countPairs_22 rfl (q := 24) rfl ?_
      refine ca_al17 hC  dX1_countPairs_24 (q := 25) rfl (fun h5 => ?_)
      refine ca_iload hC 5 dX1_countPairs_25 rfl (q := 27) rfl ?_
      refine ca_iconst hC (v := 0) dX1_countPairs_27 rfl (q := 28) rfl ?_
      refine ca_istQ hC (n := 5) (ca_m18 (ca_in_lt h5)) rfl rfl rfl dX1_countPairs_28 (q := 29) rfl (fun h6 => ?_)
      refine ca_let (fun σ7 _ => ?_)
      refine ca_iinc hC 5 (v := (x5 + 1)) (lv' := [(5, .int (x5 + 1)), (0, .ref (ca_a κ (16, 0, 0))), (1, .ref (ca_a κ (1, 0, 0))), (2, .int x2), (3, .int x3), (4, .int x4)]) dX1_countPairs_29 rfl rfl (by decide) rfl (q := 32) rfl ?_
      refine ca_goto hC dX1_countPairs_32 (q := 12) rfl ?_
      exact ca_pick [1, 2, 3, 4, 5, 0] rfl (ih σ7 (x5 + 1))
set_option maxRecDepth 100000 in
set_option maxHeartbeats 4000000 in
theorem ct_X1_countPairs_3 {κ : ca_K} (hC : ca_C κ ca_cC cX1_countPairs 6 RX1 none 1 26) (x2 : Int32) (x3 : Int32) {K : ca_S → Option (ca_S)} (hK : ∀ (σ : ca_S), ca_T κ (ca_Zv κ) σ 41 [(0, .ref (ca_a κ (16, 0, 0))), (1, .ref (ca_a κ (1, 0, 0))), (2, .int x2), (3, .int x3)] [] (K σ)) : ∀ (n : Nat) (σ : ca_S) (x4 : Int32), ca_T κ (ca_Zv κ) σ 3 [(0, .ref (ca_a κ (16, 0, 0))), (1, .ref (ca_a κ (1, 0, 0))), (2, .int x2), (3, .int x3), (4, .int x4)] [] (cl_X1_countPairs_3 x2 x3 K n σ x4) := by
  intro n
  induction n with
  | zero => intro σ x4; exact ca_no
  | succ n ih =>
    intro σ x4
    rw [cl_X1_countPairs_3]
    refine ca_iload hC 4 dX1_countPairs_3 rfl (q := 5) rfl ?_
    refine ca_iload_n hC 3 dX1_countPairs_5 rfl rfl (q := 6) rfl ?_
    refine ca_icmp_ge hC dX1_countPairs_6 (t := 41) (q := 9) rfl rfl (fun h1 => ?_) (fun h2 => ?_)
    · exact ca_pick [0, 1, 2, 3] rfl (hK σ)
    · refine ca_iconst hC (v := 0) dX1_countPairs_9 rfl (q := 10) rfl ?_
      refine ca_istore hC (lv' := [(5, .int 0), (0, .ref (ca_a κ (16, 0, 0))), (1, .ref (ca_a κ (1, 0, 0))), (2, .int x2), (3, .int x3), (4, .int x4)]) dX1_countPairs_10 (by decide) rfl (q := 12) rfl ?_
      refine ca_pick [1, 2, 3, 4, 5, 0] rfl (ct_X1_countPairs_12 hC x2 x3 x4 ?_ ca_FU σ 0)
      intro σ8
      refine ca_iinc hC 4 (v := (x4 + 1)) (lv' := [(4, .int (x4 + 1)), (0, .ref (ca_a κ (16, 0, 0))), (1, .ref (ca_a κ (1, 0, 0))), (2, .int x2), (3, .int x3)]) dX1_countPairs_35 rfl rfl (by decide) rfl (q := 38) rfl ?_
      refine ca_goto hC dX1_countPairs_38 (q := 3) rfl ?_
      exact ca_pick [1, 2, 3, 4, 0] rfl (ih σ8 (x4 + 1))
set_option maxRecDepth 100000 in
set_option maxHeartbeats 4000000 in
theorem ct_X1_countPairs_44 {κ : ca_K} (hC : ca_C κ ca_cC cX1_countPairs 6 RX1 none 1 26) (x2 : Int32) (x3 : Int32) {K : ca_S → Option (ca_S)} (hK : ∀ (σ : ca_S), ca_T κ (ca_Zv κ) σ 80 [] [] (K σ)) : ∀ (n : Nat) (σ : ca_S) (x4 : Int32), ca_T κ (ca_Zv κ) σ 44 [(0, .ref (ca_a κ (16, 0, 0))), (1, .ref (ca_a κ (1, 0, 0))), (2, .int x2), (3, .int x3), (4, .int x4)] [] (cl_X1_countPairs_44 x2 x3 K n σ x4) := by
  intro n
  induction n with
  | zero => intro σ x4; exact ca_no
  | succ n ih =>
    intro σ x4
    rw [cl_X1_countPairs_44]
    refine ca_iload hC 4 dX1_countPairs_44 rfl (q := 46) rfl ?_
    refine ca_iload_n hC 2 dX1_countPairs_46 rfl rfl (q := 47) rfl ?_
    refine ca_icmp_ge hC dX1_countPairs_47 (t := 80) (q := 50) rfl rfl (fun h10 => ?_) (fun h11 => ?_)
    · exact ca_pick [] rfl (hK σ)
    · refine ca_aload_n hC 1 dX1_countPairs_50 rfl rfl (q := 51) rfl ?_
      refine ca_iload hC 4 dX1_countPairs_51 rfl (q := 53) rfl ?_
      refine ca_al1 hC  dX1_countPairs_53 (q := 54) rfl (fun h12 => ?_)
      refine ca_callVr hC (rest := []) (cm_X0_countedAnswer κ.1 κ.2.2.2.1 σ (Int32.toNatClampNeg x4) (ca_in_lt h12)) ca_Y_X0_countedAnswer ca_L_X1_51 (ca_m2 (ca_in_lt h12)) rfl rfl rfl rfl (Nat.le_of_ble_eq_true rfl) ⟨Nat.le_of_ble_eq_true rfl, Nat.le_of_ble_eq_true rfl⟩ dX1_countPairs_54 (q := 57) rfl (fun r13 h15 => ?_)
      refine ca_bipush hC (v := (-4)) dX1_countPairs_57 rfl (q := 59) rfl ?_
      refine ca_icmp_eq hC dX1_countPairs_59 (t := 74) (q := 62) rfl rfl (fun h16 => ?_) (fun h17 => ?_)
      · refine ca_iinc hC 4 (v := (x4 + 1)) (lv' := [(4, .int (x4 + 1)), (0, .ref (ca_a κ (16, 0, 0))), (1, .ref (ca_a κ (1, 0, 0))), (2, .int x2), (3, .int x3)]) dX1_countPairs_74 rfl rfl (by decide) rfl (q := 77) rfl ?_
        refine ca_goto hC dX1_countPairs_77 (q := 44) rfl ?_
        exact ca_pick [1, 2, 3, 4, 0] rfl (ih σ (x4 + 1))
      · refine ca_aload_n hC 0 dX1_countPairs_62 rfl rfl (q := 63) rfl ?_
        refine ca_aload_n hC 1 dX1_countPairs_63 rfl rfl (q := 64) rfl ?_
        refine ca_iload hC 4 dX1_countPairs_64 rfl (q := 66) rfl ?_
        refine ca_al1 hC  dX1_countPairs_66 (q := 67) rfl (fun h18 => ?_)
        refine ca_callVr hC (rest := [.ref (ca_a κ (16, 0, 0))]) (cm_X0_countedAnswer κ.1 κ.2.2.2.1 σ (Int32.toNatClampNeg x4) (ca_in_lt h18)) ca_Y_X0_countedAnswer ca_L_X1_51 (ca_m2 (ca_in_lt h18)) rfl rfl rfl rfl (Nat.le_of_ble_eq_true rfl) ⟨Nat.le_of_ble_eq_true rfl, Nat.le_of_ble_eq_true rfl⟩ dX1_countPairs_67 (q := 70) rfl (fun r19 h21 => ?_)
        refine ca_iload_n hC 3 dX1_countPairs_70 rfl rfl (q := 71) rfl ?_
        refine ca_callVv hC (rest := []) (cm_X1_addPairs κ.1 κ.2.2.2.1 σ r19 x3) ca_Y_X1_addPairs ca_L_X1_57 ca_m16 rfl rfl rfl rfl (Nat.le_of_ble_eq_true rfl) ⟨Nat.le_of_ble_eq_true rfl, Nat.le_of_ble_eq_true rfl⟩ dX1_countPairs_71 (q := 74) rfl (fun σ23 h24 => ?_)
        refine ca_iinc hC 4 (v := (x4 + 1)) (lv' := [(4, .int (x4 + 1)), (0, .ref (ca_a κ (16, 0, 0))), (1, .ref (ca_a κ (1, 0, 0))), (2, .int x2), (3, .int x3)]) dX1_countPairs_74 rfl rfl (by decide) rfl (q := 77) rfl ?_
        refine ca_goto hC dX1_countPairs_77 (q := 44) rfl ?_
        exact ca_pick [1, 2, 3, 4, 0] rfl (ih σ23 (x4 + 1))
set_option maxRecDepth 100000 in
set_option maxHeartbeats 4000000 in
theorem ct_X1_countPairs {κ : ca_K} (hC : ca_C κ ca_cC cX1_countPairs 6 RX1 none 1 26) (σ : ca_S) (x2 : Int32) (x3 : Int32) : ca_T κ (ca_Zv κ) σ 0 [(0, .ref (ca_a κ (16, 0, 0))), (1, .ref (ca_a κ (1, 0, 0))), (2, .int x2), (3, .int x3)] [] (cf_X1_countPairs σ x2 x3) := by
  unfold cf_X1_countPairs
  refine ca_iconst hC (v := 0) dX1_countPairs_0 rfl (q := 1) rfl ?_
  refine ca_istore hC (lv' := [(4, .int 0), (0, .ref (ca_a κ (16, 0, 0))), (1, .ref (ca_a κ (1, 0, 0))), (2, .int x2), (3, .int x3)]) dX1_countPairs_1 (by decide) rfl (q := 3) rfl ?_
  refine ca_pick [1, 2, 3, 4, 0] rfl (ct_X1_countPairs_3 hC x2 x3 ?_ ca_FU σ 0)
  intro σ9
  refine ca_iconst hC (v := 0) dX1_countPairs_41 rfl (q := 42) rfl ?_
  refine ca_istore hC (lv' := [(4, .int 0), (0, .ref (ca_a κ (16, 0, 0))), (1, .ref (ca_a κ (1, 0, 0))), (2, .int x2), (3, .int x3)]) dX1_countPairs_42 (by decide) rfl (q := 44) rfl ?_
  refine ca_pick [1, 2, 3, 4, 0] rfl (ct_X1_countPairs_44 hC x2 x3 ?_ ca_FU σ9 0)
  intro σ25
  exact ca_vret hC dX1_countPairs_80
theorem cm_X1_countPairs (Γ : ca_G) (l : Launch) (σ : ca_S) (x2 : Int32) (x3 : Int32) : ca_Mv Γ ca_cC l yX1_countPairs cX1_countPairs 6 none 1 26 [.ref (Γ.2.1 (16, 0, 0)), .ref (Γ.2.1 (1, 0, 0)), .int x2, .int x3] σ (cf_X1_countPairs σ x2 x3) :=
  ca_met (by decide) (Nat.le_of_ble_eq_true rfl) rfl (fun κ h1 h2 hC => by
    subst h1
    have h := ct_X1_countPairs hC σ x2 x3
    unfold ca_Zv at h
    rw [h2] at h
    exact h)
-- X1_turnedPairs
set_option maxRecDepth 100000 in
set_option maxHeartbeats 4000000 in
theorem ct_X1_turnedPairs_14 {κ : ca_K} (hC : ca_C κ ca_cC cX1_turnedPairs 5 RX1 (some .int) 0 0) (σ : ca_S) (x1 : Int32) (x3 : Int32) {K : Int32 → Option (Int32)} (hK : ∀ (x2 : Int32), ca_T κ (ca_Zr κ σ) σ 48 [(0, .ref (ca_a κ (16, 0, 0))), (1, .int x1), (2, .int x2), (3, .int x3)] [] (K x2)) : ∀ (n : Nat) (x2 : Int32) (x4 : Int32), ca_T κ (ca_Zr κ σ) σ 14 [(0, .ref (ca_a κ (16, 0, 0))), (1, .int x1), (2, .int x2), (3, .int x3), (4, .int x4)] [] (cl_X1_turnedPairs_14 σ x1 x3 K n x2 x4) := by
  intro n
  induction n with
  | zero => intro x2 x4; exact ca_no
  | succ n ih =>
    intro x2 x4
    rw [cl_X1_turnedPairs_14]
    refine ca_iload hC 4 dX1_turnedPairs_14 rfl (q := 16) rfl ?_
    refine ca_iload_n hC 1 dX1_turnedPairs_16 rfl rfl (q := 17) rfl ?_
    refine ca_icmp_ge hC dX1_turnedPairs_17 (t := 48) (q := 20) rfl rfl (fun h3 => ?_) (fun h4 => ?_)
    · exact ca_pick [0, 1, 2, 3] rfl (hK x2)
    · refine ca_iload_n hC 2 dX1_turnedPairs_20 rfl rfl (q := 21) rfl ?_
      refine ca_aload_n hC 0 dX1_turnedPairs_21 rfl rfl (q := 22) rfl ?_
      refine cg_X1_13 hC  dX1_turnedPairs_22 (q := 25) rfl ?_
      refine ca_aload_n hC 0 dX1_turnedPairs_25 rfl rfl (q := 26) rfl ?_
      refine cg_X1_18 hC  dX1_turnedPairs_26 (q := 29) rfl ?_
      refine ca_iload hC 4 dX1_turnedPairs_29 rfl (q := 31) rfl ?_
      refine ca_ildQ hC (n := 5) ca_m19 rfl rfl rfl dX1_turnedPairs_31 (q := 32) rfl (fun h5 => ?_)
      refine ca_al17 hC  dX1_turnedPairs_32 (q := 33) rfl (fun h6 => ?_)
      refine ca_aload_n hC 0 dX1_turnedPairs_33 rfl rfl (q := 34) rfl ?_
      refine cg_X1_18 hC  dX1_turnedPairs_34 (q := 37) rfl ?_
      refine ca_iload_n hC 3 dX1_turnedPairs_37 rfl rfl (q := 38) rfl ?_
      refine ca_ildQ hC (n := 5) ca_m19 rfl rfl rfl dX1_turnedPairs_38 (q := 39) rfl (fun h7 => ?_)
      refine ca_ildQ hC (n := 5) (ca_m18 (ca_in_lt h6)) rfl rfl rfl dX1_turnedPairs_39 (q := 40) rfl (fun h8 => ?_)
      refine ca_iadd hC dX1_turnedPairs_40 (q := 41) rfl ?_
      refine ca_istore_n hC (lv' := [(2, .int (x2 + (σ.1 (18, (Int32.toNatClampNeg (σ.1 (19, 0, 0) (Int32.toNatClampNeg x4))), 0) (Int32.toNatClampNeg (σ.1 (19, 0, 0) (Int32.toNatClampNeg x3)))))), (0, .ref (ca_a κ (16, 0, 0))), (1, .int x1), (3, .int x3), (4, .int x4)]) dX1_turnedPairs_41 rfl (by decide) rfl (q := 42) rfl ?_
      refine ca_letv (P := fun v9 X => ca_T κ (ca_Zr κ σ) σ 42 [(2, .int v9), (0, .ref (ca_a κ (16, 0, 0))), (1, .int x1), (3, .int x3), (4, .int x4)] [] X) (x2 + (σ.1 (18, (Int32.toNatClampNeg (σ.1 (19, 0, 0) (Int32.toNatClampNeg x4))), 0) (Int32.toNatClampNeg (σ.1 (19, 0, 0) (Int32.toNatClampNeg x3))))) (fun v9 _ => ?_)
      refine ca_iinc hC 4 (v := (x4 + 1)) (lv' := [(4, .int (x4 + 1)), (2, .int v9), (0, .ref (ca_a κ (16, 0, 0))), (1, .int x1), (3, .int x3)]) dX1_turnedPairs_42 rfl rfl (by decide) rfl (q := 45) rfl ?_
      refine ca_goto hC dX1_turnedPairs_45 (q := 14) rfl ?_
      exact ca_pick [2, 3, 1, 4, 0] rfl (ih v9 (x4 + 1))
set_option maxRecDepth 100000 in
set_option maxHeartbeats 4000000 in
theorem ct_X1_turnedPairs_4 {κ : ca_K} (hC : ca_C κ ca_cC cX1_turnedPairs 5 RX1 (some .int) 0 0) (σ : ca_S) (x1 : Int32) {K : Int32 → Option (Int32)} (hK : ∀ (x2 : Int32), ca_T κ (ca_Zr κ σ) σ 54 [(2, .int x2)] [] (K x2)) : ∀ (n : Nat) (x2 : Int32) (x3 : Int32), ca_T κ (ca_Zr κ σ) σ 4 [(0, .ref (ca_a κ (16, 0, 0))), (1, .int x1), (2, .int x2), (3, .int x3)] [] (cl_X1_turnedPairs_4 σ x1 K n x2 x3) := by
  intro n
  induction n with
  | zero => intro x2 x3; exact ca_no
  | succ n ih =>
    intro x2 x3
    rw [cl_X1_turnedPairs_4]
    refine ca_iload_n hC 3 dX1_turnedPairs_4 rfl rfl (q := 5) rfl ?_
    refine ca_iload_n hC 1 dX1_turnedPairs_5 rfl rfl (q := 6) rfl ?_
    refine ca_icmp_ge hC dX1_turnedPairs_6 (t := 54) (q := 9) rfl rfl (fun h1 => ?_) (fun h2 => ?_)
    · exact ca_pick [2] rfl (hK x2)
    · refine ca_iload_n hC 3 dX1_turnedPairs_9 rfl rfl (q := 10) rfl ?_
      refine ca_iconst hC (v := 1) dX1_turnedPairs_10 rfl (q := 11) rfl ?_
      refine ca_iadd hC dX1_turnedPairs_11 (q := 12) rfl ?_
      refine ca_istore hC (lv' := [(4, .int (x3 + 1)), (0, .ref (ca_a κ (16, 0, 0))), (1, .int x1), (2, .int x2), (3, .int x3)]) dX1_turnedPairs_12 (by decide) rfl (q := 14) rfl ?_
      refine ca_pick [1, 2, 3, 4, 0] rfl (ct_X1_turnedPairs_14 hC σ x1 x3 ?_ ca_FU x2 (x3 + 1))
      intro x10
      refine ca_iinc hC 3 (v := (x3 + 1)) (lv' := [(3, .int (x3 + 1)), (0, .ref (ca_a κ (16, 0, 0))), (1, .int x1), (2, .int x10)]) dX1_turnedPairs_48 rfl rfl (by decide) rfl (q := 51) rfl ?_
      refine ca_goto hC dX1_turnedPairs_51 (q := 4) rfl ?_
      exact ca_pick [1, 2, 3, 0] rfl (ih x10 (x3 + 1))
set_option maxRecDepth 100000 in
set_option maxHeartbeats 4000000 in
theorem ct_X1_turnedPairs {κ : ca_K} (hC : ca_C κ ca_cC cX1_turnedPairs 5 RX1 (some .int) 0 0) (σ : ca_S) (x1 : Int32) : ca_T κ (ca_Zr κ σ) σ 0 [(0, .ref (ca_a κ (16, 0, 0))), (1, .int x1)] [] (cf_X1_turnedPairs σ x1) := by
  unfold cf_X1_turnedPairs
  refine ca_iconst hC (v := 0) dX1_turnedPairs_0 rfl (q := 1) rfl ?_
  refine ca_istore_n hC (lv' := [(2, .int 0), (0, .ref (ca_a κ (16, 0, 0))), (1, .int x1)]) dX1_turnedPairs_1 rfl (by decide) rfl (q := 2) rfl ?_
  refine ca_iconst hC (v := 0) dX1_turnedPairs_2 rfl (q := 3) rfl ?_
  refine ca_istore_n hC (lv' := [(3, .int 0), (2, .int 0), (0, .ref (ca_a κ (16, 0, 0))), (1, .int x1)]) dX1_turnedPairs_3 rfl (by decide) rfl (q := 4) rfl ?_
  refine ca_pick [2, 3, 1, 0] rfl (ct_X1_turnedPairs_4 hC σ x1 ?_ ca_FU 0 0)
  intro x11
  refine ca_iload_n hC 0 dX1_turnedPairs_54 rfl rfl (q := 55) rfl ?_
  exact ca_iretr hC dX1_turnedPairs_55 rfl
theorem cm_X1_turnedPairs (Γ : ca_G) (l : Launch) (σ : ca_S) (x1 : Int32) : ca_Mr Γ ca_cC l yX1_turnedPairs cX1_turnedPairs 5 (some .int) 0 0 [.ref (Γ.2.1 (16, 0, 0)), .int x1] σ (cf_X1_turnedPairs σ x1) :=
  ca_met (by decide) (Nat.le_of_ble_eq_true rfl) rfl (fun κ h1 h2 hC => by
    subst h1
    have h := ct_X1_turnedPairs hC σ x1
    unfold ca_Zr at h
    rw [h2] at h
    exact h)
-- X1_asAnswer
set_option maxRecDepth 100000 in
set_option maxHeartbeats 4000000 in
theorem ct_X1_asAnswer_4 {κ : ca_K} (hC : ca_C κ ca_cC cX1_asAnswer 4 RX1 (some .int) 0 0) (σ : ca_S) (x1 : Int32) {K : Int32 → Option (Int32)} (hK : ∀ (x2 : Int32), ca_T κ (ca_Zr κ σ) σ 28 [(2, .int x2)] [] (K x2)) : ∀ (n : Nat) (x2 : Int32) (x3 : Int32), ca_T κ (ca_Zr κ σ) σ 4 [(0, .ref (ca_a κ (16, 0, 0))), (1, .int x1), (2, .int x2), (3, .int x3)] [] (cl_X1_asAnswer_4 σ x1 K n x2 x3) := by
  intro n
  induction n with
  | zero => intro x2 x3; exact ca_no
  | succ n ih =>
    intro x2 x3
    rw [cl_X1_asAnswer_4]
    refine ca_iload_n hC 3 dX1_asAnswer_4 rfl rfl (q := 5) rfl ?_
    refine ca_iload_n hC 1 dX1_asAnswer_5 rfl rfl (q := 6) rfl ?_
    refine ca_icmp_ge hC dX1_asAnswer_6 (t := 28) (q := 9) rfl rfl (fun h1 => ?_) (fun h2 => ?_)
    · exact ca_pick [2] rfl (hK x2)
    · refine ca_iload_n hC 2 dX1_asAnswer_9 rfl rfl (q := 10) rfl ?_
      refine ca_aload_n hC 0 dX1_asAnswer_10 rfl rfl (q := 11) rfl ?_
      refine cg_X1_18 hC  dX1_asAnswer_11 (q := 14) rfl ?_
      refine ca_iload_n hC 3 dX1_asAnswer_14 rfl rfl (q := 15) rfl ?_
      refine ca_ildQ hC (n := 5) ca_m19 rfl rfl rfl dX1_asAnswer_15 (q := 16) rfl (fun h3 => ?_)
      refine ca_iconst hC (v := 3) dX1_asAnswer_16 rfl (q := 17) rfl ?_
      refine ca_iload_n hC 3 dX1_asAnswer_17 rfl rfl (q := 18) rfl ?_
      refine ca_imul hC dX1_asAnswer_18 (q := 19) rfl ?_
      refine ca_ishl hC dX1_asAnswer_19 (q := 20) rfl ?_
      refine ca_ior hC dX1_asAnswer_20 (q := 21) rfl ?_
      refine ca_istore_n hC (lv' := [(2, .int (x2 ||| ((σ.1 (19, 0, 0) (Int32.toNatClampNeg x3)) <<< ((3 * x3) &&& 31)))), (0, .ref (ca_a κ (16, 0, 0))), (1, .int x1), (3, .int x3)]) dX1_asAnswer_21 rfl (by decide) rfl (q := 22) rfl ?_
      refine ca_letv (P := fun v4 X => ca_T κ (ca_Zr κ σ) σ 22 [(2, .int v4), (0, .ref (ca_a κ (16, 0, 0))), (1, .int x1), (3, .int x3)] [] X) (x2 ||| ((σ.1 (19, 0, 0) (Int32.toNatClampNeg x3)) <<< ((3 * x3) &&& 31))) (fun v4 _ => ?_)
      refine ca_iinc hC 3 (v := (x3 + 1)) (lv' := [(3, .int (x3 + 1)), (2, .int v4), (0, .ref (ca_a κ (16, 0, 0))), (1, .int x1)]) dX1_asAnswer_22 rfl rfl (by decide) rfl (q := 25) rfl ?_
      refine ca_goto hC dX1_asAnswer_25 (q := 4) rfl ?_
      exact ca_pick [2, 3, 1, 0] rfl (ih v4 (x3 + 1))
set_option maxRecDepth 100000 in
set_option maxHeartbeats 4000000 in
theorem ct_X1_asAnswer {κ : ca_K} (hC : ca_C κ ca_cC cX1_asAnswer 4 RX1 (some .int) 0 0) (σ : ca_S) (x1 : Int32) : ca_T κ (ca_Zr κ σ) σ 0 [(0, .ref (ca_a κ (16, 0, 0))), (1, .int x1)] [] (cf_X1_asAnswer σ x1) := by
  unfold cf_X1_asAnswer
  refine ca_iconst hC (v := 0) dX1_asAnswer_0 rfl (q := 1) rfl ?_
  refine ca_istore_n hC (lv' := [(2, .int 0), (0, .ref (ca_a κ (16, 0, 0))), (1, .int x1)]) dX1_asAnswer_1 rfl (by decide) rfl (q := 2) rfl ?_
  refine ca_iconst hC (v := 0) dX1_asAnswer_2 rfl (q := 3) rfl ?_
  refine ca_istore_n hC (lv' := [(3, .int 0), (2, .int 0), (0, .ref (ca_a κ (16, 0, 0))), (1, .int x1)]) dX1_asAnswer_3 rfl (by decide) rfl (q := 4) rfl ?_
  refine ca_pick [2, 3, 1, 0] rfl (ct_X1_asAnswer_4 hC σ x1 ?_ ca_FU 0 0)
  intro x5
  refine ca_iload_n hC 0 dX1_asAnswer_28 rfl rfl (q := 29) rfl ?_
  exact ca_iretr hC dX1_asAnswer_29 rfl
theorem cm_X1_asAnswer (Γ : ca_G) (l : Launch) (σ : ca_S) (x1 : Int32) : ca_Mr Γ ca_cC l yX1_asAnswer cX1_asAnswer 4 (some .int) 0 0 [.ref (Γ.2.1 (16, 0, 0)), .int x1] σ (cf_X1_asAnswer σ x1) :=
  ca_met (by decide) (Nat.le_of_ble_eq_true rfl) rfl (fun κ h1 h2 hC => by
    subst h1
    have h := ct_X1_asAnswer hC σ x1
    unfold ca_Zr at h
    rw [h2] at h
    exact h)
-- X1_swap
set_option maxRecDepth 100000 in
set_option maxHeartbeats 4000000 in
theorem ct_X1_swap {κ : ca_K} (hC : ca_C κ ca_cC cX1_swap 4 RX1 none 0 0) (σ : ca_S) (x1 : Int32) (x2 : Int32) : ca_T κ (ca_Zv κ) σ 0 [(0, .ref (ca_a κ (16, 0, 0))), (1, .int x1), (2, .int x2)] [] (cf_X1_swap σ x1 x2) := by
  unfold cf_X1_swap
  refine ca_aload_n hC 0 dX1_swap_0 rfl rfl (q := 1) rfl ?_
  refine cg_X1_18 hC  dX1_swap_1 (q := 4) rfl ?_
  refine ca_iload_n hC 1 dX1_swap_4 rfl rfl (q := 5) rfl ?_
  refine ca_ildQ hC (n := 5) ca_m19 rfl rfl rfl dX1_swap_5 (q := 6) rfl (fun h1 => ?_)
  refine ca_istore_n hC (lv' := [(3, .int (σ.1 (19, 0, 0) (Int32.toNatClampNeg x1))), (0, .ref (ca_a κ (16, 0, 0))), (1, .int x1), (2, .int x2)]) dX1_swap_6 rfl (by decide) rfl (q := 7) rfl ?_
  refine ca_letv (P := fun v2 X => ca_T κ (ca_Zv κ) σ 7 [(3, .int v2), (0, .ref (ca_a κ (16, 0, 0))), (1, .int x1), (2, .int x2)] [] X) (σ.1 (19, 0, 0) (Int32.toNatClampNeg x1)) (fun v2 _ => ?_)
  refine ca_aload_n hC 1 dX1_swap_7 rfl rfl (q := 8) rfl ?_
  refine cg_X1_18 hC  dX1_swap_8 (q := 11) rfl ?_
  refine ca_iload_n hC 2 dX1_swap_11 rfl rfl (q := 12) rfl ?_
  refine ca_aload_n hC 1 dX1_swap_12 rfl rfl (q := 13) rfl ?_
  refine cg_X1_18 hC  dX1_swap_13 (q := 16) rfl ?_
  refine ca_iload_n hC 3 dX1_swap_16 rfl rfl (q := 17) rfl ?_
  refine ca_ildQ hC (n := 5) ca_m19 rfl rfl rfl dX1_swap_17 (q := 18) rfl (fun h3 => ?_)
  refine ca_istQ hC (n := 5) ca_m19 rfl rfl rfl dX1_swap_18 (q := 19) rfl (fun h4 => ?_)
  refine ca_let (fun σ5 _ => ?_)
  refine ca_aload_n hC 1 dX1_swap_19 rfl rfl (q := 20) rfl ?_
  refine cg_X1_18 hC  dX1_swap_20 (q := 23) rfl ?_
  refine ca_iload_n hC 3 dX1_swap_23 rfl rfl (q := 24) rfl ?_
  refine ca_iload_n hC 0 dX1_swap_24 rfl rfl (q := 25) rfl ?_
  refine ca_istQ hC (n := 5) ca_m19 rfl rfl rfl dX1_swap_25 (q := 26) rfl (fun h6 => ?_)
  refine ca_let (fun σ7 _ => ?_)
  exact ca_vret hC dX1_swap_26
theorem cm_X1_swap (Γ : ca_G) (l : Launch) (σ : ca_S) (x1 : Int32) (x2 : Int32) : ca_Mv Γ ca_cC l yX1_swap cX1_swap 4 none 0 0 [.ref (Γ.2.1 (16, 0, 0)), .int x1, .int x2] σ (cf_X1_swap σ x1 x2) :=
  ca_met (by decide) (Nat.le_of_ble_eq_true rfl) rfl (fun κ h1 h2 hC => by
    subst h1
    have h := ct_X1_swap hC σ x1 x2
    unfold ca_Zv at h
    rw [h2] at h
    exact h)
-- X1_layOutNext
set_option maxRecDepth 100000 in
set_option maxHeartbeats 4000000 in
theorem ct_X1_layOutNext_4 {κ : ca_K} (hC : ca_C κ ca_cC cX1_layOutNext 6 RX1 (some .boolean) 1 23) (σ : ca_S) (x1 : Int32) {K : Int32 → Option (Int32 × ca_S)} (hK : ∀ (x2 : Int32), ca_T κ (ca_Zi κ) σ 31 [(0, .ref (ca_a κ (16, 0, 0))), (1, .int x1), (2, .int x2)] [] (K x2)) : ∀ (n : Nat) (x2 : Int32), ca_T κ (ca_Zi κ) σ 4 [(0, .ref (ca_a κ (16, 0, 0))), (1, .int x1), (2, .int x2)] [] (cl_X1_layOutNext_4 σ x1 K n x2) := by
  intro n
  induction n with
  | zero => intro x2; exact ca_no
  | succ n ih =>
    intro x2
    rw [cl_X1_layOutNext_4]
    refine ca_iload_n hC 2 dX1_layOutNext_4 rfl rfl (q := 5) rfl ?_
    refine ca_if_lt hC dX1_layOutNext_5 (t := 31) (q := 8) rfl rfl (fun h1 => ?_) (fun h2 => ?_)
    · exact ca_pick [0, 1, 2] rfl (hK x2)
    · refine ca_aload_n hC 0 dX1_layOutNext_8 rfl rfl (q := 9) rfl ?_
      refine cg_X1_18 hC  dX1_layOutNext_9 (q := 12) rfl ?_
      refine ca_iload_n hC 2 dX1_layOutNext_12 rfl rfl (q := 13) rfl ?_
      refine ca_ildQ hC (n := 5) ca_m19 rfl rfl rfl dX1_layOutNext_13 (q := 14) rfl (fun h3 => ?_)
      refine ca_aload_n hC 0 dX1_layOutNext_14 rfl rfl (q := 15) rfl ?_
      refine cg_X1_18 hC  dX1_layOutNext_15 (q := 18) rfl ?_
      refine ca_iload_n hC 2 dX1_layOutNext_18 rfl rfl (q := 19) rfl ?_
      refine ca_iconst hC (v := 1) dX1_layOutNext_19 rfl (q := 20) rfl ?_
      refine ca_iadd hC dX1_layOutNext_20 (q := 21) rfl ?_
      refine ca_ildQ hC (n := 5) ca_m19 rfl rfl rfl dX1_layOutNext_21 (q := 22) rfl (fun h4 => ?_)
      refine ca_icmp_le hC dX1_layOutNext_22 (t := 31) (q := 25) rfl rfl (fun h5 => ?_) (fun h6 => ?_)
      · exact ca_pick [0, 1, 2] rfl (hK x2)
      · refine ca_iinc hC 2 (v := (x2 + (-1))) (lv' := [(2, .int (x2 + (-1))), (0, .ref (ca_a κ (16, 0, 0))), (1, .int x1)]) dX1_layOutNext_25 rfl rfl (by decide) rfl (q := 28) rfl ?_
        refine ca_goto hC dX1_layOutNext_28 (q := 4) rfl ?_
        exact ca_pick [1, 2, 0] rfl (ih (x2 + (-1)))
set_option maxRecDepth 100000 in
set_option maxHeartbeats 4000000 in
theorem ct_X1_layOutNext_41 {κ : ca_K} (hC : ca_C κ ca_cC cX1_layOutNext 6 RX1 (some .boolean) 1 23) (σ : ca_S) (x1 : Int32) (x2 : Int32) {K : Int32 → Option (Int32 × ca_S)} (hK : ∀ (x3 : Int32), ca_T κ (ca_Zi κ) σ 69 [(0, .ref (ca_a κ (16, 0, 0))), (1, .int x1), (2, .int x2), (3, .int x3)] [] (K x3)) : ∀ (n : Nat) (x3 : Int32), ca_T κ (ca_Zi κ) σ 41 [(0, .ref (ca_a κ (16, 0, 0))), (1, .int x1), (2, .int x2), (3, .int x3)] [] (cl_X1_layOutNext_41 σ x1 x2 K n x3) := by
  intro n
  induction n with
  | zero => intro x3; exact ca_no
  | succ n ih =>
    intro x3
    rw [cl_X1_layOutNext_41]
    refine ca_iload_n hC 3 dX1_layOutNext_41 rfl rfl (q := 42) rfl ?_
    refine ca_iload_n hC 2 dX1_layOutNext_42 rfl rfl (q := 43) rfl ?_
    refine ca_iconst hC (v := 1) dX1_layOutNext_43 rfl (q := 44) rfl ?_
    refine ca_iadd hC dX1_layOutNext_44 (q := 45) rfl ?_
    refine ca_icmp_le hC dX1_layOutNext_45 (t := 69) (q := 48) rfl rfl (fun h10 => ?_) (fun h11 => ?_)
    · exact ca_pick [0, 1, 2, 3] rfl (hK x3)
    · refine ca_aload_n hC 0 dX1_layOutNext_48 rfl rfl (q := 49) rfl ?_
      refine cg_X1_18 hC  dX1_layOutNext_49 (q := 52) rfl ?_
      refine ca_iload_n hC 3 dX1_layOutNext_52 rfl rfl (q := 53) rfl ?_
      refine ca_ildQ hC (n := 5) ca_m19 rfl rfl rfl dX1_layOutNext_53 (q := 54) rfl (fun h12 => ?_)
      refine ca_aload_n hC 0 dX1_layOutNext_54 rfl rfl (q := 55) rfl ?_
      refine cg_X1_18 hC  dX1_layOutNext_55 (q := 58) rfl ?_
      refine ca_iload_n hC 2 dX1_layOutNext_58 rfl rfl (q := 59) rfl ?_
      refine ca_ildQ hC (n := 5) ca_m19 rfl rfl rfl dX1_layOutNext_59 (q := 60) rfl (fun h13 => ?_)
      refine ca_icmp_ge hC dX1_layOutNext_60 (t := 69) (q := 63) rfl rfl (fun h14 => ?_) (fun h15 => ?_)
      · exact ca_pick [0, 1, 2, 3] rfl (hK x3)
      · refine ca_iinc hC 3 (v := (x3 + (-1))) (lv' := [(3, .int (x3 + (-1))), (0, .ref (ca_a κ (16, 0, 0))), (1, .int x1), (2, .int x2)]) dX1_layOutNext_63 rfl rfl (by decide) rfl (q := 66) rfl ?_
        refine ca_goto hC dX1_layOutNext_66 (q := 41) rfl ?_
        exact ca_pick [1, 2, 3, 0] rfl (ih (x3 + (-1)))
set_option maxRecDepth 100000 in
set_option maxHeartbeats 4000000 in
theorem ct_X1_layOutNext_85 {κ : ca_K} (hC : ca_C κ ca_cC cX1_layOutNext 6 RX1 (some .boolean) 1 23) {K : ca_S → Option (Int32 × ca_S)} (hK : ∀ (σ : ca_S), ca_T κ (ca_Zi κ) σ 109 [] [] (K σ)) : ∀ (n : Nat) (σ : ca_S) (x4 : Int32) (x5 : Int32), ca_T κ (ca_Zi κ) σ 85 [(0, .ref (ca_a κ (16, 0, 0))), (4, .int x4), (5, .int x5)] [] (cl_X1_layOutNext_85 K n σ x4 x5) := by
  intro n
  induction n with
  | zero => intro σ x4 x5; exact ca_no
  | succ n ih =>
    intro σ x4 x5
    rw [cl_X1_layOutNext_85]
    refine ca_iload hC 2 dX1_layOutNext_85 rfl (q := 87) rfl ?_
    refine ca_iload hC 1 dX1_layOutNext_87 rfl (q := 89) rfl ?_
    refine ca_icmp_ge hC dX1_layOutNext_89 (t := 109) (q := 92) rfl rfl (fun h20 => ?_) (fun h21 => ?_)
    · exact ca_pick [] rfl (hK σ)
    · refine ca_aload_n hC 0 dX1_layOutNext_92 rfl rfl (q := 93) rfl ?_
      refine ca_iload hC 2 dX1_layOutNext_93 rfl (q := 95) rfl ?_
      refine ca_iload hC 1 dX1_layOutNext_95 rfl (q := 97) rfl ?_
      refine ca_callVv hC (rest := []) (cm_X1_swap κ.1 κ.2.2.2.1 σ x5 x4) ca_Y_X1_swap ca_L_X1_61 ca_m16 rfl rfl rfl rfl (Nat.le_of_ble_eq_true rfl) ⟨Nat.le_of_ble_eq_true rfl, Nat.le_of_ble_eq_true rfl⟩ dX1_layOutNext_97 (q := 100) rfl (fun σ23 h24 => ?_)
      refine ca_iinc hC 1 (v := (x4 + (-1))) (lv' := [(4, .int (x4 + (-1))), (0, .ref (ca_a κ (16, 0, 0))), (5, .int x5)]) dX1_layOutNext_100 rfl rfl (by decide) rfl (q := 103) rfl ?_
      refine ca_iinc hC 2 (v := (x5 + 1)) (lv' := [(5, .int (x5 + 1)), (4, .int (x4 + (-1))), (0, .ref (ca_a κ (16, 0, 0)))]) dX1_layOutNext_103 rfl rfl (by decide) rfl (q := 106) rfl ?_
      refine ca_goto hC dX1_layOutNext_106 (q := 85) rfl ?_
      exact ca_pick [2, 1, 0] rfl (ih σ23 (x4 + (-1)) (x5 + 1))
set_option maxRecDepth 100000 in
set_option maxHeartbeats 4000000 in
theorem ct_X1_layOutNext_69 {κ : ca_K} (hC : ca_C κ ca_cC cX1_layOutNext 6 RX1 (some .boolean) 1 23) (σ : ca_S) (x1 : Int32) (x2 : Int32) (x3 : Int32) : ca_T κ (ca_Zi κ) σ 69 [(0, .ref (ca_a κ (16, 0, 0))), (1, .int x1), (2, .int x2), (3, .int x3)] [] (cj_X1_layOutNext_69 σ x1 x2 x3) := by
  unfold cj_X1_layOutNext_69
  refine ca_aload_n hC 0 dX1_layOutNext_69 rfl rfl (q := 70) rfl ?_
  refine ca_iload_n hC 2 dX1_layOutNext_70 rfl rfl (q := 71) rfl ?_
  refine ca_iload_n hC 3 dX1_layOutNext_71 rfl rfl (q := 72) rfl ?_
  refine ca_callVv hC (rest := []) (cm_X1_swap κ.1 κ.2.2.2.1 σ x2 x3) ca_Y_X1_swap ca_L_X1_61 ca_m16 rfl rfl rfl rfl (Nat.le_of_ble_eq_true rfl) ⟨Nat.le_of_ble_eq_true rfl, Nat.le_of_ble_eq_true rfl⟩ dX1_layOutNext_72 (q := 75) rfl (fun σ18 h19 => ?_)
  refine ca_iload_n hC 1 dX1_layOutNext_75 rfl rfl (q := 76) rfl ?_
  refine ca_iconst hC (v := 1) dX1_layOutNext_76 rfl (q := 77) rfl ?_
  refine ca_isub hC dX1_layOutNext_77 (q := 78) rfl ?_
  refine ca_istore hC (lv' := [(4, .int (x1 - 1)), (0, .ref (ca_a κ (16, 0, 0))), (1, .int x1), (2, .int x2), (3, .int x3)]) dX1_layOutNext_78 (by decide) rfl (q := 80) rfl ?_
  refine ca_pick [0, 1, 3] (lv' := [(4, .int (x1 - 1)), (0, .ref (ca_a κ (16, 0, 0))), (2, .int x2)]) rfl ?_
  refine ca_iload_n hC 2 dX1_layOutNext_80 rfl rfl (q := 81) rfl ?_
  refine ca_iconst hC (v := 1) dX1_layOutNext_81 rfl (q := 82) rfl ?_
  refine ca_iadd hC dX1_layOutNext_82 (q := 83) rfl ?_
  refine ca_istore hC (lv' := [(5, .int (x2 + 1)), (4, .int (x1 - 1)), (0, .ref (ca_a κ (16, 0, 0))), (2, .int x2)]) dX1_layOutNext_83 (by decide) rfl (q := 85) rfl ?_
  refine ca_pick [0, 1, 2] (lv' := [(5, .int (x2 + 1)), (4, .int (x1 - 1)), (0, .ref (ca_a κ (16, 0, 0)))]) rfl ?_
  refine ca_pick [2, 1, 0] rfl (ct_X1_layOutNext_85 hC  ?_ ca_FU σ18 (x1 - 1) (x2 + 1))
  intro σ25
  refine ca_iconst hC (v := 1) dX1_layOutNext_109 rfl (q := 110) rfl ?_
  exact ca_ireti hC dX1_layOutNext_110 rfl
set_option maxRecDepth 100000 in
set_option maxHeartbeats 4000000 in
theorem ct_X1_layOutNext_31 {κ : ca_K} (hC : ca_C κ ca_cC cX1_layOutNext 6 RX1 (some .boolean) 1 23) (σ : ca_S) (x1 : Int32) (x2 : Int32) : ca_T κ (ca_Zi κ) σ 31 [(0, .ref (ca_a κ (16, 0, 0))), (1, .int x1), (2, .int x2)] [] (cj_X1_layOutNext_31 σ x1 x2) := by
  unfold cj_X1_layOutNext_31
  refine ca_iload_n hC 2 dX1_layOutNext_31 rfl rfl (q := 32) rfl ?_
  refine ca_if_ge hC dX1_layOutNext_32 (t := 37) (q := 35) rfl rfl (fun h8 => ?_) (fun h9 => ?_)
  · refine ca_iload_n hC 1 dX1_layOutNext_37 rfl rfl (q := 38) rfl ?_
    refine ca_iconst hC (v := 1) dX1_layOutNext_38 rfl (q := 39) rfl ?_
    refine ca_isub hC dX1_layOutNext_39 (q := 40) rfl ?_
    refine ca_istore_n hC (lv' := [(3, .int (x1 - 1)), (0, .ref (ca_a κ (16, 0, 0))), (1, .int x1), (2, .int x2)]) dX1_layOutNext_40 rfl (by decide) rfl (q := 41) rfl ?_
    refine ca_pick [1, 2, 3, 0] rfl (ct_X1_layOutNext_41 hC σ x1 x2 ?_ ca_FU (x1 - 1))
    intro x16
    exact ca_pick [0, 1, 2, 3] rfl (ct_X1_layOutNext_69 hC σ x1 x2 x16)
  · refine ca_iconst hC (v := 0) dX1_layOutNext_35 rfl (q := 36) rfl ?_
    exact ca_ireti hC dX1_layOutNext_36 rfl
set_option maxRecDepth 100000 in
set_option maxHeartbeats 4000000 in
theorem ct_X1_layOutNext {κ : ca_K} (hC : ca_C κ ca_cC cX1_layOutNext 6 RX1 (some .boolean) 1 23) (σ : ca_S) (x1 : Int32) : ca_T κ (ca_Zi κ) σ 0 [(0, .ref (ca_a κ (16, 0, 0))), (1, .int x1)] [] (cf_X1_layOutNext σ x1) := by
  unfold cf_X1_layOutNext
  refine ca_iload_n hC 1 dX1_layOutNext_0 rfl rfl (q := 1) rfl ?_
  refine ca_iconst hC (v := 2) dX1_layOutNext_1 rfl (q := 2) rfl ?_
  refine ca_isub hC dX1_layOutNext_2 (q := 3) rfl ?_
  refine ca_istore_n hC (lv' := [(2, .int (x1 - 2)), (0, .ref (ca_a κ (16, 0, 0))), (1, .int x1)]) dX1_layOutNext_3 rfl (by decide) rfl (q := 4) rfl ?_
  refine ca_pick [1, 2, 0] rfl (ct_X1_layOutNext_4 hC σ x1 ?_ ca_FU (x1 - 2))
  intro x7
  exact ca_pick [0, 1, 2] rfl (ct_X1_layOutNext_31 hC σ x1 x7)
theorem cm_X1_layOutNext (Γ : ca_G) (l : Launch) (σ : ca_S) (x1 : Int32) : ca_Mi Γ ca_cC l yX1_layOutNext cX1_layOutNext 6 (some .boolean) 1 23 [.ref (Γ.2.1 (16, 0, 0)), .int x1] σ (cf_X1_layOutNext σ x1) :=
  ca_met (by decide) (Nat.le_of_ble_eq_true rfl) rfl (fun κ h1 h2 hC => by
    subst h1
    have h := ct_X1_layOutNext hC σ x1
    unfold ca_Zi at h
    rw [h2] at h
    exact h)
-- X1_join
set_option maxRecDepth 100000 in
set_option maxHeartbeats 4000000 in
theorem ct_X1_join_26 {κ : ca_K} (hC : ca_C κ ca_cC cX1_join 7 RX1 none 2 51) (x3 : Int32) {K : ca_S → Option (ca_S)} (hK : ∀ (σ : ca_S), ca_T κ (ca_Zv κ) σ 47 [(0, .ref (ca_a κ (16, 0, 0))), (3, .int x3)] [] (K σ)) : ∀ (n : Nat) (σ : ca_S) (x4 : Int32), ca_T κ (ca_Zv κ) σ 26 [(0, .ref (ca_a κ (16, 0, 0))), (3, .int x3), (4, .int x4)] [] (cl_X1_join_26 x3 K n σ x4) := by
  intro n
  induction n with
  | zero => intro σ x4; exact ca_no
  | succ n ih =>
    intro σ x4
    rw [cl_X1_join_26]
    refine ca_iload hC 2 dX1_join_26 rfl (q := 28) rfl ?_
    refine ca_iload_n hC 1 dX1_join_28 rfl rfl (q := 29) rfl ?_
    refine ca_icmp_ge hC dX1_join_29 (t := 47) (q := 32) rfl rfl (fun h10 => ?_) (fun h11 => ?_)
    · exact ca_pick [0, 1] rfl (hK σ)
    · refine ca_aload_n hC 0 dX1_join_32 rfl rfl (q := 33) rfl ?_
      refine cg_X1_18 hC  dX1_join_33 (q := 36) rfl ?_
      refine ca_iload hC 2 dX1_join_36 rfl (q := 38) rfl ?_
      refine ca_iload hC 2 dX1_join_38 rfl (q := 40) rfl ?_
      refine ca_istQ hC (n := 5) ca_m19 rfl rfl rfl dX1_join_40 (q := 41) rfl (fun h12 => ?_)
      refine ca_let (fun σ13 _ => ?_)
      refine ca_iinc hC 2 (v := (x4 + 1)) (lv' := [(4, .int (x4 + 1)), (0, .ref (ca_a κ (16, 0, 0))), (3, .int x3)]) dX1_join_41 rfl rfl (by decide) rfl (q := 44) rfl ?_
      refine ca_goto hC dX1_join_44 (q := 26) rfl ?_
      exact ca_pick [1, 2, 0] rfl (ih σ13 (x4 + 1))
set_option maxRecDepth 100000 in
set_option maxHeartbeats 4000000 in
theorem ct_X1_join_53 {κ : ca_K} (hC : ca_C κ ca_cC cX1_join 7 RX1 none 2 51) (x3 : Int32) {K : ca_S → Option (ca_S)} (hK : ∀ (σ : ca_S), ca_T κ (ca_Zv κ) σ 109 [] [] (K σ)) : ∀ (n : Nat) (σ : ca_S) (x4 : Int32) (x5 : Int32), ca_T κ (ca_Zv κ) σ 53 [(0, .ref (ca_a κ (16, 0, 0))), (3, .int x3), (4, .int x4), (5, .int x5)] [] (cl_X1_join_53 x3 K n σ x4 x5) := by
  intro n
  induction n with
  | zero => intro σ x4 x5; exact ca_no
  | succ n ih =>
    intro σ x4 x5
    rw [cl_X1_join_53]
    refine ca_iload hC 2 dX1_join_53 rfl (q := 55) rfl ?_
    refine ca_if_eq hC dX1_join_55 (t := 109) (q := 58) rfl rfl (fun h15 => ?_) (fun h16 => ?_)
    · exact ca_pick [] rfl (hK σ)
    · refine ca_iload hC 3 dX1_join_58 rfl (q := 60) rfl ?_
      refine ca_bipush hC (v := 120) dX1_join_60 rfl (q := 62) rfl ?_
      refine ca_icmp_ge hC dX1_join_62 (t := 109) (q := 65) rfl rfl (fun h17 => ?_) (fun h18 => ?_)
      · exact ca_pick [] rfl (hK σ)
      · refine ca_aload_n hC 0 dX1_join_65 rfl rfl (q := 66) rfl ?_
        refine ca_iload_n hC 1 dX1_join_66 rfl rfl (q := 67) rfl ?_
        refine ca_callVr hC (rest := []) (cm_X1_turnedPairs κ.1 κ.2.2.2.1 σ x3) ca_Y_X1_turnedPairs ca_L_X1_37 ca_m16 rfl rfl rfl rfl (Nat.le_of_ble_eq_true rfl) ⟨Nat.le_of_ble_eq_true rfl, Nat.le_of_ble_eq_true rfl⟩ dX1_join_67 (q := 70) rfl (fun r19 h21 => ?_)
        refine ca_istore hC (lv' := [(6, .int r19), (0, .ref (ca_a κ (16, 0, 0))), (3, .int x3), (4, .int x4), (5, .int x5)]) dX1_join_70 (by decide) rfl (q := 72) rfl ?_
        refine ca_pick [0, 1, 2, 4] (lv' := [(6, .int r19), (0, .ref (ca_a κ (16, 0, 0))), (3, .int x3), (5, .int x5)]) rfl ?_
        refine ca_iload hC 0 dX1_join_72 rfl (q := 74) rfl ?_
        refine ca_aload_n hC 1 dX1_join_74 rfl rfl (q := 75) rfl ?_
        refine cg_X1_33 hC  dX1_join_75 (q := 78) rfl ?_
        refine ca_icmp_ge hC dX1_join_78 (t := 96) (q := 81) rfl rfl (fun h22 => ?_) (fun h23 => ?_)
        · refine ca_aload_n hC 1 dX1_join_96 rfl rfl (q := 97) rfl ?_
          refine ca_iload_n hC 2 dX1_join_97 rfl rfl (q := 98) rfl ?_
          refine ca_callVi hC (rest := []) (cm_X1_layOutNext κ.1 κ.2.2.2.1 σ x3) ca_Y_X1_layOutNext ca_L_X1_47 ca_m16 rfl rfl rfl rfl (Nat.le_of_ble_eq_true rfl) ⟨Nat.le_of_ble_eq_true rfl, Nat.le_of_ble_eq_true rfl⟩ dX1_join_98 (q := 101) rfl (fun r24 σ25 h26 => ?_)
          refine ca_istore hC (lv' := [(4, .int r24), (6, .int r19), (0, .ref (ca_a κ (16, 0, 0))), (3, .int x3), (5, .int x5)]) dX1_join_101 (by decide) rfl (q := 103) rfl ?_
          refine ca_pick [0, 2, 3, 4] (lv' := [(4, .int r24), (0, .ref (ca_a κ (16, 0, 0))), (3, .int x3), (5, .int x5)]) rfl ?_
          refine ca_iinc hC 3 (v := (x5 + 1)) (lv' := [(5, .int (x5 + 1)), (4, .int r24), (0, .ref (ca_a κ (16, 0, 0))), (3, .int x3)]) dX1_join_103 rfl rfl (by decide) rfl (q := 106) rfl ?_
          refine ca_goto hC dX1_join_106 (q := 53) rfl ?_
          exact ca_pick [2, 3, 1, 0] rfl (ih σ25 r24 (x5 + 1))
        · refine ca_aload_n hC 1 dX1_join_81 rfl rfl (q := 82) rfl ?_
          refine ca_iload hC 0 dX1_join_82 rfl (q := 84) rfl ?_
          refine cp_X1_33 hC  dX1_join_84 (q := 87) rfl ?_
          refine ca_let (fun σ27 _ => ?_)
          refine ca_aload_n hC 1 dX1_join_87 rfl rfl (q := 88) rfl ?_
          refine ca_aload_n hC 1 dX1_join_88 rfl rfl (q := 89) rfl ?_
          refine ca_iload_n hC 2 dX1_join_89 rfl rfl (q := 90) rfl ?_
          refine ca_callVr hC (rest := [.ref (ca_a κ (16, 0, 0))]) (cm_X1_asAnswer κ.1 κ.2.2.2.1 σ27 x3) ca_Y_X1_asAnswer ca_L_X1_41 ca_m16 rfl rfl rfl rfl (Nat.le_of_ble_eq_true rfl) ⟨Nat.le_of_ble_eq_true rfl, Nat.le_of_ble_eq_true rfl⟩ dX1_join_90 (q := 93) rfl (fun r28 h30 => ?_)
          refine cp_X1_44 hC  dX1_join_93 (q := 96) rfl ?_
          refine ca_let (fun σ31 _ => ?_)
          refine ca_aload_n hC 1 dX1_join_96 rfl rfl (q := 97) rfl ?_
          refine ca_iload_n hC 2 dX1_join_97 rfl rfl (q := 98) rfl ?_
          refine ca_callVi hC (rest := []) (cm_X1_layOutNext κ.1 κ.2.2.2.1 σ31 x3) ca_Y_X1_layOutNext ca_L_X1_47 ca_m16 rfl rfl rfl rfl (Nat.le_of_ble_eq_true rfl) ⟨Nat.le_of_ble_eq_true rfl, Nat.le_of_ble_eq_true rfl⟩ dX1_join_98 (q := 101) rfl (fun r32 σ33 h34 => ?_)
          refine ca_istore hC (lv' := [(4, .int r32), (6, .int r19), (0, .ref (ca_a κ (16, 0, 0))), (3, .int x3), (5, .int x5)]) dX1_join_101 (by decide) rfl (q := 103) rfl ?_
          refine ca_pick [0, 2, 3, 4] (lv' := [(4, .int r32), (0, .ref (ca_a κ (16, 0, 0))), (3, .int x3), (5, .int x5)]) rfl ?_
          refine ca_iinc hC 3 (v := (x5 + 1)) (lv' := [(5, .int (x5 + 1)), (4, .int r32), (0, .ref (ca_a κ (16, 0, 0))), (3, .int x3)]) dX1_join_103 rfl rfl (by decide) rfl (q := 106) rfl ?_
          refine ca_goto hC dX1_join_106 (q := 53) rfl ?_
          exact ca_pick [2, 3, 1, 0] rfl (ih σ33 r32 (x5 + 1))
set_option maxRecDepth 100000 in
set_option maxHeartbeats 4000000 in
theorem ct_X1_join {κ : ca_K} (hC : ca_C κ ca_cC cX1_join 7 RX1 none 2 51) (σ : ca_S) (x2 : Int32) (x3 : Int32) : ca_T κ (ca_Zv κ) σ 0 [(0, .ref (ca_a κ (16, 0, 0))), (1, .ref (ca_a κ (1, 0, 0))), (2, .int x2), (3, .int x3)] [] (cf_X1_join σ x2 x3) := by
  unfold cf_X1_join
  refine ca_iload_n hC 3 dX1_join_0 rfl rfl (q := 1) rfl ?_
  refine ca_iconst hC (v := 2) dX1_join_1 rfl (q := 2) rfl ?_
  refine ca_iconst hC (v := 5) dX1_join_2 rfl (q := 3) rfl ?_
  refine ca_callSr hC (rest := []) (cm_X9_isWithin κ.1 κ.2.2.2.1 σ x3 2 5) ca_Y_X9_isWithin ca_L_X1_22  rfl rfl (Nat.le_of_ble_eq_true rfl) ⟨Nat.le_of_ble_eq_true rfl, Nat.le_of_ble_eq_true rfl⟩ dX1_join_3 (q := 6) rfl (fun r1 h3 => ?_)
  refine ca_if_ne hC dX1_join_6 (t := 10) (q := 9) rfl rfl (fun h4 => ?_) (fun h5 => ?_)
  · refine ca_aload_n hC 0 dX1_join_10 rfl rfl (q := 11) rfl ?_
    refine ca_aload_n hC 1 dX1_join_11 rfl rfl (q := 12) rfl ?_
    refine ca_iload_n hC 2 dX1_join_12 rfl rfl (q := 13) rfl ?_
    refine ca_iload_n hC 3 dX1_join_13 rfl rfl (q := 14) rfl ?_
    refine ca_callVv hC (rest := []) (cm_X1_countPairs κ.1 κ.2.2.2.1 σ x2 x3) ca_Y_X1_countPairs ca_L_X1_26 ca_m16 rfl rfl rfl rfl (Nat.le_of_ble_eq_true rfl) ⟨Nat.le_of_ble_eq_true rfl, Nat.le_of_ble_eq_true rfl⟩ dX1_join_14 (q := 17) rfl (fun σ7 h8 => ?_)
    refine ca_aload_n hC 0 dX1_join_17 rfl rfl (q := 18) rfl ?_
    refine ca_ldc hC (v := 2147483647) ca_w502 dX1_join_18 (q := 20) rfl ?_
    refine cp_X1_33 hC  dX1_join_20 (q := 23) rfl ?_
    refine ca_let (fun σ9 _ => ?_)
    refine ca_iconst hC (v := 0) dX1_join_23 rfl (q := 24) rfl ?_
    refine ca_istore hC (lv' := [(4, .int 0), (0, .ref (ca_a κ (16, 0, 0))), (1, .ref (ca_a κ (1, 0, 0))), (2, .int x2), (3, .int x3)]) dX1_join_24 (by decide) rfl (q := 26) rfl ?_
    refine ca_pick [0, 1, 4] (lv' := [(4, .int 0), (0, .ref (ca_a κ (16, 0, 0))), (3, .int x3)]) rfl ?_
    refine ca_pick [1, 2, 0] rfl (ct_X1_join_26 hC x3 ?_ ca_FU σ9 0)
    intro σ14
    refine ca_iconst hC (v := 1) dX1_join_47 rfl (q := 48) rfl ?_
    refine ca_istore hC (lv' := [(4, .int 1), (0, .ref (ca_a κ (16, 0, 0))), (3, .int x3)]) dX1_join_48 (by decide) rfl (q := 50) rfl ?_
    refine ca_iconst hC (v := 0) dX1_join_50 rfl (q := 51) rfl ?_
    refine ca_istore hC (lv' := [(5, .int 0), (4, .int 1), (0, .ref (ca_a κ (16, 0, 0))), (3, .int x3)]) dX1_join_51 (by decide) rfl (q := 53) rfl ?_
    refine ca_pick [2, 3, 1, 0] rfl (ct_X1_join_53 hC x3 ?_ ca_FU σ14 1 0)
    intro σ35
    exact ca_vret hC dX1_join_109
  · exact ca_vret hC dX1_join_9
theorem cm_X1_join (Γ : ca_G) (l : Launch) (σ : ca_S) (x2 : Int32) (x3 : Int32) : ca_Mv Γ ca_cC l yX1_join cX1_join 7 none 2 51 [.ref (Γ.2.1 (16, 0, 0)), .ref (Γ.2.1 (1, 0, 0)), .int x2, .int x3] σ (cf_X1_join σ x2 x3) :=
  ca_met (by decide) (Nat.le_of_ble_eq_true rfl) rfl (fun κ h1 h2 hC => by
    subst h1
    have h := ct_X1_join hC σ x2 x3
    unfold ca_Zv at h
    rw [h2] at h
    exact h)
-- X2_take
set_option maxRecDepth 100000 in
set_option maxHeartbeats 4000000 in
theorem ct_X2_take {κ : ca_K} (hC : ca_C κ ca_cC cX2_take 4 RX2 none 1 21) (σ : ca_S) (i0 : Nat) (j0 : Nat) (x1 : Int32) (x2 : Int32) (x3 : Int32) (hi0 : i0 < 16) (hj0 : j0 < 2) : ca_T κ (ca_Zv κ) σ 0 [(0, .ref (ca_a κ (6, i0, j0))), (1, .int x1), (2, .int x2), (3, .int x3)] [] (cf_X2_take σ i0 j0 x1 x2 x3) := by
  unfold cf_X2_take
  refine ca_iload_n hC 3 dX2_take_0 rfl rfl (q := 1) rfl ?_
  refine ca_if_ne hC dX2_take_1 (t := 19) (q := 4) rfl rfl (fun h1 => ?_) (fun h2 => ?_)
  · refine ca_iload_n hC 2 dX2_take_19 rfl rfl (q := 20) rfl ?_
    refine ca_aload_n hC 0 dX2_take_20 rfl rfl (q := 21) rfl ?_
    refine cg_X2_13 hC hi0 hj0 dX2_take_21 (q := 24) rfl ?_
    refine ca_icmp_le hC dX2_take_24 (t := 37) (q := 27) rfl rfl (fun h3 => ?_) (fun h4 => ?_)
    · exact ca_vret hC dX2_take_37
    · refine ca_aload_n hC 0 dX2_take_27 rfl rfl (q := 28) rfl ?_
      refine ca_iload_n hC 2 dX2_take_28 rfl rfl (q := 29) rfl ?_
      refine cp_X2_13 hC hi0 hj0 dX2_take_29 (q := 32) rfl ?_
      refine ca_let (fun σ5 _ => ?_)
      refine ca_aload_n hC 0 dX2_take_32 rfl rfl (q := 33) rfl ?_
      refine ca_iload_n hC 1 dX2_take_33 rfl rfl (q := 34) rfl ?_
      refine cp_X2_7 hC hi0 hj0 dX2_take_34 (q := 37) rfl ?_
      refine ca_let (fun σ6 _ => ?_)
      exact ca_vret hC dX2_take_37
  · refine ca_aload_n hC 0 dX2_take_4 rfl rfl (q := 5) rfl ?_
    refine ca_aload_n hC 0 dX2_take_5 rfl rfl (q := 6) rfl ?_
    refine cg_X2_16 hC hi0 hj0 dX2_take_6 (q := 9) rfl ?_
    refine ca_iload_n hC 2 dX2_take_9 rfl rfl (q := 10) rfl ?_
    refine ca_mmax hC ca_w389 ca_w390 ca_w49 ca_w391 (by decide) (Nat.le_of_ble_eq_true rfl) dX2_take_10 (q := 13) rfl ?_
    refine cp_X2_16 hC hi0 hj0 dX2_take_13 (q := 16) rfl ?_
    refine ca_let (fun σ7 _ => ?_)
    refine ca_goto hC dX2_take_16 (q := 37) rfl ?_
    exact ca_vret hC dX2_take_37
theorem cm_X2_take (Γ : ca_G) (l : Launch) (σ : ca_S) (i0 : Nat) (j0 : Nat) (x1 : Int32) (x2 : Int32) (x3 : Int32) (hi0 : i0 < 16) (hj0 : j0 < 2) : ca_Mv Γ ca_cC l yX2_take cX2_take 4 none 1 21 [.ref (Γ.2.1 (6, i0, j0)), .int x1, .int x2, .int x3] σ (cf_X2_take σ i0 j0 x1 x2 x3) :=
  ca_met (by decide) (Nat.le_of_ble_eq_true rfl) rfl (fun κ h1 h2 hC => by
    subst h1
    have h := ct_X2_take hC σ i0 j0 x1 x2 x3 hi0 hj0
    unfold ca_Zv at h
    rw [h2] at h
    exact h)
-- X3_isFull
set_option maxRecDepth 100000 in
set_option maxHeartbeats 4000000 in
theorem ct_X3_isFull {κ : ca_K} (hC : ca_C κ ca_cC cX3_isFull 1 RX3 (some .boolean) 0 0) (σ : ca_S) : ca_T κ (ca_Zr κ σ) σ 0 [(0, .ref (ca_a κ (10, 0, 0)))] [] (cf_X3_isFull σ) := by
  unfold cf_X3_isFull
  refine ca_aload_n hC 0 dX3_isFull_0 rfl rfl (q := 1) rfl ?_
  refine cg_X3_16 hC  dX3_isFull_1 (q := 4) rfl ?_
  refine ca_bipush hC (v := 20) dX3_isFull_4 rfl (q := 6) rfl ?_
  refine ca_icmp_lt hC dX3_isFull_6 (t := 13) (q := 9) rfl rfl (fun h1 => ?_) (fun h2 => ?_)
  · refine ca_iconst hC (v := 0) dX3_isFull_13 rfl (q := 14) rfl ?_
    exact ca_iretr hC dX3_isFull_14 rfl
  · refine ca_iconst hC (v := 1) dX3_isFull_9 rfl (q := 10) rfl ?_
    refine ca_goto hC dX3_isFull_10 (q := 14) rfl ?_
    exact ca_iretr hC dX3_isFull_14 rfl
theorem cm_X3_isFull (Γ : ca_G) (l : Launch) (σ : ca_S) : ca_Mr Γ ca_cC l yX3_isFull cX3_isFull 1 (some .boolean) 0 0 [.ref (Γ.2.1 (10, 0, 0))] σ (cf_X3_isFull σ) :=
  ca_met (by decide) (Nat.le_of_ble_eq_true rfl) rfl (fun κ h1 h2 hC => by
    subst h1
    have h := ct_X3_isFull hC σ 
    unfold ca_Zr at h
    rw [h2] at h
    exact h)
-- X3_judge
set_option maxRecDepth 100000 in
set_option maxHeartbeats 4000000 in
theorem ct_X3_judge {κ : ca_K} (hC : ca_C κ ca_cC cX3_judge 2 RX3 (some .int) 0 0) (σ : ca_S) (x0 : Int32) (x1 : Int32) : ca_T κ (ca_Zr κ σ) σ 0 [(0, .int x0), (1, .int x1)] [] (cf_X3_judge x0 x1) := by
  unfold cf_X3_judge
  refine ca_iload_n hC 0 dX3_judge_0 rfl rfl (q := 1) rfl ?_
  refine ca_bipush hC (v := (-4)) dX3_judge_1 rfl (q := 3) rfl ?_
  refine ca_icmp_ne hC dX3_judge_3 (t := 8) (q := 6) rfl rfl (fun h1 => ?_) (fun h2 => ?_)
  · refine ca_iload_n hC 0 dX3_judge_8 rfl rfl (q := 9) rfl ?_
    refine ca_iload_n hC 1 dX3_judge_9 rfl rfl (q := 10) rfl ?_
    refine ca_icmp_ne hC dX3_judge_10 (t := 17) (q := 13) rfl rfl (fun h3 => ?_) (fun h4 => ?_)
    · refine ca_iconst hC (v := 0) dX3_judge_17 rfl (q := 18) rfl ?_
      exact ca_iretr hC dX3_judge_18 rfl
    · refine ca_iconst hC (v := 1) dX3_judge_13 rfl (q := 14) rfl ?_
      refine ca_goto hC dX3_judge_14 (q := 18) rfl ?_
      exact ca_iretr hC dX3_judge_18 rfl
  · refine ca_iconst hC (v := (-1)) dX3_judge_6 rfl (q := 7) rfl ?_
    exact ca_iretr hC dX3_judge_7 rfl
theorem cm_X3_judge (Γ : ca_G) (l : Launch) (σ : ca_S) (x0 : Int32) (x1 : Int32) : ca_Mr Γ ca_cC l yX3_judge cX3_judge 2 (some .int) 0 0 [.int x0, .int x1] σ (cf_X3_judge x0 x1) :=
  ca_met (by decide) (Nat.le_of_ble_eq_true rfl) rfl (fun κ h1 h2 hC => by
    subst h1
    have h := ct_X3_judge hC σ x0 x1
    unfold ca_Zr at h
    rw [h2] at h
    exact h)
-- X3_enter
set_option maxRecDepth 100000 in
set_option maxHeartbeats 4000000 in
theorem ct_X3_enter_59 {κ : ca_K} (hC : ca_C κ ca_cC cX3_enter 7 RX3 (some .int) 1 21) (σ : ca_S) (x2 : Int32) (x3 : Int32) (i4 : Nat) (x5 : Int32) (x6 : Int32) (xs0 : Int32) (xs1 : Int32) (is2 : Nat) {KB : ca_S → Int32 → Int32 → Option (Int32 × ca_S)} {KX : ca_S → Int32 → Option (Int32 × ca_S)} (hKB : ∀ (σ : ca_S) (x5 : Int32) (x6 : Int32), ca_T κ (ca_Zi κ) σ 27 [(0, .ref (ca_a κ (10, 0, 0))), (1, .ref (ca_a κ (1, 0, 0))), (2, .int x2), (3, .int x3), (4, .ref (ca_a κ (12, i4, 0))), (5, .int x5), (6, .int x6)] [] (KB σ x5 x6)) (hKX : ∀ (σ : ca_S) (x5 : Int32), ca_T κ (ca_Zi κ) σ 91 [(0, .ref (ca_a κ (10, 0, 0))), (5, .int x5)] [] (KX σ x5)) (hi4 : i4 < 20) (his2 : is2 < 20) : ca_T κ (ca_Zi κ) σ 59 [(0, .ref (ca_a κ (10, 0, 0))), (1, .ref (ca_a κ (1, 0, 0))), (2, .int x2), (3, .int x3), (4, .ref (ca_a κ (12, i4, 0))), (5, .int x5), (6, .int x6)] [.int xs0, .int xs1, .ref (ca_a κ (12, is2, 0))] (cj_X3_enter_59 KB KX σ x2 x3 i4 x5 x6 xs0 xs1 is2) := by
  unfold cj_X3_enter_59
  refine ca_istQ hC (n := 16) (ca_m12 his2) rfl rfl rfl dX3_enter_59 (q := 60) rfl (fun h11 => ?_)
  refine ca_let (fun σ12 _ => ?_)
  refine ca_aload hC 4 dX3_enter_60 rfl (q := 62) rfl ?_
  refine ca_iload hC 6 dX3_enter_62 rfl (q := 64) rfl ?_
  refine ca_ildQ hC (n := 16) (ca_m12 hi4) rfl rfl rfl dX3_enter_64 (q := 65) rfl (fun h13 => ?_)
  refine ca_iconst hC (v := 1) dX3_enter_65 rfl (q := 66) rfl ?_
  refine ca_icmp_ne hC dX3_enter_66 (t := 85) (q := 69) rfl rfl (fun h14 => ?_) (fun h15 => ?_)
  · refine ca_iinc hC 6 (v := (x6 + 1)) (lv' := [(6, .int (x6 + 1)), (0, .ref (ca_a κ (10, 0, 0))), (1, .ref (ca_a κ (1, 0, 0))), (2, .int x2), (3, .int x3), (4, .ref (ca_a κ (12, i4, 0))), (5, .int x5)]) dX3_enter_85 rfl rfl (by decide) rfl (q := 88) rfl ?_
    refine ca_goto hC dX3_enter_88 (q := 27) rfl ?_
    exact ca_pick [1, 2, 3, 4, 5, 6, 0] rfl (hKB σ12 x5 (x6 + 1))
  · refine ca_aload_n hC 1 dX3_enter_69 rfl rfl (q := 70) rfl ?_
    refine ca_iload hC 6 dX3_enter_70 rfl (q := 72) rfl ?_
    refine ca_al1 hC  dX3_enter_72 (q := 73) rfl (fun h16 => ?_)
    refine ca_dup hC dX3_enter_73 rfl (q := 74) rfl ?_
    refine cg_X3_34 hC (ca_in_lt h16) dX3_enter_74 (q := 77) rfl ?_
    refine ca_iconst hC (v := 1) dX3_enter_77 rfl (q := 78) rfl ?_
    refine ca_iadd hC dX3_enter_78 (q := 79) rfl ?_
    refine cp_X3_34 hC (ca_in_lt h16) dX3_enter_79 (q := 82) rfl ?_
    refine ca_let (fun σ17 _ => ?_)
    refine ca_iinc hC 5 (v := (x5 + 1)) (lv' := [(5, .int (x5 + 1)), (0, .ref (ca_a κ (10, 0, 0))), (1, .ref (ca_a κ (1, 0, 0))), (2, .int x2), (3, .int x3), (4, .ref (ca_a κ (12, i4, 0))), (6, .int x6)]) dX3_enter_82 rfl rfl (by decide) rfl (q := 85) rfl ?_
    refine ca_iinc hC 6 (v := (x6 + 1)) (lv' := [(6, .int (x6 + 1)), (5, .int (x5 + 1)), (0, .ref (ca_a κ (10, 0, 0))), (1, .ref (ca_a κ (1, 0, 0))), (2, .int x2), (3, .int x3), (4, .ref (ca_a κ (12, i4, 0)))]) dX3_enter_85 rfl rfl (by decide) rfl (q := 88) rfl ?_
    refine ca_goto hC dX3_enter_88 (q := 27) rfl ?_
    exact ca_pick [2, 3, 4, 5, 6, 1, 0] rfl (hKB σ17 (x5 + 1) (x6 + 1))
set_option maxRecDepth 100000 in
set_option maxHeartbeats 4000000 in
theorem ct_X3_enter_27 {κ : ca_K} (hC : ca_C κ ca_cC cX3_enter 7 RX3 (some .int) 1 21) (x2 : Int32) (x3 : Int32) (i4 : Nat) (hi4 : i4 < 20) {K : ca_S → Int32 → Option (Int32 × ca_S)} (hK : ∀ (σ : ca_S) (x5 : Int32), ca_T κ (ca_Zi κ) σ 91 [(0, .ref (ca_a κ (10, 0, 0))), (5, .int x5)] [] (K σ x5)) : ∀ (n : Nat) (σ : ca_S) (x5 : Int32) (x6 : Int32), ca_T κ (ca_Zi κ) σ 27 [(0, .ref (ca_a κ (10, 0, 0))), (1, .ref (ca_a κ (1, 0, 0))), (2, .int x2), (3, .int x3), (4, .ref (ca_a κ (12, i4, 0))), (5, .int x5), (6, .int x6)] [] (cl_X3_enter_27 x2 x3 i4 K n σ x5 x6) := by
  intro n
  induction n with
  | zero => intro σ x5 x6; exact ca_no
  | succ n ih =>
    intro σ x5 x6
    rw [cl_X3_enter_27]
    refine ca_iload hC 6 dX3_enter_27 rfl (q := 29) rfl ?_
    refine ca_bipush hC (v := 16) dX3_enter_29 rfl (q := 31) rfl ?_
    refine ca_icmp_ge hC dX3_enter_31 (t := 91) (q := 34) rfl rfl (fun h7 => ?_) (fun h8 => ?_)
    · exact ca_pick [0, 5] rfl (hK σ x5)
    · refine ca_aload hC 4 dX3_enter_34 rfl (q := 36) rfl ?_
      refine ca_iload hC 6 dX3_enter_36 rfl (q := 38) rfl ?_
      refine ca_iload hC 6 dX3_enter_38 rfl (q := 40) rfl ?_
      refine ca_iload_n hC 2 dX3_enter_40 rfl rfl (q := 41) rfl ?_
      refine ca_icmp_ge hC dX3_enter_41 (t := 58) (q := 44) rfl rfl (fun h9 => ?_) (fun h10 => ?_)
      · refine ca_iconst hC (v := (-1)) dX3_enter_58 rfl (q := 59) rfl ?_
        exact ca_pick [0, 1, 2, 3, 4, 5, 6] rfl (ct_X3_enter_59 hC σ x2 x3 i4 x5 x6 (-1) x6 i4 ih hK hi4 hi4)
      · refine ca_aload_n hC 1 dX3_enter_44 rfl rfl (q := 45) rfl ?_
        refine ca_iload hC 6 dX3_enter_45 rfl (q := 47) rfl ?_
        refine ca_al1 hC  dX3_enter_47 (q := 48) rfl (fun h18 => ?_)
        refine ca_callVr hC (rest := [.int x6, .ref (ca_a κ (12, i4, 0))]) (cm_X0_countedAnswer κ.1 κ.2.2.2.1 σ (Int32.toNatClampNeg x6) (ca_in_lt h18)) ca_Y_X0_countedAnswer ca_L_X3_24 (ca_m2 (ca_in_lt h18)) rfl rfl rfl rfl (Nat.le_of_ble_eq_true rfl) ⟨Nat.le_of_ble_eq_true rfl, Nat.le_of_ble_eq_true rfl⟩ dX3_enter_48 (q := 51) rfl (fun r19 h21 => ?_)
        refine ca_iload_n hC 3 dX3_enter_51 rfl rfl (q := 52) rfl ?_
        refine ca_callSr hC (rest := [.int x6, .ref (ca_a κ (12, i4, 0))]) (cm_X3_judge κ.1 κ.2.2.2.1 σ r19 x3) ca_Y_X3_judge ca_L_X3_30  rfl rfl (Nat.le_of_ble_eq_true rfl) ⟨Nat.le_of_ble_eq_true rfl, Nat.le_of_ble_eq_true rfl⟩ dX3_enter_52 (q := 55) rfl (fun r22 h24 => ?_)
        refine ca_goto hC dX3_enter_55 (q := 59) rfl ?_
        exact ca_pick [0, 1, 2, 3, 4, 5, 6] rfl (ct_X3_enter_59 hC σ x2 x3 i4 x5 x6 r22 x6 i4 ih hK hi4 hi4)
set_option maxRecDepth 100000 in
set_option maxHeartbeats 4000000 in
theorem ct_X3_enter {κ : ca_K} (hC : ca_C κ ca_cC cX3_enter 7 RX3 (some .int) 1 21) (σ : ca_S) (x2 : Int32) (x3 : Int32) : ca_T κ (ca_Zi κ) σ 0 [(0, .ref (ca_a κ (10, 0, 0))), (1, .ref (ca_a κ (1, 0, 0))), (2, .int x2), (3, .int x3)] [] (cf_X3_enter σ x2 x3) := by
  unfold cf_X3_enter
  refine ca_aload_n hC 0 dX3_enter_0 rfl rfl (q := 1) rfl ?_
  refine ca_callVr hC (rest := []) (cm_X3_isFull κ.1 κ.2.2.2.1 σ) ca_Y_X3_isFull ca_L_X3_20 ca_m10 rfl rfl rfl rfl (Nat.le_of_ble_eq_true rfl) ⟨Nat.le_of_ble_eq_true rfl, Nat.le_of_ble_eq_true rfl⟩ dX3_enter_1 (q := 4) rfl (fun r1 h3 => ?_)
  refine ca_if_eq hC dX3_enter_4 (t := 10) (q := 7) rfl rfl (fun h4 => ?_) (fun h5 => ?_)
  · refine ca_aload_n hC 0 dX3_enter_10 rfl rfl (q := 11) rfl ?_
    refine cg_X3_13 hC  dX3_enter_11 (q := 14) rfl ?_
    refine ca_aload_n hC 0 dX3_enter_14 rfl rfl (q := 15) rfl ?_
    refine cg_X3_16 hC  dX3_enter_15 (q := 18) rfl ?_
    refine ca_al11 hC  dX3_enter_18 (q := 19) rfl (fun h6 => ?_)
    refine ca_astore hC (lv' := [(4, .ref (ca_a κ (12, (Int32.toNatClampNeg (σ.1 (10, 0, 0) 1)), 0))), (0, .ref (ca_a κ (10, 0, 0))), (1, .ref (ca_a κ (1, 0, 0))), (2, .int x2), (3, .int x3)]) dX3_enter_19 (by decide) rfl (q := 21) rfl ?_
    refine ca_iconst hC (v := 0) dX3_enter_21 rfl (q := 22) rfl ?_
    refine ca_istore hC (lv' := [(5, .int 0), (4, .ref (ca_a κ (12, (Int32.toNatClampNeg (σ.1 (10, 0, 0) 1)), 0))), (0, .ref (ca_a κ (10, 0, 0))), (1, .ref (ca_a κ (1, 0, 0))), (2, .int x2), (3, .int x3)]) dX3_enter_22 (by decide) rfl (q := 24) rfl ?_
    refine ca_iconst hC (v := 0) dX3_enter_24 rfl (q := 25) rfl ?_
    refine ca_istore hC (lv' := [(6, .int 0), (5, .int 0), (4, .ref (ca_a κ (12, (Int32.toNatClampNeg (σ.1 (10, 0, 0) 1)), 0))), (0, .ref (ca_a κ (10, 0, 0))), (1, .ref (ca_a κ (1, 0, 0))), (2, .int x2), (3, .int x3)]) dX3_enter_25 (by decide) rfl (q := 27) rfl ?_
    refine ca_pick [3, 4, 5, 6, 2, 1, 0] rfl (ct_X3_enter_27 hC x2 x3 (Int32.toNatClampNeg (σ.1 (10, 0, 0) 1)) (ca_in_lt h6) ?_ ca_FU σ 0 0)
    intro σ25 x26
    refine ca_aload_n hC 0 dX3_enter_91 rfl rfl (q := 92) rfl ?_
    refine ca_dup hC dX3_enter_92 rfl (q := 93) rfl ?_
    refine cg_X3_16 hC  dX3_enter_93 (q := 96) rfl ?_
    refine ca_iconst hC (v := 1) dX3_enter_96 rfl (q := 97) rfl ?_
    refine ca_iadd hC dX3_enter_97 (q := 98) rfl ?_
    refine cp_X3_16 hC  dX3_enter_98 (q := 101) rfl ?_
    refine ca_let (fun σ27 _ => ?_)
    refine ca_iload hC 1 dX3_enter_101 rfl (q := 103) rfl ?_
    exact ca_ireti hC dX3_enter_103 rfl
  · refine ca_bipush hC (v := (-3)) dX3_enter_7 rfl (q := 9) rfl ?_
    exact ca_ireti hC dX3_enter_9 rfl
theorem cm_X3_enter (Γ : ca_G) (l : Launch) (σ : ca_S) (x2 : Int32) (x3 : Int32) : ca_Mi Γ ca_cC l yX3_enter cX3_enter 7 (some .int) 1 21 [.ref (Γ.2.1 (10, 0, 0)), .ref (Γ.2.1 (1, 0, 0)), .int x2, .int x3] σ (cf_X3_enter σ x2 x3) :=
  ca_met (by decide) (Nat.le_of_ble_eq_true rfl) rfl (fun κ h1 h2 hC => by
    subst h1
    have h := ct_X3_enter hC σ x2 x3
    unfold ca_Zi at h
    rw [h2] at h
    exact h)
-- X3_having
set_option maxRecDepth 100000 in
set_option maxHeartbeats 4000000 in
theorem ct_X3_having_5 {κ : ca_K} (hC : ca_C κ ca_cC cX3_having 5 RX3 (some .int) 0 0) (σ : ca_S) (x1 : Int32) (x2 : Int32) {K : Int32 → Option (Int32)} (hK : ∀ (x3 : Int32), ca_T κ (ca_Zr κ σ) σ 34 [(3, .int x3)] [] (K x3)) : ∀ (n : Nat) (x3 : Int32) (x4 : Int32), ca_T κ (ca_Zr κ σ) σ 5 [(0, .ref (ca_a κ (10, 0, 0))), (1, .int x1), (2, .int x2), (3, .int x3), (4, .int x4)] [] (cl_X3_having_5 σ x1 x2 K n x3 x4) := by
  intro n
  induction n with
  | zero => intro x3 x4; exact ca_no
  | succ n ih =>
    intro x3 x4
    rw [cl_X3_having_5]
    refine ca_iload hC 4 dX3_having_5 rfl (q := 7) rfl ?_
    refine ca_bipush hC (v := 16) dX3_having_7 rfl (q := 9) rfl ?_
    refine ca_icmp_ge hC dX3_having_9 (t := 34) (q := 12) rfl rfl (fun h1 => ?_) (fun h2 => ?_)
    · exact ca_pick [3] rfl (hK x3)
    · refine ca_aload_n hC 0 dX3_having_12 rfl rfl (q := 13) rfl ?_
      refine cg_X3_13 hC  dX3_having_13 (q := 16) rfl ?_
      refine ca_iload_n hC 1 dX3_having_16 rfl rfl (q := 17) rfl ?_
      refine ca_al11 hC  dX3_having_17 (q := 18) rfl (fun h3 => ?_)
      refine ca_iload hC 4 dX3_having_18 rfl (q := 20) rfl ?_
      refine ca_ildQ hC (n := 16) (ca_m12 (ca_in_lt h3)) rfl rfl rfl dX3_having_20 (q := 21) rfl (fun h4 => ?_)
      refine ca_iload_n hC 2 dX3_having_21 rfl rfl (q := 22) rfl ?_
      refine ca_icmp_ne hC dX3_having_22 (t := 28) (q := 25) rfl rfl (fun h5 => ?_) (fun h6 => ?_)
      · refine ca_iinc hC 4 (v := (x4 + 1)) (lv' := [(4, .int (x4 + 1)), (0, .ref (ca_a κ (10, 0, 0))), (1, .int x1), (2, .int x2), (3, .int x3)]) dX3_having_28 rfl rfl (by decide) rfl (q := 31) rfl ?_
        refine ca_goto hC dX3_having_31 (q := 5) rfl ?_
        exact ca_pick [1, 2, 3, 4, 0] rfl (ih x3 (x4 + 1))
      · refine ca_iinc hC 3 (v := (x3 + 1)) (lv' := [(3, .int (x3 + 1)), (0, .ref (ca_a κ (10, 0, 0))), (1, .int x1), (2, .int x2), (4, .int x4)]) dX3_having_25 rfl rfl (by decide) rfl (q := 28) rfl ?_
        refine ca_iinc hC 4 (v := (x4 + 1)) (lv' := [(4, .int (x4 + 1)), (3, .int (x3 + 1)), (0, .ref (ca_a κ (10, 0, 0))), (1, .int x1), (2, .int x2)]) dX3_having_28 rfl rfl (by decide) rfl (q := 31) rfl ?_
        refine ca_goto hC dX3_having_31 (q := 5) rfl ?_
        exact ca_pick [2, 3, 4, 1, 0] rfl (ih (x3 + 1) (x4 + 1))
set_option maxRecDepth 100000 in
set_option maxHeartbeats 4000000 in
theorem ct_X3_having {κ : ca_K} (hC : ca_C κ ca_cC cX3_having 5 RX3 (some .int) 0 0) (σ : ca_S) (x1 : Int32) (x2 : Int32) : ca_T κ (ca_Zr κ σ) σ 0 [(0, .ref (ca_a κ (10, 0, 0))), (1, .int x1), (2, .int x2)] [] (cf_X3_having σ x1 x2) := by
  unfold cf_X3_having
  refine ca_iconst hC (v := 0) dX3_having_0 rfl (q := 1) rfl ?_
  refine ca_istore_n hC (lv' := [(3, .int 0), (0, .ref (ca_a κ (10, 0, 0))), (1, .int x1), (2, .int x2)]) dX3_having_1 rfl (by decide) rfl (q := 2) rfl ?_
  refine ca_iconst hC (v := 0) dX3_having_2 rfl (q := 3) rfl ?_
  refine ca_istore hC (lv' := [(4, .int 0), (3, .int 0), (0, .ref (ca_a κ (10, 0, 0))), (1, .int x1), (2, .int x2)]) dX3_having_3 (by decide) rfl (q := 5) rfl ?_
  refine ca_pick [2, 3, 4, 1, 0] rfl (ct_X3_having_5 hC σ x1 x2 ?_ ca_FU 0 0)
  intro x7
  refine ca_iload_n hC 0 dX3_having_34 rfl rfl (q := 35) rfl ?_
  exact ca_iretr hC dX3_having_35 rfl
theorem cm_X3_having (Γ : ca_G) (l : Launch) (σ : ca_S) (x1 : Int32) (x2 : Int32) : ca_Mr Γ ca_cC l yX3_having cX3_having 5 (some .int) 0 0 [.ref (Γ.2.1 (10, 0, 0)), .int x1, .int x2] σ (cf_X3_having σ x1 x2) :=
  ca_met (by decide) (Nat.le_of_ble_eq_true rfl) rfl (fun κ h1 h2 hC => by
    subst h1
    have h := ct_X3_having hC σ x1 x2
    unfold ca_Zr at h
    rw [h2] at h
    exact h)
-- X3_bestPage
set_option maxRecDepth 100000 in
set_option maxHeartbeats 4000000 in
theorem ct_X3_bestPage_7 {κ : ca_K} (hC : ca_C κ ca_cC cX3_bestPage 5 RX3 (some .int) 1 24) (σ : ca_S) {K : Int32 → Option (Int32)} (hK : ∀ (x1 : Int32), ca_T κ (ca_Zr κ σ) σ 49 [(1, .int x1)] [] (K x1)) : ∀ (n : Nat) (x1 : Int32) (x2 : Int32) (x3 : Int32), ca_T κ (ca_Zr κ σ) σ 7 [(0, .ref (ca_a κ (10, 0, 0))), (1, .int x1), (2, .int x2), (3, .int x3)] [] (cl_X3_bestPage_7 σ K n x1 x2 x3) := by
  intro n
  induction n with
  | zero => intro x1 x2 x3; exact ca_no
  | succ n ih =>
    intro x1 x2 x3
    rw [cl_X3_bestPage_7]
    refine ca_iload_n hC 3 dX3_bestPage_7 rfl rfl (q := 8) rfl ?_
    refine ca_aload_n hC 0 dX3_bestPage_8 rfl rfl (q := 9) rfl ?_
    refine cg_X3_16 hC  dX3_bestPage_9 (q := 12) rfl ?_
    refine ca_icmp_ge hC dX3_bestPage_12 (t := 49) (q := 15) rfl rfl (fun h1 => ?_) (fun h2 => ?_)
    · exact ca_pick [1] rfl (hK x1)
    · refine ca_aload_n hC 0 dX3_bestPage_15 rfl rfl (q := 16) rfl ?_
      refine ca_iload_n hC 3 dX3_bestPage_16 rfl rfl (q := 17) rfl ?_
      refine ca_iconst hC (v := 1) dX3_bestPage_17 rfl (q := 18) rfl ?_
      refine ca_callVr hC (rest := []) (cm_X3_having κ.1 κ.2.2.2.1 σ x3 1) ca_Y_X3_having ca_L_X3_37 ca_m10 rfl rfl rfl rfl (Nat.le_of_ble_eq_true rfl) ⟨Nat.le_of_ble_eq_true rfl, Nat.le_of_ble_eq_true rfl⟩ dX3_bestPage_18 (q := 21) rfl (fun r3 h5 => ?_)
      refine ca_aload_n hC 0 dX3_bestPage_21 rfl rfl (q := 22) rfl ?_
      refine ca_iload_n hC 3 dX3_bestPage_22 rfl rfl (q := 23) rfl ?_
      refine ca_iconst hC (v := 0) dX3_bestPage_23 rfl (q := 24) rfl ?_
      refine ca_callVr hC (rest := [.int r3]) (cm_X3_having κ.1 κ.2.2.2.1 σ x3 0) ca_Y_X3_having ca_L_X3_37 ca_m10 rfl rfl rfl rfl (Nat.le_of_ble_eq_true rfl) ⟨Nat.le_of_ble_eq_true rfl, Nat.le_of_ble_eq_true rfl⟩ dX3_bestPage_24 (q := 27) rfl (fun r6 h8 => ?_)
      refine ca_mmin hC ca_w577 ca_w578 ca_w49 ca_w579 (by decide) (Nat.le_of_ble_eq_true rfl) dX3_bestPage_27 (q := 30) rfl ?_
      refine ca_istore hC (lv' := [(4, .int (if r6 < r3 then r6 else r3)), (0, .ref (ca_a κ (10, 0, 0))), (1, .int x1), (2, .int x2), (3, .int x3)]) dX3_bestPage_30 (by decide) rfl (q := 32) rfl ?_
      refine ca_iload hC 0 dX3_bestPage_32 rfl (q := 34) rfl ?_
      refine ca_iload_n hC 3 dX3_bestPage_34 rfl rfl (q := 35) rfl ?_
      refine ca_icmp_lt hC dX3_bestPage_35 (t := 43) (q := 38) rfl rfl (fun h9 => ?_) (fun h10 => ?_)
      · refine ca_iinc hC 4 (v := (x3 + 1)) (lv' := [(3, .int (x3 + 1)), (4, .int (if r6 < r3 then r6 else r3)), (0, .ref (ca_a κ (10, 0, 0))), (1, .int x1), (2, .int x2)]) dX3_bestPage_43 rfl rfl (by decide) rfl (q := 46) rfl ?_
        refine ca_goto hC dX3_bestPage_46 (q := 7) rfl ?_
        exact ca_pick [2, 3, 4, 0] rfl (ih x1 x2 (x3 + 1))
      · refine ca_iload_n hC 4 dX3_bestPage_38 rfl rfl (q := 39) rfl ?_
        refine ca_istore_n hC (lv' := [(1, .int x3), (4, .int (if r6 < r3 then r6 else r3)), (0, .ref (ca_a κ (10, 0, 0))), (2, .int x2), (3, .int x3)]) dX3_bestPage_39 rfl (by decide) rfl (q := 40) rfl ?_
        refine ca_pick [0, 1, 2, 4] (lv' := [(1, .int x3), (4, .int (if r6 < r3 then r6 else r3)), (0, .ref (ca_a κ (10, 0, 0))), (3, .int x3)]) rfl ?_
        refine ca_iload hC 1 dX3_bestPage_40 rfl (q := 42) rfl ?_
        refine ca_istore_n hC (lv' := [(2, .int (if r6 < r3 then r6 else r3)), (1, .int x3), (4, .int (if r6 < r3 then r6 else r3)), (0, .ref (ca_a κ (10, 0, 0))), (3, .int x3)]) dX3_bestPage_42 rfl (by decide) rfl (q := 43) rfl ?_
        refine ca_pick [0, 1, 3, 4] (lv' := [(2, .int (if r6 < r3 then r6 else r3)), (1, .int x3), (0, .ref (ca_a κ (10, 0, 0))), (3, .int x3)]) rfl ?_
        refine ca_iinc hC 3 (v := (x3 + 1)) (lv' := [(3, .int (x3 + 1)), (2, .int (if r6 < r3 then r6 else r3)), (1, .int x3), (0, .ref (ca_a κ (10, 0, 0)))]) dX3_bestPage_43 rfl rfl (by decide) rfl (q := 46) rfl ?_
        refine ca_goto hC dX3_bestPage_46 (q := 7) rfl ?_
        exact ca_pick [3, 2, 1, 0] rfl (ih x3 (if r6 < r3 then r6 else r3) (x3 + 1))
set_option maxRecDepth 100000 in
set_option maxHeartbeats 4000000 in
theorem ct_X3_bestPage {κ : ca_K} (hC : ca_C κ ca_cC cX3_bestPage 5 RX3 (some .int) 1 24) (σ : ca_S) : ca_T κ (ca_Zr κ σ) σ 0 [(0, .ref (ca_a κ (10, 0, 0)))] [] (cf_X3_bestPage σ) := by
  unfold cf_X3_bestPage
  refine ca_bipush hC (v := (-4)) dX3_bestPage_0 rfl (q := 2) rfl ?_
  refine ca_istore_n hC (lv' := [(1, .int (-4)), (0, .ref (ca_a κ (10, 0, 0)))]) dX3_bestPage_2 rfl (by decide) rfl (q := 3) rfl ?_
  refine ca_iconst hC (v := 0) dX3_bestPage_3 rfl (q := 4) rfl ?_
  refine ca_istore_n hC (lv' := [(2, .int 0), (1, .int (-4)), (0, .ref (ca_a κ (10, 0, 0)))]) dX3_bestPage_4 rfl (by decide) rfl (q := 5) rfl ?_
  refine ca_iconst hC (v := 0) dX3_bestPage_5 rfl (q := 6) rfl ?_
  refine ca_istore_n hC (lv' := [(3, .int 0), (2, .int 0), (1, .int (-4)), (0, .ref (ca_a κ (10, 0, 0)))]) dX3_bestPage_6 rfl (by decide) rfl (q := 7) rfl ?_
  refine ca_pick [3, 2, 1, 0] rfl (ct_X3_bestPage_7 hC σ ?_ ca_FU (-4) 0 0)
  intro x11
  refine ca_iload_n hC 0 dX3_bestPage_49 rfl rfl (q := 50) rfl ?_
  exact ca_iretr hC dX3_bestPage_50 rfl
theorem cm_X3_bestPage (Γ : ca_G) (l : Launch) (σ : ca_S) : ca_Mr Γ ca_cC l yX3_bestPage cX3_bestPage 5 (some .int) 1 24 [.ref (Γ.2.1 (10, 0, 0))] σ (cf_X3_bestPage σ) :=
  ca_met (by decide) (Nat.le_of_ble_eq_true rfl) rfl (fun κ h1 h2 hC => by
    subst h1
    have h := ct_X3_bestPage hC σ 
    unfold ca_Zr at h
    rw [h2] at h
    exact h)
-- X4_begin
set_option maxRecDepth 100000 in
set_option maxHeartbeats 4000000 in
theorem ct_X4_begin {κ : ca_K} (hC : ca_C κ ca_cC cX4_begin 2 RX4 none 0 0) (σ : ca_S) (x1 : Int32) : ca_T κ (ca_Zv κ) σ 0 [(0, .ref (ca_a κ (13, 0, 0))), (1, .int x1)] [] (cf_X4_begin σ x1) := by
  unfold cf_X4_begin
  refine ca_aload_n hC 0 dX4_begin_0 rfl rfl (q := 1) rfl ?_
  refine ca_iload_n hC 1 dX4_begin_1 rfl rfl (q := 2) rfl ?_
  refine ca_i2l hC dX4_begin_2 (q := 3) rfl ?_
  refine cp_X4_9 hC  dX4_begin_3 (q := 6) rfl ?_
  refine ca_let (fun σ1 _ => ?_)
  refine ca_aload_n hC 0 dX4_begin_6 rfl rfl (q := 7) rfl ?_
  refine ca_iconst hC (v := 0) dX4_begin_7 rfl (q := 8) rfl ?_
  refine cp_X4_15 hC  dX4_begin_8 (q := 11) rfl ?_
  refine ca_let (fun σ2 _ => ?_)
  exact ca_vret hC dX4_begin_11
theorem cm_X4_begin (Γ : ca_G) (l : Launch) (σ : ca_S) (x1 : Int32) : ca_Mv Γ ca_cC l yX4_begin cX4_begin 2 none 0 0 [.ref (Γ.2.1 (13, 0, 0)), .int x1] σ (cf_X4_begin σ x1) :=
  ca_met (by decide) (Nat.le_of_ble_eq_true rfl) rfl (fun κ h1 h2 hC => by
    subst h1
    have h := ct_X4_begin hC σ x1
    unfold ca_Zv at h
    rw [h2] at h
    exact h)
-- J6_bitCount_0f7a4
set_option maxRecDepth 100000 in
set_option maxHeartbeats 4000000 in
theorem ct_J6_bitCount_0f7a4 {κ : ca_K} (hC : ca_C κ ca_cC cJ6_bitCount_0f7a4 1 RJ6 (some .int) 0 0) (σ : ca_S) (x0 : Int32) : ca_T κ (ca_Zr κ σ) σ 0 [(0, .int x0)] [] (cf_J6_bitCount_0f7a4 x0) := by
  unfold cf_J6_bitCount_0f7a4
  refine ca_iload_n hC 0 dJ6_bitCount_0f7a4_0 rfl rfl (q := 1) rfl ?_
  refine ca_iload_n hC 0 dJ6_bitCount_0f7a4_1 rfl rfl (q := 2) rfl ?_
  refine ca_iconst hC (v := 1) dJ6_bitCount_0f7a4_2 rfl (q := 3) rfl ?_
  refine ca_iushr hC dJ6_bitCount_0f7a4_3 (q := 4) rfl ?_
  refine ca_ldcw hC (v := 1431655765) ca_w481 dJ6_bitCount_0f7a4_4 (q := 7) rfl ?_
  refine ca_iand hC dJ6_bitCount_0f7a4_7 (q := 8) rfl ?_
  refine ca_isub hC dJ6_bitCount_0f7a4_8 (q := 9) rfl ?_
  refine ca_istore_n hC (lv' := [(0, .int (x0 - (((Int32.toUInt32 x0 >>> (Int32.toUInt32 1 &&& Int32.toUInt32 31)).toInt32) &&& 1431655765)))]) dJ6_bitCount_0f7a4_9 rfl (by decide) rfl (q := 10) rfl ?_
  refine ca_letv (P := fun v1 X => ca_T κ (ca_Zr κ σ) σ 10 [(0, .int v1)] [] X) (x0 - (((Int32.toUInt32 x0 >>> (Int32.toUInt32 1 &&& Int32.toUInt32 31)).toInt32) &&& 1431655765)) (fun v1 _ => ?_)
  refine ca_iload_n hC 0 dJ6_bitCount_0f7a4_10 rfl rfl (q := 11) rfl ?_
  refine ca_ldcw hC (v := 858993459) ca_w482 dJ6_bitCount_0f7a4_11 (q := 14) rfl ?_
  refine ca_iand hC dJ6_bitCount_0f7a4_14 (q := 15) rfl ?_
  refine ca_iload_n hC 0 dJ6_bitCount_0f7a4_15 rfl rfl (q := 16) rfl ?_
  refine ca_iconst hC (v := 2) dJ6_bitCount_0f7a4_16 rfl (q := 17) rfl ?_
  refine ca_iushr hC dJ6_bitCount_0f7a4_17 (q := 18) rfl ?_
  refine ca_ldcw hC (v := 858993459) ca_w482 dJ6_bitCount_0f7a4_18 (q := 21) rfl ?_
  refine ca_iand hC dJ6_bitCount_0f7a4_21 (q := 22) rfl ?_
  refine ca_iadd hC dJ6_bitCount_0f7a4_22 (q := 23) rfl ?_
  refine ca_istore_n hC (lv' := [(0, .int ((v1 &&& 858993459) + (((Int32.toUInt32 v1 >>> (Int32.toUInt32 2 &&& Int32.toUInt32 31)).toInt32) &&& 858993459)))]) dJ6_bitCount_0f7a4_23 rfl (by decide) rfl (q := 24) rfl ?_
  refine ca_letv (P := fun v2 X => ca_T κ (ca_Zr κ σ) σ 24 [(0, .int v2)] [] X) ((v1 &&& 858993459) + (((Int32.toUInt32 v1 >>> (Int32.toUInt32 2 &&& Int32.toUInt32 31)).toInt32) &&& 858993459)) (fun v2 _ => ?_)
  refine ca_iload_n hC 0 dJ6_bitCount_0f7a4_24 rfl rfl (q := 25) rfl ?_
  refine ca_iload_n hC 0 dJ6_bitCount_0f7a4_25 rfl rfl (q := 26) rfl ?_
  refine ca_iconst hC (v := 4) dJ6_bitCount_0f7a4_26 rfl (q := 27) rfl ?_
  refine ca_iushr hC dJ6_bitCount_0f7a4_27 (q := 28) rfl ?_
  refine ca_iadd hC dJ6_bitCount_0f7a4_28 (q := 29) rfl ?_
  refine ca_ldcw hC (v := 252645135) ca_w483 dJ6_bitCount_0f7a4_29 (q := 32) rfl ?_
  refine ca_iand hC dJ6_bitCount_0f7a4_32 (q := 33) rfl ?_
  refine ca_istore_n hC (lv' := [(0, .int ((v2 + ((Int32.toUInt32 v2 >>> (Int32.toUInt32 4 &&& Int32.toUInt32 31)).toInt32)) &&& 252645135))]) dJ6_bitCount_0f7a4_33 rfl (by decide) rfl (q := 34) rfl ?_
  refine ca_letv (P := fun v3 X => ca_T κ (ca_Zr κ σ) σ 34 [(0, .int v3)] [] X) ((v2 + ((Int32.toUInt32 v2 >>> (Int32.toUInt32 4 &&& Int32.toUInt32 31)).toInt32)) &&& 252645135) (fun v3 _ => ?_)
  refine ca_iload_n hC 0 dJ6_bitCount_0f7a4_34 rfl rfl (q := 35) rfl ?_
  refine ca_iload_n hC 0 dJ6_bitCount_0f7a4_35 rfl rfl (q := 36) rfl ?_
  refine ca_bipush hC (v := 8) dJ6_bitCount_0f7a4_36 rfl (q := 38) rfl ?_
  refine ca_iushr hC dJ6_bitCount_0f7a4_38 (q := 39) rfl ?_
  refine ca_iadd hC dJ6_bitCount_0f7a4_39 (q := 40) rfl ?_
  refine ca_istore_n hC (lv' := [(0, .int (v3 + ((Int32.toUInt32 v3 >>> (Int32.toUInt32 8 &&& Int32.toUInt32 31)).toInt32)))]) dJ6_bitCount_0f7a4_40 rfl (by decide) rfl (q := 41) rfl ?_
  refine ca_letv (P := fun v4 X => ca_T κ (ca_Zr κ σ) σ 41 [(0, .int v4)] [] X) (v3 + ((Int32.toUInt32 v3 >>> (Int32.toUInt32 8 &&& Int32.toUInt32 31)).toInt32)) (fun v4 _ => ?_)
  refine ca_iload_n hC 0 dJ6_bitCount_0f7a4_41 rfl rfl (q := 42) rfl ?_
  refine ca_iload_n hC 0 dJ6_bitCount_0f7a4_42 rfl rfl (q := 43) rfl ?_
  refine ca_bipush hC (v := 16) dJ6_bitCount_0f7a4_43 rfl (q := 45) rfl ?_
  refine ca_iushr hC dJ6_bitCount_0f7a4_45 (q := 46) rfl ?_
  refine ca_iadd hC dJ6_bitCount_0f7a4_46 (q := 47) rfl ?_
  refine ca_istore_n hC (lv' := [(0, .int (v4 + ((Int32.toUInt32 v4 >>> (Int32.toUInt32 16 &&& Int32.toUInt32 31)).toInt32)))]) dJ6_bitCount_0f7a4_47 rfl (by decide) rfl (q := 48) rfl ?_
  refine ca_letv (P := fun v5 X => ca_T κ (ca_Zr κ σ) σ 48 [(0, .int v5)] [] X) (v4 + ((Int32.toUInt32 v4 >>> (Int32.toUInt32 16 &&& Int32.toUInt32 31)).toInt32)) (fun v5 _ => ?_)
  refine ca_iload_n hC 0 dJ6_bitCount_0f7a4_48 rfl rfl (q := 49) rfl ?_
  refine ca_bipush hC (v := 63) dJ6_bitCount_0f7a4_49 rfl (q := 51) rfl ?_
  refine ca_iand hC dJ6_bitCount_0f7a4_51 (q := 52) rfl ?_
  exact ca_iretr hC dJ6_bitCount_0f7a4_52 rfl
theorem cm_J6_bitCount_0f7a4 (Γ : ca_G) (l : Launch) (σ : ca_S) (x0 : Int32) : ca_Mr Γ ca_cC l yJ6_bitCount_0f7a4 cJ6_bitCount_0f7a4 1 (some .int) 0 0 [.int x0] σ (cf_J6_bitCount_0f7a4 x0) :=
  ca_met (by decide) (Nat.le_of_ble_eq_true rfl) rfl (fun κ h1 h2 hC => by
    subst h1
    have h := ct_J6_bitCount_0f7a4 hC σ x0
    unfold ca_Zr at h
    rw [h2] at h
    exact h)
