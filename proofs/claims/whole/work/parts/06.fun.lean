-- X2_forget
noncomputable def cf_X2_forget (σ : ca_S) (i0 : Nat) (j0 : Nat) : Option (ca_S) := (ca_lt (ca_st σ (6, i0, j0) 0 0) fun σ1 => (ca_lt (ca_st σ1 (6, i0, j0) 1 0) fun σ2 => (ca_lt (ca_st σ2 (6, i0, j0) 2 0) fun σ3 => (some σ3))))
-- X0_forget
noncomputable def cl_X0_forget_12 (i0 : Nat) (K : ca_S → Option (ca_S)) : Nat → ca_S → Int32 → Option (ca_S)
  | 0, _, _ => none
  | n + 1, σ, x1 => (if 2 ≤ x1 then (K σ) else (ca_gd (ca_in x1 2) (ca_bv (cf_X2_forget σ i0 (Int32.toNatClampNeg x1)) fun σ7 => (cl_X0_forget_12 i0 K n σ7 (x1 + 1)))))
noncomputable def cf_X0_forget (σ : ca_S) (i0 : Nat) : Option (ca_S) := (ca_lt (ca_st σ (2, i0, 0) 2 0) fun σ1 => (ca_lt (ca_st σ1 (2, i0, 0) 5 0) fun σ2 => (cl_X0_forget_12 i0 (fun σ9 => (some σ9)) ca_FU σ2 0)))
-- X0_write
noncomputable def cf_X0_write (σ : ca_S) (i0 : Nat) (x1 : Int32) (x2 : Int32) : Option (Int32 × ca_S) := (ca_lt (ca_st σ (2, i0, 0) 3 x1) fun σ1 => (ca_lt (ca_st σ1 (2, i0, 0) 4 x2) fun σ2 => (ca_lt (ca_st σ2 (2, i0, 0) 5 0) fun σ3 => (ca_lt (ca_st σ3 (2, i0, 0) 2 ((σ3.1 (2, i0, 0) 2) + 1)) fun σ4 => (some ((σ4.1 (2, i0, 0) 2), σ4))))))
-- X0_hasTriesLeft
noncomputable def cf_X0_hasTriesLeft (σ : ca_S) (i0 : Nat) : Option (Int32) := (if (σ.1 (2, i0, 0) 2) ≤ 0 then (some 0) else (if 5 ≤ (σ.1 (2, i0, 0) 5) then (some 0) else (some 1)))
-- X2_greatestCount
noncomputable def cf_X2_greatestCount (σ : ca_S) (i0 : Nat) (j0 : Nat) : Option (Int32) := (some (if (σ.1 (6, i0, j0) 1) < (σ.1 (6, i0, j0) 2) then (σ.1 (6, i0, j0) 2) else (σ.1 (6, i0, j0) 1)))
-- X0_isAcknowledged
noncomputable def cf_X0_isAcknowledged (σ : ca_S) (i0 : Nat) : Option (Int32) := (if (σ.1 (2, i0, 0) 2) ≤ 0 then (some 0) else (ca_gd (ca_in 0 2) (ca_br (cf_X2_greatestCount σ i0 (Int32.toNatClampNeg 0)) fun r4 => (ca_gd (ca_in 1 2) (ca_br (cf_X2_greatestCount σ i0 (Int32.toNatClampNeg 1)) fun r8 => (if (if r4 < r8 then r8 else r4) = (σ.1 (2, i0, 0) 2) then (some 1) else (some 0)))))))
-- X0_countedAnswer
noncomputable def cj_X0_countedAnswer_36 (σ : ca_S) (is0 : Nat) (js0 : Nat) : Option (Int32) := (if (σ.1 (6, is0, js0) 1) ≤ 0 then (some (-4)) else (some (σ.1 (6, is0, js0) 0)))
noncomputable def cf_X0_countedAnswer (σ : ca_S) (i0 : Nat) : Option (Int32) := (ca_gd (ca_in 0 2) (ca_gd (ca_in 1 2) (if (σ.1 (6, i0, (Int32.toNatClampNeg 0)) 1) < (σ.1 (6, i0, (Int32.toNatClampNeg 1)) 1) then (ca_gd (ca_in 1 2) (cj_X0_countedAnswer_36 σ i0 (Int32.toNatClampNeg 1))) else (ca_gd (ca_in 0 2) (cj_X0_countedAnswer_36 σ i0 (Int32.toNatClampNeg 0))))))
-- X9_isWithin
noncomputable def cf_X9_isWithin (x0 : Int32) (x1 : Int32) (x2 : Int32) : Option (Int32) := (if x0 < x1 then (some 0) else (if x2 < x0 then (some 0) else (some 1)))
-- X1_addPairs
noncomputable def cl_X1_addPairs_12 (x1 : Int32) (x2 : Int32) (x3 : Int32) (K : ca_S → Option (ca_S)) : Nat → ca_S → Int32 → Option (ca_S)
  | 0, _, _ => none
  | n + 1, σ, x4 => (if x2 ≤ x4 then (K σ) else (if x2 ≤ ((x1 >>> ((3 * x3) &&& 31)) &&& 7) then (cl_X1_addPairs_12 x1 x2 x3 K n σ (x4 + 1)) else (if x2 ≤ ((x1 >>> ((3 * x4) &&& 31)) &&& 7) then (cl_X1_addPairs_12 x1 x2 x3 K n σ (x4 + 1)) else (ca_gd (ca_in ((x1 >>> ((3 * x3) &&& 31)) &&& 7) 5) (ca_gd (ca_in ((x1 >>> ((3 * x4) &&& 31)) &&& 7) 5) (ca_gd (ca_in ((x1 >>> ((3 * x4) &&& 31)) &&& 7) 5) (ca_lt (ca_st σ (18, (Int32.toNatClampNeg ((x1 >>> ((3 * x3) &&& 31)) &&& 7)), 0) (Int32.toNatClampNeg ((x1 >>> ((3 * x4) &&& 31)) &&& 7)) ((σ.1 (18, (Int32.toNatClampNeg ((x1 >>> ((3 * x3) &&& 31)) &&& 7)), 0) (Int32.toNatClampNeg ((x1 >>> ((3 * x4) &&& 31)) &&& 7))) + 1)) fun σ12 => (cl_X1_addPairs_12 x1 x2 x3 K n σ12 (x4 + 1)))))))))
noncomputable def cl_X1_addPairs_2 (x1 : Int32) (x2 : Int32) (K : ca_S → Option (ca_S)) : Nat → ca_S → Int32 → Option (ca_S)
  | 0, _, _ => none
  | n + 1, σ, x3 => (if x2 ≤ x3 then (K σ) else (cl_X1_addPairs_12 x1 x2 x3 (fun σ13 => (cl_X1_addPairs_2 x1 x2 K n σ13 (x3 + 1))) ca_FU σ (x3 + 1)))
noncomputable def cf_X1_addPairs (σ : ca_S) (x1 : Int32) (x2 : Int32) : Option (ca_S) := (cl_X1_addPairs_2 x1 x2 (fun σ14 => (some σ14)) ca_FU σ 0)
-- X1_countPairs
noncomputable def cl_X1_countPairs_12 (x2 : Int32) (x3 : Int32) (x4 : Int32) (K : ca_S → Option (ca_S)) : Nat → ca_S → Int32 → Option (ca_S)
  | 0, _, _ => none
  | n + 1, σ, x5 => (if x3 ≤ x5 then (K σ) else (ca_gd (ca_in x4 5) (ca_gd (ca_in x5 5) (ca_lt (ca_st σ (18, (Int32.toNatClampNeg x4), 0) (Int32.toNatClampNeg x5) 0) fun σ7 => (cl_X1_countPairs_12 x2 x3 x4 K n σ7 (x5 + 1))))))
noncomputable def cl_X1_countPairs_3 (x2 : Int32) (x3 : Int32) (K : ca_S → Option (ca_S)) : Nat → ca_S → Int32 → Option (ca_S)
  | 0, _, _ => none
  | n + 1, σ, x4 => (if x3 ≤ x4 then (K σ) else (cl_X1_countPairs_12 x2 x3 x4 (fun σ8 => (cl_X1_countPairs_3 x2 x3 K n σ8 (x4 + 1))) ca_FU σ 0))
noncomputable def cl_X1_countPairs_44 (x2 : Int32) (x3 : Int32) (K : ca_S → Option (ca_S)) : Nat → ca_S → Int32 → Option (ca_S)
  | 0, _, _ => none
  | n + 1, σ, x4 => (if x2 ≤ x4 then (K σ) else (ca_gd (ca_in x4 16) (ca_br (cf_X0_countedAnswer σ (Int32.toNatClampNeg x4)) fun r13 => (if r13 = (-4) then (cl_X1_countPairs_44 x2 x3 K n σ (x4 + 1)) else (ca_gd (ca_in x4 16) (ca_br (cf_X0_countedAnswer σ (Int32.toNatClampNeg x4)) fun r19 => (ca_bv (cf_X1_addPairs σ r19 x3) fun σ23 => (cl_X1_countPairs_44 x2 x3 K n σ23 (x4 + 1)))))))))
noncomputable def cf_X1_countPairs (σ : ca_S) (x2 : Int32) (x3 : Int32) : Option (ca_S) := (cl_X1_countPairs_3 x2 x3 (fun σ9 => (cl_X1_countPairs_44 x2 x3 (fun σ25 => (some σ25)) ca_FU σ9 0)) ca_FU σ 0)
-- X1_turnedPairs
noncomputable def cl_X1_turnedPairs_14 (σ : ca_S) (x1 : Int32) (x3 : Int32) (K : Int32 → Option (Int32)) : Nat → Int32 → Int32 → Option (Int32)
  | 0, _, _ => none
  | n + 1, x2, x4 => (if x1 ≤ x4 then (K x2) else (ca_gd (ca_in x4 5) (ca_gd (ca_in (σ.1 (19, 0, 0) (Int32.toNatClampNeg x4)) 5) (ca_gd (ca_in x3 5) (ca_gd (ca_in (σ.1 (19, 0, 0) (Int32.toNatClampNeg x3)) 5) (ca_lt (x2 + (σ.1 (18, (Int32.toNatClampNeg (σ.1 (19, 0, 0) (Int32.toNatClampNeg x4))), 0) (Int32.toNatClampNeg (σ.1 (19, 0, 0) (Int32.toNatClampNeg x3))))) fun v9 => (cl_X1_turnedPairs_14 σ x1 x3 K n v9 (x4 + 1))))))))
noncomputable def cl_X1_turnedPairs_4 (σ : ca_S) (x1 : Int32) (K : Int32 → Option (Int32)) : Nat → Int32 → Int32 → Option (Int32)
  | 0, _, _ => none
  | n + 1, x2, x3 => (if x1 ≤ x3 then (K x2) else (cl_X1_turnedPairs_14 σ x1 x3 (fun x10 => (cl_X1_turnedPairs_4 σ x1 K n x10 (x3 + 1))) ca_FU x2 (x3 + 1)))
noncomputable def cf_X1_turnedPairs (σ : ca_S) (x1 : Int32) : Option (Int32) := (cl_X1_turnedPairs_4 σ x1 (fun x11 => (some x11)) ca_FU 0 0)
-- X1_asAnswer
noncomputable def cl_X1_asAnswer_4 (σ : ca_S) (x1 : Int32) (K : Int32 → Option (Int32)) : Nat → Int32 → Int32 → Option (Int32)
  | 0, _, _ => none
  | n + 1, x2, x3 => (if x1 ≤ x3 then (K x2) else (ca_gd (ca_in x3 5) (ca_lt (x2 ||| ((σ.1 (19, 0, 0) (Int32.toNatClampNeg x3)) <<< ((3 * x3) &&& 31))) fun v4 => (cl_X1_asAnswer_4 σ x1 K n v4 (x3 + 1)))))
noncomputable def cf_X1_asAnswer (σ : ca_S) (x1 : Int32) : Option (Int32) := (cl_X1_asAnswer_4 σ x1 (fun x5 => (some x5)) ca_FU 0 0)
-- X1_swap
noncomputable def cf_X1_swap (σ : ca_S) (x1 : Int32) (x2 : Int32) : Option (ca_S) := (ca_gd (ca_in x1 5) (ca_lt (σ.1 (19, 0, 0) (Int32.toNatClampNeg x1)) fun v2 => (ca_gd (ca_in x2 5) (ca_gd (ca_in x1 5) (ca_lt (ca_st σ (19, 0, 0) (Int32.toNatClampNeg x1) (σ.1 (19, 0, 0) (Int32.toNatClampNeg x2))) fun σ5 => (ca_gd (ca_in x2 5) (ca_lt (ca_st σ5 (19, 0, 0) (Int32.toNatClampNeg x2) v2) fun σ7 => (some σ7))))))))
-- X1_layOutNext
noncomputable def cl_X1_layOutNext_4 (σ : ca_S) (x1 : Int32) (K : Int32 → Option (Int32 × ca_S)) : Nat → Int32 → Option (Int32 × ca_S)
  | 0, _ => none
  | n + 1, x2 => (if x2 < 0 then (K x2) else (ca_gd (ca_in x2 5) (ca_gd (ca_in (x2 + 1) 5) (if (σ.1 (19, 0, 0) (Int32.toNatClampNeg x2)) ≤ (σ.1 (19, 0, 0) (Int32.toNatClampNeg (x2 + 1))) then (K x2) else (cl_X1_layOutNext_4 σ x1 K n (x2 + (-1)))))))
noncomputable def cl_X1_layOutNext_41 (σ : ca_S) (x1 : Int32) (x2 : Int32) (K : Int32 → Option (Int32 × ca_S)) : Nat → Int32 → Option (Int32 × ca_S)
  | 0, _ => none
  | n + 1, x3 => (if x3 ≤ (x2 + 1) then (K x3) else (ca_gd (ca_in x3 5) (ca_gd (ca_in x2 5) (if (σ.1 (19, 0, 0) (Int32.toNatClampNeg x2)) ≤ (σ.1 (19, 0, 0) (Int32.toNatClampNeg x3)) then (K x3) else (cl_X1_layOutNext_41 σ x1 x2 K n (x3 + (-1)))))))
noncomputable def cl_X1_layOutNext_85 (K : ca_S → Option (Int32 × ca_S)) : Nat → ca_S → Int32 → Int32 → Option (Int32 × ca_S)
  | 0, _, _, _ => none
  | n + 1, σ, x4, x5 => (if x4 ≤ x5 then (K σ) else (ca_bv (cf_X1_swap σ x5 x4) fun σ23 => (cl_X1_layOutNext_85 K n σ23 (x4 + (-1)) (x5 + 1))))
noncomputable def cj_X1_layOutNext_69 (σ : ca_S) (x1 : Int32) (x2 : Int32) (x3 : Int32) : Option (Int32 × ca_S) := (ca_bv (cf_X1_swap σ x2 x3) fun σ18 => (cl_X1_layOutNext_85 (fun σ25 => (some (1, σ25))) ca_FU σ18 (x1 - 1) (x2 + 1)))
noncomputable def cj_X1_layOutNext_31 (σ : ca_S) (x1 : Int32) (x2 : Int32) : Option (Int32 × ca_S) := (if 0 ≤ x2 then (cl_X1_layOutNext_41 σ x1 x2 (fun x16 => (cj_X1_layOutNext_69 σ x1 x2 x16)) ca_FU (x1 - 1)) else (some (0, σ)))
noncomputable def cf_X1_layOutNext (σ : ca_S) (x1 : Int32) : Option (Int32 × ca_S) := (cl_X1_layOutNext_4 σ x1 (fun x7 => (cj_X1_layOutNext_31 σ x1 x7)) ca_FU (x1 - 2))
-- X1_join
noncomputable def cl_X1_join_26 (x3 : Int32) (K : ca_S → Option (ca_S)) : Nat → ca_S → Int32 → Option (ca_S)
  | 0, _, _ => none
  | n + 1, σ, x4 => (if x3 ≤ x4 then (K σ) else (ca_gd (ca_in x4 5) (ca_lt (ca_st σ (19, 0, 0) (Int32.toNatClampNeg x4) x4) fun σ13 => (cl_X1_join_26 x3 K n σ13 (x4 + 1)))))
noncomputable def cl_X1_join_53 (x3 : Int32) (K : ca_S → Option (ca_S)) : Nat → ca_S → Int32 → Int32 → Option (ca_S)
  | 0, _, _, _ => none
  | n + 1, σ, x4, x5 => (if x4 = 0 then (K σ) else (if 120 ≤ x5 then (K σ) else (ca_br (cf_X1_turnedPairs σ x3) fun r19 => (if (σ.1 (16, 0, 0) 3) ≤ r19 then (ca_bi (cf_X1_layOutNext σ x3) fun r24 σ25 => (cl_X1_join_53 x3 K n σ25 r24 (x5 + 1))) else (ca_lt (ca_st σ (16, 0, 0) 3 r19) fun σ27 => (ca_br (cf_X1_asAnswer σ27 x3) fun r28 => (ca_lt (ca_st σ27 (16, 0, 0) 2 r28) fun σ31 => (ca_bi (cf_X1_layOutNext σ31 x3) fun r32 σ33 => (cl_X1_join_53 x3 K n σ33 r32 (x5 + 1))))))))))
noncomputable def cf_X1_join (σ : ca_S) (x2 : Int32) (x3 : Int32) : Option (ca_S) := (ca_br (cf_X9_isWithin x3 2 5) fun r1 => (if r1 = 0 then (some σ) else (ca_bv (cf_X1_countPairs σ x2 x3) fun σ7 => (ca_lt (ca_st σ7 (16, 0, 0) 3 2147483647) fun σ9 => (cl_X1_join_26 x3 (fun σ14 => (cl_X1_join_53 x3 (fun σ35 => (some σ35)) ca_FU σ14 1 0)) ca_FU σ9 0)))))
-- X2_take
noncomputable def cf_X2_take (σ : ca_S) (i0 : Nat) (j0 : Nat) (x1 : Int32) (x2 : Int32) (x3 : Int32) : Option (ca_S) := (if x3 = 0 then (ca_lt (ca_st σ (6, i0, j0) 2 (if (σ.1 (6, i0, j0) 2) < x2 then x2 else (σ.1 (6, i0, j0) 2))) fun σ7 => (some σ7)) else (if x2 ≤ (σ.1 (6, i0, j0) 1) then (some σ) else (ca_lt (ca_st σ (6, i0, j0) 1 x2) fun σ5 => (ca_lt (ca_st σ5 (6, i0, j0) 0 x1) fun σ6 => (some σ6)))))
-- X3_isFull
noncomputable def cf_X3_isFull (σ : ca_S) : Option (Int32) := (if (σ.1 (10, 0, 0) 1) < 20 then (some 0) else (some 1))
-- X3_judge
noncomputable def cf_X3_judge (x0 : Int32) (x1 : Int32) : Option (Int32) := (if x0 = (-4) then (some (-1)) else (if x0 = x1 then (some 1) else (some 0)))
-- X3_enter
noncomputable def cj_X3_enter_59 (KB : ca_S → Int32 → Int32 → Option (Int32 × ca_S)) (KX : ca_S → Int32 → Option (Int32 × ca_S)) (σ : ca_S) (x2 : Int32) (x3 : Int32) (i4 : Nat) (x5 : Int32) (x6 : Int32) (xs0 : Int32) (xs1 : Int32) (is2 : Nat) : Option (Int32 × ca_S) := (ca_gd (ca_in xs1 16) (ca_lt (ca_st σ (12, is2, 0) (Int32.toNatClampNeg xs1) xs0) fun σ12 => (ca_gd (ca_in x6 16) (if (σ12.1 (12, i4, 0) (Int32.toNatClampNeg x6)) = 1 then (ca_gd (ca_in x6 16) (ca_lt (ca_st σ12 (2, (Int32.toNatClampNeg x6), 0) 6 ((σ12.1 (2, (Int32.toNatClampNeg x6), 0) 6) + 1)) fun σ17 => (KB σ17 (x5 + 1) (x6 + 1)))) else (KB σ12 x5 (x6 + 1))))))
noncomputable def cl_X3_enter_27 (x2 : Int32) (x3 : Int32) (i4 : Nat) (K : ca_S → Int32 → Option (Int32 × ca_S)) : Nat → ca_S → Int32 → Int32 → Option (Int32 × ca_S)
  | 0, _, _, _ => none
  | n + 1, σ, x5, x6 => (if 16 ≤ x6 then (K σ x5) else (if x2 ≤ x6 then (cj_X3_enter_59 (cl_X3_enter_27 x2 x3 i4 K n) K σ x2 x3 i4 x5 x6 (-1) x6 i4) else (ca_gd (ca_in x6 16) (ca_br (cf_X0_countedAnswer σ (Int32.toNatClampNeg x6)) fun r19 => (ca_br (cf_X3_judge r19 x3) fun r22 => (cj_X3_enter_59 (cl_X3_enter_27 x2 x3 i4 K n) K σ x2 x3 i4 x5 x6 r22 x6 i4))))))
noncomputable def cf_X3_enter (σ : ca_S) (x2 : Int32) (x3 : Int32) : Option (Int32 × ca_S) := (ca_br (cf_X3_isFull σ) fun r1 => (if r1 = 0 then (ca_gd (ca_in (σ.1 (10, 0, 0) 1) 20) (cl_X3_enter_27 x2 x3 (Int32.toNatClampNeg (σ.1 (10, 0, 0) 1)) (fun σ25 x26 => (ca_lt (ca_st σ25 (10, 0, 0) 1 ((σ25.1 (10, 0, 0) 1) + 1)) fun σ27 => (some (x26, σ27)))) ca_FU σ 0 0)) else (some ((-3), σ))))
-- X3_having
noncomputable def cl_X3_having_5 (σ : ca_S) (x1 : Int32) (x2 : Int32) (K : Int32 → Option (Int32)) : Nat → Int32 → Int32 → Option (Int32)
  | 0, _, _ => none
  | n + 1, x3, x4 => (if 16 ≤ x4 then (K x3) else (ca_gd (ca_in x1 20) (ca_gd (ca_in x4 16) (if (σ.1 (12, (Int32.toNatClampNeg x1), 0) (Int32.toNatClampNeg x4)) = x2 then (cl_X3_having_5 σ x1 x2 K n (x3 + 1) (x4 + 1)) else (cl_X3_having_5 σ x1 x2 K n x3 (x4 + 1))))))
noncomputable def cf_X3_having (σ : ca_S) (x1 : Int32) (x2 : Int32) : Option (Int32) := (cl_X3_having_5 σ x1 x2 (fun x7 => (some x7)) ca_FU 0 0)
-- X3_bestPage
noncomputable def cl_X3_bestPage_7 (σ : ca_S) (K : Int32 → Option (Int32)) : Nat → Int32 → Int32 → Int32 → Option (Int32)
  | 0, _, _, _ => none
  | n + 1, x1, x2, x3 => (if (σ.1 (10, 0, 0) 1) ≤ x3 then (K x1) else (ca_br (cf_X3_having σ x3 1) fun r3 => (ca_br (cf_X3_having σ x3 0) fun r6 => (if (if r6 < r3 then r6 else r3) < x2 then (cl_X3_bestPage_7 σ K n x1 x2 (x3 + 1)) else (cl_X3_bestPage_7 σ K n x3 (if r6 < r3 then r6 else r3) (x3 + 1))))))
noncomputable def cf_X3_bestPage (σ : ca_S) : Option (Int32) := (cl_X3_bestPage_7 σ (fun x11 => (some x11)) ca_FU (-4) 0 0)
-- X4_begin
noncomputable def cf_X4_begin (σ : ca_S) (x1 : Int32) : Option (ca_S) := (ca_lt (ca_sl σ (Int32.toInt64 x1)) fun σ1 => (ca_lt (ca_st σ1 (13, 0, 0) 1 0) fun σ2 => (some σ2)))
-- J6_bitCount_0f7a4
noncomputable def cf_J6_bitCount_0f7a4 (x0 : Int32) : Option (Int32) := (ca_lt (x0 - (((Int32.toUInt32 x0 >>> (Int32.toUInt32 1 &&& Int32.toUInt32 31)).toInt32) &&& 1431655765)) fun v1 => (ca_lt ((v1 &&& 858993459) + (((Int32.toUInt32 v1 >>> (Int32.toUInt32 2 &&& Int32.toUInt32 31)).toInt32) &&& 858993459)) fun v2 => (ca_lt ((v2 + ((Int32.toUInt32 v2 >>> (Int32.toUInt32 4 &&& Int32.toUInt32 31)).toInt32)) &&& 252645135) fun v3 => (ca_lt (v3 + ((Int32.toUInt32 v3 >>> (Int32.toUInt32 8 &&& Int32.toUInt32 31)).toInt32)) fun v4 => (ca_lt (v4 + ((Int32.toUInt32 v4 >>> (Int32.toUInt32 16 &&& Int32.toUInt32 31)).toInt32)) fun v5 => (some (v5 &&& 63)))))))
-- X9_clearBit
noncomputable def cl_X9_clearBit_5 (x0 : Int32) (x1 : Int32) (x2 : Int32) (K : Option (Int32)) : Nat → Int32 → Int32 → Option (Int32)
  | 0, _, _ => none
  | n + 1, x3, x4 => (if x2 ≤ x4 then (K) else (if ((x0 >>> (x4 &&& 31)) &&& 1) = 0 then (if x3 = x1 then (some x4) else (cl_X9_clearBit_5 x0 x1 x2 K n (x3 + 1) (x4 + 1))) else (cl_X9_clearBit_5 x0 x1 x2 K n x3 (x4 + 1))))
noncomputable def cf_X9_clearBit (x0 : Int32) (x1 : Int32) (x2 : Int32) : Option (Int32) := (cl_X9_clearBit_5 x0 x1 x2 (some 0) ca_FU 0 0)
-- X4_next
noncomputable def cf_X4_next (σ : ca_S) (x1 : Int32) : Option (Int32 × ca_S) := (if σ.2 = 0 then (some ((-2), σ)) else (ca_br (cf_J6_bitCount_0f7a4 (σ.1 (13, 0, 0) 1)) fun r3 => (if 0 < (x1 - r3) then (if 2147483647 = 0 then none else (ca_lt (ca_sl σ ((σ.2 * 48271) - (σ.2 * 48271) / 2147483647 * 2147483647)) fun σ9 => (if (Int32.toInt64 (x1 - r3)) = 0 then none else (ca_br (cf_X9_clearBit (σ9.1 (13, 0, 0) 1) (Int64.toInt32 (σ9.2 - σ9.2 / (Int32.toInt64 (x1 - r3)) * (Int32.toInt64 (x1 - r3)))) x1) fun r11 => (ca_lt (ca_st σ9 (13, 0, 0) 1 ((σ9.1 (13, 0, 0) 1) ||| (1 <<< (r11 &&& 31)))) fun σ14 => (some (r11, σ14))))))) else (some ((-4), σ)))))
-- X5_putInOrder
noncomputable def cl_X5_putInOrder_15 (x1 : Int32) (K : ca_S → Int32 → Option (ca_S)) : Nat → ca_S → Int32 → Option (ca_S)
  | 0, _, _ => none
  | n + 1, σ, x2 => (if x2 ≤ 0 then (K σ x2) else (ca_gd (ca_in (x2 - 1) 16) (if (σ.1 (15, 0, 0) (Int32.toNatClampNeg (x2 - 1))) ≤ x1 then (K σ x2) else (ca_gd (ca_in (x2 - 1) 16) (ca_gd (ca_in x2 16) (ca_lt (ca_st σ (15, 0, 0) (Int32.toNatClampNeg x2) (σ.1 (15, 0, 0) (Int32.toNatClampNeg (x2 - 1)))) fun σ10 => (cl_X5_putInOrder_15 x1 K n σ10 (x2 + (-1)))))))))
noncomputable def cj_X5_putInOrder_51 (σ : ca_S) (x1 : Int32) (x2 : Int32) : Option (ca_S) := (ca_gd (ca_in x2 16) (ca_lt (ca_st σ (15, 0, 0) (Int32.toNatClampNeg x2) x1) fun σ14 => (ca_lt (ca_st σ14 (14, 0, 0) 1 ((σ14.1 (14, 0, 0) 1) + 1)) fun σ15 => (some σ15))))
noncomputable def cf_X5_putInOrder (σ : ca_S) (x1 : Int32) : Option (ca_S) := (if (σ.1 (14, 0, 0) 1) < 16 then (cl_X5_putInOrder_15 x1 (fun σ11 x12 => (cj_X5_putInOrder_51 σ11 x1 x12)) ca_FU σ (σ.1 (14, 0, 0) 1)) else (some σ))
-- X5_lesserMiddle
noncomputable def cf_X5_lesserMiddle (σ : ca_S) : Option (Int32) := (if (σ.1 (14, 0, 0) 1) ≤ 0 then (some 0) else (if 2 = 0 then none else (ca_gd (ca_in (((σ.1 (14, 0, 0) 1) - 1) / 2) 16) (some (σ.1 (15, 0, 0) (Int32.toNatClampNeg (((σ.1 (14, 0, 0) 1) - 1) / 2)))))))
-- X5_off
noncomputable def cf_X5_off (σ : ca_S) (i1 : Nat) : Option (Int32) := (ca_br (cf_X0_countedAnswer σ i1) fun r1 => (some (if 0 ≤ (r1 - (σ.1 (14, 0, 0) 2)) then (r1 - (σ.1 (14, 0, 0) 2)) else 0 - (r1 - (σ.1 (14, 0, 0) 2)))))
-- X5_look
noncomputable def cl_X5_look_7 (x2 : Int32) (K : ca_S → Option (ca_S)) : Nat → ca_S → Int32 → Option (ca_S)
  | 0, _, _ => none
  | n + 1, σ, x3 => (if x2 ≤ x3 then (K σ) else (ca_gd (ca_in x3 16) (ca_br (cf_X0_countedAnswer σ (Int32.toNatClampNeg x3)) fun r5 => (if r5 = (-4) then (cl_X5_look_7 x2 K n σ (x3 + 1)) else (ca_gd (ca_in x3 16) (ca_br (cf_X0_countedAnswer σ (Int32.toNatClampNeg x3)) fun r11 => (ca_bv (cf_X5_putInOrder σ r11) fun σ15 => (cl_X5_look_7 x2 K n σ15 (x3 + 1)))))))))
noncomputable def cl_X5_look_54 (x2 : Int32) (K : ca_S → Option (ca_S)) : Nat → ca_S → Int32 → Option (ca_S)
  | 0, _, _ => none
  | n + 1, σ, x3 => (if x2 ≤ x3 then (K σ) else (ca_gd (ca_in x3 16) (ca_br (cf_X0_countedAnswer σ (Int32.toNatClampNeg x3)) fun r26 => (if r26 = (-4) then (cl_X5_look_54 x2 K n σ (x3 + 1)) else (ca_gd (ca_in x3 16) (ca_br (cf_X5_off σ (Int32.toNatClampNeg x3)) fun r32 => (ca_bv (cf_X5_putInOrder σ r32) fun σ36 => (cl_X5_look_54 x2 K n σ36 (x3 + 1)))))))))
noncomputable def cl_X5_look_102 (x2 : Int32) (x3 : Int32) (K : ca_S → Option (ca_S)) : Nat → ca_S → Int32 → Option (ca_S)
  | 0, _, _ => none
  | n + 1, σ, x4 => (if x2 ≤ x4 then (K σ) else (ca_gd (ca_in x4 16) (ca_br (cf_X0_countedAnswer σ (Int32.toNatClampNeg x4)) fun r46 => (if r46 = (-4) then (cl_X5_look_102 x2 x3 K n σ (x4 + 1)) else (ca_gd (ca_in x4 16) (ca_br (cf_X5_off σ (Int32.toNatClampNeg x4)) fun r52 => (if r52 ≤ x3 then (cl_X5_look_102 x2 x3 K n σ (x4 + 1)) else (ca_lt (ca_st σ (14, 0, 0) 3 ((σ.1 (14, 0, 0) 3) ||| (1 <<< (x4 &&& 31)))) fun σ57 => (cl_X5_look_102 x2 x3 K n σ57 (x4 + 1))))))))))
noncomputable def cf_X5_look (σ : ca_S) (x2 : Int32) : Option (ca_S) := (ca_lt (ca_st σ (14, 0, 0) 1 0) fun σ1 => (cl_X5_look_7 x2 (fun σ17 => (ca_br (cf_X5_lesserMiddle σ17) fun r18 => (ca_lt (ca_st σ17 (14, 0, 0) 2 r18) fun σ21 => (ca_lt (ca_st σ21 (14, 0, 0) 1 0) fun σ22 => (cl_X5_look_54 x2 (fun σ38 => (ca_br (cf_X5_lesserMiddle σ38) fun r39 => (ca_lt (ca_st σ38 (14, 0, 0) 3 0) fun σ42 => (cl_X5_look_102 x2 (3 * r39) (fun σ58 => (some σ58)) ca_FU σ42 0)))) ca_FU σ22 0))))) ca_FU σ1 0))
-- X6_put
noncomputable def cf_X6_put (σ : ca_S) (x1 : Int32) (x2 : Int32) (x3 : Int32) (i4 : Nat) : Option (ca_S) := (if (σ.1 (8, 0, 0) 6) < 320 then (ca_gd (ca_in (σ.1 (8, 0, 0) 6) 320) (ca_lt (ca_st σ (9, 0, 0) (Int32.toNatClampNeg (σ.1 (8, 0, 0) 6)) x1) fun σ4 => (ca_gd (ca_in (σ4.1 (8, 0, 0) 6) 320) (ca_lt (ca_st σ4 (9, 1, 0) (Int32.toNatClampNeg (σ4.1 (8, 0, 0) 6)) x2) fun σ6 => (ca_gd (ca_in (σ6.1 (8, 0, 0) 6) 320) (ca_lt (ca_st σ6 (9, 2, 0) (Int32.toNatClampNeg (σ6.1 (8, 0, 0) 6)) x3) fun σ8 => (ca_gd (ca_in (σ8.1 (8, 0, 0) 6) 320) (ca_lt (ca_st σ8 (9, 3, 0) (Int32.toNatClampNeg (σ8.1 (8, 0, 0) 6)) (σ8.1 (2, i4, 0) 3)) fun σ10 => (ca_gd (ca_in (σ10.1 (8, 0, 0) 6) 320) (ca_lt (ca_st σ10 (9, 4, 0) (Int32.toNatClampNeg (σ10.1 (8, 0, 0) 6)) (σ10.1 (2, i4, 0) 2)) fun σ12 => (ca_gd (ca_in (σ12.1 (8, 0, 0) 6) 320) (ca_lt (ca_st σ12 (9, 5, 0) (Int32.toNatClampNeg (σ12.1 (8, 0, 0) 6)) (σ12.1 (2, i4, 0) 4)) fun σ14 => (ca_lt (ca_st σ14 (8, 0, 0) 6 ((σ14.1 (8, 0, 0) 6) + 1)) fun σ15 => (some σ15)))))))))))))) else (some σ))
-- X6_move
noncomputable def cf_X6_move (σ : ca_S) (x1 : Int32) (x2 : Int32) : Option (ca_S) := (ca_gd (ca_in x1 320) (ca_gd (ca_in x2 320) (ca_lt (ca_st σ (9, 0, 0) (Int32.toNatClampNeg x2) (σ.1 (9, 0, 0) (Int32.toNatClampNeg x1))) fun σ3 => (ca_gd (ca_in x1 320) (ca_gd (ca_in x2 320) (ca_lt (ca_st σ3 (9, 1, 0) (Int32.toNatClampNeg x2) (σ3.1 (9, 1, 0) (Int32.toNatClampNeg x1))) fun σ6 => (ca_gd (ca_in x1 320) (ca_gd (ca_in x2 320) (ca_lt (ca_st σ6 (9, 2, 0) (Int32.toNatClampNeg x2) (σ6.1 (9, 2, 0) (Int32.toNatClampNeg x1))) fun σ9 => (ca_gd (ca_in x1 320) (ca_gd (ca_in x2 320) (ca_lt (ca_st σ9 (9, 3, 0) (Int32.toNatClampNeg x2) (σ9.1 (9, 3, 0) (Int32.toNatClampNeg x1))) fun σ12 => (ca_gd (ca_in x1 320) (ca_gd (ca_in x2 320) (ca_lt (ca_st σ12 (9, 4, 0) (Int32.toNatClampNeg x2) (σ12.1 (9, 4, 0) (Int32.toNatClampNeg x1))) fun σ15 => (ca_gd (ca_in x1 320) (ca_gd (ca_in x2 320) (ca_lt (ca_st σ15 (9, 5, 0) (Int32.toNatClampNeg x2) (σ15.1 (9, 5, 0) (Int32.toNatClampNeg x1))) fun σ18 => (some σ18)))))))))))))))))))
-- X6_bringWhatIsDue
noncomputable def cl_X6_bringWhatIsDue_6 (x1 : Int32) (x2 : Int32) (K : ca_S → Int32 → Option (ca_S)) : Nat → ca_S → Int32 → Int32 → Option (ca_S)
  | 0, _, _, _ => none
  | n + 1, σ, x4, x5 => (if (σ.1 (8, 0, 0) 6) ≤ x5 then (K σ x4) else (ca_gd (ca_in x5 320) (if (σ.1 (9, 0, 0) (Int32.toNatClampNeg x5)) = x1 then (ca_gd (ca_in x5 320) (ca_gd (ca_in (σ.1 (9, 1, 0) (Int32.toNatClampNeg x5)) 16) (ca_gd (ca_in x5 320) (ca_gd (ca_in (σ.1 (9, 2, 0) (Int32.toNatClampNeg x5)) 2) (ca_gd (ca_in x5 320) (ca_gd (ca_in x5 320) (ca_gd (ca_in x5 320) (if x2 ≤ (σ.1 (9, 5, 0) (Int32.toNatClampNeg x5)) then (ca_bv (cf_X2_take σ (Int32.toNatClampNeg (σ.1 (9, 1, 0) (Int32.toNatClampNeg x5))) (Int32.toNatClampNeg (σ.1 (9, 2, 0) (Int32.toNatClampNeg x5))) (σ.1 (9, 3, 0) (Int32.toNatClampNeg x5)) (σ.1 (9, 4, 0) (Int32.toNatClampNeg x5)) 0) fun σ19 => (cl_X6_bringWhatIsDue_6 x1 x2 K n σ19 x4 (x5 + 1))) else (ca_bv (cf_X2_take σ (Int32.toNatClampNeg (σ.1 (9, 1, 0) (Int32.toNatClampNeg x5))) (Int32.toNatClampNeg (σ.1 (9, 2, 0) (Int32.toNatClampNeg x5))) (σ.1 (9, 3, 0) (Int32.toNatClampNeg x5)) (σ.1 (9, 4, 0) (Int32.toNatClampNeg x5)) 1) fun σ22 => (cl_X6_bringWhatIsDue_6 x1 x2 K n σ22 x4 (x5 + 1))))))))))) else (ca_bv (cf_X6_move σ x5 x4) fun σ7 => (cl_X6_bringWhatIsDue_6 x1 x2 K n σ7 (x4 + 1) (x5 + 1))))))
noncomputable def cf_X6_bringWhatIsDue (σ : ca_S) (x1 : Int32) (x2 : Int32) : Option (ca_S) := (cl_X6_bringWhatIsDue_6 x1 x2 (fun σ24 x25 => (ca_lt (ca_st σ24 (8, 0, 0) 6 x25) fun σ26 => (some σ26))) ca_FU σ 0 0)
-- X7_isKind
noncomputable def cf_X7_isKind (x0 : Int32) (x1 : Int32) : Option (Int32) := (if x0 = 0 then (some 1) else (if x0 = 1 then (some 1) else (if x0 = 2 then (ca_br (cf_X9_isWithin x1 2 5) fun r7 => (if r7 = 0 then (some 0) else (some 1))) else (some 0))))
-- X7_begin
noncomputable def cf_X7_begin (σ : ca_S) (x1 : Int32) (x2 : Int32) (x3 : Int32) : Option (ca_S) := (ca_lt (ca_st σ (7, 0, 0) 0 1) fun σ1 => (ca_lt (ca_st σ1 (7, 0, 0) 1 x1) fun σ2 => (if x1 = 2 then (ca_lt (ca_st σ2 (7, 0, 0) 2 x2) fun σ7 => (ca_lt (ca_st σ7 (7, 0, 0) 3 x3) fun σ8 => (some σ8))) else (ca_lt (ca_st σ2 (7, 0, 0) 2 0) fun σ5 => (ca_lt (ca_st σ5 (7, 0, 0) 3 x3) fun σ6 => (some σ6))))))
-- X7_isOrder
noncomputable def cl_X7_isOrder_21 (σ : ca_S) (x1 : Int32) (K : Int32 → Option (Int32)) : Nat → Int32 → Int32 → Option (Int32)
  | 0, _, _ => none
  | n + 1, x2, x3 => (if (σ.1 (7, 0, 0) 2) ≤ x3 then (K x2) else (ca_lt (x2 ||| (1 <<< (((x1 >>> ((3 * x3) &&& 31)) &&& 7) &&& 31))) fun v7 => (cl_X7_isOrder_21 σ x1 K n v7 (x3 + 1))))
noncomputable def cf_X7_isOrder (σ : ca_S) (x1 : Int32) : Option (Int32) := (if x1 < 0 then (some 0) else (if (x1 >>> ((3 * (σ.1 (7, 0, 0) 2)) &&& 31)) = 0 then (cl_X7_isOrder_21 σ x1 (fun x8 => (if x8 = ((1 <<< ((σ.1 (7, 0, 0) 2) &&& 31)) - 1) then (some 1) else (some 0))) ca_FU 0 0) else (some 0)))
-- X7_takes
noncomputable def cf_X7_takes (σ : ca_S) (x1 : Int32) : Option (Int32) := (if (σ.1 (7, 0, 0) 1) = 0 then (ca_br (cf_X9_isWithin x1 0 7) fun r2 => (ca_gd (ca_bo r2) (some r2))) else (if (σ.1 (7, 0, 0) 1) = 1 then (ca_br (cf_X9_isWithin x1 0 100000) fun r7 => (ca_gd (ca_bo r7) (some r7))) else (ca_br (cf_X7_isOrder σ x1) fun r11 => (ca_gd (ca_bo r11) (some r11)))))
-- X8_lay
noncomputable def cf_X8_lay (σ : ca_S) (i0 : Nat) (j0 : Nat) (x1 : Int32) (x2 : Int32) : Option (ca_S) := (ca_lt (ca_st σ (4, i0, j0) 0 x1) fun σ1 => (ca_lt (ca_st σ1 (4, i0, j0) 2 x2) fun σ2 => (ca_lt (ca_st σ2 (4, i0, j0) 1 0) fun σ3 => (some σ3))))
-- X8_losesNext
noncomputable def cj_X8_losesNext_20 (σ : ca_S) (i0 : Nat) (j0 : Nat) (xs0 : Int32) : Option (Int32 × ca_S) := (ca_lt (ca_st σ (4, i0, j0) 1 (((σ.1 (4, i0, j0) 1) + 1) &&& 15)) fun σ3 => (ca_gd (ca_bo xs0) (some (xs0, σ3))))
noncomputable def cf_X8_losesNext (σ : ca_S) (i0 : Nat) (j0 : Nat) : Option (Int32 × ca_S) := (if (((σ.1 (4, i0, j0) 0) >>> ((σ.1 (4, i0, j0) 1) &&& 31)) &&& 1) = 1 then (cj_X8_losesNext_20 σ i0 j0 1) else (cj_X8_losesNext_20 σ i0 j0 0))
-- X9_box
noncomputable def cf_X9_box (σ : ca_S) : Option (Int32 × ca_S) := (if (σ.1 (7, 0, 0) 0) = 0 then (if (σ.1 (0, 0, 0) 1) < 16 then (ca_lt (ca_st σ (0, 0, 0) 1 ((σ.1 (0, 0, 0) 1) + 1)) fun σ5 => (some (((σ5.1 (0, 0, 0) 1) - 1), σ5))) else (some ((-3), σ))) else (some ((-2), σ)))
-- X9_isBox
noncomputable def cf_X9_isBox (σ : ca_S) (x1 : Int32) : Option (Int32) := (if x1 < 0 then (some 0) else (if (σ.1 (0, 0, 0) 1) ≤ x1 then (some 0) else (some 1)))
-- X9_isBase
noncomputable def cf_X9_isBase (x0 : Int32) : Option (Int32) := (if x0 < 0 then (some 0) else (if 2 ≤ x0 then (some 0) else (some 1)))
-- X9_road
noncomputable def cf_X9_road (σ : ca_S) (x1 : Int32) (x2 : Int32) (x3 : Int32) (x4 : Int32) : Option (Int32 × ca_S) := (ca_br (cf_X9_isBox σ x1) fun r1 => (if r1 = 0 then (some ((-1), σ)) else (ca_br (cf_X9_isBase x2) fun r6 => (if r6 = 0 then (some ((-1), σ)) else (ca_br (cf_X9_isWithin x3 0 65535) fun r11 => (if r11 = 0 then (some ((-1), σ)) else (ca_br (cf_X9_isWithin x4 0 9) fun r16 => (if r16 = 0 then (some ((-1), σ)) else (ca_gd (ca_in x1 16) (ca_gd (ca_in x2 2) (ca_bv (cf_X8_lay σ (Int32.toNatClampNeg x1) (Int32.toNatClampNeg x2) x3 x4) fun σ24 => (some (0, σ24)))))))))))))
-- X9_rule
noncomputable def cj_X9_rule_25 (σ : ca_S) (x1 : Int32) (x2 : Int32) : Option (Int32 × ca_S) := (if x1 = 1 then (ca_br (cf_X9_isWithin x2 0 16) fun r5 => (if r5 = 0 then (some ((-1), σ)) else (ca_lt (ca_st σ (0, 0, 0) 4 x2) fun σ10 => (some ((σ.1 (0, 0, 0) 4), σ10))))) else (some ((-1), σ)))
noncomputable def cf_X9_rule (σ : ca_S) (x1 : Int32) (x2 : Int32) : Option (Int32 × ca_S) := (if x1 = 0 then (ca_br (cf_X9_isWithin x2 0 1) fun r11 => (if r11 = 0 then (cj_X9_rule_25 σ x1 x2) else (ca_lt (ca_st σ (0, 0, 0) 3 x2) fun σ16 => (some ((σ.1 (0, 0, 0) 3), σ16))))) else (cj_X9_rule_25 σ x1 x2))
-- X9_ask
noncomputable def cl_X9_ask_50 (K : ca_S → Option (Int32 × ca_S)) : Nat → ca_S → Int32 → Option (Int32 × ca_S)
  | 0, _, _ => none
  | n + 1, σ, x4 => (if (σ.1 (0, 0, 0) 1) ≤ x4 then (K σ) else (ca_gd (ca_in x4 16) (ca_bv (cf_X0_forget σ (Int32.toNatClampNeg x4)) fun σ19 => (cl_X9_ask_50 K n σ19 (x4 + 1)))))
noncomputable def cf_X9_ask (σ : ca_S) (x1 : Int32) (x2 : Int32) (x3 : Int32) : Option (Int32 × ca_S) := (ca_br (cf_X7_isKind x1 x2) fun r1 => (if r1 = 0 then (some ((-1), σ)) else (if x3 ≤ (σ.1 (0, 0, 0) 2) then (some ((-1), σ)) else (if x3 ≤ 100000 then (if (σ.1 (7, 0, 0) 0) = 0 then (ca_bv (cf_X7_begin σ x1 x2 x3) fun σ13 => (cl_X9_ask_50 (fun σ21 => (some (0, σ21))) ca_FU σ13 0)) else (some ((-2), σ))) else (some ((-1), σ))))))
-- X9_send
noncomputable def cf_X9_send (σ : ca_S) (x1 : Int32) (x2 : Int32) : Option (Int32 × ca_S) := (ca_br (cf_X9_isBox σ x1) fun r1 => (if r1 = 0 then (some ((-1), σ)) else (if (σ.1 (7, 0, 0) 0) = 0 then (some ((-2), σ)) else (ca_br (cf_X7_takes σ x2) fun r8 => (if r8 = 0 then (some ((-1), σ)) else (ca_gd (ca_in x1 16) (ca_bi (cf_X0_write σ (Int32.toNatClampNeg x1) x2 (σ.1 (0, 0, 0) 2)) fun r14 σ15 => (some (r14, σ15)))))))))
-- X9_isTrying
noncomputable def cf_X9_isTrying (σ : ca_S) (i1 : Nat) : Option (Int32) := (if (σ.1 (7, 0, 0) 0) = 0 then (some 0) else (ca_br (cf_X0_hasTriesLeft σ i1) fun r3 => (if r3 = 0 then (some 0) else (ca_br (cf_X0_isAcknowledged σ i1) fun r8 => (if r8 = 0 then (some 1) else (some 0))))))
-- X9_isQuiet
noncomputable def cl_X9_isQuiet_14 (σ : ca_S) (K : Option (Int32)) : Nat → Int32 → Option (Int32)
  | 0, _ => none
  | n + 1, x1 => (if (σ.1 (0, 0, 0) 1) ≤ x1 then (K) else (ca_gd (ca_in x1 16) (ca_br (cf_X9_isTrying σ (Int32.toNatClampNeg x1)) fun r6 => (if r6 = 0 then (cl_X9_isQuiet_14 σ K n (x1 + 1)) else (some 0)))))
noncomputable def cf_X9_isQuiet (σ : ca_S) : Option (Int32) := (if (σ.1 (8, 0, 0) 6) ≤ 0 then (cl_X9_isQuiet_14 σ (some 1) ca_FU 0) else (some 0))
-- X9_tryBothRoads
noncomputable def cl_X9_tryBothRoads_19 (x1 : Int32) (i2 : Nat) (K : ca_S → Option (ca_S)) : Nat → ca_S → Int32 → Option (ca_S)
  | 0, _, _ => none
  | n + 1, σ, x3 => (if 2 ≤ x3 then (K σ) else (ca_gd (ca_in x3 2) (ca_lt (ca_st σ (0, 0, 0) 5 ((σ.1 (0, 0, 0) 5) + 1)) fun σ6 => (ca_bi (cf_X8_losesNext σ6 i2 (Int32.toNatClampNeg x3)) fun r7 σ8 => (if r7 = 0 then (ca_bv (cf_X6_put σ8 ((σ8.1 (0, 0, 0) 2) + (σ8.1 (4, i2, (Int32.toNatClampNeg x3)) 2)) x1 x3 i2) fun σ13 => (cl_X9_tryBothRoads_19 x1 i2 K n σ13 (x3 + 1))) else (cl_X9_tryBothRoads_19 x1 i2 K n σ8 (x3 + 1)))))))
noncomputable def cf_X9_tryBothRoads (σ : ca_S) (x1 : Int32) : Option (ca_S) := (ca_gd (ca_in x1 16) (ca_lt (ca_st σ (2, (Int32.toNatClampNeg x1), 0) 5 ((σ.1 (2, (Int32.toNatClampNeg x1), 0) 5) + 1)) fun σ2 => (cl_X9_tryBothRoads_19 x1 (Int32.toNatClampNeg x1) (fun σ15 => (some σ15)) ca_FU σ2 0)))
-- X9_passTick
noncomputable def cl_X9_passTick_2 (K : ca_S → Option (ca_S)) : Nat → ca_S → Int32 → Option (ca_S)
  | 0, _, _ => none
  | n + 1, σ, x1 => (if (σ.1 (0, 0, 0) 1) ≤ x1 then (K σ) else (ca_gd (ca_in x1 16) (ca_br (cf_X9_isTrying σ (Int32.toNatClampNeg x1)) fun r4 => (if r4 = 0 then (cl_X9_passTick_2 K n σ (x1 + 1)) else (ca_bv (cf_X9_tryBothRoads σ x1) fun σ10 => (cl_X9_passTick_2 K n σ10 (x1 + 1)))))))
noncomputable def cf_X9_passTick (σ : ca_S) : Option (ca_S) := (cl_X9_passTick_2 (fun σ12 => (ca_bv (cf_X6_bringWhatIsDue σ12 (σ12.1 (0, 0, 0) 2) (σ12.1 (7, 0, 0) 3)) fun σ14 => (ca_lt (ca_st σ14 (0, 0, 0) 2 ((σ14.1 (0, 0, 0) 2) + 1)) fun σ16 => (some σ16)))) ca_FU σ 0)
-- X9_ticks
noncomputable def cl_X9_ticks_36 (x1 : Int32) (x2 : Int32) (K : ca_S → Option (Int32 × ca_S)) : Nat → ca_S → Int32 → Option (Int32 × ca_S)
  | 0, _, _ => none
  | n + 1, σ, x3 => (if x1 ≤ x3 then (K σ) else (ca_br (cf_X9_isQuiet σ) fun r10 => (if r10 = 0 then (ca_bv (cf_X9_passTick σ) fun σ16 => (cl_X9_ticks_36 x1 x2 K n σ16 (x3 + 1))) else (K σ))))
noncomputable def cf_X9_ticks (σ : ca_S) (x1 : Int32) : Option (Int32 × ca_S) := (ca_br (cf_X9_isWithin x1 1 200) fun r1 => (if r1 = 0 then (some ((-1), σ)) else (if ((σ.1 (0, 0, 0) 2) + x1) ≤ 100000 then (cl_X9_ticks_36 x1 ((σ.1 (0, 0, 0) 2) + x1) (fun σ18 => (ca_lt (ca_st σ18 (0, 0, 0) 2 ((σ.1 (0, 0, 0) 2) + x1)) fun σ19 => (some ((σ19.1 (0, 0, 0) 2), σ19)))) ca_FU σ 0) else (some ((-3), σ)))))
-- X9_base
noncomputable def cf_X9_base (σ : ca_S) (x1 : Int32) (x2 : Int32) (x3 : Int32) : Option (Int32) := (ca_br (cf_X9_isBase x1) fun r1 => (if r1 = 0 then (some (-1)) else (ca_br (cf_X9_isBox σ x2) fun r6 => (if r6 = 0 then (some (-1)) else (ca_br (cf_X9_isWithin x3 0 3) fun r11 => (if r11 = 0 then (some (-1)) else (ca_gd (ca_in x2 16) (ca_gd (ca_in x1 2) (if x3 = 0 then (if (σ.1 (6, (Int32.toNatClampNeg x2), (Int32.toNatClampNeg x1)) 1) ≤ 0 then (some (-4)) else (some (σ.1 (6, (Int32.toNatClampNeg x2), (Int32.toNatClampNeg x1)) 0))) else (if x3 = 1 then (if (σ.1 (6, (Int32.toNatClampNeg x2), (Int32.toNatClampNeg x1)) 1) ≤ 0 then (some (-4)) else (some (σ.1 (6, (Int32.toNatClampNeg x2), (Int32.toNatClampNeg x1)) 1))) else (if x3 = 2 then (if (σ.1 (6, (Int32.toNatClampNeg x2), (Int32.toNatClampNeg x1)) 2) ≤ 0 then (some (-4)) else (some (σ.1 (6, (Int32.toNatClampNeg x2), (Int32.toNatClampNeg x1)) 2))) else (ca_br (cf_X2_greatestCount σ (Int32.toNatClampNeg x2) (Int32.toNatClampNeg x1)) fun r27 => (if r27 ≤ 0 then (some (-4)) else (ca_br (cf_X2_greatestCount σ (Int32.toNatClampNeg x2) (Int32.toNatClampNeg x1)) fun r32 => (some r32)))))))))))))))
-- X9_about
noncomputable def cf_X9_about (σ : ca_S) (x1 : Int32) (x2 : Int32) : Option (Int32) := (ca_br (cf_X9_isBox σ x1) fun r1 => (if r1 = 0 then (some (-1)) else (ca_br (cf_X9_isWithin x2 0 3) fun r6 => (if r6 = 0 then (some (-1)) else (ca_gd (ca_in x1 16) (if x2 = 0 then (some (σ.1 (2, (Int32.toNatClampNeg x1), 0) 2)) else (if x2 = 1 then (some ((σ.1 (2, (Int32.toNatClampNeg x1), 0) 5) * 2)) else (if x2 = 2 then (ca_br (cf_X0_isAcknowledged σ (Int32.toNatClampNeg x1)) fun r15 => (if r15 = 0 then (some 0) else (some 1))) else (ca_br (cf_X0_countedAnswer σ (Int32.toNatClampNeg x1)) fun r20 => (some r20))))))))))
-- X9_isShown
noncomputable def cf_X9_isShown (σ : ca_S) : Option (Int32) := (if (σ.1 (7, 0, 0) 0) = 0 then (some 0) else (if (σ.1 (0, 0, 0) 3) = 0 then (some 1) else (if (σ.1 (0, 0, 0) 2) < (σ.1 (7, 0, 0) 3) then (some 0) else (some 1))))
-- X9_countAnswered
noncomputable def cl_X9_countAnswered_4 (σ : ca_S) (K : Int32 → Option (Int32)) : Nat → Int32 → Int32 → Option (Int32)
  | 0, _, _ => none
  | n + 1, x1, x2 => (if (σ.1 (0, 0, 0) 1) ≤ x2 then (K x1) else (ca_gd (ca_in x2 16) (ca_br (cf_X0_countedAnswer σ (Int32.toNatClampNeg x2)) fun r4 => (if r4 = (-4) then (cl_X9_countAnswered_4 σ K n x1 (x2 + 1)) else (cl_X9_countAnswered_4 σ K n (x1 + 1) (x2 + 1))))))
noncomputable def cf_X9_countAnswered (σ : ca_S) : Option (Int32) := (cl_X9_countAnswered_4 σ (fun x9 => (some x9)) ca_FU 0 0)
-- X9_answers
noncomputable def cf_X9_answers (σ : ca_S) : Option (Int32) := (ca_br (cf_X9_isShown σ) fun r1 => (if r1 = 0 then (some (-2)) else (ca_br (cf_X9_countAnswered σ) fun r6 => (some r6))))
-- X9_areResultsShown
noncomputable def cf_X9_areResultsShown (σ : ca_S) (x1 : Int32) : Option (Int32) := (ca_br (cf_X9_isShown σ) fun r1 => (if r1 = 0 then (some 0) else (if (σ.1 (7, 0, 0) 1) = x1 then (ca_br (cf_X9_countAnswered σ) fun r8 => (if r8 < (σ.1 (0, 0, 0) 4) then (some 0) else (some 1))) else (some 0))))
-- X9_share
noncomputable def cl_X9_share_27 (σ : ca_S) (x1 : Int32) (K : Int32 → Option (Int32)) : Nat → Int32 → Int32 → Option (Int32)
  | 0, _, _ => none
  | n + 1, x2, x3 => (if (σ.1 (0, 0, 0) 1) ≤ x3 then (K x2) else (ca_gd (ca_in x3 16) (ca_br (cf_X0_countedAnswer σ (Int32.toNatClampNeg x3)) fun r14 => (if r14 = x1 then (cl_X9_share_27 σ x1 K n (x2 + 1) (x3 + 1)) else (cl_X9_share_27 σ x1 K n x2 (x3 + 1))))))
noncomputable def cf_X9_share (σ : ca_S) (x1 : Int32) : Option (Int32) := (ca_br (cf_X9_isWithin x1 0 7) fun r1 => (if r1 = 0 then (some (-1)) else (ca_br (cf_X9_areResultsShown σ 0) fun r6 => (if r6 = 0 then (some (-2)) else (cl_X9_share_27 σ x1 (fun x19 => (some x19)) ca_FU 0 0)))))
-- X9_number
noncomputable def cf_X9_number (σ : ca_S) (x1 : Int32) : Option (Int32 × ca_S) := (ca_br (cf_X9_isWithin x1 0 2) fun r1 => (if r1 = 0 then (some ((-1), σ)) else (ca_br (cf_X9_areResultsShown σ 1) fun r6 => (if r6 = 0 then (some ((-2), σ)) else (ca_br (cf_X9_countAnswered σ) fun r11 => (if r11 = 0 then (some ((-2), σ)) else (ca_bv (cf_X5_look σ (σ.1 (0, 0, 0) 1)) fun σ17 => (if x1 = 0 then (some ((σ17.1 (14, 0, 0) 2), σ17)) else (if x1 = 1 then (ca_br (cf_J6_bitCount_0f7a4 (σ17.1 (14, 0, 0) 3)) fun r23 => (some (r23, σ17))) else (some ((σ17.1 (14, 0, 0) 3), σ17)))))))))))
-- X9_order
noncomputable def cf_X9_order (σ : ca_S) (x1 : Int32) : Option (Int32 × ca_S) := (ca_br (cf_X9_isWithin x1 0 1) fun r1 => (if r1 = 0 then (some ((-1), σ)) else (ca_br (cf_X9_areResultsShown σ 2) fun r6 => (if r6 = 0 then (some ((-2), σ)) else (ca_br (cf_X9_countAnswered σ) fun r11 => (if r11 = 0 then (some ((-2), σ)) else (ca_bv (cf_X1_join σ (σ.1 (0, 0, 0) 1) (σ.1 (7, 0, 0) 2)) fun σ17 => (if x1 = 0 then (some ((σ17.1 (16, 0, 0) 2), σ17)) else (some ((σ17.1 (16, 0, 0) 3), σ17))))))))))
-- X9_close
noncomputable def cf_X9_close (σ : ca_S) (x1 : Int32) : Option (Int32 × ca_S) := (if (σ.1 (7, 0, 0) 0) = 0 then (some ((-2), σ)) else (ca_br (cf_X7_takes σ x1) fun r3 => (if r3 = 0 then (some ((-1), σ)) else (if (σ.1 (7, 0, 0) 3) ≤ (σ.1 (0, 0, 0) 2) then (ca_br (cf_X3_isFull σ) fun r10 => (if r10 = 0 then (ca_lt (ca_st σ (7, 0, 0) 0 0) fun σ15 => (ca_lt (ca_st σ15 (8, 0, 0) 6 0) fun σ16 => (ca_bi (cf_X3_enter σ16 (σ16.1 (0, 0, 0) 1) x1) fun r17 σ18 => (some (r17, σ18))))) else (some ((-3), σ)))) else (some ((-2), σ))))))
-- X9_book
noncomputable def cf_X9_book (σ : ca_S) (x1 : Int32) (x2 : Int32) : Option (Int32) := (if x1 < 0 then (some (-9)) else (if (σ.1 (10, 0, 0) 1) ≤ x1 then (some (-9)) else (ca_br (cf_X9_isBox σ x2) fun r5 => (if r5 = 0 then (some (-9)) else (ca_gd (ca_in x1 20) (ca_gd (ca_in x2 16) (some (σ.1 (12, (Int32.toNatClampNeg x1), 0) (Int32.toNatClampNeg x2)))))))))
-- X9_marks
noncomputable def cf_X9_marks (σ : ca_S) (x1 : Int32) : Option (Int32) := (ca_br (cf_X9_isBox σ x1) fun r1 => (if r1 = 0 then (some (-1)) else (ca_gd (ca_in x1 16) (some (σ.1 (2, (Int32.toNatClampNeg x1), 0) 6)))))
-- X9_canBeTeams
noncomputable def cf_X9_canBeTeams (σ : ca_S) (x1 : Int32) : Option (Int32) := (if (x1 &&& (((1 <<< ((σ.1 (0, 0, 0) 1) &&& 31)) - 1) ^^^ (-1))) = 0 then (ca_br (cf_J6_bitCount_0f7a4 x1) fun r3 => (ca_br (cf_X9_isWithin r3 2 12) fun r6 => (if r6 = 0 then (some 0) else (some 1)))) else (some 0))
-- J6_lowestOneBit_0f7a4
noncomputable def cf_J6_lowestOneBit_0f7a4 (x0 : Int32) : Option (Int32) := (some (x0 &&& (-x0)))
-- X9_marksApart
noncomputable def cl_X9_marksApart_5 (σ : ca_S) (x1 : Int32) (x2 : Int32) (K : Int32 → Option (Int32)) : Nat → Int32 → Int32 → Option (Int32)
  | 0, _, _ => none
  | n + 1, x3, x4 => (if (σ.1 (0, 0, 0) 1) ≤ x4 then (K x3) else (if ((x1 >>> (x4 &&& 31)) &&& 1) = 1 then (ca_gd (ca_in x4 16) (ca_lt (x3 + (σ.1 (2, (Int32.toNatClampNeg x4), 0) 6)) fun v10 => (cl_X9_marksApart_5 σ x1 x2 K n v10 (x4 + 1)))) else (if ((x2 >>> (x4 &&& 31)) &&& 1) = 1 then (ca_gd (ca_in x4 16) (ca_lt (x3 - (σ.1 (2, (Int32.toNatClampNeg x4), 0) 6)) fun v8 => (cl_X9_marksApart_5 σ x1 x2 K n v8 (x4 + 1)))) else (cl_X9_marksApart_5 σ x1 x2 K n x3 (x4 + 1)))))
noncomputable def cf_X9_marksApart (σ : ca_S) (x1 : Int32) (x2 : Int32) : Option (Int32) := (cl_X9_marksApart_5 σ x1 x2 (fun x11 => (some (if 0 ≤ x11 then x11 else 0 - x11))) ca_FU 0 0)
-- X9_evenestTeam
noncomputable def cl_X9_evenestTeam_37 (σ : ca_S) (x1 : Int32) (x2 : Int32) (x3 : Int32) (x4 : Int32) (x5 : Int32) (K : Int32 → Option (Int32)) : Nat → Int32 → Int32 → Int32 → Int32 → Option (Int32)
  | 0, _, _, _, _ => none
  | n + 1, x6, x7, x8, x9 => (if x5 ≤ x9 then (K x6) else (ca_br (cf_J6_bitCount_0f7a4 (x2 ||| x8)) fun r9 => (if 1 < (if 0 ≤ ((2 * r9) - x4) then ((2 * r9) - x4) else 0 - ((2 * r9) - x4)) then (cl_X9_evenestTeam_37 σ x1 x2 x3 x4 x5 K n x6 x7 ((x8 - x3) &&& x3) (x9 + 1)) else (ca_br (cf_X9_marksApart σ (x2 ||| x8) x1) fun r14 => (if x7 ≤ r14 then (cl_X9_evenestTeam_37 σ x1 x2 x3 x4 x5 K n x6 x7 ((x8 - x3) &&& x3) (x9 + 1)) else (cl_X9_evenestTeam_37 σ x1 x2 x3 x4 x5 K n (x2 ||| x8) r14 ((x8 - x3) &&& x3) (x9 + 1)))))))
noncomputable def cf_X9_evenestTeam (σ : ca_S) (x1 : Int32) : Option (Int32) := (ca_br (cf_J6_lowestOneBit_0f7a4 x1) fun r1 => (ca_br (cf_J6_bitCount_0f7a4 x1) fun r4 => (cl_X9_evenestTeam_37 σ x1 r1 (x1 ^^^ r1) r4 (1 <<< ((r4 - 1) &&& 31)) (fun x19 => (some x19)) ca_FU 0 2147483647 0 0)))
-- X9_teams
noncomputable def cf_X9_teams (σ : ca_S) (x1 : Int32) (x2 : Int32) : Option (Int32) := (ca_br (cf_X9_isWithin x2 0 1) fun r1 => (if r1 = 0 then (some (-1)) else (ca_br (cf_X9_canBeTeams σ x1) fun r6 => (if r6 = 0 then (some (-1)) else (ca_br (cf_X9_evenestTeam σ x1) fun r11 => (if x2 = 0 then (some r11) else (ca_br (cf_X9_marksApart σ r11 x1) fun r16 => (some r16))))))))
-- X9_best
noncomputable def cf_X9_best (σ : ca_S) : Option (Int32) := (ca_br (cf_X3_bestPage σ) fun r1 => (some r1))
-- X9_seed
noncomputable def cf_X9_seed (σ : ca_S) (x1 : Int32) : Option (Int32 × ca_S) := (ca_br (cf_X9_isWithin x1 1 2147483646) fun r1 => (if r1 = 0 then (some ((-1), σ)) else (ca_bv (cf_X4_begin σ x1) fun σ7 => (some ((σ7.1 (0, 0, 0) 1), σ7)))))
-- X9_draw
noncomputable def cf_X9_draw (σ : ca_S) : Option (Int32 × ca_S) := (ca_bi (cf_X4_next σ (σ.1 (0, 0, 0) 1)) fun r1 σ2 => (some (r1, σ2)))
-- X9_count
noncomputable def cf_X9_count (σ : ca_S) (x1 : Int32) : Option (Int32) := (if x1 = 0 then (some (σ.1 (0, 0, 0) 1)) else (if x1 = 1 then (some (σ.1 (0, 0, 0) 2)) else (if x1 = 2 then (some (σ.1 (10, 0, 0) 1)) else (if x1 = 3 then (if (σ.1 (7, 0, 0) 0) = 0 then (some 0) else (some 1)) else (if x1 = 4 then (some (σ.1 (8, 0, 0) 6)) else (if x1 = 5 then (some (σ.1 (0, 0, 0) 5)) else (some (-1))))))))
-- X10_in
noncomputable def cf_X10_in (x0 : Int32) (x1 : Int32) (x2 : Int32) : Option (Int32) := (if x0 < x1 then (some 0) else (if x2 < x0 then (some 0) else (some 1)))
-- X10_isBox
noncomputable def cf_X10_isBox (σ : ca_S) (x1 : Int32) : Option (Int32) := (ca_br (cf_X10_in x1 0 ((σ.1 (20, 0, 0) 0) - 1)) fun r1 => (ca_gd (ca_bo r1) (some r1)))
-- X10_isBase
noncomputable def cf_X10_isBase (x0 : Int32) : Option (Int32) := (ca_br (cf_X10_in x0 0 1) fun r1 => (ca_gd (ca_bo r1) (some r1)))
-- X10_box
noncomputable def cf_X10_box (σ : ca_S) : Option (Int32 × ca_S) := (if (σ.1 (20, 0, 0) 8) = 0 then (if (σ.1 (20, 0, 0) 0) = 16 then (some ((-3), σ)) else (ca_lt (ca_st σ (20, 0, 0) 0 ((σ.1 (20, 0, 0) 0) + 1)) fun σ5 => (some (((σ5.1 (20, 0, 0) 0) - 1), σ5)))) else (some ((-2), σ)))
-- X10_road
noncomputable def cf_X10_road (σ : ca_S) (x1 : Int32) (x2 : Int32) (x3 : Int32) (x4 : Int32) : Option (Int32 × ca_S) := (ca_br (cf_X10_isBox σ x1) fun r1 => (if r1 = 0 then (some ((-1), σ)) else (ca_br (cf_X10_isBase x2) fun r6 => (if r6 = 0 then (some ((-1), σ)) else (ca_br (cf_X10_in x3 0 65535) fun r11 => (if r11 = 0 then (some ((-1), σ)) else (ca_br (cf_X10_in x4 0 9) fun r16 => (if r16 = 0 then (some ((-1), σ)) else (ca_gd (ca_in ((2 * x1) + x2) 32) (ca_lt (ca_st σ (21, 2, 0) (Int32.toNatClampNeg ((2 * x1) + x2)) x3) fun σ22 => (ca_gd (ca_in ((2 * x1) + x2) 32) (ca_lt (ca_st σ22 (21, 3, 0) (Int32.toNatClampNeg ((2 * x1) + x2)) x4) fun σ24 => (ca_gd (ca_in ((2 * x1) + x2) 32) (ca_lt (ca_st σ24 (21, 4, 0) (Int32.toNatClampNeg ((2 * x1) + x2)) 0) fun σ26 => (some (0, σ26))))))))))))))))
-- X10_rule
noncomputable def cj_X10_rule_76 (σ : ca_S) (x1 : Int32) (x2 : Int32) (x3 : Int32) (xs0 : Int32) : Option (Int32 × ca_S) := (ca_gd (ca_bo xs0) (ca_lt (ca_st σ (20, 0, 0) 6 xs0) fun σ20 => (if x1 = 1 then (ca_lt (ca_st σ20 (20, 0, 0) 7 x2) fun σ24 => (some (x3, σ24))) else (ca_lt (ca_st σ20 (20, 0, 0) 7 (σ20.1 (20, 0, 0) 7)) fun σ23 => (some (x3, σ23))))))
noncomputable def cj_X10_rule_53 (σ : ca_S) (x1 : Int32) (x2 : Int32) (xs0 : Int32) : Option (Int32 × ca_S) := (if x1 = 0 then (if x2 = 1 then (cj_X10_rule_76 σ x1 x2 xs0 1) else (cj_X10_rule_76 σ x1 x2 xs0 0)) else (cj_X10_rule_76 σ x1 x2 xs0 (σ.1 (20, 0, 0) 6)))
noncomputable def cj_X10_rule_21 (σ : ca_S) (x1 : Int32) (x2 : Int32) (xs0 : Int32) (xs1 : Int32) (xs2 : Int32) : Option (Int32 × ca_S) := (ca_br (cf_X10_in xs2 xs1 xs0) fun r8 => (if r8 = 0 then (some ((-1), σ)) else (if x1 = 1 then (cj_X10_rule_53 σ x1 x2 (σ.1 (20, 0, 0) 7)) else (if (σ.1 (20, 0, 0) 6) = 0 then (cj_X10_rule_53 σ x1 x2 0) else (cj_X10_rule_53 σ x1 x2 1)))))
noncomputable def cf_X10_rule (σ : ca_S) (x1 : Int32) (x2 : Int32) : Option (Int32 × ca_S) := (ca_br (cf_X10_in x1 0 1) fun r1 => (if r1 = 0 then (some ((-1), σ)) else (if x1 = 0 then (cj_X10_rule_21 σ x1 x2 1 0 x2) else (cj_X10_rule_21 σ x1 x2 16 0 x2))))
-- X10_ask
noncomputable def cl_X10_ask_77 (K : ca_S → Option (Int32 × ca_S)) : Nat → ca_S → Int32 → Option (Int32 × ca_S)
  | 0, _, _ => none
  | n + 1, σ, x4 => (if 16 ≤ x4 then (K σ) else (ca_gd (ca_in x4 16) (ca_lt (ca_st σ (21, 12, 0) (Int32.toNatClampNeg x4) 0) fun σ22 => (ca_gd (ca_in x4 16) (ca_lt (ca_st σ22 (21, 15, 0) (Int32.toNatClampNeg x4) 1) fun σ24 => (cl_X10_ask_77 K n σ24 (x4 + 1)))))))
noncomputable def cl_X10_ask_109 (K : ca_S → Option (Int32 × ca_S)) : Nat → ca_S → Int32 → Option (Int32 × ca_S)
  | 0, _, _ => none
  | n + 1, σ, x4 => (if 32 ≤ x4 then (K σ) else (ca_gd (ca_in x4 32) (ca_lt (ca_st σ (21, 5, 0) (Int32.toNatClampNeg x4) 0) fun σ29 => (ca_gd (ca_in x4 32) (ca_lt (ca_st σ29 (21, 17, 0) (Int32.toNatClampNeg x4) 0) fun σ31 => (ca_gd (ca_in x4 32) (ca_lt (ca_st σ31 (21, 18, 0) (Int32.toNatClampNeg x4) 0) fun σ33 => (ca_gd (ca_in x4 32) (ca_lt (ca_st σ33 (21, 19, 0) (Int32.toNatClampNeg x4) 0) fun σ35 => (cl_X10_ask_109 K n σ35 (x4 + 1)))))))))))
noncomputable def cj_X10_ask_23 (σ : ca_S) (x1 : Int32) (x2 : Int32) (x3 : Int32) : Option (Int32 × ca_S) := (if x3 ≤ (σ.1 (20, 0, 0) 1) then (some ((-1), σ)) else (if x3 ≤ 100000 then (if (σ.1 (20, 0, 0) 8) = 0 then (ca_lt (ca_st σ (20, 0, 0) 8 1) fun σ14 => (ca_lt (ca_st σ14 (20, 0, 0) 9 x1) fun σ15 => (ca_lt (ca_st σ15 (20, 0, 0) 10 x2) fun σ16 => (ca_lt (ca_st σ16 (20, 0, 0) 11 x3) fun σ17 => (ca_lt (ca_st σ17 (20, 0, 0) 20 0) fun σ18 => (cl_X10_ask_77 (fun σ25 => (cl_X10_ask_109 (fun σ36 => (some (0, σ36))) ca_FU σ25 0)) ca_FU σ18 0)))))) else (some ((-2), σ))) else (some ((-1), σ))))
noncomputable def cf_X10_ask (σ : ca_S) (x1 : Int32) (x2 : Int32) (x3 : Int32) : Option (Int32 × ca_S) := (ca_br (cf_X10_in x1 0 2) fun r1 => (if r1 = 0 then (some ((-1), σ)) else (if x1 = 2 then (ca_br (cf_X10_in x2 2 5) fun r37 => (if r37 = 0 then (some ((-1), σ)) else (cj_X10_ask_23 σ x1 x2 x3))) else (cj_X10_ask_23 σ x1 x2 x3))))
-- X10_isAnswer
noncomputable def cl_X10_isAnswer_32 (σ : ca_S) (x1 : Int32) (K : Int32 → Option (Int32)) : Nat → Int32 → Int32 → Option (Int32)
  | 0, _, _ => none
  | n + 1, x2, x3 => (if (σ.1 (20, 0, 0) 10) ≤ x3 then (K x2) else (ca_lt (x2 ||| (1 <<< (((x1 >>> ((3 * x3) &&& 31)) &&& 7) &&& 31))) fun v5 => (cl_X10_isAnswer_32 σ x1 K n v5 (x3 + 1))))
noncomputable def cf_X10_isAnswer (σ : ca_S) (x1 : Int32) : Option (Int32) := (if 2 ≤ (σ.1 (20, 0, 0) 9) then (cl_X10_isAnswer_32 σ x1 (fun x6 => (if x1 < 0 then (some 0) else (if (x1 >>> ((3 * (σ.1 (20, 0, 0) 10)) &&& 31)) = 0 then (if x6 = ((1 <<< ((σ.1 (20, 0, 0) 10) &&& 31)) - 1) then (some 1) else (some 0)) else (some 0)))) ca_FU 0 0) else (if (σ.1 (20, 0, 0) 9) = 0 then (ca_br (cf_X10_in x1 0 7) fun r19 => (ca_gd (ca_bo r19) (some r19))) else (ca_br (cf_X10_in x1 0 100000) fun r15 => (ca_gd (ca_bo r15) (some r15)))))
-- X10_send
noncomputable def cf_X10_send (σ : ca_S) (x1 : Int32) (x2 : Int32) : Option (Int32 × ca_S) := (ca_br (cf_X10_isBox σ x1) fun r1 => (if r1 = 0 then (some ((-1), σ)) else (if (σ.1 (20, 0, 0) 8) = 0 then (some ((-2), σ)) else (ca_br (cf_X10_isAnswer σ x2) fun r8 => (if r8 = 0 then (some ((-1), σ)) else (ca_gd (ca_in x1 16) (ca_gd (ca_in x1 16) (ca_lt (ca_st σ (21, 12, 0) (Int32.toNatClampNeg x1) ((σ.1 (21, 12, 0) (Int32.toNatClampNeg x1)) + 1)) fun σ15 => (ca_gd (ca_in x1 16) (ca_lt (ca_st σ15 (21, 13, 0) (Int32.toNatClampNeg x1) x2) fun σ17 => (ca_gd (ca_in x1 16) (ca_lt (ca_st σ17 (21, 14, 0) (Int32.toNatClampNeg x1) (σ17.1 (20, 0, 0) 1)) fun σ19 => (ca_gd (ca_in x1 16) (ca_lt (ca_st σ19 (21, 15, 0) (Int32.toNatClampNeg x1) 0) fun σ21 => (ca_gd (ca_in (2 * x1) 32) (ca_lt (ca_st σ21 (21, 5, 0) (Int32.toNatClampNeg (2 * x1)) 0) fun σ23 => (ca_gd (ca_in ((2 * x1) + 1) 32) (ca_lt (ca_st σ23 (21, 5, 0) (Int32.toNatClampNeg ((2 * x1) + 1)) 0) fun σ25 => (ca_gd (ca_in x1 16) (some ((σ25.1 (21, 12, 0) (Int32.toNatClampNeg x1)), σ25)))))))))))))))))))))
-- X10_tryBy
noncomputable def cj_X10_tryBy_55 (σ : ca_S) (x1 : Int32) (xs0 : Int32) : Option (ca_S) := (ca_gd (ca_in x1 32) (if 16 = 0 then none else (ca_gd (ca_in x1 32) (ca_lt (ca_st σ (21, 4, 0) (Int32.toNatClampNeg x1) (((σ.1 (21, 4, 0) (Int32.toNatClampNeg x1)) + 1) - ((σ.1 (21, 4, 0) (Int32.toNatClampNeg x1)) + 1) / 16 * 16)) fun σ15 => (if xs0 = 0 then (ca_gd (ca_in x1 32) (ca_gd (ca_in (σ15.1 (20, 0, 0) 20) 400) (ca_lt (ca_st σ15 (21, 21, 0) (Int32.toNatClampNeg (σ15.1 (20, 0, 0) 20)) ((σ15.1 (20, 0, 0) 1) + (σ15.1 (21, 3, 0) (Int32.toNatClampNeg x1)))) fun σ20 => (ca_gd (ca_in (σ20.1 (20, 0, 0) 20) 400) (ca_lt (ca_st σ20 (21, 22, 0) (Int32.toNatClampNeg (σ20.1 (20, 0, 0) 20)) x1) fun σ22 => (if 2 = 0 then none else (ca_gd (ca_in (x1 / 2) 16) (ca_gd (ca_in (σ22.1 (20, 0, 0) 20) 400) (ca_lt (ca_st σ22 (21, 23, 0) (Int32.toNatClampNeg (σ22.1 (20, 0, 0) 20)) (σ22.1 (21, 12, 0) (Int32.toNatClampNeg (x1 / 2)))) fun σ26 => (if 2 = 0 then none else (ca_gd (ca_in (x1 / 2) 16) (ca_gd (ca_in (σ26.1 (20, 0, 0) 20) 400) (ca_lt (ca_st σ26 (21, 24, 0) (Int32.toNatClampNeg (σ26.1 (20, 0, 0) 20)) (σ26.1 (21, 13, 0) (Int32.toNatClampNeg (x1 / 2)))) fun σ30 => (if 2 = 0 then none else (ca_gd (ca_in (x1 / 2) 16) (ca_gd (ca_in (σ30.1 (20, 0, 0) 20) 400) (ca_lt (ca_st σ30 (21, 25, 0) (Int32.toNatClampNeg (σ30.1 (20, 0, 0) 20)) (σ30.1 (21, 14, 0) (Int32.toNatClampNeg (x1 / 2)))) fun σ34 => (ca_lt (ca_st σ34 (20, 0, 0) 20 ((σ34.1 (20, 0, 0) 20) + 1)) fun σ35 => (some σ35))))))))))))))))))) else (some σ15))))))
noncomputable def cf_X10_tryBy (σ : ca_S) (x1 : Int32) : Option (ca_S) := (ca_gd (ca_in x1 32) (if (σ.1 (21, 5, 0) (Int32.toNatClampNeg x1)) = 5 then (some σ) else (ca_gd (ca_in x1 32) (ca_gd (ca_in x1 32) (ca_lt (ca_st σ (21, 5, 0) (Int32.toNatClampNeg x1) ((σ.1 (21, 5, 0) (Int32.toNatClampNeg x1)) + 1)) fun σ6 => (ca_lt (ca_st σ6 (20, 0, 0) 26 ((σ6.1 (20, 0, 0) 26) + 1)) fun σ7 => (ca_gd (ca_in x1 32) (ca_gd (ca_in x1 32) (if (((σ7.1 (21, 2, 0) (Int32.toNatClampNeg x1)) >>> ((σ7.1 (21, 4, 0) (Int32.toNatClampNeg x1)) &&& 31)) &&& 1) = 1 then (cj_X10_tryBy_55 σ7 x1 1) else (cj_X10_tryBy_55 σ7 x1 0))))))))))
-- X10_comes
noncomputable def cj_X10_comes_111 (σ : ca_S) (x2 : Int32) (x3 : Int32) : Option (ca_S) := (if 2 = 0 then none else (ca_gd (ca_in (x2 / 2) 16) (if x3 = (σ.1 (21, 12, 0) (Int32.toNatClampNeg (x2 / 2))) then (if 2 = 0 then none else (ca_gd (ca_in (x2 / 2) 16) (ca_lt (ca_st σ (21, 15, 0) (Int32.toNatClampNeg (x2 / 2)) 1) fun σ26 => (some σ26)))) else (some σ))))
noncomputable def cj_X10_comes_39 (σ : ca_S) (x1 : Int32) (x2 : Int32) (x3 : Int32) (xs0 : Int32) (xs1 : Int32) : Option (ca_S) := (ca_gd (ca_in xs1 32) (ca_lt (ca_st σ (21, 19, 0) (Int32.toNatClampNeg xs1) xs0) fun σ10 => (ca_gd (ca_in x1 400) (if (σ10.1 (20, 0, 0) 11) ≤ (σ10.1 (21, 25, 0) (Int32.toNatClampNeg x1)) then (ca_gd (ca_in x2 32) (if x3 ≤ (σ10.1 (21, 18, 0) (Int32.toNatClampNeg x2)) then (ca_gd (ca_in x2 32) (ca_gd (ca_in x2 32) (ca_lt (ca_st σ10 (21, 18, 0) (Int32.toNatClampNeg x2) (σ10.1 (21, 18, 0) (Int32.toNatClampNeg x2))) fun σ19 => (cj_X10_comes_111 σ19 x2 x3)))) else (ca_gd (ca_in x2 32) (ca_lt (ca_st σ10 (21, 18, 0) (Int32.toNatClampNeg x2) x3) fun σ28 => (cj_X10_comes_111 σ28 x2 x3))))) else (ca_gd (ca_in x2 32) (if x3 ≤ (σ10.1 (21, 17, 0) (Int32.toNatClampNeg x2)) then (cj_X10_comes_111 σ10 x2 x3) else (ca_gd (ca_in x2 32) (ca_lt (ca_st σ10 (21, 17, 0) (Int32.toNatClampNeg x2) x3) fun σ33 => (ca_gd (ca_in x1 400) (ca_gd (ca_in x2 32) (ca_lt (ca_st σ33 (21, 16, 0) (Int32.toNatClampNeg x2) (σ33.1 (21, 24, 0) (Int32.toNatClampNeg x1))) fun σ36 => (cj_X10_comes_111 σ36 x2 x3))))))))))))
noncomputable def cf_X10_comes (σ : ca_S) (x1 : Int32) : Option (ca_S) := (ca_gd (ca_in x1 400) (ca_lt (σ.1 (21, 22, 0) (Int32.toNatClampNeg x1)) fun v2 => (ca_gd (ca_in x1 400) (ca_lt (σ.1 (21, 23, 0) (Int32.toNatClampNeg x1)) fun v4 => (ca_gd (ca_in v2 32) (if v4 ≤ (σ.1 (21, 19, 0) (Int32.toNatClampNeg v2)) then (ca_gd (ca_in v2 32) (cj_X10_comes_39 σ x1 v2 v4 (σ.1 (21, 19, 0) (Int32.toNatClampNeg v2)) v2)) else (cj_X10_comes_39 σ x1 v2 v4 v4 v2)))))))
-- X10_passes
noncomputable def cl_X10_passes_2 (K : ca_S → Option (ca_S)) : Nat → ca_S → Int32 → Option (ca_S)
  | 0, _, _ => none
  | n + 1, σ, x1 => (if (σ.1 (20, 0, 0) 0) ≤ x1 then (K σ) else (if (σ.1 (20, 0, 0) 8) = 0 then (K σ) else (ca_gd (ca_in x1 16) (if (σ.1 (21, 15, 0) (Int32.toNatClampNeg x1)) = 0 then (ca_bv (cf_X10_tryBy σ (2 * x1)) fun σ9 => (ca_bv (cf_X10_tryBy σ9 ((2 * x1) + 1)) fun σ12 => (cl_X10_passes_2 K n σ12 (x1 + 1)))) else (cl_X10_passes_2 K n σ (x1 + 1))))))
noncomputable def cl_X10_passes_52 (K : ca_S → Int32 → Option (ca_S)) : Nat → ca_S → Int32 → Int32 → Option (ca_S)
  | 0, _, _, _ => none
  | n + 1, σ, x1, x2 => (if (σ.1 (20, 0, 0) 20) ≤ x2 then (K σ x1) else (ca_gd (ca_in x2 400) (if (σ.1 (21, 21, 0) (Int32.toNatClampNeg x2)) = (σ.1 (20, 0, 0) 1) then (ca_bv (cf_X10_comes σ x2) fun σ36 => (cl_X10_passes_52 K n σ36 x1 (x2 + 1))) else (ca_gd (ca_in x2 400) (ca_gd (ca_in x1 400) (ca_lt (ca_st σ (21, 21, 0) (Int32.toNatClampNeg x1) (σ.1 (21, 21, 0) (Int32.toNatClampNeg x2))) fun σ22 => (ca_gd (ca_in x2 400) (ca_gd (ca_in x1 400) (ca_lt (ca_st σ22 (21, 22, 0) (Int32.toNatClampNeg x1) (σ22.1 (21, 22, 0) (Int32.toNatClampNeg x2))) fun σ25 => (ca_gd (ca_in x2 400) (ca_gd (ca_in x1 400) (ca_lt (ca_st σ25 (21, 23, 0) (Int32.toNatClampNeg x1) (σ25.1 (21, 23, 0) (Int32.toNatClampNeg x2))) fun σ28 => (ca_gd (ca_in x2 400) (ca_gd (ca_in x1 400) (ca_lt (ca_st σ28 (21, 24, 0) (Int32.toNatClampNeg x1) (σ28.1 (21, 24, 0) (Int32.toNatClampNeg x2))) fun σ31 => (ca_gd (ca_in x2 400) (ca_gd (ca_in x1 400) (ca_lt (ca_st σ31 (21, 25, 0) (Int32.toNatClampNeg x1) (σ31.1 (21, 25, 0) (Int32.toNatClampNeg x2))) fun σ34 => (cl_X10_passes_52 K n σ34 (x1 + 1) (x2 + 1))))))))))))))))))))
noncomputable def cf_X10_passes (σ : ca_S) : Option (ca_S) := (cl_X10_passes_2 (fun σ14 => (cl_X10_passes_52 (fun σ38 x39 => (ca_lt (ca_st σ38 (20, 0, 0) 20 x39) fun σ40 => (ca_lt (ca_st σ40 (20, 0, 0) 1 ((σ40.1 (20, 0, 0) 1) + 1)) fun σ41 => (some σ41)))) ca_FU σ14 0 0)) ca_FU σ 0)
-- X10_ticks
noncomputable def cl_X10_ticks_29 (x1 : Int32) (K : ca_S → Option (Int32 × ca_S)) : Nat → ca_S → Int32 → Option (Int32 × ca_S)
  | 0, _, _ => none
  | n + 1, σ, x2 => (if x1 ≤ x2 then (K σ) else (ca_bv (cf_X10_passes σ) fun σ11 => (cl_X10_ticks_29 x1 K n σ11 (x2 + 1))))
noncomputable def cf_X10_ticks (σ : ca_S) (x1 : Int32) : Option (Int32 × ca_S) := (ca_br (cf_X10_in x1 1 200) fun r1 => (if r1 = 0 then (some ((-1), σ)) else (if ((σ.1 (20, 0, 0) 1) + x1) ≤ 100000 then (cl_X10_ticks_29 x1 (fun σ13 => (some ((σ13.1 (20, 0, 0) 1), σ13))) ca_FU σ 0) else (some ((-3), σ)))))
-- X10_base
noncomputable def cj_X10_base_97 (σ : ca_S) (xs0 : Int32) : Option (Int32) := (if xs0 = 0 then (some (-4)) else (some xs0))
noncomputable def cf_X10_base (σ : ca_S) (x1 : Int32) (x2 : Int32) (x3 : Int32) : Option (Int32) := (ca_br (cf_X10_isBase x1) fun r1 => (if r1 = 0 then (some (-1)) else (ca_br (cf_X10_isBox σ x2) fun r6 => (if r6 = 0 then (some (-1)) else (ca_br (cf_X10_in x3 0 3) fun r11 => (if r11 = 0 then (some (-1)) else (if 2 ≤ x3 then (if x3 = 2 then (ca_gd (ca_in ((2 * x2) + x1) 32) (cj_X10_base_97 σ (σ.1 (21, 18, 0) (Int32.toNatClampNeg ((2 * x2) + x1))))) else (ca_gd (ca_in ((2 * x2) + x1) 32) (cj_X10_base_97 σ (σ.1 (21, 19, 0) (Int32.toNatClampNeg ((2 * x2) + x1)))))) else (ca_gd (ca_in ((2 * x2) + x1) 32) (if (σ.1 (21, 17, 0) (Int32.toNatClampNeg ((2 * x2) + x1))) = 0 then (some (-4)) else (if x3 = 0 then (ca_gd (ca_in ((2 * x2) + x1) 32) (some (σ.1 (21, 16, 0) (Int32.toNatClampNeg ((2 * x2) + x1))))) else (ca_gd (ca_in ((2 * x2) + x1) 32) (some (σ.1 (21, 17, 0) (Int32.toNatClampNeg ((2 * x2) + x1)))))))))))))))
-- X10_answerOf
noncomputable def cj_X10_answerOf_28 (σ : ca_S) (xs0 : Int32) : Option (Int32) := (ca_gd (ca_in xs0 32) (if (σ.1 (21, 17, 0) (Int32.toNatClampNeg xs0)) = 0 then (some (-4)) else (ca_gd (ca_in xs0 32) (some (σ.1 (21, 16, 0) (Int32.toNatClampNeg xs0))))))
noncomputable def cf_X10_answerOf (σ : ca_S) (x1 : Int32) : Option (Int32) := (ca_gd (ca_in ((2 * x1) + 1) 32) (ca_gd (ca_in (2 * x1) 32) (if (σ.1 (21, 17, 0) (Int32.toNatClampNeg ((2 * x1) + 1))) ≤ (σ.1 (21, 17, 0) (Int32.toNatClampNeg (2 * x1))) then (cj_X10_answerOf_28 σ (2 * x1)) else (cj_X10_answerOf_28 σ ((2 * x1) + 1)))))
-- X10_about
noncomputable def cf_X10_about (σ : ca_S) (x1 : Int32) (x2 : Int32) : Option (Int32) := (ca_br (cf_X10_isBox σ x1) fun r1 => (if r1 = 0 then (some (-1)) else (ca_br (cf_X10_in x2 0 3) fun r6 => (if r6 = 0 then (some (-1)) else (if x2 = 0 then (ca_gd (ca_in x1 16) (some (σ.1 (21, 12, 0) (Int32.toNatClampNeg x1)))) else (if x2 = 1 then (ca_gd (ca_in (2 * x1) 32) (ca_gd (ca_in ((2 * x1) + 1) 32) (some ((σ.1 (21, 5, 0) (Int32.toNatClampNeg (2 * x1))) + (σ.1 (21, 5, 0) (Int32.toNatClampNeg ((2 * x1) + 1))))))) else (if x2 = 2 then (ca_gd (ca_in x1 16) (if (σ.1 (21, 12, 0) (Int32.toNatClampNeg x1)) ≤ 0 then (some 0) else (ca_gd (ca_in x1 16) (if (σ.1 (21, 15, 0) (Int32.toNatClampNeg x1)) = 0 then (some 0) else (some 1))))) else (ca_br (cf_X10_answerOf σ x1) fun r23 => (some r23)))))))))
-- X10_many
noncomputable def cl_X10_many_4 (σ : ca_S) (K : Int32 → Option (Int32)) : Nat → Int32 → Int32 → Option (Int32)
  | 0, _, _ => none
  | n + 1, x1, x2 => (if (σ.1 (20, 0, 0) 0) ≤ x2 then (K x1) else (ca_br (cf_X10_answerOf σ x2) fun r3 => (if r3 < 0 then (cl_X10_many_4 σ K n (x1 + 0) (x2 + 1)) else (cl_X10_many_4 σ K n (x1 + 1) (x2 + 1)))))
noncomputable def cf_X10_many (σ : ca_S) : Option (Int32) := (cl_X10_many_4 σ (fun x8 => (some x8)) ca_FU 0 0)
-- X10_isShown
noncomputable def cf_X10_isShown (σ : ca_S) : Option (Int32) := (if (σ.1 (20, 0, 0) 8) = 0 then (some 0) else (if (σ.1 (20, 0, 0) 6) = 0 then (some 1) else (if (σ.1 (20, 0, 0) 1) < (σ.1 (20, 0, 0) 11) then (some 0) else (some 1))))
-- X10_answers
noncomputable def cf_X10_answers (σ : ca_S) : Option (Int32) := (ca_br (cf_X10_isShown σ) fun r1 => (if r1 = 0 then (some (-2)) else (ca_br (cf_X10_many σ) fun r6 => (some r6))))
-- X10_isShownOf
noncomputable def cf_X10_isShownOf (σ : ca_S) (x1 : Int32) : Option (Int32) := (ca_br (cf_X10_isShown σ) fun r1 => (if r1 = 0 then (some 0) else (if (σ.1 (20, 0, 0) 9) = x1 then (ca_br (cf_X10_many σ) fun r8 => (if r8 < (σ.1 (20, 0, 0) 7) then (some 0) else (some 1))) else (some 0))))
-- X10_share
noncomputable def cl_X10_share_27 (σ : ca_S) (x1 : Int32) (K : Int32 → Option (Int32)) : Nat → Int32 → Int32 → Option (Int32)
  | 0, _, _ => none
  | n + 1, x2, x3 => (if (σ.1 (20, 0, 0) 0) ≤ x3 then (K x2) else (ca_br (cf_X10_answerOf σ x3) fun r13 => (if r13 = x1 then (cl_X10_share_27 σ x1 K n (x2 + 1) (x3 + 1)) else (cl_X10_share_27 σ x1 K n (x2 + 0) (x3 + 1)))))
noncomputable def cf_X10_share (σ : ca_S) (x1 : Int32) : Option (Int32) := (ca_br (cf_X10_in x1 0 7) fun r1 => (if r1 = 0 then (some (-1)) else (ca_br (cf_X10_isShownOf σ 0) fun r6 => (if r6 = 0 then (some (-2)) else (cl_X10_share_27 σ x1 (fun x18 => (some x18)) ca_FU 0 0)))))
-- X10_middle
noncomputable def cj_X10_middle_43 (KB : Int32 → Int32 → Int32 → Option (Int32)) (KX : Int32 → Int32 → Option (Int32)) (σ : ca_S) (x1 : Int32) (x2 : Int32) (x4 : Int32) (x5 : Int32) (xs0 : Int32) (xs1 : Int32) : Option (Int32) := (ca_gd (ca_in x5 16) (ca_gd (ca_in x2 16) (if (σ.1 (21, 31, 0) (Int32.toNatClampNeg x5)) = (σ.1 (21, 31, 0) (Int32.toNatClampNeg x2)) then (KB (xs1 + xs0) (x4 + 1) (x5 + 1)) else (KB (xs1 + xs0) (x4 + 0) (x5 + 1)))))
noncomputable def cl_X10_middle_15 (σ : ca_S) (x1 : Int32) (x2 : Int32) (K : Int32 → Int32 → Option (Int32)) : Nat → Int32 → Int32 → Int32 → Option (Int32)
  | 0, _, _, _ => none
  | n + 1, x3, x4, x5 => (if x1 ≤ x5 then (K x3 x4) else (ca_gd (ca_in x5 16) (ca_gd (ca_in x2 16) (if (σ.1 (21, 31, 0) (Int32.toNatClampNeg x2)) ≤ (σ.1 (21, 31, 0) (Int32.toNatClampNeg x5)) then (cj_X10_middle_43 (cl_X10_middle_15 σ x1 x2 K n) K σ x1 x2 x4 x5 0 x3) else (cj_X10_middle_43 (cl_X10_middle_15 σ x1 x2 K n) K σ x1 x2 x4 x5 1 x3)))))
noncomputable def cl_X10_middle_2 (σ : ca_S) (x1 : Int32) (K : Option (Int32)) : Nat → Int32 → Option (Int32)
  | 0, _ => none
  | n + 1, x2 => (if x1 ≤ x2 then (K) else (cl_X10_middle_15 σ x1 x2 (fun x13 x14 => (if 2 = 0 then none else (if ((x1 - 1) / 2) < x13 then (cl_X10_middle_2 σ x1 K n (x2 + 1)) else (if 2 = 0 then none else (if (x13 + x14) ≤ ((x1 - 1) / 2) then (cl_X10_middle_2 σ x1 K n (x2 + 1)) else (ca_gd (ca_in x2 16) (some (σ.1 (21, 31, 0) (Int32.toNatClampNeg x2))))))))) ca_FU 0 0 0))
noncomputable def cf_X10_middle (σ : ca_S) (x1 : Int32) : Option (Int32) := (cl_X10_middle_2 σ x1 (some 0) ca_FU 0)
-- X10_size
noncomputable def cf_X10_size (x0 : Int32) : Option (Int32) := (if 0 ≤ x0 then (some x0) else (some (-x0)))
-- X10_number
noncomputable def cl_X10_number_33 (x1 : Int32) (K : ca_S → Int32 → Option (Int32 × ca_S)) : Nat → ca_S → Int32 → Int32 → Option (Int32 × ca_S)
  | 0, _, _, _ => none
  | n + 1, σ, x2, x3 => (if (σ.1 (20, 0, 0) 0) ≤ x3 then (K σ x2) else (ca_br (cf_X10_answerOf σ x3) fun r18 => (if r18 < 0 then (cl_X10_number_33 x1 K n σ x2 (x3 + 1)) else (ca_br (cf_X10_answerOf σ x3) fun r23 => (ca_gd (ca_in x2 16) (ca_lt (ca_st σ (21, 31, 0) (Int32.toNatClampNeg x2) r23) fun σ27 => (cl_X10_number_33 x1 K n σ27 (x2 + 1) (x3 + 1))))))))
noncomputable def cl_X10_number_78 (x1 : Int32) (x2 : Int32) (x3 : Int32) (K : ca_S → Option (Int32 × ca_S)) : Nat → ca_S → Int32 → Option (Int32 × ca_S)
  | 0, _, _ => none
  | n + 1, σ, x4 => (if x2 ≤ x4 then (K σ) else (ca_gd (ca_in x4 16) (ca_br (cf_X10_size ((σ.1 (21, 31, 0) (Int32.toNatClampNeg x4)) - x3)) fun r36 => (ca_gd (ca_in x4 16) (ca_lt (ca_st σ (21, 31, 0) (Int32.toNatClampNeg x4) r36) fun σ40 => (cl_X10_number_78 x1 x2 x3 K n σ40 (x4 + 1)))))))
noncomputable def cj_X10_number_183 (KB : Int32 → Int32 → Int32 → Option (Int32 × ca_S)) (KX : Int32 → Int32 → Option (Int32 × ca_S)) (σ : ca_S) (x1 : Int32) (x3 : Int32) (x4 : Int32) (x6 : Int32) (x7 : Int32) (x8 : Int32) (xs0 : Int32) (xs1 : Int32) : Option (Int32 × ca_S) := (if x8 = 0 then (KB (xs1 ||| xs0) (x6 + 0) (x7 + 1)) else (KB (xs1 ||| xs0) (x6 + 1) (x7 + 1)))
noncomputable def cj_X10_number_166 (KB : Int32 → Int32 → Int32 → Option (Int32 × ca_S)) (KX : Int32 → Int32 → Option (Int32 × ca_S)) (σ : ca_S) (x1 : Int32) (x3 : Int32) (x4 : Int32) (x5 : Int32) (x6 : Int32) (x7 : Int32) (xs0 : Int32) : Option (Int32 × ca_S) := (if xs0 = 0 then (cj_X10_number_183 KB KX σ x1 x3 x4 x6 x7 xs0 0 x5) else (cj_X10_number_183 KB KX σ x1 x3 x4 x6 x7 xs0 (1 <<< (x7 &&& 31)) x5))
noncomputable def cl_X10_number_125 (σ : ca_S) (x1 : Int32) (x3 : Int32) (x4 : Int32) (K : Int32 → Int32 → Option (Int32 × ca_S)) : Nat → Int32 → Int32 → Int32 → Option (Int32 × ca_S)
  | 0, _, _, _ => none
  | n + 1, x5, x6, x7 => (if (σ.1 (20, 0, 0) 0) ≤ x7 then (K x5 x6) else (ca_br (cf_X10_answerOf σ x7) fun r47 => (if r47 < 0 then (cj_X10_number_166 (cl_X10_number_125 σ x1 x3 x4 K n) K σ x1 x3 x4 x5 x6 x7 0) else (ca_br (cf_X10_answerOf σ x7) fun r56 => (ca_br (cf_X10_size (r56 - x3)) fun r59 => (if r59 ≤ (3 * x4) then (cj_X10_number_166 (cl_X10_number_125 σ x1 x3 x4 K n) K σ x1 x3 x4 x5 x6 x7 0) else (cj_X10_number_166 (cl_X10_number_125 σ x1 x3 x4 K n) K σ x1 x3 x4 x5 x6 x7 1)))))))
noncomputable def cf_X10_number (σ : ca_S) (x1 : Int32) : Option (Int32 × ca_S) := (ca_br (cf_X10_in x1 0 2) fun r1 => (if r1 = 0 then (some ((-1), σ)) else (ca_br (cf_X10_isShownOf σ 1) fun r6 => (if r6 = 0 then (some ((-2), σ)) else (ca_br (cf_X10_many σ) fun r11 => (if r11 = 0 then (some ((-2), σ)) else (cl_X10_number_33 x1 (fun σ28 x29 => (ca_br (cf_X10_middle σ28 x29) fun r30 => (cl_X10_number_78 x1 x29 r30 (fun σ41 => (ca_br (cf_X10_middle σ41 x29) fun r42 => (cl_X10_number_125 σ41 x1 r30 r42 (fun x64 x65 => (if x1 = 0 then (some (r30, σ41)) else (if x1 = 1 then (some (x65, σ41)) else (some (x64, σ41))))) ca_FU 0 0 0))) ca_FU σ28 0))) ca_FU σ 0 0)))))))
-- X10_place
noncomputable def cl_X10_place_2 (x1 : Int32) (x2 : Int32) (K : Int32 → Option (Int32)) : Nat → Int32 → Option (Int32)
  | 0, _ => none
  | n + 1, x3 => (if ((x1 >>> ((3 * x3) &&& 31)) &&& 7) = x2 then (K x3) else (cl_X10_place_2 x1 x2 K n (x3 + 1)))
noncomputable def cf_X10_place (x1 : Int32) (x2 : Int32) : Option (Int32) := (cl_X10_place_2 x1 x2 (fun x3 => (some x3)) ca_FU 0)
-- X10_turned
noncomputable def cj_X10_turned_98 (KB : Int32 → Int32 → Option (Int32)) (KX : Int32 → Option (Int32)) (σ : ca_S) (x1 : Int32) (x3 : Int32) (x4 : Int32) (x5 : Int32) (x6 : Int32) (xs0 : Int32) (xs1 : Int32) (xs2 : Int32) : Option (Int32) := (if xs1 = xs0 then (KB (xs2 + 0) (x6 + 1)) else (KB (xs2 + 1) (x6 + 1)))
noncomputable def cj_X10_turned_74 (KB : Int32 → Int32 → Option (Int32)) (KX : Int32 → Option (Int32)) (σ : ca_S) (x1 : Int32) (x3 : Int32) (x4 : Int32) (x5 : Int32) (x6 : Int32) (xs0 : Int32) (xs1 : Int32) : Option (Int32) := (ca_br (cf_X10_place x4 x5) fun r20 => (ca_br (cf_X10_place x4 x6) fun r23 => (if r23 ≤ r20 then (cj_X10_turned_98 KB KX σ x1 x3 x4 x5 x6 0 xs0 xs1) else (cj_X10_turned_98 KB KX σ x1 x3 x4 x5 x6 1 xs0 xs1))))
noncomputable def cl_X10_turned_42 (σ : ca_S) (x1 : Int32) (x3 : Int32) (x4 : Int32) (x5 : Int32) (K : Int32 → Option (Int32)) : Nat → Int32 → Int32 → Option (Int32)
  | 0, _, _ => none
  | n + 1, x2, x6 => (if (σ.1 (20, 0, 0) 10) ≤ x6 then (K x2) else (ca_br (cf_X10_place x1 x5) fun r12 => (ca_br (cf_X10_place x1 x6) fun r15 => (if r15 ≤ r12 then (cj_X10_turned_74 (cl_X10_turned_42 σ x1 x3 x4 x5 K n) K σ x1 x3 x4 x5 x6 0 x2) else (cj_X10_turned_74 (cl_X10_turned_42 σ x1 x3 x4 x5 K n) K σ x1 x3 x4 x5 x6 1 x2)))))
noncomputable def cl_X10_turned_22 (σ : ca_S) (x1 : Int32) (x3 : Int32) (x4 : Int32) (K : Int32 → Option (Int32)) : Nat → Int32 → Int32 → Option (Int32)
  | 0, _, _ => none
  | n + 1, x2, x5 => (if (σ.1 (20, 0, 0) 10) ≤ x5 then (K x2) else (if x4 < 0 then (K x2) else (cl_X10_turned_42 σ x1 x3 x4 x5 (fun x30 => (cl_X10_turned_22 σ x1 x3 x4 K n x30 (x5 + 1))) ca_FU x2 (x5 + 1))))
noncomputable def cl_X10_turned_4 (σ : ca_S) (x1 : Int32) (K : Int32 → Option (Int32)) : Nat → Int32 → Int32 → Option (Int32)
  | 0, _, _ => none
  | n + 1, x2, x3 => (if (σ.1 (20, 0, 0) 0) ≤ x3 then (K x2) else (ca_br (cf_X10_answerOf σ x3) fun r3 => (cl_X10_turned_22 σ x1 x3 r3 (fun x31 => (cl_X10_turned_4 σ x1 K n x31 (x3 + 1))) ca_FU x2 0)))
noncomputable def cf_X10_turned (σ : ca_S) (x1 : Int32) : Option (Int32) := (cl_X10_turned_4 σ x1 (fun x32 => (some x32)) ca_FU 0 0)
-- X10_isLower
noncomputable def cl_X10_isLower_2 (x0 : Int32) (x1 : Int32) (K : Int32 → Option (Int32)) : Nat → Int32 → Option (Int32)
  | 0, _ => none
  | n + 1, x2 => (if ((x0 >>> ((3 * x2) &&& 31)) &&& 7) = ((x1 >>> ((3 * x2) &&& 31)) &&& 7) then (cl_X10_isLower_2 x0 x1 K n (x2 + 1)) else (K x2))
noncomputable def cf_X10_isLower (x0 : Int32) (x1 : Int32) : Option (Int32) := (cl_X10_isLower_2 x0 x1 (fun x3 => (if ((x1 >>> ((3 * x3) &&& 31)) &&& 7) ≤ ((x0 >>> ((3 * x3) &&& 31)) &&& 7) then (some 0) else (some 1))) ca_FU 0)
-- X10_order
noncomputable def cl_X10_order_36 (σ : ca_S) (x1 : Int32) (K : Int32 → Int32 → Option (Int32)) : Nat → Int32 → Int32 → Int32 → Option (Int32)
  | 0, _, _, _ => none
  | n + 1, x2, x3, x4 => (if (1 <<< ((3 * (σ.1 (20, 0, 0) 10)) &&& 31)) ≤ x4 then (K x2 x3) else (ca_br (cf_X10_isAnswer σ x4) fun r18 => (if r18 = 0 then (cl_X10_order_36 σ x1 K n x2 x3 (x4 + 1)) else (ca_br (cf_X10_turned σ x4) fun r23 => (if x2 < 0 then (cl_X10_order_36 σ x1 K n x4 r23 (x4 + 1)) else (if r23 < x3 then (cl_X10_order_36 σ x1 K n x4 r23 (x4 + 1)) else (if r23 = x3 then (ca_br (cf_X10_isLower x4 x2) fun r32 => (if r32 = 0 then (cl_X10_order_36 σ x1 K n x2 x3 (x4 + 1)) else (cl_X10_order_36 σ x1 K n x4 r23 (x4 + 1)))) else (cl_X10_order_36 σ x1 K n x2 x3 (x4 + 1)))))))))
noncomputable def cf_X10_order (σ : ca_S) (x1 : Int32) : Option (Int32) := (ca_br (cf_X10_in x1 0 1) fun r1 => (if r1 = 0 then (some (-1)) else (ca_br (cf_X10_isShownOf σ 2) fun r6 => (if r6 = 0 then (some (-2)) else (ca_br (cf_X10_many σ) fun r11 => (if r11 = 0 then (some (-2)) else (cl_X10_order_36 σ x1 (fun x37 x38 => (if x1 = 0 then (some x37) else (some x38))) ca_FU (-1) 0 0)))))))
-- X10_close
noncomputable def cj_X10_close_109 (KB : ca_S → Int32 → Int32 → Option (Int32 × ca_S)) (KX : ca_S → Int32 → Option (Int32 × ca_S)) (σ : ca_S) (x1 : Int32) (x2 : Int32) (x3 : Int32) (x4 : Int32) (xs0 : Int32) (xs1 : Int32) : Option (Int32 × ca_S) := (ca_gd (ca_in xs1 320) (ca_lt (ca_st σ (21, 28, 0) (Int32.toNatClampNeg xs1) xs0) fun σ21 => (if x4 = x1 then (KB σ21 (x2 + 1) (x3 + 1)) else (KB σ21 (x2 + 0) (x3 + 1)))))
noncomputable def cj_X10_close_74 (KB : ca_S → Int32 → Int32 → Option (Int32 × ca_S)) (KX : ca_S → Int32 → Option (Int32 × ca_S)) (σ : ca_S) (x1 : Int32) (x2 : Int32) (x3 : Int32) (xs0 : Int32) : Option (Int32 × ca_S) := (if 0 ≤ xs0 then (if xs0 = x1 then (cj_X10_close_109 KB KX σ x1 x2 x3 xs0 1 ((16 * (σ.1 (20, 0, 0) 27)) + x3)) else (cj_X10_close_109 KB KX σ x1 x2 x3 xs0 0 ((16 * (σ.1 (20, 0, 0) 27)) + x3))) else (cj_X10_close_109 KB KX σ x1 x2 x3 xs0 (-1) ((16 * (σ.1 (20, 0, 0) 27)) + x3)))
noncomputable def cl_X10_close_50 (x1 : Int32) (K : ca_S → Int32 → Option (Int32 × ca_S)) : Nat → ca_S → Int32 → Int32 → Option (Int32 × ca_S)
  | 0, _, _, _ => none
  | n + 1, σ, x2, x3 => (if 16 ≤ x3 then (K σ x2) else (if (σ.1 (20, 0, 0) 0) ≤ x3 then (cj_X10_close_74 (cl_X10_close_50 x1 K n) K σ x1 x2 x3 (-4)) else (ca_br (cf_X10_answerOf σ x3) fun r24 => (cj_X10_close_74 (cl_X10_close_50 x1 K n) K σ x1 x2 x3 r24))))
noncomputable def cf_X10_close (σ : ca_S) (x1 : Int32) : Option (Int32 × ca_S) := (if (σ.1 (20, 0, 0) 8) = 0 then (some ((-2), σ)) else (ca_br (cf_X10_isAnswer σ x1) fun r3 => (if r3 = 0 then (some ((-1), σ)) else (if (σ.1 (20, 0, 0) 11) ≤ (σ.1 (20, 0, 0) 1) then (if (σ.1 (20, 0, 0) 27) = 20 then (some ((-3), σ)) else (cl_X10_close_50 x1 (fun σ27 x28 => (ca_lt (ca_st σ27 (20, 0, 0) 27 ((σ27.1 (20, 0, 0) 27) + 1)) fun σ29 => (ca_lt (ca_st σ29 (20, 0, 0) 8 0) fun σ30 => (ca_lt (ca_st σ30 (20, 0, 0) 20 0) fun σ31 => (some (x28, σ31)))))) ca_FU σ 0 0)) else (some ((-2), σ))))))
-- X10_book
noncomputable def cf_X10_book (σ : ca_S) (x1 : Int32) (x2 : Int32) : Option (Int32) := (ca_br (cf_X10_in x1 0 ((σ.1 (20, 0, 0) 27) - 1)) fun r1 => (if r1 = 0 then (some (-9)) else (ca_br (cf_X10_isBox σ x2) fun r6 => (if r6 = 0 then (some (-9)) else (ca_gd (ca_in ((16 * x1) + x2) 320) (some (σ.1 (21, 28, 0) (Int32.toNatClampNeg ((16 * x1) + x2)))))))))
-- X10_marksOf
noncomputable def cl_X10_marksOf_4 (σ : ca_S) (x1 : Int32) (K : Int32 → Option (Int32)) : Nat → Int32 → Int32 → Option (Int32)
  | 0, _, _ => none
  | n + 1, x2, x3 => (if (σ.1 (20, 0, 0) 27) ≤ x3 then (K x2) else (ca_gd (ca_in ((16 * x3) + x1) 320) (if (σ.1 (21, 28, 0) (Int32.toNatClampNeg ((16 * x3) + x1))) = 1 then (cl_X10_marksOf_4 σ x1 K n (x2 + 1) (x3 + 1)) else (cl_X10_marksOf_4 σ x1 K n (x2 + 0) (x3 + 1)))))
noncomputable def cf_X10_marksOf (σ : ca_S) (x1 : Int32) : Option (Int32) := (cl_X10_marksOf_4 σ x1 (fun x6 => (some x6)) ca_FU 0 0)
-- X10_marks
noncomputable def cf_X10_marks (σ : ca_S) (x1 : Int32) : Option (Int32) := (ca_br (cf_X10_isBox σ x1) fun r1 => (if r1 = 0 then (some (-1)) else (ca_br (cf_X10_marksOf σ x1) fun r6 => (some r6))))
-- X10_sizeOf
noncomputable def cl_X10_sizeOf_4 (x0 : Int32) (K : Int32 → Option (Int32)) : Nat → Int32 → Int32 → Option (Int32)
  | 0, _, _ => none
  | n + 1, x1, x2 => (if 16 ≤ x2 then (K x1) else (cl_X10_sizeOf_4 x0 K n (x1 + ((x0 >>> (x2 &&& 31)) &&& 1)) (x2 + 1)))
noncomputable def cf_X10_sizeOf (x0 : Int32) : Option (Int32) := (cl_X10_sizeOf_4 x0 (fun x3 => (some x3)) ca_FU 0 0)
-- X10_marksIn
noncomputable def cl_X10_marksIn_4 (σ : ca_S) (x1 : Int32) (K : Int32 → Option (Int32)) : Nat → Int32 → Int32 → Option (Int32)
  | 0, _, _ => none
  | n + 1, x2, x3 => (if (σ.1 (20, 0, 0) 0) ≤ x3 then (K x2) else (if ((x1 >>> (x3 &&& 31)) &&& 1) = 1 then (ca_br (cf_X10_marksOf σ x3) fun r5 => (cl_X10_marksIn_4 σ x1 K n (x2 + r5) (x3 + 1))) else (cl_X10_marksIn_4 σ x1 K n (x2 + 0) (x3 + 1))))
noncomputable def cf_X10_marksIn (σ : ca_S) (x1 : Int32) : Option (Int32) := (cl_X10_marksIn_4 σ x1 (fun x8 => (some x8)) ca_FU 0 0)
-- X10_teams
noncomputable def cj_X10_teams_115 (KB : Int32 → Int32 → Int32 → Option (Int32)) (KX : Int32 → Int32 → Option (Int32)) (σ : ca_S) (x1 : Int32) (x2 : Int32) (x3 : Int32) (x4 : Int32) (x5 : Int32) (x6 : Int32) (x7 : Int32) (xs0 : Int32) : Option (Int32) := (if xs0 = 0 then (KB x3 x4 ((x6 - 1) &&& x1)) else (if x4 < x7 then (KB x3 x4 ((x6 - 1) &&& x1)) else (KB x6 x7 ((x6 - 1) &&& x1))))
noncomputable def cl_X10_teams_56 (σ : ca_S) (x1 : Int32) (x2 : Int32) (x5 : Int32) (K : Int32 → Int32 → Option (Int32)) : Nat → Int32 → Int32 → Int32 → Option (Int32)
  | 0, _, _, _ => none
  | n + 1, x3, x4, x6 => (if x6 ≤ 0 then (K x3 x4) else (ca_br (cf_X10_marksIn σ x6) fun r21 => (ca_br (cf_X10_marksIn σ (x1 &&& (x6 ^^^ (-1)))) fun r24 => (ca_br (cf_X10_size (r21 - r24)) fun r27 => (if (x6 &&& x5) ≤ 0 then (cj_X10_teams_115 (cl_X10_teams_56 σ x1 x2 x5 K n) K σ x1 x2 x3 x4 x5 x6 r27 0) else (ca_br (cf_X10_sizeOf x6) fun r36 => (ca_br (cf_X10_sizeOf x1) fun r39 => (ca_br (cf_X10_size ((2 * r36) - r39)) fun r42 => (if 1 < r42 then (cj_X10_teams_115 (cl_X10_teams_56 σ x1 x2 x5 K n) K σ x1 x2 x3 x4 x5 x6 r27 0) else (cj_X10_teams_115 (cl_X10_teams_56 σ x1 x2 x5 K n) K σ x1 x2 x3 x4 x5 x6 r27 1))))))))))
noncomputable def cf_X10_teams (σ : ca_S) (x1 : Int32) (x2 : Int32) : Option (Int32) := (ca_br (cf_X10_in x1 0 ((1 <<< ((σ.1 (20, 0, 0) 0) &&& 31)) - 1)) fun r1 => (if r1 = 0 then (some (-1)) else (ca_br (cf_X10_sizeOf x1) fun r6 => (ca_br (cf_X10_in r6 2 12) fun r9 => (if r9 = 0 then (some (-1)) else (ca_br (cf_X10_in x2 0 1) fun r14 => (if r14 = 0 then (some (-1)) else (cl_X10_teams_56 σ x1 x2 (x1 &&& (-x1)) (fun x47 x48 => (if x2 = 0 then (some x47) else (some x48))) ca_FU 0 9999 x1))))))))
-- X10_best
noncomputable def cj_X10_best_54 (KB : Int32 → Int32 → Int32 → Option (Int32)) (KX : Int32 → Int32 → Option (Int32)) (σ : ca_S) (x1 : Int32) (x2 : Int32) (x3 : Int32) (x5 : Int32) (x6 : Int32) (xs0 : Int32) (xs1 : Int32) : Option (Int32) := (ca_gd (ca_in ((16 * x3) + x6) 320) (if (σ.1 (21, 28, 0) (Int32.toNatClampNeg ((16 * x3) + x6))) = 0 then (KB (xs1 + xs0) (x5 + 1) (x6 + 1)) else (KB (xs1 + xs0) (x5 + 0) (x6 + 1))))
noncomputable def cl_X10_best_24 (σ : ca_S) (x1 : Int32) (x2 : Int32) (x3 : Int32) (K : Int32 → Int32 → Option (Int32)) : Nat → Int32 → Int32 → Int32 → Option (Int32)
  | 0, _, _, _ => none
  | n + 1, x4, x5, x6 => (if 16 ≤ x6 then (K x4 x5) else (ca_gd (ca_in ((16 * x3) + x6) 320) (if (σ.1 (21, 28, 0) (Int32.toNatClampNeg ((16 * x3) + x6))) = 1 then (cj_X10_best_54 (cl_X10_best_24 σ x1 x2 x3 K n) K σ x1 x2 x3 x5 x6 1 x4) else (cj_X10_best_54 (cl_X10_best_24 σ x1 x2 x3 K n) K σ x1 x2 x3 x5 x6 0 x4))))
noncomputable def cj_X10_best_115 (KB : Int32 → Int32 → Int32 → Option (Int32)) (KX : Int32 → Option (Int32)) (σ : ca_S) (x2 : Int32) (x3 : Int32) (x6 : Int32) (xs0 : Int32) : Option (Int32) := (if x6 < x2 then (KB xs0 x2 (x3 + 1)) else (KB xs0 x6 (x3 + 1)))
noncomputable def cj_X10_best_102 (KB : Int32 → Int32 → Int32 → Option (Int32)) (KX : Int32 → Option (Int32)) (σ : ca_S) (x1 : Int32) (x2 : Int32) (x3 : Int32) (xs0 : Int32) : Option (Int32) := (if xs0 < x2 then (cj_X10_best_115 KB KX σ x2 x3 xs0 x1) else (cj_X10_best_115 KB KX σ x2 x3 xs0 x3))
noncomputable def cl_X10_best_7 (σ : ca_S) (K : Int32 → Option (Int32)) : Nat → Int32 → Int32 → Int32 → Option (Int32)
  | 0, _, _, _ => none
  | n + 1, x1, x2, x3 => (if (σ.1 (20, 0, 0) 27) ≤ x3 then (K x1) else (cl_X10_best_24 σ x1 x2 x3 (fun x11 x12 => (if x12 ≤ x11 then (cj_X10_best_102 (cl_X10_best_7 σ K n) K σ x1 x2 x3 x12) else (cj_X10_best_102 (cl_X10_best_7 σ K n) K σ x1 x2 x3 x11))) ca_FU 0 0 0))
noncomputable def cf_X10_best (σ : ca_S) : Option (Int32) := (cl_X10_best_7 σ (fun x19 => (some x19)) ca_FU (-4) (-1) 0)
-- X10_seed
noncomputable def cf_X10_seed (σ : ca_S) (x1 : Int32) : Option (Int32 × ca_S) := (ca_br (cf_X10_in x1 1 2147483646) fun r1 => (if r1 = 0 then (some ((-1), σ)) else (ca_lt (ca_sl σ (Int32.toInt64 x1)) fun σ6 => (ca_lt (ca_st σ6 (20, 0, 0) 30 0) fun σ7 => (some ((σ7.1 (20, 0, 0) 0), σ7))))))
-- X10_draw
noncomputable def cj_X10_draw_75 (KB : Int32 → Int32 → Option (Int32 × ca_S)) (KX : Int32 → Option (Int32 × ca_S)) (σ : ca_S) (x2 : Int32) (x3 : Int32) : Option (Int32 × ca_S) := (if (((σ.1 (20, 0, 0) 30) >>> (x3 &&& 31)) &&& 1) = 1 then (KB (x2 - 0) (x3 + 1)) else (KB (x2 - 1) (x3 + 1)))
noncomputable def cl_X10_draw_59 (σ : ca_S) (K : Int32 → Option (Int32 × ca_S)) : Nat → Int32 → Int32 → Option (Int32 × ca_S)
  | 0, _, _ => none
  | n + 1, x2, x3 => (if (((σ.1 (20, 0, 0) 30) >>> (x3 &&& 31)) &&& 1) = 1 then (cj_X10_draw_75 (cl_X10_draw_59 σ K n) K σ x2 x3) else (if x2 ≤ 0 then (K x3) else (cj_X10_draw_75 (cl_X10_draw_59 σ K n) K σ x2 x3)))
noncomputable def cf_X10_draw (σ : ca_S) : Option (Int32 × ca_S) := (if σ.2 = 0 then (some ((-2), σ)) else (ca_br (cf_X10_sizeOf (σ.1 (20, 0, 0) 30)) fun r3 => (if ((σ.1 (20, 0, 0) 0) - r3) = 0 then (some ((-4), σ)) else (if 2147483647 = 0 then none else (ca_lt (ca_sl σ ((σ.2 * 48271) - (σ.2 * 48271) / 2147483647 * 2147483647)) fun σ9 => (if (Int32.toInt64 ((σ.1 (20, 0, 0) 0) - r3)) = 0 then none else (ca_lt (Int64.toInt32 (σ9.2 - σ9.2 / (Int32.toInt64 ((σ.1 (20, 0, 0) 0) - r3)) * (Int32.toInt64 ((σ.1 (20, 0, 0) 0) - r3)))) fun v11 => (cl_X10_draw_59 σ9 (fun x18 => (ca_lt (ca_st σ9 (20, 0, 0) 30 ((σ9.1 (20, 0, 0) 30) ||| (1 <<< (x18 &&& 31)))) fun σ19 => (some (x18, σ19)))) ca_FU v11 0))))))))
-- X10_count
noncomputable def cf_X10_count (σ : ca_S) (x1 : Int32) : Option (Int32) := (if x1 = 0 then (some (σ.1 (20, 0, 0) 0)) else (if x1 = 1 then (some (σ.1 (20, 0, 0) 1)) else (if x1 = 2 then (some (σ.1 (20, 0, 0) 27)) else (if x1 = 3 then (if (σ.1 (20, 0, 0) 8) = 0 then (some 0) else (some 1)) else (if x1 = 4 then (some (σ.1 (20, 0, 0) 20)) else (if x1 = 5 then (some (σ.1 (20, 0, 0) 26)) else (some (-1))))))))
