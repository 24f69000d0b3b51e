theorem st_number {k : Nat} {σ τ : ca_S} (hk0 : k < 512) (h : ca_R k σ τ) : ca_St_number ca_R k σ τ := by
  have hk := h.mono (Nat.le_succ k)
  obtain ⟨α, hI, hC, hM⟩ := h
  have hkl := Nat.le_of_lt hk0
  obtain ⟨c1, c2, c3, c4, c5, c6, c7, c8, c9, c10, c11, c12, c13⟩ := hC.1
  obtain ⟨m1, m2, m3, m4, m5, m6, m7, m8, m9, m10, m11, m12, m13⟩ := hM.1
  obtain ⟨i1, i2, i3, i4, i5, i6, i7, i8, i9, i10, i11⟩ := hI.1
  intro a
  unfold cf_X9_number cf_X10_number
  rcases cw_C a 0 2 0 2 rfl rfl (by decide) (by decide) with ⟨f1, f2, -⟩ | ⟨x, -, hx, rfl, f1, f2⟩
  · rw [f1, f2]
    exact ⟨-1, σ, τ, rfl, rfl, hk⟩
  rw [f1, f2]
  rcases res_both hI hkl hC hM 1 (by decide) with ⟨g1, g2⟩ | ⟨g1, g2, -, -⟩
  · have g1 : cf_X9_areResultsShown σ 1 = some 0 := g1
    have g2 : cf_X10_isShownOf τ 1 = some 0 := g2
    rw [g1, g2]
    exact ⟨-2, σ, τ, rfl, rfl, hk⟩
  have g1 : cf_X9_areResultsShown σ 1 = some 1 := g1
  have g2 : cf_X10_isShownOf τ 1 = some 1 := g2
  have bm : cz_many α ≤ α 0 0 0 := cz_ct_le _ _
  rw [g1, g2, many_C hI hkl hC, many_M hI hkl hM]
  simp only [cz_br, if_neg (show ¬ (1 : Int32) = 0 by decide), cz_eq0 (show cz_many α ≤ 100000 by omega)]
  by_cases z : cz_many α = 0
  · simp only [if_pos z]
    exact ⟨-2, σ, τ, rfl, rfl, hk⟩
  simp only [if_neg z]
  -- the class looks
  obtain ⟨σ1, f, m, a1, a2, a3, a4⟩ := lk7_C (σ := ca_st σ (14, 0, 0) 1 0) hI hkl (RC_scr hC (fun c k n1 n2 => by
    have : ¬ c = (14, 0, 0) := fun w => n1 (by rw [w])
    simp [ca_st, this]) rfl) (by simp [ca_st]; rfl) (fun σ17 => (ca_br (cf_X5_lesserMiddle σ17) fun r18 => (ca_lt (ca_st σ17 (14, 0, 0) 2 r18) fun σ21 => (ca_lt (ca_st σ21 (14, 0, 0) 1 0) fun σ22 => (cl_X5_look_54 (nI (α 0 0 0)) (fun σ38 => (ca_br (cf_X5_lesserMiddle σ38) fun r39 => (ca_lt (ca_st σ38 (14, 0, 0) 3 0) fun σ42 => (cl_X5_look_102 (nI (α 0 0 0)) (3 * r39) (fun σ58 => (some σ58)) ca_FU σ42 0)))) ca_FU σ22 0)))))
  have em : m = cz_many α := by
    rw [cz_row_m a2]
    unfold cz_cs cz_many
    exact cz_ct_congr (fun i _ => by cases cz_ao α i <;> rfl)
  have hm0 : 0 < m := by omega
  have hm2 : m ≤ 16 := by omega
  obtain ⟨v, hv⟩ : ∃ v, v = f ((m - 1) / 2) := ⟨_, rfl⟩
  have cs : ∀ q, cz_cs α q (α 0 0 0) = cz_ct (fun i => q (f i)) m := fun q => (a2.2.2.2.2 q).symm
  have md := mid_s hm0 a2.2.2.1
  rw [← hv] at md
  have md1 : cz_cs α (fun a => decide (a < v)) (α 0 0 0) ≤ (m - 1) / 2 := by
    have := md.1
    rw [cs]
    exact this
  have md2 : (m - 1) / 2 < cz_cs α (fun a => decide (a ≤ v)) (α 0 0 0) := by
    have := md.2.1
    rw [cs]
    exact this
  have md3 : 0 < cz_cs α (fun a => decide (a = v)) (α 0 0 0) := by
    have := md.2.2
    rw [cs]
    exact this
  have hv1 : v ≤ 100000 := by
    obtain ⟨b, hb, hb2, -⟩ := cz_kth md3
    cases e : cz_ao α b with
    | none => simp [e] at hb2
    | some a =>
      have : a = v := by simpa [e] using hb2
      rw [← this]
      exact cz_aob hI (show b < 16 by omega) a e
  have fr1 : ∀ c k, c.1 ≠ 14 → c.1 ≠ 15 → σ1.1 c k = σ.1 c k := fun c k n1 n2 => by
    have w : ¬ c = (14, 0, 0) := fun w => n1 (by rw [w])
    have := a3 c k (fun w => n2 (by rw [w])) (Or.inl w)
    simpa [ca_st, w] using this
  have sn1 : σ1.2 = σ.2 := by simpa [ca_st] using a4
  have lm1 : cf_X5_lesserMiddle σ1 = some (nI v) := by
    rw [hv]
    exact lm_C a2 hm0 hm2
  have hC2 : RC α (ca_st (ca_st σ1 (14, 0, 0) 2 (nI v)) (14, 0, 0) 1 0) := RC_scr hC (fun c k n1 n2 => by
    have w : ¬ c = (14, 0, 0) := fun w => n1 (by rw [w])
    simpa [ca_st, w] using fr1 c k n1 n2) (by simpa [ca_st] using sn1)
  obtain ⟨σ2, f2, m2', b1, b2, b3, b4⟩ := lk54_C hI hkl hC2 hv1 (by simp [ca_st]) (by simp [ca_st]; rfl) (fun σ38 => (ca_br (cf_X5_lesserMiddle σ38) fun r39 => (ca_lt (ca_st σ38 (14, 0, 0) 3 0) fun σ42 => (cl_X5_look_102 (nI (α 0 0 0)) (3 * r39) (fun σ58 => (some σ58)) ca_FU σ42 0))))
  have em2 : m2' = m := by
    rw [em, cz_row_m b2]
    unfold cz_cs cz_many
    exact cz_ct_congr (fun i _ => by cases cz_ao α i <;> rfl)
  subst em2
  obtain ⟨o, ho⟩ : ∃ o, o = f2 ((m2' - 1) / 2) := ⟨_, rfl⟩
  have cs2 : ∀ q : Nat → Bool, cz_cs α (fun a => q (cz_off v a)) (α 0 0 0) = cz_ct (fun i => q (f2 i)) m2' := fun q => (b2.2.2.2.2 q).symm
  have me := mid_s hm0 b2.2.2.1
  rw [← ho] at me
  have me1 : cz_cs α (fun a => decide (cz_off v a < o)) (α 0 0 0) ≤ (m2' - 1) / 2 := by
    have := me.1
    rw [cs2 (fun a => decide (a < o))]
    exact this
  have me2 : (m2' - 1) / 2 < cz_cs α (fun a => decide (cz_off v a ≤ o)) (α 0 0 0) := by
    have := me.2.1
    rw [cs2 (fun a => decide (a ≤ o))]
    exact this
  have me3 : 0 < cz_cs α (fun a => decide (cz_off v a = o)) (α 0 0 0) := by
    have := me.2.2
    rw [cs2 (fun a => decide (a = o))]
    exact this
  have ho1 : o ≤ 100000 := by
    obtain ⟨b, hb, hb2, -⟩ := cz_kth me3
    cases e : cz_ao α b with
    | none => simp [e] at hb2
    | some a =>
      have : cz_off v a = o := by simpa [e] using hb2
      rw [← this]
      exact cz_off_b hv1 (cz_aob hI (show b < 16 by omega) a e)
  have lm2 : cf_X5_lesserMiddle σ2 = some (nI o) := by
    rw [ho]
    exact lm_C b2 hm0 hm2
  have fr2 : ∀ c k, c.1 ≠ 14 → c.1 ≠ 15 → σ2.1 c k = σ.1 c k := fun c k n1 n2 => by
    have w : ¬ c = (14, 0, 0) := fun w => n1 (by rw [w])
    have := b3 c k (fun w => n2 (by rw [w])) (Or.inl w)
    rw [this]
    simpa [ca_st, w] using fr1 c k n1 n2
  have sn2 : σ2.2 = σ.2 := by
    rw [b4]
    simpa [ca_st] using sn1
  have hC3 : RC α (ca_st σ2 (14, 0, 0) 3 0) := RC_scr hC (fun c k n1 n2 => by
    have w : ¬ c = (14, 0, 0) := fun w => n1 (by rw [w])
    simpa [ca_st, w] using fr2 c k n1 n2) (by simpa [ca_st] using sn2)
  have mid2 : σ2.1 (14, 0, 0) 2 = nI v := by
    rw [b3 _ _ (by decide) (Or.inr (by decide))]
    simp [ca_st]
  obtain ⟨σ3, d1, d2, d3, d4⟩ := lk102_C hI hkl hC3 hv1 ho1 (by simpa [ca_st] using mid2) (by simp [ca_st]; rfl) (fun σ58 => (some σ58))
  have look : cf_X5_look σ (σ.1 (0, 0, 0) 1) = some σ3 := by
    unfold cf_X5_look
    rw [c1, cz_lt]
    refine a1.trans ?_
    show (ca_br (cf_X5_lesserMiddle σ1) _) = _
    rw [lm1, cz_br, cz_lt, cz_lt]
    refine b1.trans ?_
    show (ca_br (cf_X5_lesserMiddle σ2) _) = _
    rw [lm2, cz_br, cz_lt]
    have e3 : 3 * nI o = nI (3 * o) := by rw [show (3 : Int32) = nI 3 from rfl, pk_mul]
    rw [e3]
    exact d1
  rw [look, cz_bv]
  obtain ⟨τ1, g, mm, e1, e2, e3, e4⟩ := r33_M hI hkl hM (nI x) (fun σ28 x29 => (ca_br (cf_X10_middle σ28 x29) fun r30 => (cl_X10_number_78 (nI x) x29 r30 (fun σ41 => (ca_br (cf_X10_middle σ41 x29) fun r42 => (cl_X10_number_125 σ41 (nI x) r30 r42 (fun x64 x65 => (if nI x = 0 then (some (r30, σ41)) else (if nI x = 1 then (some (x65, σ41)) else (some (x64, σ41))))) ca_FU 0 0 0))) ca_FU σ28 0)))
  have emm : mm = m2' := by
    have a := e2.2.2 (fun _ => true)
    have b : cz_ct (fun i => (fun _ => true) (g i)) mm = mm := cz_ct_all (fun i _ => rfl)
    rw [b] at a
    rw [em, a]
    unfold cz_cs cz_many
    exact cz_ct_congr (fun i _ => by cases cz_ao α i <;> rfl)
  subst emm
  have k1 : cf_X10_middle τ1 (nI mm) = some (nI v) := mid_M hm0 hm2 e2.1 (fun i hi => by have := e2.2.1 i hi; omega) (by rw [e2.2.2 (fun a => decide (a < v))]; exact md1) (by rw [e2.2.2 (fun a => decide (a ≤ v))]; exact md2) (by rw [e2.2.2 (fun a => decide (a = v))]; exact md3)
  obtain ⟨τ2, p1, p2, p3, p4⟩ := r78_M e2 hm2 hv1 (nI x) (fun σ41 => (ca_br (cf_X10_middle σ41 (nI mm)) fun r42 => (cl_X10_number_125 σ41 (nI x) (nI v) r42 (fun x64 x65 => (if nI x = 0 then (some (nI v, σ41)) else (if nI x = 1 then (some (x65, σ41)) else (some (x64, σ41))))) ca_FU 0 0 0)))
  have k2 : cf_X10_middle τ2 (nI mm) = some (nI o) := mid_M hm0 hm2 p2.1 (fun i hi => Nat.le_trans (p2.2.1 i hi) (by decide)) (by rw [p2.2.2 (fun a => decide (a < o))]; exact me1) (by rw [p2.2.2 (fun a => decide (a ≤ o))]; exact me2) (by rw [p2.2.2 (fun a => decide (a = o))]; exact me3)
  have hM2 : RM α τ2 := RM_scr hM (fun c k hc => (p3 c k hc).trans (e3 c k hc)) (p4.trans e4)
  have hC4 : RC α σ3 := RC_scr hC3 (fun c k n1 n2 => d3 c k (Or.inl (fun w => n1 (by rw [w])))) d4
  have hR : ca_R (k + 1) σ3 τ2 := ⟨α, hI.mono (Nat.le_succ k), hC4, hM2⟩
  rw [e1, k1, cz_br, p1, k2, cz_br, r125_M hI hkl hM2 hv1 ho1]
  have q2 : σ3.1 (14, 0, 0) 2 = nI v := by
    rw [d3 _ _ (Or.inr (by decide))]
    simpa [ca_st] using mid2
  rw [q2, d2]
  rcases (show x = 0 ∨ x = 1 ∨ x = 2 by omega) with rfl | rfl | rfl
  · exact ⟨nI v, σ3, τ2, rfl, rfl, hR⟩
  · have lt := cz_bits_lt (fun b => (cz_ao α b).any (fun a => decide (3 * o < cz_off v a))) (α 0 0 0)
    have le : 2 ^ α 0 0 0 ≤ 2 ^ 16 := Nat.pow_le_pow_right (by decide) i1
    have cut := cz_ct_cut (p := cz_tb (cz_bits (fun b => (cz_ao α b).any (fun a => decide (3 * o < cz_off v a))) (α 0 0 0))) (n := α 0 0 0) (fun i hi => cz_tb_hi lt hi) (16 - α 0 0 0)
    rw [show α 0 0 0 + (16 - α 0 0 0) = 16 by omega, cz_bits_tb] at cut
    rw [bc_C (show cz_bits (fun b => (cz_ao α b).any (fun a => decide (3 * o < cz_off v a))) (α 0 0 0) < 65536 from Nat.lt_of_lt_of_le lt le), cut]
    exact ⟨_, σ3, τ2, rfl, rfl, hR⟩
  · exact ⟨_, σ3, τ2, rfl, rfl, hR⟩
