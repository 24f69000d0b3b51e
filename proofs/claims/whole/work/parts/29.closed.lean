def cz_cl (α : ca_A) (r : Nat) : ca_A := fun f i j => if f = 4 ∧ i = 0 ∧ j = 0 then 0 else if f = 8 ∧ i = 0 ∧ j = 0 then 0 else if f = 9 ∧ i = 0 ∧ j = 0 then α 9 0 0 + 1 else if f = 50 ∧ i = α 9 0 0 ∧ j < 16 then cz_vd α r j else α f i j
theorem cz_cl_mk (α : ca_A) (r : Nat) {b : Nat} (hb : b < 16) : cz_mk (cz_cl α r) b = cz_mk α b + (if cz_vd α r b = 2 then 1 else 0) := by
  unfold cz_mk
  have e9 : cz_cl α r 9 0 0 = α 9 0 0 + 1 := by simp [cz_cl]
  rw [e9]
  have e0 : cz_ct (fun i => cz_cl α r 50 i b == 2) (α 9 0 0 + 1) = cz_ct (fun i => cz_cl α r 50 i b == 2) (α 9 0 0) + (if (cz_cl α r 50 (α 9 0 0) b == 2) = true then 1 else 0) := rfl
  rw [e0]
  have e1 : cz_ct (fun i => cz_cl α r 50 i b == 2) (α 9 0 0) = cz_ct (fun i => α 50 i b == 2) (α 9 0 0) := cz_ct_congr (fun i hi => by
    have : ¬ i = α 9 0 0 := by omega
    simp [cz_cl, this])
  have e2 : cz_cl α r 50 (α 9 0 0) b = cz_vd α r b := by simp [cz_cl, hb]
  rw [e1, e2]
  simp
theorem cz_vd_le (α : ca_A) (r b : Nat) : cz_vd α r b ≤ 2 := by
  unfold cz_vd
  split
  · split
    · omega
    · split <;> omega
  · omega
theorem cl_R {k : Nat} {α : ca_A} {σ τ : ca_S} (hI : CI k α) (hC : RC α σ) (hM : RM α τ) (hQ : α 9 0 0 < 20) (r : Nat) : ca_R (k + 1) (ca_st (cz_en (ca_st (ca_st σ (7, 0, 0) 0 0) (8, 0, 0) 6 0) (α 9 0 0) (cz_vd α r) 16) (10, 0, 0) 1 (nI (α 9 0 0) + 1)) (ca_st (ca_st (ca_st (cz_ke τ (α 9 0 0) (cz_vd α r) 16) (20, 0, 0) 27 (nI (α 9 0 0) + 1)) (20, 0, 0) 8 0) (20, 0, 0) 20 0) := by
  obtain ⟨c1, c2, c3, c4, c5, c6, c7, c8, c9, c10, c11, c12, c13⟩ := hC.1
  obtain ⟨m1, m2, m3, m4, m5, m6, m7, m8, m9, m10, m11, m12, m13⟩ := hM.1
  obtain ⟨i1, i2, i3, i4, i5, i6, i7, i8, i9, i10, i11⟩ := hI.1
  refine ⟨cz_cl α r, ⟨?_, ?_, ?_, ?_, ?_⟩, ⟨?_, ?_, ?_, ?_, ?_⟩, ⟨?_, ?_, ?_, ?_, ?_⟩⟩
  · simp [CI1, cz_cl]
    exact ⟨i1, i2, i3, i4, i6, i7, i8, by omega, i10, i11⟩
  · intro b hb
    have := hI.2.1 b hb
    simp [cz_cl, cz_gr] at this ⊢
    exact ⟨by omega, this.2.1, this.2.2.1, this.2.2.2.1, this.2.2.2.2.1, this.2.2.2.2.2.1, this.2.2.2.2.2.2.2⟩
  · intro b j hb hj
    have := hI.2.2.1 b j hb hj
    simpa [cz_cl] using this
  · simp [CI4, cz_cl]
  · intro i b hi hb
    by_cases q : i = α 9 0 0
    · subst q
      simp [cz_cl, hb]
      exact cz_vd_le α r b
    · have h9 : i < α 9 0 0 := by
        simp [cz_cl] at hi
        omega
      simpa [cz_cl, q] using hI.2.2.2.2 i b h9 hb
  · simp [RC1, cz_en, ca_st, cz_cl]
    exact ⟨c1, c2, c3, c4, c5, rfl, c7, c8, c9, rfl, (nI_succ _).symm, c12, c13⟩
  · intro b hb
    have := hC.2.1 b hb
    rw [cz_cl_mk α r hb]
    simp [cz_en, ca_st, cz_cl, hb] at this ⊢
    refine ⟨this.1, this.2.1, this.2.2.1, this.2.2.2.1, ?_⟩
    by_cases q : cz_vd α r b = 2
    · simp [q, this.2.2.2.2, nI_succ]
    · simp [q, this.2.2.2.2]
  · intro b j hb hj
    have := hC.2.2.1 b j hb hj
    simpa [cz_en, ca_st, cz_cl] using this
  · intro l hl
    simp [cz_cl] at hl
  · intro i b hi hb
    by_cases q : i = α 9 0 0
    · subst q
      simp [cz_en, ca_st, cz_cl, hb]
    · have h9 : i < α 9 0 0 := by
        simp [cz_cl] at hi
        omega
      simpa [cz_en, ca_st, cz_cl, q] using hC.2.2.2.2 i b h9 hb
  · simp [RM1, cz_ke, ca_st, cz_cl]
    exact ⟨m1, m2, m3, m4, m5, rfl, m7, m8, m9, rfl, (nI_succ _).symm, m12, m13⟩
  · intro b hb
    have := hM.2.1 b hb
    simpa [cz_ke, ca_st, cz_cl] using this
  · intro b j hb hj
    have := hM.2.2.1 b j hb hj
    simpa [cz_ke, ca_st, cz_cl] using this
  · intro l hl
    simp [cz_cl] at hl
  · intro i b hi hb
    by_cases q : i = α 9 0 0
    · subst q
      simp [cz_ke, ca_st, cz_cl, hb]
    · have h9 : i < α 9 0 0 := by
        simp [cz_cl] at hi
        omega
      have q2 : ¬ (16 * α 9 0 0 ≤ 16 * i + b ∧ 16 * i + b < 16 * α 9 0 0 + 16) := fun h => by omega
      have := hM.2.2.2.2 i b h9 hb
      simp [cz_ke, ca_st, cz_cl, q, q2]
      exact this
theorem st_close {k : Nat} {σ τ : ca_S} (hk0 : k < 512) (h : ca_R k σ τ) : ca_St_close ca_R k σ τ := by
  have hk := h.mono (Nat.le_succ k)
  obtain ⟨α, hI, hC, hM⟩ := h
  obtain ⟨c1, c2, c3, c4, c5, c6, c7, c8, c9, c10, c11, c12, c13⟩ := hC.1
  obtain ⟨m1, m2, m3, m4, m5, m6, m7, m8, m9, m10, m11, m12, m13⟩ := hM.1
  obtain ⟨i1, i2, i3, i4, i5, i6, i7, i8, i9, i10, i11⟩ := hI.1
  intro a
  unfold cf_X9_close cf_X10_close cf_X3_enter cf_X3_isFull
  rw [c2, c6, c9, c11, m2, m6, m9, m11]
  simp only [cz_eq0 (show α 4 0 0 ≤ 100000 by omega), cz_len (show α 7 0 0 ≤ 200000 by omega) (show α 1 0 0 ≤ 200000 by omega)]
  by_cases ga : α 4 0 0 = 0
  · simp only [if_pos ga]
    exact ⟨-2, σ, τ, rfl, rfl, hk⟩
  simp only [if_neg ga]
  rcases cw_takes hI hC hM a with ⟨f1, f2⟩ | ⟨r, rfl, hok, f1, f2⟩
  · rw [f1, f2]
    exact ⟨-1, σ, τ, rfl, rfl, hk⟩
  rw [f1, f2]
  simp only [cz_br, if_neg (show ¬ (1 : Int32) = 0 by decide)]
  by_cases gb : α 7 0 0 ≤ α 1 0 0
  · simp only [if_pos gb]
    by_cases gq : α 9 0 0 = 20
    · rw [gq]
      exact ⟨-3, σ, τ, rfl, rfl, hk⟩
    · have q1 : nI (α 9 0 0) < 20 := nI_lt (b := 20) (by omega) (by decide)
      have q2 : ¬ nI (α 9 0 0) = 20 := fun e => gq ((nI_eq (b := 20) (by omega) (by decide)).mp e)
      have e1 : (ca_st (ca_st σ (7, 0, 0) 0 0) (8, 0, 0) 6 0).1 (10, 0, 0) 1 = nI (α 9 0 0) := by simp [ca_st, c11]
      have e2 : (ca_st (ca_st σ (7, 0, 0) 0 0) (8, 0, 0) 6 0).1 (0, 0, 0) 1 = nI (α 0 0 0) := by simp [ca_st, c1]
      simp only [if_pos q1, if_neg q2, cz_br, cz_bi, cz_bv, cz_gd, cz_lt, if_true, e1, e2, cz_in (show α 9 0 0 < 20 by omega) (show 20 < 2 ^ 31 by decide), nI_clamp (show α 9 0 0 < 2 ^ 31 by omega)]
      rw [cl_C hI (Nat.le_of_lt hk0) hC (fun b => by simp [cf_X0_countedAnswer, cj_X0_countedAnswer_36, ca_st]) hok.1, cl_M hI (Nat.le_of_lt hk0) hM hok.1 (by omega)]
      have e3 : (cz_en (ca_st (ca_st σ (7, 0, 0) 0 0) (8, 0, 0) 6 0) (α 9 0 0) (cz_vd α r) 16).1 (10, 0, 0) 1 = nI (α 9 0 0) := by simp [cz_en, ca_st, c11]
      have e4 : (cz_ke τ (α 9 0 0) (cz_vd α r) 16).1 (20, 0, 0) 27 = nI (α 9 0 0) := by simp [cz_ke, m11]
      simp only [cz_br, cz_bi, cz_bv, cz_gd, cz_lt, e3, e4]
      exact ⟨_, _, _, rfl, rfl, cl_R hI hC hM (by omega) r⟩
  · simp only [if_neg gb]
    exact ⟨-2, σ, τ, rfl, rfl, hk⟩
