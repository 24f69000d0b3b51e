theorem is_C {k : Nat} {α : ca_A} {σ : ca_S} (q1 : CI1 α) (q2 : CI2 k α) (q3 : CI3 α) (hk : k ≤ 512) (hC : RC α σ) {b : Nat} (hb : b < 16) : cf_X9_isTrying σ b = some (if α 4 0 0 = 1 ∧ α 24 b 0 = 0 ∧ α 23 b 0 < 5 then 1 else 0) := by
  obtain ⟨i1, i2, i3, i4, i5, i6, i7, i8, i9, i10, i11⟩ := q1
  obtain ⟨c1, c2, c3, c4, c5, c6, c7, c8, c9, c10, c11, c12, c13⟩ := hC.1
  have h := hC.2.1 b hb
  have q := q2 b hb
  unfold cf_X9_isTrying cf_X0_hasTriesLeft
  rw [ak_Ct q2 q3 hk hC hb, c6, h.1, h.2.2.2.1]
  simp only [cz_eq0 (show α 4 0 0 ≤ 100000 by omega), cz_le0 (show α 20 b 0 ≤ 100000 by omega)]
  rw [show (5 : Int32) = nI 5 from rfl]
  simp only [cz_len (show 5 ≤ 200000 by decide) (show α 23 b 0 ≤ 200000 by omega)]
  by_cases g4 : α 4 0 0 = 0
  · simp [g4]
  by_cases g0 : α 20 b 0 = 0
  · have := q.2.2.2.2.2.2.1 (by omega) g0
    simp [g4, g0, cz_br, cz_bi, cz_bv, cz_gd, cz_lt, this]
  by_cases g5 : 5 ≤ α 23 b 0
  · have : ¬ α 23 b 0 < 5 := by omega
    simp [g4, g0, g5, cz_br, cz_bi, cz_bv, cz_gd, cz_lt, this]
  · have e4 : α 4 0 0 = 1 := by omega
    have e5 : α 23 b 0 < 5 := by omega
    have e0 : 0 < α 20 b 0 := by omega
    have e := q.2.2.2.2.2.1 e0
    by_cases gg : cz_gr α b = α 20 b 0
    · have e1 : ¬ α 24 b 0 = 0 := by
        have := e.mpr gg
        omega
      simp [g4, g0, g5, cz_br, cz_bi, cz_bv, cz_gd, cz_lt, gg, e1, e0]
    · have e1 : α 24 b 0 = 0 := by
        by_cases z : α 24 b 0 = 1
        · exact absurd (e.mp z) gg
        · omega
      simp [g4, g0, g5, cz_br, cz_bi, cz_bv, cz_gd, cz_lt, gg, e1, e4, e5]
def cz_eq36 (α : ca_A) : ca_A := fun f x y => if f = 36 then α 23 x 0 else α f x y
theorem TI_eq36 {k hi : Nat} {α : ca_A} (h : TI k hi α) (v b : Nat) (hv : v ≤ 5) (hb : b < 16) (hn : b < α 0 0 0) : TI k hi (cu (cz_eq36 α) 23 b 0 v) := by
  refine ⟨?_, ?_, ?_, ?_, ?_⟩
  · have := h.1
    unfold CI1 at this ⊢
    simpa [cu, cz_eq36] using this
  · intro b2 hb3
    have := h.2.1 b2 hb3
    by_cases q : b2 = b
    · subst q
      simp [cu, cz_eq36, cz_gr] at this ⊢
      exact ⟨this.1, this.2.1, hv, this.2.2.2.1, this.2.2.2.2.1, this.2.2.2.2.2.1, this.2.2.2.2.2.2.1, fun z => by omega⟩
    · simpa [cu, cz_eq36, cz_gr, q] using this
  · intro b2 j2 hb3 hj3
    have := h.2.2.1 b2 j2 hb3 hj3
    simpa [cu, cz_eq36] using this
  · have := h.2.2.2.1
    unfold CI4 at this ⊢
    simpa [cu, cz_eq36] using this
  · intro i b2 hi hb3
    have := h.2.2.2.2 i b2 (by simpa [cu, cz_eq36] using hi) hb3
    simpa [cu, cz_eq36] using this
theorem TI.mono {k hi hi' : Nat} {α : ca_A} (h : TI k hi α) (hh : hi ≤ hi') : TI k hi' α := ⟨h.1, h.2.1, h.2.2.1, ⟨h.2.2.2.1.1, fun l hl => by
  have := h.2.2.2.1.2.1 l hl
  refine ⟨this.1, this.2.1, this.2.2.1, this.2.2.2.1, this.2.2.2.2.1, this.2.2.2.2.2.1, this.2.2.2.2.2.2.1, this.2.2.2.2.2.2.2.1, by omega⟩, h.2.2.2.1.2.2⟩, h.2.2.2.2⟩
/-- a box tries both roads -/
theorem bx_CM {k : Nat} {α : ca_A} {σ τ : ca_S} {b : Nat} (h : TI k (32 * α 1 0 0 + 2 * b) α) (hC : RC α σ) (hM : RM α τ) (hb : b < 16) (hn : b < α 0 0 0) (h4 : α 4 0 0 = 1) (h24 : α 24 b 0 = 0) (h23 : α 23 b 0 < 5) : ∃ α' σ' τ' τ'', cf_X9_tryBothRoads σ (nI b) = some σ' ∧ cf_X10_tryBy τ (nI (2 * b)) = some τ'' ∧ cf_X10_tryBy τ'' (nI (2 * b + 1)) = some τ' ∧ TI k (32 * α 1 0 0 + 2 * (b + 1)) α' ∧ RC α' σ' ∧ RM α' τ' ∧ α' 0 0 0 = α 0 0 0 ∧ α' 1 0 0 = α 1 0 0 ∧ α' 4 0 0 = α 4 0 0 := by
  have hq := h.2.1 b hb
  have hc : 0 < α 20 b 0 := by
    by_cases z : α 20 b 0 = 0
    · have := hq.2.2.2.2.2.2.1 h4 z
      omega
    · omega
  obtain ⟨β, hβ⟩ : ∃ β, β = cu (cz_eq36 α) 23 b 0 (α 23 b 0 + 1) := ⟨_, rfl⟩
  have hT0 : TI k (32 * α 1 0 0 + 2 * b) β := hβ ▸ TI_eq36 h (α 23 b 0 + 1) b (by omega) hb hn
  have hC0 : RC β (ca_st σ (2, b, 0) 5 (nI (α 23 b 0 + 1))) := by
    subst hβ
    refine ⟨?_, ?_, ?_, ?_, ?_⟩
    · simpa [RC1, ca_st, cu, cz_eq36] using hC.1
    · intro b2 hb3
      have := hC.2.1 b2 hb3
      by_cases q : b2 = b
      · subst q
        simp [ca_st, cu, cz_mk, cz_eq36] at this ⊢
        exact ⟨this.1, this.2.1, this.2.2.1, this.2.2.2.2⟩
      · simpa [ca_st, cu, cz_mk, cz_eq36, q] using this
    · intro b2 j2 hb3 hj3
      have := hC.2.2.1 b2 j2 hb3 hj3
      simpa [ca_st, cu, cz_eq36] using this
    · intro l hl
      have := hC.2.2.2.1 l (by simpa [cu, cz_eq36] using hl)
      simpa [ca_st, cu, cz_eq36] using this
    · intro i b2 hi hb3
      have := hC.2.2.2.2 i b2 (by simpa [cu, cz_eq36] using hi) hb3
      simpa [ca_st, cu, cz_eq36] using this
  have hM0 : RMt β τ := by
    subst hβ
    refine ⟨?_, ?_, ?_, ?_, ?_⟩
    · simpa [RM1, cu, cz_eq36] using hM.1
    · intro b2 hb3
      have := hM.2.1 b2 hb3
      simp [cu, cz_eq36]
      refine ⟨this.1, this.2.1, this.2.2.1, fun j hj => ?_, this.2.2.2.2.2⟩
      rcases (show j = 0 ∨ j = 1 by omega) with rfl | rfl
      · exact this.2.2.2.1
      · exact this.2.2.2.2.1
    · intro b2 j2 hb3 hj3
      have := hM.2.2.1 b2 j2 hb3 hj3
      simpa [cu, cz_eq36] using this
    · intro l hl
      have := hM.2.2.2.1 l (by simpa [cu, cz_eq36] using hl)
      simpa [cu, cz_eq36] using this
    · intro i b2 hi hb3
      have := hM.2.2.2.2 i b2 (by simpa [cu, cz_eq36] using hi) hb3
      simpa [cu, cz_eq36] using this
  have v0 : β 0 0 0 = α 0 0 0 := by subst hβ; simp [cu, cz_eq36]
  have v1 : β 1 0 0 = α 1 0 0 := by subst hβ; simp [cu, cz_eq36]
  have v4 : β 4 0 0 = α 4 0 0 := by subst hβ; simp [cu, cz_eq36]
  have v20 : β 20 b 0 = α 20 b 0 := by subst hβ; simp [cu, cz_eq36]
  have v36 : ∀ x y, β 36 x y = α 23 x 0 := by subst hβ; simp [cu, cz_eq36]
  have v23 : ∀ x, β 23 x 0 = if x = b then α 23 b 0 + 1 else α 23 x 0 := by subst hβ; simp [cu, cz_eq36]
  have L0 : β 8 0 0 < 320 := cz_L hT0.2.2.2.1 (by omega)
  have p0 := (hT0.2.2.1 b 0 hb (by decide)).1
  obtain ⟨σ1, s1, r1⟩ := tr_C hC0 (b := b) (j := 0) hb (by decide) L0 p0 (fun σ15 => some σ15)
  obtain ⟨τ1, t1, u1⟩ := tr_M hM0 (b := b) (j := 0) hb (by decide) L0 p0 (by rw [v36]; exact h23)
  have hT1 := TI_try hT0 (b := b) (j := 0) (by omega) hb (by decide) (by omega) (by omega) (by omega)
  have w1 : cz_try β b 0 1 0 0 = α 1 0 0 := by rw [cz_try_o (by decide), v1]
  have w0 : cz_try β b 0 0 0 0 = α 0 0 0 := by rw [cz_try_o (by decide), v0]
  have w4 : cz_try β b 0 4 0 0 = α 4 0 0 := by rw [cz_try_o (by decide), v4]
  have w20 : cz_try β b 0 20 b 0 = α 20 b 0 := by rw [cz_try_o (by decide), v20]
  have L1 : cz_try β b 0 8 0 0 < 320 := cz_L hT1.2.2.2.1 (by omega)
  have p1 := (hT1.2.2.1 b 1 hb (by decide)).1
  obtain ⟨σ2, s2, r2⟩ := tr_C r1 (b := b) (j := 1) hb (by decide) L1 p1 (fun σ15 => some σ15)
  obtain ⟨τ2, t2, u2⟩ := tr_M u1 (b := b) (j := 1) hb (by decide) L1 p1 (by rw [cz_try_36, v36, v36]; simpa using h23)
  have hT2 := TI_try hT1 (b := b) (j := 1) (by omega) hb (by decide) (by omega) (by omega) (by omega)
  refine ⟨cz_try (cz_try β b 0) b 1, σ2, τ2, τ1, ?_, t1, t2, ?_, r2, ?_, ?_, ?_, ?_⟩
  · unfold cf_X9_tryBothRoads
    rw [cz_in hb (by decide), nI_clamp (show b < 2 ^ 31 by omega), (hC.2.1 b hb).2.2.2.1, nI_1]
    simp only [cz_br, cz_bi, cz_bv, cz_gd, cz_lt]
    have e : ca_FU = (99997 + 1) + 1 + 1 := by rw [ca_FU_eq]
    rw [e, show (0 : Int32) = nI 0 from rfl, s1, s2, cl_X9_tryBothRoads_19, if_pos (show (2 : Int32) ≤ nI (1 + 1) from Int32.le_refl _)]
  · rw [w1] at hT2
    exact hT2.mono (by omega)
  · refine ⟨u2.1, ?_, u2.2.2.1, u2.2.2.2.1, u2.2.2.2.2⟩
    intro b2 hb3
    have := u2.2.1 b2 hb3
    have y0 := this.2.2.2.1 0 (by decide)
    have y1 := this.2.2.2.1 1 (by decide)
    refine ⟨this.1, this.2.1, this.2.2.1, ?_, ?_, this.2.2.2.2⟩
    · rw [show 2 * b2 = 2 * b2 + 0 from rfl, y0]
      rw [cz_try_36, cz_try_36, cz_try_36, cz_try_o (by decide), cz_try_o (by decide), v36, v36, v36, v23]
      by_cases q : b2 = b <;> simp [q]
    · rw [y1]
      rw [cz_try_36, cz_try_36, cz_try_36, cz_try_o (by decide), cz_try_o (by decide), v36, v36, v36, v23]
      by_cases q : b2 = b <;> simp [q]
  · rw [cz_try_o (by decide), w0]
  · rw [cz_try_o (by decide), w1]
  · rw [cz_try_o (by decide), w4]
