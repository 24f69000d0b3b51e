def cz_ask (α : ca_A) (kd th bl : Nat) : ca_A := fun f i j => if f = 4 ∧ i = 0 ∧ j = 0 then 1 else if f = 5 ∧ i = 0 ∧ j = 0 then kd else if f = 6 ∧ i = 0 ∧ j = 0 then th else if f = 7 ∧ i = 0 ∧ j = 0 then bl else if f = 8 ∧ i = 0 ∧ j = 0 then 0 else if (f = 20 ∨ f = 23 ∨ f = 34 ∨ f = 35) ∧ i < 16 then 0 else if f = 24 ∧ i < 16 then 1 else α f i j
/-- the new question's state, both sides -/
theorem ask_R {k : Nat} {α : ca_A} {σ τ : ca_S} (hI : CI k α) (hC : RC α σ) (hM : RM α τ) (h4 : α 4 0 0 = 0) (x1 x2 x3 y2 : Int32) (kd th bl : Nat) (hkd : kd ≤ 2) (hth : kd = 2 → 2 ≤ th ∧ th ≤ 5) (hbl : bl ≤ 100000) (e1 : x1 = nI kd) (e2 : kd = 2 → x2 = nI th) (e2' : kd = 2 → y2 = nI th) (e3 : x3 = nI bl) : ca_R (k + 1) (cz_fg (ca_st (ca_st (ca_st (ca_st σ (7, 0, 0) 0 1) (7, 0, 0) 1 x1) (7, 0, 0) 2 x2) (7, 0, 0) 3 x3) (α 0 0 0)) (cz_g2 (cz_g1 (ca_st (ca_st (ca_st (ca_st (ca_st τ (20, 0, 0) 8 1) (20, 0, 0) 9 x1) (20, 0, 0) 10 y2) (20, 0, 0) 11 x3) (20, 0, 0) 20 0) 16) 32) := by
  obtain ⟨c1, c2, c3, c4, c5, c6, c7, c8, c9, c10, c11, c12, c13⟩ := hC.1
  obtain ⟨m1, m2, m3, m4, m5, m6, m7, m8, m9, m10, m11, m12, m13⟩ := hM.1
  obtain ⟨i1, i2, i3, i4, i5, i6, i7, i8, i9, i10, i11⟩ := hI.1
  have hL : α 8 0 0 = 0 := hI.2.2.2.1.1 h4
  refine ⟨cz_ask α kd th bl, ⟨?_, ?_, ?_, ?_, ?_⟩, ⟨?_, ?_, ?_, ?_, ?_⟩, ⟨?_, ?_, ?_, ?_, ?_⟩⟩
  · simp [CI1, cz_ask]
    exact ⟨i1, i2, i3, i4, hkd, hth, hbl, i9, i10, i11⟩
  · intro b hb
    have := hI.2.1 b hb
    simp [cz_ask, hb]
    exact this.2.1
  · intro b j hb hj
    have := hI.2.2.1 b j hb hj
    simp [cz_ask, hb]
    exact ⟨this.1, this.2.1⟩
  · simp [CI4, cz_ask]
  · intro i b hi hb
    have := hI.2.2.2.2 i b (by simpa [cz_ask] using hi) hb
    simpa [cz_ask] using this
  · simp only [hL] at c10
    simp [RC1, cz_fg, ca_st, cz_ask]
    exact ⟨c1, c2, c3, c4, c5, rfl, e1, e2, e3, c10, c11, c12, c13⟩
  · intro b hb
    have := hC.2.1 b hb
    have h2 := hI.2.1 b hb
    simp [cz_fg, ca_st, cz_ask, cz_mk, hb] at this ⊢
    refine ⟨?_, this.2.1, this.2.2.1, ?_, this.2.2.2.2⟩
    · by_cases q : b < α 0 0 0
      · simp [q]
        rfl
      · have := h2.2.2.2.2.2.2.2 (by omega)
        simp [q, hC.2.1 b hb, this.1]
    · by_cases q : b < α 0 0 0
      · simp [q]
        rfl
      · have := h2.2.2.2.2.2.2.2 (by omega)
        simp [q, hC.2.1 b hb, this.2]
  · intro b j hb hj
    have := hC.2.2.1 b j hb hj
    have h2 := hI.2.1 b hb
    have h3 := hI.2.2.1 b j hb hj
    simp [cz_fg, ca_st, cz_ask, hb, hj] at this ⊢
    refine ⟨this.1, this.2.1, this.2.2.1, ?_, ?_⟩
    · by_cases q : b < α 0 0 0
      · simp [q]
        rfl
      · have z := h2.2.2.2.2.2.2.2 (by omega)
        simp [q, this.2.2.2.2.1]
        rw [show α 34 b j = 0 by omega]
    · by_cases q : b < α 0 0 0
      · simp [q]
        rfl
      · have z := h2.2.2.2.2.2.2.2 (by omega)
        simp [q, this.2.2.2.2.2]
        rw [show α 35 b j = 0 by omega]
  · intro l hl
    simp [cz_ask] at hl
  · intro i b hi hb
    have := hC.2.2.2.2 i b (by simpa [cz_ask] using hi) hb
    simpa [cz_ask, cz_fg, ca_st] using this
  · simp [RM1, cz_g1, cz_g2, ca_st, cz_ask]
    exact ⟨m1, m2, m3, m4, m5, rfl, e1, e2', e3, rfl, m11, m12, m13⟩
  · intro b hb
    have := hM.2.1 b hb
    have q1 : 2 * b < 32 := by omega
    have q2 : 2 * b + 1 < 32 := by omega
    simp [cz_g1, cz_g2, ca_st, cz_ask, hb, q1, q2] at this ⊢
    exact ⟨rfl, this.2.1, this.2.2.1, rfl, rfl⟩
  · intro b j hb hj
    have := hM.2.2.1 b j hb hj
    have q1 : 2 * b + j < 32 := by omega
    simp [cz_g1, cz_g2, ca_st, cz_ask, hb, hj, q1] at this ⊢
    exact ⟨this.1, this.2.1, this.2.2.1, rfl⟩
  · intro l hl
    simp [cz_ask] at hl
  · intro i b hi hb
    have := hM.2.2.2.2 i b (by simpa [cz_ask] using hi) hb
    simpa [cz_ask, cz_g1, cz_g2, ca_st] using this
