theorem st_ask {k : Nat} {σ τ : ca_S} (h : ca_R k σ τ) : ca_St_ask ca_R k σ τ := by
  have hk := h.mono (Nat.le_succ k)
  obtain ⟨α, hI, hC, hM⟩ := h
  obtain ⟨c1, c2, c3, c4, c5, c6, c7, c8, c9, c10, c11, c12, c13⟩ := hC.1
  obtain ⟨m1, m2, m3, m4, m5, m6, m7, m8, m9, m10, m11, m12, m13⟩ := hM.1
  obtain ⟨i1, i2, i3, i4, i5, i6, i7, i8, i9, i10, i11⟩ := hI.1
  intro a1 a2 a3
  unfold cf_X9_ask cf_X10_ask cj_X10_ask_23 cf_X7_isKind cf_X7_begin
  -- the bell
  have hbell : (a3 ≤ nI (α 1 0 0) ∨ ¬ a3 ≤ 100000) ∨ ∃ bl, bl ≤ 100000 ∧ a3 = nI bl ∧ ¬ a3 ≤ nI (α 1 0 0) ∧ a3 ≤ 100000 := by
    by_cases g1 : a3 ≤ nI (α 1 0 0)
    · exact Or.inl (Or.inl g1)
    · by_cases g2 : a3 ≤ 100000
      · have g3 : ¬ a3 < 0 := by
          intro h
          apply g1
          rw [Int32.le_iff_toInt_le, nI_toInt (by omega)]
          have := Int32.lt_iff_toInt_lt.mp h
          have z : (0 : Int32).toInt = 0 := rfl
          omega
        obtain ⟨bl, hb, rfl⟩ := nI_of g3
        refine Or.inr ⟨bl, ?_, rfl, g1, g2⟩
        rw [Int32.le_iff_toInt_le, nI_toInt (by omega)] at g2
        have z : (100000 : Int32).toInt = 100000 := rfl
        omega
      · exact Or.inl (Or.inr g2)
  rw [c2, c6, m2, m6]
  -- the kind
  rcases cw_C a1 0 2 0 2 rfl rfl (by decide) (by decide) with ⟨f1, f2, f3⟩ | ⟨x, -, hx, rfl, f1, f2⟩
  · have n0 : ¬ a1 = 0 := f3 0 (by decide) (by decide)
    have n1 : ¬ a1 = 1 := f3 1 (by decide) (by decide)
    have n2 : ¬ a1 = 2 := f3 2 (by decide) (by decide)
    rw [f2, if_neg n0, if_neg n1, if_neg n2]
    exact ⟨-1, σ, τ, rfl, rfl, hk⟩
  rw [f2]
  rcases (show x = 0 ∨ x = 1 ∨ x = 2 by omega) with rfl | rfl | rfl
  · simp only [cz_br, cz_bi, cz_bv, cz_gd, cz_lt, if_pos (show nI 0 = 0 from rfl), if_neg (show ¬ (1 : Int32) = 0 by decide), if_neg (show ¬ nI 0 = 2 by decide)]
    rcases hbell with (g | g) | ⟨bl, hbl, rfl, g1, g2⟩
    · simp only [if_pos g]
      exact ⟨-1, σ, τ, rfl, rfl, hk⟩
    · by_cases g0 : a3 ≤ nI (α 1 0 0)
      · simp only [if_pos g0]
        exact ⟨-1, σ, τ, rfl, rfl, hk⟩
      · simp only [if_neg g0, if_neg g]
        exact ⟨-1, σ, τ, rfl, rfl, hk⟩
    · simp only [if_neg g1, if_pos g2, cz_eq0 (show α 4 0 0 ≤ 100000 by omega)]
      by_cases q : α 4 0 0 = 0
      · simp only [if_pos q, fg_M1, fg_M2]
        rw [fg_C (α := α) (σ := σ) (by simp [ca_st, c1]) i1]
        exact ⟨0, _, _, rfl, rfl, ask_R hI hC hM q (nI 0) 0 (nI bl) a2 0 0 bl (by decide) (fun h => by omega) hbl rfl (fun h => by omega) (fun h => by omega) rfl⟩
      · simp only [if_neg q]
        exact ⟨-2, σ, τ, rfl, rfl, hk⟩
  · simp only [cz_br, cz_bi, cz_bv, cz_gd, cz_lt, if_neg (show ¬ nI 1 = 0 by decide), if_pos (show nI 1 = 1 from rfl), if_neg (show ¬ (1 : Int32) = 0 by decide), if_neg (show ¬ nI 1 = 2 by decide)]
    rcases hbell with (g | g) | ⟨bl, hbl, rfl, g1, g2⟩
    · simp only [if_pos g]
      exact ⟨-1, σ, τ, rfl, rfl, hk⟩
    · by_cases g0 : a3 ≤ nI (α 1 0 0)
      · simp only [if_pos g0]
        exact ⟨-1, σ, τ, rfl, rfl, hk⟩
      · simp only [if_neg g0, if_neg g]
        exact ⟨-1, σ, τ, rfl, rfl, hk⟩
    · simp only [if_neg g1, if_pos g2, cz_eq0 (show α 4 0 0 ≤ 100000 by omega)]
      by_cases q : α 4 0 0 = 0
      · simp only [if_pos q, fg_M1, fg_M2]
        rw [fg_C (α := α) (σ := σ) (by simp [ca_st, c1]) i1]
        exact ⟨0, _, _, rfl, rfl, ask_R hI hC hM q (nI 1) 0 (nI bl) a2 1 0 bl (by decide) (fun h => by omega) hbl rfl (fun h => by omega) (fun h => by omega) rfl⟩
      · simp only [if_neg q]
        exact ⟨-2, σ, τ, rfl, rfl, hk⟩
  · simp only [cz_br, cz_bi, cz_bv, cz_gd, cz_lt, if_neg (show ¬ nI 2 = 0 by decide), if_neg (show ¬ nI 2 = 1 by decide), if_neg (show ¬ (1 : Int32) = 0 by decide), if_pos (show nI 2 = 2 from rfl)]
    rcases cw_C a2 2 5 2 5 rfl rfl (by decide) (by decide) with ⟨e1, e2, -⟩ | ⟨th, ht1, ht2, rfl, e1, e2⟩
    · rw [e1, e2]
      exact ⟨-1, σ, τ, rfl, rfl, hk⟩
    rw [e1, e2]
    simp only [cz_br, cz_bi, cz_bv, cz_gd, cz_lt, if_neg (show ¬ (1 : Int32) = 0 by decide)]
    rcases hbell with (g | g) | ⟨bl, hbl, rfl, g1, g2⟩
    · simp only [if_pos g]
      exact ⟨-1, σ, τ, rfl, rfl, hk⟩
    · by_cases g0 : a3 ≤ nI (α 1 0 0)
      · simp only [if_pos g0]
        exact ⟨-1, σ, τ, rfl, rfl, hk⟩
      · simp only [if_neg g0, if_neg g]
        exact ⟨-1, σ, τ, rfl, rfl, hk⟩
    · simp only [if_neg g1, if_pos g2, cz_eq0 (show α 4 0 0 ≤ 100000 by omega)]
      by_cases q : α 4 0 0 = 0
      · simp only [if_pos q, fg_M1, fg_M2]
        rw [fg_C (α := α) (σ := σ) (by simp [ca_st, c1]) i1]
        exact ⟨0, _, _, rfl, rfl, ask_R hI hC hM q (nI 2) (nI th) (nI bl) (nI th) 2 th bl (by decide) (fun _ => ⟨ht1, ht2⟩) hbl rfl (fun _ => rfl) (fun _ => rfl) rfl⟩
      · simp only [if_neg q]
        exact ⟨-2, σ, τ, rfl, rfl, hk⟩
