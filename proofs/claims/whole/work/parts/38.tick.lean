theorem cz_L2 {hi : Nat} {α : ca_A} (h4 : CI4 hi (α 1 0 0) α) (hh : hi ≤ 32 * α 1 0 0 + 32) : α 8 0 0 ≤ 320 := by
  by_cases z : α 8 0 0 = 0
  · omega
  have inc : ∀ l, l < α 8 0 0 → α 46 0 0 + l ≤ α 46 l 0 := by
    intro l
    induction l with
    | zero => intro _; omega
    | succ l ih =>
      intro hl
      have a := ih (by omega)
      have b := h4.2.2 l (l + 1) (by omega) hl
      omega
  have a := inc (α 8 0 0 - 1) (by omega)
  have b := (h4.2.1 (α 8 0 0 - 1) (by omega)).2.2.2.2.2.2.2.2
  have c := (h4.2.1 0 (by omega)).2.2.2.2.2.2
  omega
/-- one tick of both, an open question or none -/
theorem tk_CM {k : Nat} {α : ca_A} {σ τ : ca_S} (hI : CI k α) (hk : k ≤ 512) (hC : RC α σ) (hM : RM α τ) (h1 : α 1 0 0 < 100000) : ∃ α' σ' τ', cf_X9_passTick σ = some σ' ∧ cf_X10_passes τ = some τ' ∧ CI k α' ∧ RC α' σ' ∧ RM α' τ' ∧ α' 1 0 0 = α 1 0 0 + 1 := by
  obtain ⟨i1, i2, i3, i4, i5, i6, i7, i8, i9, i10, i11⟩ := hI.1
  -- the tries
  have tries : ∃ β σ1 τ1 f, (∀ K : ca_S → Option ca_S, cl_X9_passTick_2 K ca_FU σ 0 = K σ1) ∧ (∀ K : ca_S → Option ca_S, cl_X10_passes_2 K ca_FU τ 0 = K τ1) ∧ f = 0 ∧ TI k (32 * α 1 0 0 + 32) β ∧ RC β σ1 ∧ RM β τ1 ∧ β 1 0 0 = α 1 0 0 ∧ β 8 0 0 ≤ 320 := by
    by_cases g4 : α 4 0 0 = 0
    · refine ⟨α, σ, τ, 0, fun K => ?_, fun K => ?_, rfl, TI.mono (hi := 32 * α 1 0 0) ⟨hI.1, hI.2.1, hI.2.2.1, hI.2.2.2.1, hI.2.2.2.2⟩ (by omega), hC, hM, rfl, by have := hI.2.2.2.1.1 g4; omega⟩
      · obtain ⟨s', h2, h3⟩ := cz_loop (fun f (s : ca_S) y => cl_X9_passTick_2 K f s y) (α 0 0 0) 0 (fun i s => s = σ) K (Nat.zero_le _) (by omega) (fun i s _ hi hs => by
          subst hs
          refine ⟨s, fun f => ?_, rfl⟩
          show cl_X9_passTick_2 K (f + 1) s (nI i) = _
          rw [cl_X9_passTick_2, hC.1.1, if_neg (nI_ge hi (by omega)), cz_in (show i < 16 by omega) (by decide), nI_clamp (show i < 2 ^ 31 by omega), is_C hI.1 hI.2.1 hI.2.2.1 hk hC (show i < 16 by omega), if_neg (by omega), nI_1]
          rfl) (fun f s hs => by
          subst hs
          show cl_X9_passTick_2 K (f + 1) s (nI (α 0 0 0)) = _
          rw [cl_X9_passTick_2, hC.1.1, if_pos (Int32.le_refl _)]) σ rfl
        exact h2.trans (by rw [h3])
      · have e : ca_FU = 99999 + 1 := ca_FU_eq
        have m6 : τ.1 (20, 0, 0) 8 = nI (α 4 0 0) := hM.1.2.2.2.2.2.1
        rw [e, cl_X10_passes_2, m6, g4]
        split
        · rfl
        · rfl
    · have e4 : α 4 0 0 = 1 := by omega
      have key : ∀ m i σ1 τ1, i + m = α 0 0 0 → (∃ β, TI k (32 * α 1 0 0 + 2 * i) β ∧ RC β σ1 ∧ RM β τ1 ∧ β 0 0 0 = α 0 0 0 ∧ β 1 0 0 = α 1 0 0 ∧ β 4 0 0 = 1) → ∀ f, ∃ β σ2 τ2, (∀ K : ca_S → Option ca_S, cl_X9_passTick_2 K (f + m + 1) σ1 (nI i) = K σ2) ∧ (∀ K : ca_S → Option ca_S, cl_X10_passes_2 K (f + m + 1) τ1 (nI i) = K τ2) ∧ TI k (32 * α 1 0 0 + 2 * α 0 0 0) β ∧ RC β σ2 ∧ RM β τ2 ∧ β 0 0 0 = α 0 0 0 ∧ β 1 0 0 = α 1 0 0 ∧ β 4 0 0 = 1 := by
        intro m
        induction m with
        | zero =>
          intro i σ1 τ1 hi hβ f
          obtain ⟨β, hT, rC, rM, v0, v1, v4⟩ := hβ
          have e : i = α 0 0 0 := by omega
          subst e
          refine ⟨β, σ1, τ1, fun K => ?_, fun K => ?_, hT, rC, rM, v0, v1, v4⟩
          · rw [cl_X9_passTick_2, rC.1.1, v0, if_pos (Int32.le_refl _)]
          · rw [cl_X10_passes_2, rM.1.1, v0, if_pos (Int32.le_refl _)]
        | succ m ih =>
          intro i σ1 τ1 hi hβ f
          obtain ⟨β, hT, rC, rM, v0, v1, v4⟩ := hβ
          have hi2 : i < α 0 0 0 := by omega
          have hi3 : i < 16 := by omega
          have m6 : τ1.1 (20, 0, 0) 8 = nI (β 4 0 0) := rM.1.2.2.2.2.2.1
          have hC1 : ∀ K : ca_S → Option ca_S, cl_X9_passTick_2 K (f + (m + 1) + 1) σ1 (nI i) = if (if β 4 0 0 = 1 ∧ β 24 i 0 = 0 ∧ β 23 i 0 < 5 then (1 : Int32) else 0) = 0 then cl_X9_passTick_2 K (f + m + 1) σ1 (nI (i + 1)) else ca_bv (cf_X9_tryBothRoads σ1 (nI i)) fun σ10 => cl_X9_passTick_2 K (f + m + 1) σ10 (nI (i + 1)) := by
            intro K
            rw [show f + (m + 1) + 1 = (f + m + 1) + 1 by omega, cl_X9_passTick_2, rC.1.1, v0, if_neg (nI_ge hi2 (by omega)), cz_in hi3 (by decide), nI_clamp (show i < 2 ^ 31 by omega), is_C hT.1 hT.2.1 hT.2.2.1 hk rC hi3, nI_1]
            rfl
          have em : 2 * nI i = nI (2 * i) := by rw [show (2 : Int32) = nI 2 from rfl, pk_mul]
          have hM1 : ∀ K : ca_S → Option ca_S, cl_X10_passes_2 K (f + (m + 1) + 1) τ1 (nI i) = if nI (β 24 i 0) = 0 then ca_bv (cf_X10_tryBy τ1 (nI (2 * i))) fun σ9 => ca_bv (cf_X10_tryBy σ9 (nI (2 * i + 1))) fun σ12 => cl_X10_passes_2 K (f + m + 1) σ12 (nI (i + 1)) else cl_X10_passes_2 K (f + m + 1) τ1 (nI (i + 1)) := by
            intro K
            rw [show f + (m + 1) + 1 = (f + m + 1) + 1 by omega, cl_X10_passes_2, rM.1.1, v0, if_neg (nI_ge hi2 (by omega)), m6, v4, if_neg (show ¬ nI 1 = 0 by decide), cz_in hi3 (by decide), nI_clamp (show i < 2 ^ 31 by omega), (rM.2.1 i hi3).2.2.2.2.2, em, nI_1, nI_1]
            rfl
          have b24 := (hT.2.1 i hi3).2.2.2.1
          have b23 := (hT.2.1 i hi3).2.2.1
          simp only [cz_eq0 (show β 24 i 0 ≤ 100000 by omega)] at hM1
          by_cases q24 : β 24 i 0 = 0
          · by_cases q23 : β 23 i 0 < 5
            · have hT' : TI k (32 * β 1 0 0 + 2 * i) β := by rw [v1]; exact hT
              obtain ⟨β', σ2, τ2, τ3, p1, p2, p3, p4, p5, p6, p7, p8, p9⟩ := bx_CM hT' rC rM hi3 (by omega) v4 q24 q23
              obtain ⟨γ, σ4, τ4, y1, y2, y3⟩ := ih (i + 1) σ2 τ2 (by omega) ⟨β', by rw [← v1]; exact p4, p5, p6, by omega, by omega, by omega⟩ f
              refine ⟨γ, σ4, τ4, fun K => ?_, fun K => ?_, y3⟩
              · rw [hC1, if_pos (show β 4 0 0 = 1 ∧ β 24 i 0 = 0 ∧ β 23 i 0 < 5 from ⟨v4, q24, q23⟩), if_neg (by decide), p1]
                exact y1 K
              · rw [hM1, if_pos q24, p2, cz_bv, p3]
                exact y2 K
            · have t0 : cf_X10_tryBy τ1 (nI (2 * i)) = some τ1 := by
                unfold cf_X10_tryBy
                rw [cz_in (show 2 * i < 32 by omega) (by decide), nI_clamp (show 2 * i < 2 ^ 31 by omega), (rM.2.1 i hi3).2.2.2.1, show β 23 i 0 = 5 by omega, if_pos (show nI 5 = 5 from rfl)]
                rfl
              have t1 : cf_X10_tryBy τ1 (nI (2 * i + 1)) = some τ1 := by
                unfold cf_X10_tryBy
                rw [cz_in (show 2 * i + 1 < 32 by omega) (by decide), nI_clamp (show 2 * i + 1 < 2 ^ 31 by omega), (rM.2.1 i hi3).2.2.2.2.1, show β 23 i 0 = 5 by omega, if_pos (show nI 5 = 5 from rfl)]
                rfl
              obtain ⟨γ, σ4, τ4, y1, y2, y3⟩ := ih (i + 1) σ1 τ1 (by omega) ⟨β, hT.mono (by omega), rC, rM, v0, v1, v4⟩ f
              refine ⟨γ, σ4, τ4, fun K => ?_, fun K => ?_, y3⟩
              · rw [hC1, if_neg (show ¬ (β 4 0 0 = 1 ∧ β 24 i 0 = 0 ∧ β 23 i 0 < 5) from fun z => q23 z.2.2), if_pos rfl]
                exact y1 K
              · rw [hM1, if_pos q24, t0, cz_bv, t1]
                exact y2 K
          · obtain ⟨γ, σ4, τ4, y1, y2, y3⟩ := ih (i + 1) σ1 τ1 (by omega) ⟨β, hT.mono (by omega), rC, rM, v0, v1, v4⟩ f
            refine ⟨γ, σ4, τ4, fun K => ?_, fun K => ?_, y3⟩
            · rw [hC1, if_neg (show ¬ (β 4 0 0 = 1 ∧ β 24 i 0 = 0 ∧ β 23 i 0 < 5) from fun z => q24 z.2.1), if_pos rfl]
              exact y1 K
            · rw [hM1, if_neg q24]
              exact y2 K
      obtain ⟨β, σ2, τ2, y1, y2, y3, y4, y5, y6, y7, y8⟩ := key (α 0 0 0) 0 σ τ (by omega) ⟨α, ⟨hI.1, hI.2.1, hI.2.2.1, hI.2.2.2.1, hI.2.2.2.2⟩, hC, hM, rfl, rfl, e4⟩ (99999 - α 0 0 0)
      have e : ca_FU = 99999 - α 0 0 0 + α 0 0 0 + 1 := by
        rw [ca_FU_eq]
        omega
      refine ⟨β, σ2, τ2, 0, fun K => by rw [e]; exact y1 K, fun K => by rw [e]; exact y2 K, rfl, y3.mono (by omega), y4, y5, y7, ?_⟩
      have z := y3.2.2.2.1
      have z2 := cz_L2 z (by omega)
      omega
  obtain ⟨β, σ1, τ1, f, s1, s2, -, hT, rC, rM, v1, vL⟩ := tries
  obtain ⟨γ, σ2, τ2, t, w1, w2, hD, qC, qM, x8, x1, x0, x4⟩ := br_CM hT hk rC rM vL (by omega)
  refine ⟨cu (cu γ 8 0 0 t) 1 0 0 (α 1 0 0 + 1), ca_st (ca_st σ2 (8, 0, 0) 6 (nI t)) (0, 0, 0) 2 (nI (α 1 0 0 + 1)), ca_st (ca_st τ2 (20, 0, 0) 20 (nI t)) (20, 0, 0) 1 (nI (α 1 0 0 + 1)), ?_, ?_, ⟨?_, ?_, ?_, ?_, ?_⟩, ⟨?_, ?_, ?_, ?_, ?_⟩, ⟨?_, ?_, ?_, ?_, ?_⟩, ?_⟩
  · unfold cf_X9_passTick
    rw [s1, rC.1.2.1, rC.1.2.2.2.2.2.2.2.2.1, w1]
    have e : (ca_st σ2 (8, 0, 0) 6 (nI t)).1 (0, 0, 0) 2 = nI (α 1 0 0) := by
      have := qC.1.2.1
      rw [x1, v1] at this
      simpa [ca_st] using this
    simp only [cz_br, cz_bi, cz_bv, cz_gd, cz_lt]
    rw [e, nI_1]
  · unfold cf_X10_passes
    rw [s2, w2]
    have e : (ca_st τ2 (20, 0, 0) 20 (nI t)).1 (20, 0, 0) 1 = nI (α 1 0 0) := by
      have := qM.1.2.1
      rw [x1, v1] at this
      simpa [ca_st] using this
    simp only [cz_br, cz_bi, cz_bv, cz_gd, cz_lt]
    rw [e, nI_1]
  · have := hD.1
    unfold CI1 at this ⊢
    simp [cu] at this ⊢
    exact ⟨this.1, by omega, this.2.2⟩
  · intro b hb
    have := hD.2.1 b hb
    simpa [cu, cz_gr] using this
  · intro b j hb hj
    have := hD.2.2.1 b j hb hj
    simpa [cu] using this
  · refine ⟨?_, ?_, ?_⟩
    · intro z
      have z2 : γ 4 0 0 = 0 := by simpa [cu] using z
      have := hD.2.2.2.2.1 z2
      have h6 := hD.2.2.2.2.2.1
      simp [cu]
      omega
    · intro l hl
      have hl2 : l < t := by simpa [cu] using hl
      have ht : t ≤ β 8 0 0 := hD.2.2.2.2.2.1
      have := hD.2.2.2.2.2.2.2.1 l (by omega) (Or.inl hl2)
      unfold LI at this
      simp [cu]
      exact ⟨this.1, this.2.1, this.2.2.1, this.2.2.2.1, this.2.2.2.2.1, this.2.2.2.2.2.1, by have := this.2.2.2.2.2.2.2.2.2 hl2; omega, this.2.2.2.2.2.2.2.1, by omega⟩
    · intro l l' h h'
      have hl2 : l' < t := by simpa [cu] using h'
      have ht : t ≤ β 8 0 0 := hD.2.2.2.2.2.1
      have := hD.2.2.2.2.2.2.2.2 l l' h (by omega) (Or.inl (by omega)) (Or.inl hl2)
      simpa [cu] using this
  · intro i b hi hb
    have := hD.2.2.2.1 i b (by simpa [cu] using hi) hb
    simpa [cu] using this
  · obtain ⟨c1, c2, c3, c4, c5, c6, c7, c8, c9, c10, c11, c12, c13⟩ := qC.1
    simp [RC1, ca_st, cu]
    exact ⟨c1, c3, c4, c5, c6, c7, c8, c9, c11, c12, c13⟩
  · intro b hb
    have := qC.2.1 b hb
    simpa [ca_st, cu, cz_mk] using this
  · intro b j hb hj
    have := qC.2.2.1 b j hb hj
    simpa [ca_st, cu] using this
  · intro l hl
    have ht : t ≤ β 8 0 0 := hD.2.2.2.2.2.1
    have hl2 : l < t := by simpa [cu] using hl
    have := qC.2.2.2.1 l (by omega)
    simpa [ca_st, cu] using this
  · intro i b hi hb
    have := qC.2.2.2.2 i b (by simpa [cu] using hi) hb
    simpa [ca_st, cu] using this
  · obtain ⟨m1, m2, m3, m4, m5, m6, m7, m8, m9, m10, m11, m12, m13⟩ := qM.1
    simp [RM1, ca_st, cu]
    exact ⟨m1, m3, m4, m5, m6, m7, m8, m9, m11, m12, m13⟩
  · intro b hb
    have := qM.2.1 b hb
    simpa [ca_st, cu] using this
  · intro b j hb hj
    have := qM.2.2.1 b j hb hj
    simpa [ca_st, cu] using this
  · intro l hl
    have ht : t ≤ β 8 0 0 := hD.2.2.2.2.2.1
    have hl2 : l < t := by simpa [cu] using hl
    have := qM.2.2.2.1 l (by omega)
    simpa [ca_st, cu] using this
  · intro i b hi hb
    have := qM.2.2.2.2 i b (by simpa [cu] using hi) hb
    simpa [ca_st, cu] using this
  · simp [cu]
