def cz_mv (α : ca_A) (l t : Nat) : ca_A := cu (cu (cu (cu (cu (cu (cu α 40 t 0 (α 40 l 0)) 41 t 0 (α 41 l 0)) 42 t 0 (α 42 l 0)) 43 t 0 (α 43 l 0)) 44 t 0 (α 44 l 0)) 45 t 0 (α 45 l 0)) 46 t 0 (α 46 l 0)
theorem mv_C {α : ca_A} {σ : ca_S} (hC : RC α σ) {l t : Nat} (hl : l < α 8 0 0) (ht : t ≤ l) (hL : α 8 0 0 ≤ 320) : ∃ σ', cf_X6_move σ (nI l) (nI t) = some σ' ∧ RC (cz_mv α l t) σ' := by
  have h4 := hC.2.2.2.1 l hl
  have a1 := cz_in (show l < 320 by omega) (show 320 < 2 ^ 31 by decide)
  have a2 := cz_in (show t < 320 by omega) (show 320 < 2 ^ 31 by decide)
  have a3 := nI_clamp (show l < 2 ^ 31 by omega)
  have a4 := nI_clamp (show t < 2 ^ 31 by omega)
  refine ⟨ca_st (ca_st (ca_st (ca_st (ca_st (ca_st σ (9, 0, 0) t (nI (α 40 l 0))) (9, 1, 0) t (nI (α 41 l 0))) (9, 2, 0) t (nI (α 42 l 0))) (9, 3, 0) t (nI (α 43 l 0))) (9, 4, 0) t (nI (α 44 l 0))) (9, 5, 0) t (nI (α 45 l 0)), ?_, ?_, ?_, ?_, ?_, ?_⟩
  · unfold cf_X6_move
    simp [cz_br, cz_bi, cz_bv, cz_gd, cz_lt, a1, a2, a3, a4, ca_st, h4]
  · simpa [RC1, ca_st, cu, cz_mv] using hC.1
  · intro b hb
    have := hC.2.1 b hb
    simpa [ca_st, cu, cz_mk, cz_mv] using this
  · intro b j hb hj
    have := hC.2.2.1 b j hb hj
    simpa [ca_st, cu, cz_mv] using this
  · intro l2 hl2
    have := hC.2.2.2.1 l2 (by simpa [cu, cz_mv] using hl2)
    by_cases q : l2 = t
    · subst q
      simp [ca_st, cu, cz_mv]
    · simpa [ca_st, cu, cz_mv, q] using this
  · intro i b hi hb
    have := hC.2.2.2.2 i b (by simpa [cu, cz_mv] using hi) hb
    simpa [ca_st, cu, cz_mv] using this
def cz_mvM (τ : ca_S) (α : ca_A) (l t : Nat) : ca_S := ca_st (ca_st (ca_st (ca_st (ca_st τ (21, 21, 0) t (nI (α 40 l 0))) (21, 22, 0) t (nI (2 * α 41 l 0 + α 42 l 0))) (21, 23, 0) t (nI (α 44 l 0))) (21, 24, 0) t (nI (α 43 l 0))) (21, 25, 0) t (nI (α 45 l 0))
theorem mv_M {α : ca_A} {τ : ca_S} (hM : RM α τ) {l t : Nat} : RM (cz_mv α l t) (cz_mvM τ α l t) := by
  refine ⟨?_, ?_, ?_, ?_, ?_⟩
  · simpa [RM1, ca_st, cu, cz_mv, cz_mvM] using hM.1
  · intro b hb
    have := hM.2.1 b hb
    simpa [ca_st, cu, cz_mk, cz_mv, cz_mvM] using this
  · intro b j hb hj
    have := hM.2.2.1 b j hb hj
    simpa [ca_st, cu, cz_mv, cz_mvM] using this
  · intro l2 hl2
    have := hM.2.2.2.1 l2 (by simpa [cu, cz_mv] using hl2)
    by_cases q : l2 = t
    · subst q
      simp [ca_st, cu, cz_mv, cz_mvM]
    · simpa [ca_st, cu, cz_mv, cz_mvM, q] using this
  · intro i b hi hb
    have := hM.2.2.2.2 i b (by simpa [cu, cz_mv] using hi) hb
    simpa [ca_st, cu, cz_mv, cz_mvM] using this
theorem cz_tk_o {α : ca_A} {b j a c bl sn f x y : Nat} (h : f ≠ 33 ∧ f ≠ 34 ∧ f ≠ 35 ∧ f ≠ 24) : cz_tk α b j a c bl sn f x y = α f x y := by
  unfold cz_tk cz_tk0
  split
  · simp [cu, h]
  · split
    · simp [cu, h]
    · simp [cu, h]
theorem cz_mv_o {α : ca_A} {l t f x y : Nat} (h : f < 40 ∨ 46 < f) : cz_mv α l t f x y = α f x y := by
  have n40 : f ≠ 40 := by omega
  have n41 : f ≠ 41 := by omega
  have n42 : f ≠ 42 := by omega
  have n43 : f ≠ 43 := by omega
  have n44 : f ≠ 44 := by omega
  have n45 : f ≠ 45 := by omega
  have n46 : f ≠ 46 := by omega
  simp [cz_mv, cu, n40, n41, n42, n43, n44, n45, n46]
def LI (hi t : Nat) (α : ca_A) (l : Nat) : Prop := α 41 l 0 < α 0 0 0 ∧ α 42 l 0 < 2 ∧ 1 ≤ α 44 l 0 ∧ α 44 l 0 ≤ α 20 (α 41 l 0) 0 ∧ cz_ok (α 5 0 0) (α 6 0 0) (α 43 l 0) ∧ α 45 l 0 ≤ 100000 ∧ α 1 0 0 ≤ α 40 l 0 ∧ α 40 l 0 ≤ α 46 l 0 / 32 + 9 ∧ α 46 l 0 < hi ∧ (l < t → α 1 0 0 + 1 ≤ α 40 l 0)
def DI (k hi t i : Nat) (α : ca_A) : Prop := CI1 α ∧ CI2 k α ∧ CI3 α ∧ CI5 α ∧ (α 4 0 0 = 0 → α 8 0 0 = 0) ∧ t ≤ i ∧ i ≤ α 8 0 0 ∧ (∀ l, l < α 8 0 0 → (l < t ∨ i ≤ l) → LI hi t α l) ∧ (∀ l l', l < l' → l' < α 8 0 0 → (l < t ∨ i ≤ l) → (l' < t ∨ i ≤ l') → α 46 l 0 < α 46 l' 0)
theorem DI_mv {k hi t i : Nat} {α : ca_A} (h : DI k hi t i α) (hi2 : i < α 8 0 0) (hd : ¬ α 40 i 0 = α 1 0 0) : DI k hi (t + 1) (i + 1) (cz_mv α i t) := by
  obtain ⟨h1, h2, h3, h5, h6, h7, h8, h9, h10⟩ := h
  have o : ∀ f x y, (f < 40 ∨ 46 < f) → cz_mv α i t f x y = α f x y := fun f x y => cz_mv_o
  refine ⟨?_, ?_, ?_, ?_, ?_, by omega, ?_, ?_, ?_⟩
  · unfold CI1 at h1 ⊢
    simpa [o] using h1
  · intro b hb
    have := h2 b hb
    simpa [o, cz_gr] using this
  · intro b j hb hj
    have := h3 b j hb hj
    simpa [o] using this
  · intro x b hx hb
    have := h5 x b (by simpa [o] using hx) hb
    simpa [o] using this
  · simpa [o] using h6
  · rw [o 8 0 0 (by decide)]
    omega
  · intro l hl hl2
    rw [o 8 0 0 (by decide)] at hl
    unfold LI
    by_cases q : l = t
    · subst q
      have z := h9 i hi2 (Or.inr (Nat.le_refl _))
      unfold LI at z
      simp [cz_mv, cu] at z ⊢
      refine ⟨z.1, z.2.1, z.2.2.1, z.2.2.2.1, z.2.2.2.2.1, z.2.2.2.2.2.1, z.2.2.2.2.2.2.1, z.2.2.2.2.2.2.2.1, z.2.2.2.2.2.2.2.2.1, by omega⟩
    · have z := h9 l hl (by omega)
      unfold LI at z
      simp [cz_mv, cu, q] at z ⊢
      refine ⟨z.1, z.2.1, z.2.2.1, z.2.2.2.1, z.2.2.2.2.1, z.2.2.2.2.2.1, z.2.2.2.2.2.2.1, z.2.2.2.2.2.2.2.1, z.2.2.2.2.2.2.2.2.1, fun y => z.2.2.2.2.2.2.2.2.2 (by omega)⟩
  · intro l l' hl hl' g g'
    rw [o 8 0 0 (by decide)] at hl'
    by_cases q : l = t
    · have q' : ¬ l' = t := by omega
      have z := h10 i l' (by omega) hl' (by omega) (by omega)
      simpa [cz_mv, cu, q, q'] using z
    · by_cases q' : l' = t
      · have z := h10 l i (by omega) hi2 (by omega) (by omega)
        simpa [cz_mv, cu, q, q'] using z
      · have z := h10 l l' hl hl' (by omega) (by omega)
        simpa [cz_mv, cu, q, q'] using z
theorem DI_tk {k hi t i : Nat} {α : ca_A} (h : DI k hi t i α) (hi2 : i < α 8 0 0) {b j a c bl sn : Nat} (hb : b < 16) (hj : j < 2) (hc : 1 ≤ c) (hc2 : c ≤ α 20 b 0) (ha : cz_ok (α 5 0 0) (α 6 0 0) a) : DI k hi t (i + 1) (cz_tk α b j a c bl sn) := by
  obtain ⟨h1, h2, h3, h5, h6, h7, h8, h9, h10⟩ := h
  have o : ∀ f x y, (f ≠ 33 ∧ f ≠ 34 ∧ f ≠ 35 ∧ f ≠ 24) → cz_tk α b j a c bl sn f x y = α f x y := fun f x y => cz_tk_o
  refine ⟨?_, ?_, ?_, ?_, ?_, by omega, ?_, ?_, ?_⟩
  · unfold CI1 at h1 ⊢
    simpa [o] using h1
  · intro b2 hb2
    have z := h2 b2 hb2
    have z0 := h3 b2 0 hb2 (by decide)
    have z1 := h3 b2 1 hb2 (by decide)
    by_cases q : b2 = b
    · subst q
      have e24 : cz_tk α b2 j a c bl sn 24 b2 0 = if c = α 20 b2 0 then 1 else α 24 b2 0 := by simp [cz_tk, cu]
      have egr : cz_gr (cz_tk α b2 j a c bl sn) b2 = max (cz_gr α b2) c := by
        unfold cz_gr cz_tk cz_tk0
        rcases (show j = 0 ∨ j = 1 by omega) with rfl | rfl
        · split
          · simp [cu] <;> omega
          · split
            · simp [cu] <;> omega
            · simp [cu] <;> omega
        · split
          · simp [cu] <;> omega
          · split
            · simp [cu] <;> omega
            · simp [cu] <;> omega
      have gb : cz_gr α b2 ≤ α 20 b2 0 := by
        unfold cz_gr
        omega
      rw [e24, egr]
      simp only [o 20 b2 0 (by decide), o 22 b2 0 (by decide), o 23 b2 0 (by decide), o 5 0 0 (by decide), o 6 0 0 (by decide), o 21 b2 0 (by decide), o 4 0 0 (by decide), o 0 0 0 (by decide)]
      refine ⟨z.1, z.2.1, z.2.2.1, ?_, z.2.2.2.2.1, ?_, fun _ y => by omega, z.2.2.2.2.2.2.2⟩
      · split
        · omega
        · exact z.2.2.2.1
      · intro y
        have w := z.2.2.2.2.2.1 y
        by_cases g : c = α 20 b2 0
        · rw [if_pos g]
          omega
        · rw [if_neg g, w]
          omega
    · have e24 : cz_tk α b j a c bl sn 24 b2 0 = α 24 b2 0 := by
        unfold cz_tk cz_tk0
        split
        · simp [cu, q]
        · split
          · simp [cu, q]
          · simp [cu, q]
      have egr : cz_gr (cz_tk α b j a c bl sn) b2 = cz_gr α b2 := by
        unfold cz_gr cz_tk cz_tk0
        split
        · simp [cu, q]
        · split
          · simp [cu, q]
          · simp [cu, q]
      rw [e24, egr]
      simp only [o 20 b2 0 (by decide), o 22 b2 0 (by decide), o 23 b2 0 (by decide), o 5 0 0 (by decide), o 6 0 0 (by decide), o 21 b2 0 (by decide), o 4 0 0 (by decide), o 0 0 0 (by decide)]
      exact z
  · intro b2 j2 hb2 hj2
    have z := h3 b2 j2 hb2 hj2
    simp only [o 20 b2 0 (by decide), o 31 b2 j2 (by decide), o 32 b2 j2 (by decide), o 5 0 0 (by decide), o 6 0 0 (by decide)]
    by_cases q : b2 = b ∧ j2 = j
    · obtain ⟨rfl, rfl⟩ := q
      unfold cz_tk cz_tk0
      split
      · simp [cu]
        exact ⟨z.1, z.2.1, z.2.2.1, by omega, z.2.2.2.2⟩
      · split
        · simp [cu]
          exact z
        · simp [cu]
          exact ⟨z.1, z.2.1, hc2, z.2.2.2.1, fun _ => ha⟩
    · unfold cz_tk cz_tk0
      split
      · simpa [cu, q] using z
      · split
        · simpa [cu, q] using z
        · simpa [cu, q] using z
  · intro x b2 hx hb2
    have := h5 x b2 (by simpa [o] using hx) hb2
    simpa [o] using this
  · simpa [o] using h6
  · rw [o 8 0 0 (by decide)]
    omega
  · intro l hl hl2
    rw [o 8 0 0 (by decide)] at hl
    have z := h9 l hl (by omega)
    unfold LI at z ⊢
    simpa [o] using z
  · intro l l' hl hl' g g'
    rw [o 8 0 0 (by decide)] at hl'
    have z := h10 l l' hl hl' (by omega) (by omega)
    simpa [o] using z
