theorem cz_bdt {k : Nat} {α : ca_A} (q2 : CI2 k α) (q3 : CI3 α) (hk : k ≤ 512) {b j : Nat} (hb : b < 16) (hj : j < 2) : α 34 b j ≤ 512 ∧ α 35 b j ≤ 512 ∧ α 20 b 0 ≤ 512 := by
  have h1 := q3 b j hb hj
  have h2 := (q2 b hb).1
  omega
theorem gr_Ct {k : Nat} {α : ca_A} {σ : ca_S} (q2 : CI2 k α) (q3 : CI3 α) (hk : k ≤ 512) (hC : RC α σ) {b j : Nat} (hb : b < 16) (hj : j < 2) : cf_X2_greatestCount σ b j = some (nI (max (α 34 b j) (α 35 b j))) := by
  have h0 := hC.2.2.1 b j hb hj
  have d0 := cz_bdt q2 q3 hk hb hj
  unfold cf_X2_greatestCount
  rw [h0.2.2.2.2.1, h0.2.2.2.2.2]
  simp only [cz_ltn (show α 34 b j ≤ 200000 by omega) (show α 35 b j ≤ 200000 by omega)]
  by_cases g : α 34 b j < α 35 b j
  · rw [if_pos g, Nat.max_eq_right (by omega)]
  · rw [if_neg g, Nat.max_eq_left (by omega)]
theorem ak_Ct {k : Nat} {α : ca_A} {σ : ca_S} (q2 : CI2 k α) (q3 : CI3 α) (hk : k ≤ 512) (hC : RC α σ) {b : Nat} (hb : b < 16) : cf_X0_isAcknowledged σ b = some (if 0 < α 20 b 0 ∧ cz_gr α b = α 20 b 0 then 1 else 0) := by
  have d0 := cz_bdt q2 q3 hk hb (j := 0) (by decide)
  have d1 := cz_bdt q2 q3 hk hb (j := 1) (by decide)
  have t0 : Int32.toNatClampNeg 0 = 0 := rfl
  have t1 : Int32.toNatClampNeg 1 = 1 := rfl
  have u0 : ca_in 0 2 = true := rfl
  have u1 : ca_in 1 2 = true := rfl
  unfold cf_X0_isAcknowledged
  rw [(hC.2.1 b hb).1]
  simp only [t0, t1, u0, u1, cz_gd, gr_Ct q2 q3 hk hC hb (show 0 < 2 by decide), gr_Ct q2 q3 hk hC hb (show 1 < 2 by decide), cz_br]
  simp only [cz_le0 (show α 20 b 0 ≤ 100000 by omega), cz_ltn (show max (α 34 b 0) (α 35 b 0) ≤ 200000 by omega) (show max (α 34 b 1) (α 35 b 1) ≤ 200000 by omega)]
  by_cases g : α 20 b 0 = 0
  · rw [if_pos g, if_neg (by omega)]
  · rw [if_neg g]
    have e : (if max (α 34 b 0) (α 35 b 0) < max (α 34 b 1) (α 35 b 1) then nI (max (α 34 b 1) (α 35 b 1)) else nI (max (α 34 b 0) (α 35 b 0))) = nI (cz_gr α b) := by
      unfold cz_gr
      by_cases q : max (α 34 b 0) (α 35 b 0) < max (α 34 b 1) (α 35 b 1)
      · rw [if_pos q, Nat.max_eq_right (Nat.le_of_lt q)]
      · rw [if_neg q, Nat.max_eq_left (Nat.not_lt.mp q)]
    rw [e]
    have bg : cz_gr α b ≤ 200000 := by
      unfold cz_gr
      omega
    simp only [cz_eqn bg (show α 20 b 0 ≤ 200000 by omega)]
    by_cases q : cz_gr α b = α 20 b 0
    · rw [if_pos q, if_pos ⟨by omega, q⟩]
    · rw [if_neg q, if_neg (fun h => q h.2)]
theorem cz_L {hi : Nat} {α : ca_A} (h4 : CI4 hi (α 1 0 0) α) (hh : hi ≤ 32 * α 1 0 0 + 31) : α 8 0 0 < 320 := by
  by_cases z : α 8 0 0 = 0
  · omega
  have inc : ∀ l, l < α 8 0 0 → α 46 0 0 + l ≤ α 46 l 0 := by
    intro l
    induction l with
    | zero => intro _; omega
    | succ l ih =>
      intro hl
      have a := ih (by omega)
      have b := h4.2.2 l (l + 1) (by omega) hl
      omega
  have a := inc (α 8 0 0 - 1) (by omega)
  have b := (h4.2.1 (α 8 0 0 - 1) (by omega)).2.2.2.2.2.2.2.2
  have c := (h4.2.1 0 (by omega)).2.2.2.2.2.2
  omega
theorem cz_try_o {α : ca_A} {b j f x y : Nat} (h : f ≠ 12 ∧ f ≠ 31 ∧ f ≠ 36 ∧ f ≠ 8 ∧ (f < 40 ∨ 46 < f)) : cz_try α b j f x y = α f x y := by
  have n40 : f ≠ 40 := by omega
  have n41 : f ≠ 41 := by omega
  have n42 : f ≠ 42 := by omega
  have n43 : f ≠ 43 := by omega
  have n44 : f ≠ 44 := by omega
  have n45 : f ≠ 45 := by omega
  have n46 : f ≠ 46 := by omega
  unfold cz_try
  split
  · simp [cz_t1, cu, h]
  · simp [cz_t2, cz_t1, cu, h, n40, n41, n42, n43, n44, n45, n46]
theorem cz_try_36 {α : ca_A} {b j x y : Nat} : cz_try α b j 36 x y = if x = b ∧ y = j then α 36 b j + 1 else α 36 x y := by
  unfold cz_try
  split
  · simp [cz_t1, cu]
  · simp [cz_t2, cz_t1, cu]
theorem cz_try_31 {α : ca_A} {b j x y : Nat} : cz_try α b j 31 x y = if x = b ∧ y = j then (α 31 b j + 1) % 16 else α 31 x y := by
  unfold cz_try
  split
  · simp [cz_t1, cu]
  · simp [cz_t2, cz_t1, cu]
theorem TI_try {k hi : Nat} {α : ca_A} (h : TI k hi α) {b j : Nat} (hb : b < α 0 0 0) (hb2 : b < 16) (hj : j < 2) (hh : hi ≤ 32 * α 1 0 0 + 2 * b + j) (h4 : α 4 0 0 = 1) (hc : 0 < α 20 b 0) : TI k (32 * α 1 0 0 + 2 * b + j + 1) (cz_try α b j) := by
  have o : ∀ f x y, (f ≠ 12 ∧ f ≠ 31 ∧ f ≠ 36 ∧ f ≠ 8 ∧ (f < 40 ∨ 46 < f)) → cz_try α b j f x y = α f x y := fun f x y => cz_try_o
  refine ⟨?_, ?_, ?_, ?_, ?_⟩
  · have := h.1
    unfold CI1 at this ⊢
    simpa [o] using this
  · intro b2 hb3
    have := h.2.1 b2 hb3
    simpa [o, cz_gr] using this
  · intro b2 j2 hb3 hj3
    have := h.2.2.1 b2 j2 hb3 hj3
    simp [o, cz_try_31] at this ⊢
    refine ⟨?_, this.2⟩
    split
    · omega
    · exact this.1
  · have h0 := h.2.2.2.1
    have hd := h.2.2.1 b j hb2 hj
    have hq := h.2.1 b hb2
    refine ⟨?_, ?_, ?_⟩
    · intro z
      rw [o 4 0 0 (by decide)] at z
      omega
    · intro l hl
      have hl0 := h0.2.1 l
      unfold cz_try at hl ⊢
      by_cases g : cz_lost α b j
      · rw [if_pos g] at hl
        simp only [if_pos g]
        simp [cz_t1, cu] at hl ⊢
        have q := hl0 hl
        exact ⟨q.1, q.2.1, q.2.2.1, q.2.2.2.1, q.2.2.2.2.1, q.2.2.2.2.2.1, q.2.2.2.2.2.2.1, q.2.2.2.2.2.2.2.1, by omega⟩
      · rw [if_neg g] at hl
        simp only [if_neg g]
        simp [cz_t2, cz_t1, cu] at hl ⊢
        by_cases z : l = α 8 0 0
        · subst z
          simp
          refine ⟨hb, hj, hc, hq.2.2.2.2.1 hc, hq.2.1, ?_⟩
          omega
        · have q := hl0 (by omega)
          simp [z]
          exact ⟨q.1, q.2.1, q.2.2.1, q.2.2.2.1, q.2.2.2.2.1, q.2.2.2.2.2.1, q.2.2.2.2.2.2.1, q.2.2.2.2.2.2.2.1, by omega⟩
    · intro l l' h1 h2
      have hl0 := h0.2.2 l l' h1
      have hl1 := h0.2.1 l
      unfold cz_try at h2 ⊢
      by_cases g : cz_lost α b j
      · rw [if_pos g] at h2
        simp only [if_pos g]
        simp [cz_t1, cu] at h2 ⊢
        exact hl0 h2
      · rw [if_neg g] at h2
        simp only [if_neg g]
        simp [cz_t2, cz_t1, cu] at h2 ⊢
        by_cases z : l' = α 8 0 0
        · have z2 : ¬ l = α 8 0 0 := by omega
          have := (hl1 (by omega)).2.2.2.2.2.2.2.2
          simp [z, z2]
          omega
        · have z2 : ¬ l = α 8 0 0 := by omega
          simp [z, z2]
          exact hl0 (by omega)
  · intro i b2 hi hb3
    rw [o 9 0 0 (by decide)] at hi
    rw [o 50 i b2 (by decide)]
    exact h.2.2.2.2 i b2 hi hb3
