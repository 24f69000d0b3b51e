-- ===== ask: all is forgotten =====
def cz_f0 (σ : ca_S) (i : Nat) : Nat → ca_S
  | 0 => ca_st (ca_st σ (2, i, 0) 2 0) (2, i, 0) 5 0
  | j + 1 => ca_st (ca_st (ca_st (cz_f0 σ i j) (6, i, j) 0 0) (6, i, j) 1 0) (6, i, j) 2 0
def cz_f1 (σ : ca_S) (i : Nat) : ca_S := ca_st (ca_st (ca_st (ca_st (ca_st (ca_st (ca_st (ca_st σ (2, i, 0) 2 0) (2, i, 0) 5 0) (6, i, 0) 0 0) (6, i, 0) 1 0) (6, i, 0) 2 0) (6, i, 1) 0 0) (6, i, 1) 1 0) (6, i, 1) 2 0
theorem cz_f1_of (σ : ca_S) (i : Nat) : cf_X0_forget σ i = some (cz_f1 σ i) := by
  obtain ⟨s', h2, h3⟩ := cz_loop (fun f (s : ca_S) y => cl_X0_forget_12 i (fun σ7 => (some σ7)) f s y) 2 0 (fun j s => s = cz_f0 σ i j) (fun s => some s) (Nat.zero_le _) (by omega) (fun j s _ hj hs => by
    refine ⟨cz_f0 σ i (j + 1), fun f => ?_, rfl⟩
    show cl_X0_forget_12 i _ (f + 1) s (nI j) = _
    rw [cl_X0_forget_12, if_neg (show ¬ (2 : Int32) ≤ nI j from nI_ge (b := 2) hj (by omega)), cz_in hj (by decide), nI_clamp (by omega), hs, nI_1]
    rfl) (fun f s hs => by
    show cl_X0_forget_12 i _ (f + 1) s (nI 2) = _
    rw [cl_X0_forget_12, if_pos (show (2 : Int32) ≤ nI 2 from Int32.le_refl _)]) (cz_f0 σ i 0) rfl
  unfold cf_X0_forget
  simp only [cz_lt]
  exact h2.trans (by rw [h3]; rfl)
def cz_fg (σ : ca_S) (n : Nat) : ca_S := (fun c k => if (c.1 = 2 ∧ c.2.1 < n ∧ c.2.2 = 0 ∧ (k = 2 ∨ k = 5)) ∨ (c.1 = 6 ∧ c.2.1 < n ∧ c.2.2 < 2 ∧ k < 3) then 0 else σ.1 c k, σ.2)
theorem cz_fg_0 (σ : ca_S) : cz_fg σ 0 = σ := by
  unfold cz_fg
  simp
theorem cz_fg_s (σ : ca_S) (n : Nat) : cz_f1 (cz_fg σ n) n = cz_fg σ (n + 1) := by
  unfold cz_f1 cz_fg
  simp only [ca_st]
  congr 1
  funext c k
  obtain ⟨t, a, b⟩ := c
  simp only [Prod.mk.injEq]
  by_cases ha : a = n
  · subst ha
    by_cases t2 : t = 2
    · subst t2
      by_cases hb : b = 0
      · subst hb
        by_cases k2 : k = 2
        · subst k2
          simp
        · by_cases k5 : k = 5
          · subst k5
            simp
          · simp [k2, k5]
      · simp [hb]
    · by_cases t6 : t = 6
      · subst t6
        rcases (show b = 0 ∨ b = 1 ∨ 2 ≤ b by omega) with hb | hb | hb
        · subst hb
          rcases (show k = 0 ∨ k = 1 ∨ k = 2 ∨ 3 ≤ k by omega) with hk | hk | hk | hk
          · subst hk
            simp
          · subst hk
            simp
          · subst hk
            simp
          · have k0 : ¬ k = 0 := by omega
            have k1 : ¬ k = 1 := by omega
            have k2 : ¬ k = 2 := by omega
            have k3 : ¬ k < 3 := by omega
            simp [k0, k1, k2, k3]
        · subst hb
          rcases (show k = 0 ∨ k = 1 ∨ k = 2 ∨ 3 ≤ k by omega) with hk | hk | hk | hk
          · subst hk
            simp
          · subst hk
            simp
          · subst hk
            simp
          · have k0 : ¬ k = 0 := by omega
            have k1 : ¬ k = 1 := by omega
            have k2 : ¬ k = 2 := by omega
            have k3 : ¬ k < 3 := by omega
            simp [k0, k1, k2, k3]
        · have b0 : ¬ b = 0 := by omega
          have b1 : ¬ b = 1 := by omega
          have b2 : ¬ b < 2 := by omega
          simp [b0, b1, b2]
      · simp [t2, t6]
  · have e : (a < n + 1) = (a < n) := propext ⟨fun h => by omega, fun h => by omega⟩
    simp [ha, e]
theorem fg_C {α : ca_A} {σ σ1 : ca_S} (h1 : σ1.1 (0, 0, 0) 1 = nI (α 0 0 0)) (hn : α 0 0 0 ≤ 16) (K : ca_S → Option (Int32 × ca_S)) : cl_X9_ask_50 K ca_FU σ1 0 = K (cz_fg σ1 (α 0 0 0)) := by
  obtain ⟨s', h2, h3⟩ := cz_loop (fun f (s : ca_S) y => cl_X9_ask_50 K f s y) (α 0 0 0) 0 (fun i s => s = cz_fg σ1 i) K (Nat.zero_le _) (by omega) (fun i s _ hi hs => by
    refine ⟨cz_fg σ1 (i + 1), fun f => ?_, rfl⟩
    show cl_X9_ask_50 K (f + 1) s (nI i) = _
    have e : s.1 (0, 0, 0) 1 = nI (α 0 0 0) := by
      rw [hs]
      simp [cz_fg, h1]
    rw [cl_X9_ask_50, e, if_neg (nI_ge hi (by omega)), cz_in (by omega) (by decide), nI_clamp (by omega), cz_f1_of, hs, cz_fg_s, nI_1]
    rfl) (fun f s hs => by
    show cl_X9_ask_50 K (f + 1) s (nI (α 0 0 0)) = _
    have e : s.1 (0, 0, 0) 1 = nI (α 0 0 0) := by
      rw [hs]
      simp [cz_fg, h1]
    rw [cl_X9_ask_50, e, if_pos (Int32.le_refl _)]) σ1 (cz_fg_0 σ1).symm
  exact h2.trans (by rw [h3])
def cz_g1 (τ : ca_S) (n : Nat) : ca_S := (fun c k => if c = (21, 12, 0) ∧ k < n then 0 else if c = (21, 15, 0) ∧ k < n then 1 else τ.1 c k, τ.2)
def cz_g2 (τ : ca_S) (n : Nat) : ca_S := (fun c k => if (c = (21, 5, 0) ∨ c = (21, 17, 0) ∨ c = (21, 18, 0) ∨ c = (21, 19, 0)) ∧ k < n then 0 else τ.1 c k, τ.2)
theorem fg_M1 (τ : ca_S) (K : ca_S → Option (Int32 × ca_S)) : cl_X10_ask_77 K ca_FU τ 0 = K (cz_g1 τ 16) := by
  obtain ⟨s', h2, h3⟩ := cz_loop (fun f (s : ca_S) y => cl_X10_ask_77 K f s y) 16 0 (fun i s => s = cz_g1 τ i) K (Nat.zero_le _) (by omega) (fun i s _ hi hs => by
    refine ⟨cz_g1 τ (i + 1), fun f => ?_, rfl⟩
    show cl_X10_ask_77 K (f + 1) s (nI i) = _
    rw [cl_X10_ask_77, if_neg (show ¬ (16 : Int32) ≤ nI i from nI_ge (b := 16) hi (by omega)), cz_in hi (by decide), nI_clamp (by omega), hs, nI_1]
    simp only [cz_br, cz_bi, cz_bv, cz_gd, cz_lt]
    congr 1
    unfold cz_g1
    simp only [ca_st]
    congr 1
    funext c k
    by_cases q : k = i
    · subst q
      by_cases c1 : c = (21, 12, 0)
      · subst c1
        simp
      · by_cases c2 : c = (21, 15, 0)
        · subst c2
          simp
        · simp [c1, c2]
    · have e : (k < i + 1) = (k < i) := propext ⟨fun h => by omega, fun h => by omega⟩
      simp [q, e]) (fun f s hs => by
    show cl_X10_ask_77 K (f + 1) s (nI 16) = _
    rw [cl_X10_ask_77, if_pos (show (16 : Int32) ≤ nI 16 from Int32.le_refl _)]) τ (by simp [cz_g1])
  exact h2.trans (by rw [h3])
theorem fg_M2 (τ : ca_S) (K : ca_S → Option (Int32 × ca_S)) : cl_X10_ask_109 K ca_FU τ 0 = K (cz_g2 τ 32) := by
  obtain ⟨s', h2, h3⟩ := cz_loop (fun f (s : ca_S) y => cl_X10_ask_109 K f s y) 32 0 (fun i s => s = cz_g2 τ i) K (Nat.zero_le _) (by omega) (fun i s _ hi hs => by
    refine ⟨cz_g2 τ (i + 1), fun f => ?_, rfl⟩
    show cl_X10_ask_109 K (f + 1) s (nI i) = _
    rw [cl_X10_ask_109, if_neg (show ¬ (32 : Int32) ≤ nI i from nI_ge (b := 32) hi (by omega)), cz_in hi (by decide), nI_clamp (by omega), hs, nI_1]
    simp only [cz_br, cz_bi, cz_bv, cz_gd, cz_lt]
    congr 1
    unfold cz_g2
    simp only [ca_st]
    congr 1
    funext c k
    by_cases q : k = i
    · subst q
      by_cases c1 : c = (21, 5, 0)
      · subst c1
        simp
      · by_cases c2 : c = (21, 17, 0)
        · subst c2
          simp
        · by_cases c3 : c = (21, 18, 0)
          · subst c3
            simp
          · by_cases c4 : c = (21, 19, 0)
            · subst c4
              simp
            · simp [c1, c2, c3, c4]
    · have e : (k < i + 1) = (k < i) := propext ⟨fun h => by omega, fun h => by omega⟩
      simp [q, e]) (fun f s hs => by
    show cl_X10_ask_109 K (f + 1) s (nI 32) = _
    rw [cl_X10_ask_109, if_pos (show (32 : Int32) ≤ nI 32 from Int32.le_refl _)]) τ (by simp [cz_g2])
  exact h2.trans (by rw [h3])
