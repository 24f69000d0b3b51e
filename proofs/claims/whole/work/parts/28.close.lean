-- ===== close =====
/-- a box's line in the book: 0 no answer, 1 not right, 2 right -/
def cz_vd (α : ca_A) (r b : Nat) : Nat := if b < α 0 0 0 then (match cz_ao α b with
  | none => 0
  | some a => if a = r then 2 else 1) else 0
def cz_en (σ : ca_S) (Q : Nat) (v : Nat → Nat) (n : Nat) : ca_S := (fun c k => if c = (12, Q, 0) ∧ k < n then cz_enc (v k) else if c.1 = 2 ∧ c.2.1 < n ∧ c.2.2 = 0 ∧ k = 6 ∧ v c.2.1 = 2 then σ.1 c k + 1 else σ.1 c k, σ.2)
theorem cz_en_s (σ : ca_S) (Q : Nat) (v : Nat → Nat) (n : Nat) (h : v n = 2) : ca_st (ca_st (cz_en σ Q v n) (12, Q, 0) n (cz_enc (v n))) (2, n, 0) 6 ((ca_st (cz_en σ Q v n) (12, Q, 0) n (cz_enc (v n))).1 (2, n, 0) 6 + 1) = cz_en σ Q v (n + 1) := by
  unfold cz_en
  simp only [ca_st]
  congr 1
  funext c k
  obtain ⟨t, a, b⟩ := c
  simp only [Prod.mk.injEq]
  by_cases t2 : t = 2
  · subst t2
    by_cases ha : a = n
    · subst ha
      by_cases hb : b = 0
      · subst hb
        by_cases k6 : k = 6
        · subst k6
          simp [h]
        · simp [k6]
      · simp [hb]
    · have e : (a < n + 1) = (a < n) := propext ⟨fun h => by omega, fun h => by omega⟩
      simp [ha, e]
  · by_cases t12 : t = 12
    · subst t12
      by_cases hk : k = n
      · subst hk
        by_cases q : a = Q ∧ b = 0
        · obtain ⟨rfl, rfl⟩ := q
          simp
        · have q1 : ¬ (a = Q ∧ b = 0 ∧ k = k) := fun h => q ⟨h.1, h.2.1⟩
          have q2 : a = Q → ¬ b = 0 := fun h1 h2 => q ⟨h1, h2⟩
          simp [q]
      · have e : (k < n + 1) = (k < n) := propext ⟨fun h => by omega, fun h => by omega⟩
        simp [hk, e]
    · simp [t2, t12]
theorem cz_en_n (σ : ca_S) (Q : Nat) (v : Nat → Nat) (n : Nat) (h : ¬ v n = 2) : ca_st (cz_en σ Q v n) (12, Q, 0) n (cz_enc (v n)) = cz_en σ Q v (n + 1) := by
  unfold cz_en
  simp only [ca_st]
  congr 1
  funext c k
  obtain ⟨t, a, b⟩ := c
  simp only [Prod.mk.injEq]
  by_cases t2 : t = 2
  · subst t2
    by_cases ha : a = n
    · subst ha
      simp [h]
    · have e : (a < n + 1) = (a < n) := propext ⟨fun h => by omega, fun h => by omega⟩
      simp [e]
  · by_cases t12 : t = 12
    · subst t12
      by_cases hk : k = n
      · subst hk
        by_cases q : a = Q ∧ b = 0
        · obtain ⟨rfl, rfl⟩ := q
          simp
        · simp [q]
      · have e : (k < n + 1) = (k < n) := propext ⟨fun h => by omega, fun h => by omega⟩
        simp [hk, e]
    · simp [t2, t12]
theorem cz_en_an (σ : ca_S) (Q : Nat) (v : Nat → Nat) (n b : Nat) : cf_X0_countedAnswer (cz_en σ Q v n) b = cf_X0_countedAnswer σ b := by
  simp [cf_X0_countedAnswer, cj_X0_countedAnswer_36, cz_en]
theorem cl_C {k : Nat} {α : ca_A} {σ0 σ : ca_S} (hI : CI k α) (hk : k ≤ 512) (hC : RC α σ0) (hcells : ∀ b, cf_X0_countedAnswer σ b = cf_X0_countedAnswer σ0 b) {r : Nat} (hr : r ≤ 100000) {Q : Nat} (K : ca_S → Int32 → Option (Int32 × ca_S)) : cl_X3_enter_27 (nI (α 0 0 0)) (nI r) Q K ca_FU σ 0 0 = K (cz_en σ Q (cz_vd α r) 16) (nI (cz_ct (fun b => cz_vd α r b == 2) 16)) := by
  have i1 := hI.1.1
  obtain ⟨s', h2, h3⟩ := cz_loop (fun f (s : ca_S × Int32) y => cl_X3_enter_27 (nI (α 0 0 0)) (nI r) Q K f s.1 s.2 y) 16 0 (fun i s => s = (cz_en σ Q (cz_vd α r) i, nI (cz_ct (fun b => cz_vd α r b == 2) i))) (fun s => K s.1 s.2) (Nat.zero_le _) (by omega) (fun i s _ hi hs => by
    refine ⟨(cz_en σ Q (cz_vd α r) (i + 1), nI (cz_ct (fun b => cz_vd α r b == 2) (i + 1))), fun f => ?_, rfl⟩
    show cl_X3_enter_27 (nI (α 0 0 0)) (nI r) Q K (f + 1) s.1 s.2 (nI i) = _
    have hj : ∀ x : Int32, x = cz_enc (cz_vd α r i) → cj_X3_enter_59 (cl_X3_enter_27 (nI (α 0 0 0)) (nI r) Q K f) K s.1 (nI (α 0 0 0)) (nI r) Q s.2 (nI i) x (nI i) Q = cl_X3_enter_27 (nI (α 0 0 0)) (nI r) Q K f (cz_en σ Q (cz_vd α r) (i + 1)) (nI (cz_ct (fun b => cz_vd α r b == 2) (i + 1))) (nI (i + 1)) := by
      intro x hx
      unfold cj_X3_enter_59
      have e12 : (ca_st (cz_en σ Q (cz_vd α r) i) (12, Q, 0) i (cz_enc (cz_vd α r i))).1 (12, Q, 0) i = cz_enc (cz_vd α r i) := by simp [ca_st]
      rw [hs, hx, cz_in hi (by decide), nI_clamp (by omega)]
      simp only [cz_br, cz_bi, cz_bv, cz_gd, cz_lt, e12, cz_enc1, nI_1]
      by_cases g : cz_vd α r i = 2
      · simp only [if_pos g]
        rw [cz_en_s σ Q (cz_vd α r) i g]
        simp [cz_ct, g, nI_succ]
      · simp only [if_neg g]
        rw [cz_en_n σ Q (cz_vd α r) i g]
        simp [cz_ct, g]
    rw [cl_X3_enter_27, if_neg (show ¬ (16 : Int32) ≤ nI i from nI_ge (b := 16) hi (by omega))]
    by_cases g : α 0 0 0 ≤ i
    · rw [if_pos (show nI (α 0 0 0) ≤ nI i from nI_le g (by omega))]
      exact hj _ (by simp [cz_vd, show ¬ i < α 0 0 0 by omega, cz_enc])
    · have ea : cf_X0_countedAnswer s.1 i = some (cz_eo (cz_ao α i)) := by
        rw [hs]
        show cf_X0_countedAnswer (cz_en σ Q (cz_vd α r) i) i = _
        rw [cz_en_an, hcells, an_C hI hk hC hi]
      rw [if_neg (show ¬ nI (α 0 0 0) ≤ nI i from nI_ge (by omega) (by omega)), cz_in hi (by decide), nI_clamp (by omega), ea]
      simp only [cz_br, cz_bi, cz_bv, cz_gd, cz_lt]
      unfold cf_X3_judge
      simp only [cz_eo_m4 (cz_aob hI hi), cz_eo_eq hr (cz_aob hI hi)]
      cases ho : cz_ao α i with
      | none =>
        simp only [if_true, cz_br]
        exact hj _ (by simp [cz_vd, show i < α 0 0 0 by omega, ho, cz_enc])
      | some a =>
        by_cases g2 : a = r
        · simp [g2]
          simp only [cz_br]
          exact hj _ (by simp [cz_vd, show i < α 0 0 0 by omega, ho, g2, cz_enc])
        · simp [g2]
          simp only [cz_br]
          exact hj _ (by simp [cz_vd, show i < α 0 0 0 by omega, ho, g2, cz_enc])) (fun f s hs => by
    show cl_X3_enter_27 (nI (α 0 0 0)) (nI r) Q K (f + 1) s.1 s.2 (nI 16) = _
    rw [cl_X3_enter_27, if_pos (show (16 : Int32) ≤ nI 16 from Int32.le_refl _)]) (σ, nI 0) (by simp [cz_en, cz_ct])
  exact h2.trans (by rw [h3])
def cz_ke (τ : ca_S) (Q : Nat) (v : Nat → Nat) (n : Nat) : ca_S := (fun c k => if c = (21, 28, 0) ∧ 16 * Q ≤ k ∧ k < 16 * Q + n then cz_enc (v (k - 16 * Q)) else τ.1 c k, τ.2)
theorem cz_ke_s (τ : ca_S) (Q : Nat) (v : Nat → Nat) (n : Nat) : ca_st (cz_ke τ Q v n) (21, 28, 0) (16 * Q + n) (cz_enc (v n)) = cz_ke τ Q v (n + 1) := by
  unfold cz_ke
  simp only [ca_st]
  congr 1
  funext c k
  by_cases hc : c = (21, 28, 0)
  · subst hc
    by_cases hk : k = 16 * Q + n
    · subst hk
      simp
    · have e : (16 * Q ≤ k ∧ k < 16 * Q + (n + 1)) = (16 * Q ≤ k ∧ k < 16 * Q + n) := propext ⟨fun h => ⟨h.1, by omega⟩, fun h => ⟨h.1, by omega⟩⟩
      simp [hk, e]
  · simp [hc]
theorem cz_ke_an (τ : ca_S) (Q : Nat) (v : Nat → Nat) (n : Nat) (x : Int32) : cf_X10_answerOf (cz_ke τ Q v n) x = cf_X10_answerOf τ x := by
  simp [cf_X10_answerOf, cj_X10_answerOf_28, cz_ke]
theorem cl_M {k : Nat} {α : ca_A} {τ : ca_S} (hI : CI k α) (hk : k ≤ 512) (hM : RM α τ) {r : Nat} (hr : r ≤ 100000) (hQ : α 9 0 0 < 20) (K : ca_S → Int32 → Option (Int32 × ca_S)) : cl_X10_close_50 (nI r) K ca_FU τ 0 0 = K (cz_ke τ (α 9 0 0) (cz_vd α r) 16) (nI (cz_ct (fun b => cz_vd α r b == 2) 16)) := by
  have i1 := hI.1.1
  have m1 : τ.1 (20, 0, 0) 0 = nI (α 0 0 0) := hM.1.1
  have m11 : τ.1 (20, 0, 0) 27 = nI (α 9 0 0) := hM.1.2.2.2.2.2.2.2.2.2.2.1
  obtain ⟨s', h2, h3⟩ := cz_loop (fun f (s : ca_S × Int32) y => cl_X10_close_50 (nI r) K f s.1 s.2 y) 16 0 (fun i s => s = (cz_ke τ (α 9 0 0) (cz_vd α r) i, nI (cz_ct (fun b => cz_vd α r b == 2) i))) (fun s => K s.1 s.2) (Nat.zero_le _) (by omega) (fun i s _ hi hs => by
    refine ⟨(cz_ke τ (α 9 0 0) (cz_vd α r) (i + 1), nI (cz_ct (fun b => cz_vd α r b == 2) (i + 1))), fun f => ?_, rfl⟩
    show cl_X10_close_50 (nI r) K (f + 1) s.1 s.2 (nI i) = _
    have e1 : s.1.1 (20, 0, 0) 0 = nI (α 0 0 0) := by rw [hs]; simp [cz_ke, m1]
    have e2 : s.1.1 (20, 0, 0) 27 = nI (α 9 0 0) := by rw [hs]; simp [cz_ke, m11]
    have e3 : 16 * nI (α 9 0 0) + nI i = nI (16 * α 9 0 0 + i) := by
      rw [show (16 : Int32) = nI 16 from rfl, pk_mul, nI_add]
    have hz : ∀ o : Option Nat, (∀ a, o = some a → a ≤ 100000) → cz_vd α r i = (match o with | none => 0 | some a => if a = r then 2 else 1) → cj_X10_close_74 (cl_X10_close_50 (nI r) K f) K s.1 (nI r) s.2 (nI i) (cz_eo o) = cl_X10_close_50 (nI r) K f (cz_ke τ (α 9 0 0) (cz_vd α r) (i + 1)) (nI (cz_ct (fun b => cz_vd α r b == 2) (i + 1))) (nI (i + 1)) := by
      intro o ho hv
      have hj : ∀ x : Int32, x = cz_enc (cz_vd α r i) → cj_X10_close_109 (cl_X10_close_50 (nI r) K f) K s.1 (nI r) s.2 (nI i) (cz_eo o) x (nI (16 * α 9 0 0 + i)) = cl_X10_close_50 (nI r) K f (cz_ke τ (α 9 0 0) (cz_vd α r) (i + 1)) (nI (cz_ct (fun b => cz_vd α r b == 2) (i + 1))) (nI (i + 1)) := by
        intro x hx
        unfold cj_X10_close_109
        rw [hs, hx, cz_in (by omega) (by decide), nI_clamp (by omega)]
        simp only [cz_br, cz_bi, cz_bv, cz_gd, cz_lt, cz_ke_s, cz_eo_eq hr ho, nI_1]
        cases o with
        | none =>
          simp [cz_ct, hv]
        | some a =>
          by_cases g2 : a = r
          · subst g2
            simp at hv
            simp [cz_ct, hv, nI_succ]
          · simp [g2] at hv
            simp [cz_ct, hv, g2]
      unfold cj_X10_close_74
      rw [e2, e3]
      have hneg : (0 ≤ cz_eo o) = (o ≠ none) := by
        have := cz_eo_neg ho
        apply propext
        rw [← Int32.not_lt, this]
      simp only [hneg, cz_eo_eq hr ho]
      cases o with
      | none =>
        simp
        exact hj _ (by simp [hv, cz_enc])
      | some a =>
        by_cases g2 : a = r
        · simp [g2]
          subst g2
          simp at hv
          exact hj _ (by simp [hv, cz_enc])
        · simp [g2]
          simp [g2] at hv
          exact hj _ (by simp [hv, cz_enc])
    rw [cl_X10_close_50, if_neg (show ¬ (16 : Int32) ≤ nI i from nI_ge (b := 16) hi (by omega)), e1]
    by_cases g : α 0 0 0 ≤ i
    · rw [if_pos (show nI (α 0 0 0) ≤ nI i from nI_le g (by omega))]
      exact hz none (fun a h => by cases h) (by simp [cz_vd, show ¬ i < α 0 0 0 by omega])
    · have ea : cf_X10_answerOf s.1 (nI i) = some (cz_eo (cz_ao α i)) := by
        rw [hs]
        show cf_X10_answerOf (cz_ke τ (α 9 0 0) (cz_vd α r) i) (nI i) = _
        rw [cz_ke_an, an_M hI hk hM hi]
      rw [if_neg (show ¬ nI (α 0 0 0) ≤ nI i from nI_ge (by omega) (by omega)), ea]
      simp only [cz_br]
      exact hz _ (cz_aob hI hi) (by simp [cz_vd, show i < α 0 0 0 by omega])) (fun f s hs => by
    show cl_X10_close_50 (nI r) K (f + 1) s.1 s.2 (nI 16) = _
    rw [cl_X10_close_50, if_pos (show (16 : Int32) ≤ nI 16 from Int32.le_refl _)]) (τ, nI 0) (by
      have e : cz_ke τ (α 9 0 0) (cz_vd α r) 0 = τ := by
        unfold cz_ke
        apply Prod.ext
        · funext c k
          have : ¬ (16 * α 9 0 0 ≤ k ∧ k < 16 * α 9 0 0) := fun h => by omega
          simp [this]
        · rfl
      rw [e]
      rfl)
  exact h2.trans (by rw [h3])
