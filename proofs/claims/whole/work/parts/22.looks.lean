-- ===== answers: what a box's answer is =====
def cz_ao (α : ca_A) (b : Nat) : Option Nat := if α 34 b 0 < α 34 b 1 then some (α 33 b 1) else if α 34 b 0 = 0 then none else some (α 33 b 0)
def cz_eo (o : Option Nat) : Int32 := match o with
  | none => -4
  | some a => nI a
theorem cz_ao_ok {k : Nat} {α : ca_A} (hI : CI k α) {b a : Nat} (hb : b < 16) (h : cz_ao α b = some a) : cz_ok (α 5 0 0) (α 6 0 0) a := by
  unfold cz_ao at h
  by_cases g : α 34 b 0 < α 34 b 1
  · rw [if_pos g] at h
    cases h
    exact (hI.2.2.1 b 1 hb (by decide)).2.2.2.2 (by omega)
  · rw [if_neg g] at h
    by_cases g0 : α 34 b 0 = 0
    · rw [if_pos g0] at h
      cases h
    · rw [if_neg g0] at h
      cases h
      exact (hI.2.2.1 b 0 hb (by decide)).2.2.2.2 (by omega)
theorem cz_bd {k : Nat} {α : ca_A} (hI : CI k α) (hk : k ≤ 512) {b j : Nat} (hb : b < 16) (hj : j < 2) : α 34 b j ≤ 512 ∧ α 35 b j ≤ 512 ∧ α 20 b 0 ≤ 512 := by
  have h1 := hI.2.2.1 b j hb hj
  have h2 := (hI.2.1 b hb).1
  omega
theorem cz_le0 {n : Nat} (h : n ≤ 100000) : (nI n ≤ 0) = (n = 0) := by
  apply propext
  rw [show (0 : Int32) = nI 0 from rfl, nI_leI (by omega) (by decide)]
  omega
theorem cz_eq0 {n : Nat} (h : n ≤ 100000) : (nI n = 0) = (n = 0) := by
  apply propext
  rw [show (0 : Int32) = nI 0 from rfl, nI_eq (by omega) (by decide)]
theorem cz_ltn {a b : Nat} (ha : a ≤ 200000) (hb : b ≤ 200000) : (nI a < nI b) = (a < b) := propext (nI_ltI (by omega) (by omega))
theorem cz_len {a b : Nat} (ha : a ≤ 200000) (hb : b ≤ 200000) : (nI a ≤ nI b) = (a ≤ b) := propext (nI_leI (by omega) (by omega))
theorem cz_eqn {a b : Nat} (ha : a ≤ 200000) (hb : b ≤ 200000) : (nI a = nI b) = (a = b) := propext (nI_eq (by omega) (by omega))
theorem an_C {k : Nat} {α : ca_A} {σ : ca_S} (hI : CI k α) (hk : k ≤ 512) (hC : RC α σ) {b : Nat} (hb : b < 16) : cf_X0_countedAnswer σ b = some (cz_eo (cz_ao α b)) := by
  have h0 := hC.2.2.1 b 0 hb (by decide)
  have h1 := hC.2.2.1 b 1 hb (by decide)
  have d0 := cz_bd hI hk hb (j := 0) (by decide)
  have d1 := cz_bd hI hk hb (j := 1) (by decide)
  have t0 : Int32.toNatClampNeg 0 = 0 := rfl
  have t1 : Int32.toNatClampNeg 1 = 1 := rfl
  have u0 : ca_in 0 2 = true := rfl
  have u1 : ca_in 1 2 = true := rfl
  unfold cf_X0_countedAnswer cj_X0_countedAnswer_36
  simp only [t0, t1, u0, u1, cz_gd, h0.2.2.2.2.1, h1.2.2.2.2.1]
  simp only [cz_ltn (show α 34 b 0 ≤ 200000 by omega) (show α 34 b 1 ≤ 200000 by omega), cz_le0 (show α 34 b 0 ≤ 100000 by omega), cz_le0 (show α 34 b 1 ≤ 100000 by omega)]
  unfold cz_ao
  by_cases g : α 34 b 0 < α 34 b 1
  · rw [if_pos g, if_pos g, if_neg (by omega), h1.2.2.2.1 (by omega)]
    rfl
  · rw [if_neg g, if_neg g]
    by_cases g0 : α 34 b 0 = 0
    · rw [if_pos g0, if_pos g0]
      rfl
    · rw [if_neg g0, if_neg g0, h0.2.2.2.1 (by omega)]
      rfl
theorem an_M {k : Nat} {α : ca_A} {τ : ca_S} (hI : CI k α) (hk : k ≤ 512) (hM : RM α τ) {b : Nat} (hb : b < 16) : cf_X10_answerOf τ (nI b) = some (cz_eo (cz_ao α b)) := by
  have h0 := hM.2.2.1 b 0 hb (by decide)
  have h1 := hM.2.2.1 b 1 hb (by decide)
  have d0 := cz_bd hI hk hb (j := 0) (by decide)
  have d1 := cz_bd hI hk hb (j := 1) (by decide)
  have e0 : 2 * nI b = nI (2 * b + 0) := by rw [show (2 : Int32) = nI 2 from rfl, pk_mul]; rfl
  have e1 : 2 * nI b + 1 = nI (2 * b + 1) := by rw [e0, nI_1]
  unfold cf_X10_answerOf cj_X10_answerOf_28
  rw [e1, e0]
  simp only [cz_in (show 2 * b + 0 < 32 by omega) (by decide), cz_in (show 2 * b + 1 < 32 by omega) (by decide), nI_clamp (show 2 * b + 0 < 2 ^ 31 by omega), nI_clamp (show 2 * b + 1 < 2 ^ 31 by omega), cz_gd, h0.2.2.2.2.1, h1.2.2.2.2.1]
  simp only [cz_len (show α 34 b 1 ≤ 200000 by omega) (show α 34 b 0 ≤ 200000 by omega), cz_eq0 (show α 34 b 0 ≤ 100000 by omega), cz_eq0 (show α 34 b 1 ≤ 100000 by omega)]
  unfold cz_ao
  by_cases g : α 34 b 0 < α 34 b 1
  · rw [if_neg (by omega), if_pos g, if_neg (by omega), h1.2.2.2.1 (by omega)]
    rfl
  · rw [if_pos (by omega), if_neg g]
    by_cases g0 : α 34 b 0 = 0
    · rw [if_pos g0, if_pos g0]
      rfl
    · rw [if_neg g0, if_neg g0, h0.2.2.2.1 (by omega)]
      rfl
theorem gr_C {k : Nat} {α : ca_A} {σ : ca_S} (hI : CI k α) (hk : k ≤ 512) (hC : RC α σ) {b j : Nat} (hb : b < 16) (hj : j < 2) : cf_X2_greatestCount σ b j = some (nI (max (α 34 b j) (α 35 b j))) := by
  have h0 := hC.2.2.1 b j hb hj
  have d0 := cz_bd hI hk hb hj
  unfold cf_X2_greatestCount
  rw [h0.2.2.2.2.1, h0.2.2.2.2.2]
  simp only [cz_ltn (show α 34 b j ≤ 200000 by omega) (show α 35 b j ≤ 200000 by omega)]
  by_cases g : α 34 b j < α 35 b j
  · rw [if_pos g, Nat.max_eq_right (by omega)]
  · rw [if_neg g, Nat.max_eq_left (by omega)]
theorem ak_C {k : Nat} {α : ca_A} {σ : ca_S} (hI : CI k α) (hk : k ≤ 512) (hC : RC α σ) {b : Nat} (hb : b < 16) : cf_X0_isAcknowledged σ b = some (if 0 < α 20 b 0 ∧ cz_gr α b = α 20 b 0 then 1 else 0) := by
  have d0 := cz_bd hI hk hb (j := 0) (by decide)
  have d1 := cz_bd hI hk hb (j := 1) (by decide)
  have t0 : Int32.toNatClampNeg 0 = 0 := rfl
  have t1 : Int32.toNatClampNeg 1 = 1 := rfl
  have u0 : ca_in 0 2 = true := rfl
  have u1 : ca_in 1 2 = true := rfl
  unfold cf_X0_isAcknowledged
  rw [(hC.2.1 b hb).1]
  simp only [t0, t1, u0, u1, cz_gd, gr_C hI hk hC hb (show 0 < 2 by decide), gr_C hI hk hC hb (show 1 < 2 by decide), cz_br]
  simp only [cz_le0 (show α 20 b 0 ≤ 100000 by omega), cz_ltn (show max (α 34 b 0) (α 35 b 0) ≤ 200000 by omega) (show max (α 34 b 1) (α 35 b 1) ≤ 200000 by omega)]
  by_cases g : α 20 b 0 = 0
  · rw [if_pos g, if_neg (by omega)]
  · rw [if_neg g]
    have e : (if max (α 34 b 0) (α 35 b 0) < max (α 34 b 1) (α 35 b 1) then nI (max (α 34 b 1) (α 35 b 1)) else nI (max (α 34 b 0) (α 35 b 0))) = nI (cz_gr α b) := by
      unfold cz_gr
      by_cases q : max (α 34 b 0) (α 35 b 0) < max (α 34 b 1) (α 35 b 1)
      · rw [if_pos q, Nat.max_eq_right (Nat.le_of_lt q)]
      · rw [if_neg q, Nat.max_eq_left (Nat.not_lt.mp q)]
    rw [e]
    have bg : cz_gr α b ≤ 200000 := by
      unfold cz_gr
      omega
    simp only [cz_eqn bg (show α 20 b 0 ≤ 200000 by omega)]
    by_cases q : cz_gr α b = α 20 b 0
    · rw [if_pos q, if_pos ⟨by omega, q⟩]
    · rw [if_neg q, if_neg (fun h => q h.2)]
theorem st_base {k : Nat} {σ τ : ca_S} (hk0 : k < 512) (h : ca_R k σ τ) : ca_St_base ca_R k σ τ := by
  have hk := h.mono (Nat.le_succ k)
  obtain ⟨α, hI, hC, hM⟩ := h
  obtain ⟨i1, i2, i3, i4, i5, i6, i7, i8, i9, i10, i11⟩ := hI.1
  intro a1 a2 a3
  unfold cf_X9_base cf_X10_base cj_X10_base_97
  rcases cw_base a1 with ⟨g1, g2⟩ | ⟨j, hj, rfl, g1, g2⟩
  · rw [g1, g2]
    exact ⟨-1, rfl, rfl, hk⟩
  rcases cw_box hC hM i1 a2 with ⟨h1, h2⟩ | ⟨b, hb, hb2, rfl, h1, h2⟩
  · rw [g1, g2, h1, h2]
    exact ⟨-1, rfl, rfl, hk⟩
  rcases cw_C a3 0 3 0 3 rfl rfl (by decide) (by decide) with ⟨f1, f2, -⟩ | ⟨x, -, hx, rfl, f1, f2⟩
  · rw [g1, g2, h1, h2, f1, f2]
    exact ⟨-1, rfl, rfl, hk⟩
  have z : 2 * nI b + nI j = nI (2 * b + j) := by rw [show (2 : Int32) = nI 2 from rfl, pk_mul, nI_add]
  have d0 := cz_bd hI (Nat.le_of_lt hk0) hb2 hj
  have hc := hC.2.2.1 b j hb2 hj
  have hm := hM.2.2.1 b j hb2 hj
  have dm : max (α 34 b j) (α 35 b j) ≤ 100000 := by omega
  rw [g1, g2, h1, h2, f1, f2, z, nI_clamp (n := b) (by omega), nI_clamp (n := j) (by omega), nI_clamp (n := 2 * b + j) (by omega), gr_C hI (Nat.le_of_lt hk0) hC hb2 hj]
  simp only [cz_br, cz_bi, cz_bv, cz_gd, cz_lt, if_neg (show ¬ (1 : Int32) = 0 by decide), cz_in hb2 (show 16 < 2 ^ 31 by decide), cz_in hj (show 2 < 2 ^ 31 by decide), cz_in (show 2 * b + j < 32 by omega) (show 32 < 2 ^ 31 by decide), hc.2.2.2.2.1, hc.2.2.2.2.2, hm.2.2.2.2.1, hm.2.2.2.2.2.1, hm.2.2.2.2.2.2, cz_le0 (show α 34 b j ≤ 100000 by omega), cz_le0 (show α 35 b j ≤ 100000 by omega), cz_eq0 (show α 34 b j ≤ 100000 by omega), cz_eq0 (show α 35 b j ≤ 100000 by omega), cz_le0 dm, cz_eq0 dm]
  rcases (show x = 0 ∨ x = 1 ∨ x = 2 ∨ x = 3 by omega) with rfl | rfl | rfl | rfl
  · simp only [if_pos (show nI 0 = 0 from rfl), if_neg (show ¬ (2 : Int32) ≤ nI 0 by decide), if_pos (show nI 0 = 0 from rfl)]
    by_cases q : α 34 b j = 0
    · simp only [if_pos q, if_pos q]
      exact ⟨-4, rfl, rfl, hk⟩
    · simp only [if_neg q, hc.2.2.2.1 (show 0 < α 34 b j by omega), hm.2.2.2.1 (show 0 < α 34 b j by omega)]
      exact ⟨_, rfl, rfl, hk⟩
  · simp only [if_neg (show ¬ nI 1 = 0 by decide), if_pos (show nI 1 = 1 from rfl), if_neg (show ¬ (2 : Int32) ≤ nI 1 by decide), if_neg (show ¬ nI 1 = 0 by decide)]
    by_cases q : α 34 b j = 0
    · simp only [if_pos q, if_pos q]
      exact ⟨-4, rfl, rfl, hk⟩
    · simp only [if_neg q, if_neg q]
      exact ⟨_, rfl, rfl, hk⟩
  · simp only [if_neg (show ¬ nI 2 = 0 by decide), if_neg (show ¬ nI 2 = 1 by decide), if_pos (show nI 2 = 2 from rfl), if_pos (show (2 : Int32) ≤ nI 2 by decide), if_pos (show nI 2 = 2 from rfl)]
    by_cases q : α 35 b j = 0
    · simp only [if_pos q, if_pos q]
      exact ⟨-4, rfl, rfl, hk⟩
    · simp only [if_neg q, if_neg q]
      exact ⟨_, rfl, rfl, hk⟩
  · simp only [if_neg (show ¬ nI 3 = 0 by decide), if_neg (show ¬ nI 3 = 1 by decide), if_neg (show ¬ nI 3 = 2 by decide), if_pos (show (2 : Int32) ≤ nI 3 by decide), if_neg (show ¬ nI 3 = 2 by decide)]
    by_cases q : max (α 34 b j) (α 35 b j) = 0
    · simp only [if_pos q, if_pos q]
      exact ⟨-4, rfl, rfl, hk⟩
    · simp only [if_neg q, if_neg q]
      exact ⟨_, rfl, rfl, hk⟩
theorem st_about {k : Nat} {σ τ : ca_S} (hk0 : k < 512) (h : ca_R k σ τ) : ca_St_about ca_R k σ τ := by
  have hk := h.mono (Nat.le_succ k)
  obtain ⟨α, hI, hC, hM⟩ := h
  obtain ⟨i1, i2, i3, i4, i5, i6, i7, i8, i9, i10, i11⟩ := hI.1
  intro a1 a2
  unfold cf_X9_about cf_X10_about
  rcases cw_box hC hM i1 a1 with ⟨h1, h2⟩ | ⟨b, hb, hb2, rfl, h1, h2⟩
  · rw [h1, h2]
    exact ⟨-1, rfl, rfl, hk⟩
  rcases cw_C a2 0 3 0 3 rfl rfl (by decide) (by decide) with ⟨f1, f2, -⟩ | ⟨x, -, hx, rfl, f1, f2⟩
  · rw [h1, h2, f1, f2]
    exact ⟨-1, rfl, rfl, hk⟩
  have hkl := Nat.le_of_lt hk0
  have e0 : 2 * nI b = nI (2 * b) := by rw [show (2 : Int32) = nI 2 from rfl, pk_mul]
  have e1 : nI (2 * b) + 1 = nI (2 * b + 1) := nI_1 _
  have d0 := cz_bd hI hkl hb2 (j := 0) (by decide)
  have hc := hC.2.1 b hb2
  have hm := hM.2.1 b hb2
  have hi := hI.2.1 b hb2
  rw [h1, h2, f1, f2, e0, e1, nI_clamp (n := b) (by omega), nI_clamp (n := 2 * b) (by omega), nI_clamp (n := 2 * b + 1) (by omega), ak_C hI hkl hC hb2, an_C hI hkl hC hb2, an_M hI hkl hM hb2]
  simp only [cz_br, cz_bi, cz_bv, cz_gd, cz_lt, if_neg (show ¬ (1 : Int32) = 0 by decide), cz_in hb2 (show 16 < 2 ^ 31 by decide), cz_in (show 2 * b < 32 by omega) (show 32 < 2 ^ 31 by decide), cz_in (show 2 * b + 1 < 32 by omega) (show 32 < 2 ^ 31 by decide), hc.1, hc.2.2.2.1, hm.1, hm.2.2.2.1, hm.2.2.2.2.1, hm.2.2.2.2.2, cz_le0 (show α 20 b 0 ≤ 100000 by omega), cz_eq0 (show α 24 b 0 ≤ 100000 by omega)]
  rcases (show x = 0 ∨ x = 1 ∨ x = 2 ∨ x = 3 by omega) with rfl | rfl | rfl | rfl
  · simp only [if_pos (show nI 0 = 0 from rfl), if_pos (show nI 0 = 0 from rfl)]
    exact ⟨_, rfl, rfl, hk⟩
  · simp only [if_neg (show ¬ nI 1 = 0 by decide), if_pos (show nI 1 = 1 from rfl), if_neg (show ¬ nI 1 = 0 by decide), if_pos (show nI 1 = 1 from rfl)]
    refine ⟨nI (2 * α 23 b 0), ?_, ?_, hk⟩
    · rw [show (2 : Int32) = nI 2 from rfl, pk_mul, Nat.mul_comm]
    · rw [nI_add]
      congr 2
      omega
  · simp only [if_neg (show ¬ nI 2 = 0 by decide), if_neg (show ¬ nI 2 = 1 by decide), if_pos (show nI 2 = 2 from rfl), if_neg (show ¬ nI 2 = 0 by decide), if_neg (show ¬ nI 2 = 1 by decide), if_pos (show nI 2 = 2 from rfl)]
    by_cases q : α 20 b 0 = 0
    · simp only [if_pos q, if_neg (show ¬ (0 < α 20 b 0 ∧ cz_gr α b = α 20 b 0) from fun h => by omega)]
      exact ⟨0, rfl, rfl, hk⟩
    · simp only [if_neg q]
      have := hi.2.2.2.2.2.1 (by omega)
      by_cases q2 : cz_gr α b = α 20 b 0
      · simp only [if_pos (show 0 < α 20 b 0 ∧ cz_gr α b = α 20 b 0 from ⟨by omega, q2⟩), if_neg (show ¬ α 24 b 0 = 0 by have := this.mpr q2; omega)]
        exact ⟨1, rfl, rfl, hk⟩
      · simp only [if_neg (show ¬ (0 < α 20 b 0 ∧ cz_gr α b = α 20 b 0) from fun h => q2 h.2), if_pos (show α 24 b 0 = 0 by
          have a := hi.2.2.2.1
          rcases (show α 24 b 0 = 0 ∨ α 24 b 0 = 1 by omega) with z | z
          · exact z
          · exact absurd (this.mp z) q2)]
        exact ⟨0, rfl, rfl, hk⟩
  · simp only [if_neg (show ¬ nI 3 = 0 by decide), if_neg (show ¬ nI 3 = 1 by decide), if_neg (show ¬ nI 3 = 2 by decide), if_neg (show ¬ nI 3 = 0 by decide), if_neg (show ¬ nI 3 = 1 by decide), if_neg (show ¬ nI 3 = 2 by decide)]
    exact ⟨_, rfl, rfl, hk⟩
