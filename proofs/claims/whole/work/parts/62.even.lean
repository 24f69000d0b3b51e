-- ===== teams: the evenest set, found upwards by the class and downwards by the reference =====
def cz_vl (A k : Nat) : Bool := decide (cz_off (cz_pq 16 A) (2 * cz_pq 16 (cz_dp 16 A k)) ≤ 1)
def cz_dd (α : ca_A) (A k : Nat) : Nat := cz_ap α A (cz_dp 16 A k)
def cz_eC (α : ca_A) (A i : Nat) (x6 x7 : Int32) : Prop := (x7 = 2147483647 ∧ ∀ i', i' < i → cz_vl A (2 * i' + 1) = false) ∨ ∃ i0, i0 < i ∧ cz_vl A (2 * i0 + 1) = true ∧ x6 = nI (cz_dp 16 A (2 * i0 + 1)) ∧ x7 = nI (cz_dd α A (2 * i0 + 1)) ∧ (∀ i', i' < i → cz_vl A (2 * i' + 1) = true → cz_dd α A (2 * i0 + 1) ≤ cz_dd α A (2 * i' + 1)) ∧ (∀ i', i' < i0 → cz_vl A (2 * i' + 1) = true → cz_dd α A (2 * i0 + 1) < cz_dd α A (2 * i' + 1))
def cz_eM (α : ca_A) (A k : Nat) (x3 x4 : Int32) : Prop := (x4 = 9999 ∧ ∀ i', k < 2 * i' + 1 → 2 * i' + 1 < 2 ^ cz_pq 16 A → cz_vl A (2 * i' + 1) = false) ∨ ∃ i0, k < 2 * i0 + 1 ∧ 2 * i0 + 1 < 2 ^ cz_pq 16 A ∧ cz_vl A (2 * i0 + 1) = true ∧ x3 = nI (cz_dp 16 A (2 * i0 + 1)) ∧ x4 = nI (cz_dd α A (2 * i0 + 1)) ∧ (∀ i', k < 2 * i' + 1 → 2 * i' + 1 < 2 ^ cz_pq 16 A → cz_vl A (2 * i' + 1) = true → cz_dd α A (2 * i0 + 1) ≤ cz_dd α A (2 * i' + 1)) ∧ (∀ i', k < 2 * i' + 1 → i' < i0 → cz_vl A (2 * i' + 1) = true → cz_dd α A (2 * i0 + 1) < cz_dd α A (2 * i' + 1))
theorem cz_dp_le (n M k : Nat) : cz_dp n M k ≤ M := by
  have := cz_dp_sub n M k
  have h : cz_dp n M k &&& M ≤ M := Nat.and_le_right
  omega
theorem cz_pq_le (D : Nat) : cz_pq 16 D ≤ 16 := by
  rw [cz_pq_ct]
  exact cz_ct_le _ _
theorem cz_eC_no {α : ca_A} {A i : Nat} {x6 x7 : Int32} (h : cz_eC α A i x6 x7) (hv : cz_vl A (2 * i + 1) = false) : cz_eC α A (i + 1) x6 x7 := by
  rcases h with ⟨a, b⟩ | ⟨i0, a, b, c, d, e, f⟩
  · refine Or.inl ⟨a, fun i' hi => ?_⟩
    rcases Nat.lt_or_ge i' i with q | q
    · exact b i' q
    · rw [show i' = i by omega]
      exact hv
  · refine Or.inr ⟨i0, by omega, b, c, d, fun i' hi hv' => ?_, f⟩
    rcases Nat.lt_or_ge i' i with q | q
    · exact e i' q hv'
    · rw [show i' = i by omega, hv] at hv'
      cases hv'
theorem cz_eC_yes {α : ca_A} {A i : Nat} {x6 x7 : Int32} (h : cz_eC α A i x6 x7) (hd : ∀ k, cz_dd α A k ≤ 320) (hv : cz_vl A (2 * i + 1) = true) : (x7 ≤ nI (cz_dd α A (2 * i + 1)) → cz_eC α A (i + 1) x6 x7) ∧ (¬ x7 ≤ nI (cz_dd α A (2 * i + 1)) → cz_eC α A (i + 1) (nI (cz_dp 16 A (2 * i + 1))) (nI (cz_dd α A (2 * i + 1)))) := by
  have b0 := hd (2 * i + 1)
  rcases h with ⟨a, b⟩ | ⟨i0, a, b, c, d, e, f⟩
  · constructor
    · intro z
      rw [a] at z
      exact absurd z (nI_ge (b := 2147483647) (by omega) (by decide))
    · intro _
      refine Or.inr ⟨i, by omega, hv, rfl, rfl, fun i' hi hv' => ?_, fun i' hi hv' => ?_⟩
      · rcases Nat.lt_or_ge i' i with q | q
        · rw [b i' q] at hv'
          cases hv'
        · rw [show i' = i by omega]
          exact Nat.le_refl _
      · rw [b i' hi] at hv'
        cases hv'
  · have b1 := hd (2 * i0 + 1)
    rw [d, cz_len (by omega) (by omega)]
    constructor
    · intro z
      refine Or.inr ⟨i0, by omega, b, c, rfl, fun i' hi hv' => ?_, f⟩
      rcases Nat.lt_or_ge i' i with q | q
      · exact e i' q hv'
      · rw [show i' = i by omega]
        exact z
    · intro z
      refine Or.inr ⟨i, by omega, hv, rfl, rfl, fun i' hi hv' => ?_, fun i' hi hv' => ?_⟩
      · rcases Nat.lt_or_ge i' i with q | q
        · have := e i' q hv'
          omega
        · rw [show i' = i by omega]
          exact Nat.le_refl _
      · have := e i' hi hv'
        omega
theorem ev_C {α : ca_A} {σ : ca_S} (hC : RC α σ) (hQ : α 9 0 0 ≤ 20) (h16 : α 0 0 0 ≤ 16) {A : Nat} (hA : A < 65536) (h0 : 0 < A) (hs2 : 2 ≤ cz_pq 16 A) (hs : cz_pq 16 A ≤ 12) : ∃ x6 x7, cf_X9_evenestTeam σ (nI A) = some x6 ∧ cz_eC α A (2 ^ (cz_pq 16 A - 1)) x6 x7 := by
  have p : 2 ^ (cz_pq 16 A - 1) ≤ 2 ^ 11 := Nat.pow_le_pow_right (by decide) (by omega)
  have hA16 : A < 2 ^ 16 := hA
  have hR := cz_rs_lt 16 A hA16
  have e1 : nI A &&& -nI A = nI (cz_lb 16 A) := by
    rw [cz_neg (by omega), cz_and, cz_lb_neg 16 32 A hA16 (by decide)]
  have e2 : nI A ^^^ nI (cz_lb 16 A) = nI (cz_rs 16 A) := by
    rw [cz_xor, cz_lb_xor 16 A hA16]
  have e3 : (1 : Int32) <<< ((nI (cz_pq 16 A) - 1) &&& 31) = nI (2 ^ (cz_pq 16 A - 1)) := by
    rw [show (1 : Int32) = nI 1 from rfl, pk_sub (by omega)]
    exact cz_sh1 _ (by omega)
  have hd : ∀ k, cz_dd α A k ≤ 320 := fun k => cz_ap_le hQ h16 _ _
  unfold cf_X9_evenestTeam cf_J6_lowestOneBit_0f7a4
  rw [cz_br, e1, bc_C hA, cz_br, ← cz_pq_ct, e2, e3]
  obtain ⟨⟨x6, x7, x8⟩, h1, h2, h3⟩ := cz_loop (fun f (s : Int32 × Int32 × Int32) x => cl_X9_evenestTeam_37 σ (nI A) (nI (cz_lb 16 A)) (nI (cz_rs 16 A)) (nI (cz_pq 16 A)) (nI (2 ^ (cz_pq 16 A - 1))) (fun x19 => (some x19)) f s.1 s.2.1 s.2.2 x) (2 ^ (cz_pq 16 A - 1)) 0 (fun i s => s.2.2 = nI (cz_dp 16 (cz_rs 16 A) i) ∧ cz_eC α A i s.1 s.2.1) (fun s => some s.1) (Nat.zero_le _) (by omega) (fun i s _ hi hs => by
    obtain ⟨x6, x7, x8⟩ := s
    obtain ⟨r1, r2⟩ := hs
    simp only at r1 r2
    subst r1
    have t1 : nI (cz_lb 16 A) ||| nI (cz_dp 16 (cz_rs 16 A) i) = nI (cz_dp 16 A (2 * i + 1)) := by
      rw [cz_or, cz_dp_or, cz_dp_odd 16 A i hA16 h0]
    have t2 : (nI (cz_dp 16 (cz_rs 16 A) i) - nI (cz_rs 16 A)) &&& nI (cz_rs 16 A) = nI (cz_dp 16 (cz_rs 16 A) (i + 1)) := by
      rw [cz_wrap (by omega), cz_and, cz_dp_s 16 32 _ i hR (by decide)]
    have le := cz_dp_le 16 A (2 * i + 1)
    have b1 := cz_pq_le (cz_dp 16 A (2 * i + 1))
    have t3 : cf_J6_bitCount_0f7a4 (nI (cz_dp 16 A (2 * i + 1))) = some (nI (cz_pq 16 (cz_dp 16 A (2 * i + 1)))) := by
      rw [bc_C (by omega), ← cz_pq_ct]
    have t4 : 2 * nI (cz_pq 16 (cz_dp 16 A (2 * i + 1))) = nI (2 * cz_pq 16 (cz_dp 16 A (2 * i + 1))) := by
      rw [show (2 : Int32) = nI 2 from rfl, pk_mul]
    have bo : cz_off (cz_pq 16 A) (2 * cz_pq 16 (cz_dp 16 A (2 * i + 1))) ≤ 100000 := cz_off_b (by omega) (by omega)
    have t5 : ((1 : Int32) < nI (cz_off (cz_pq 16 A) (2 * cz_pq 16 (cz_dp 16 A (2 * i + 1))))) = (1 < cz_off (cz_pq 16 A) (2 * cz_pq 16 (cz_dp 16 A (2 * i + 1)))) := by
      rw [show (1 : Int32) = nI 1 from rfl, cz_ltn (by omega) (by omega)]
    have t6 := ma_C hC hQ h16 (A := A) (S := cz_dp 16 A (2 * i + 1)) (by omega) (by omega)
    have unf : ∀ f, cl_X9_evenestTeam_37 σ (nI A) (nI (cz_lb 16 A)) (nI (cz_rs 16 A)) (nI (cz_pq 16 A)) (nI (2 ^ (cz_pq 16 A - 1))) (fun x19 => (some x19)) (f + 1) x6 x7 (nI (cz_dp 16 (cz_rs 16 A) i)) (nI i) = if 1 < cz_off (cz_pq 16 A) (2 * cz_pq 16 (cz_dp 16 A (2 * i + 1))) then cl_X9_evenestTeam_37 σ (nI A) (nI (cz_lb 16 A)) (nI (cz_rs 16 A)) (nI (cz_pq 16 A)) (nI (2 ^ (cz_pq 16 A - 1))) (fun x19 => (some x19)) f x6 x7 (nI (cz_dp 16 (cz_rs 16 A) (i + 1))) (nI (i + 1)) else if x7 ≤ nI (cz_dd α A (2 * i + 1)) then cl_X9_evenestTeam_37 σ (nI A) (nI (cz_lb 16 A)) (nI (cz_rs 16 A)) (nI (cz_pq 16 A)) (nI (2 ^ (cz_pq 16 A - 1))) (fun x19 => (some x19)) f x6 x7 (nI (cz_dp 16 (cz_rs 16 A) (i + 1))) (nI (i + 1)) else cl_X9_evenestTeam_37 σ (nI A) (nI (cz_lb 16 A)) (nI (cz_rs 16 A)) (nI (cz_pq 16 A)) (nI (2 ^ (cz_pq 16 A - 1))) (fun x19 => (some x19)) f (nI (cz_dp 16 A (2 * i + 1))) (nI (cz_dd α A (2 * i + 1))) (nI (cz_dp 16 (cz_rs 16 A) (i + 1))) (nI (i + 1)) := fun f => by
      rw [cl_X9_evenestTeam_37, if_neg (nI_ge hi (by omega)), t1, t2, t3, cz_br, t4, cz_off_v (by omega) (by omega), t6, cz_br, nI_1]
      simp only [t5]
      rfl
    by_cases g : 1 < cz_off (cz_pq 16 A) (2 * cz_pq 16 (cz_dp 16 A (2 * i + 1)))
    · refine ⟨(x6, x7, nI (cz_dp 16 (cz_rs 16 A) (i + 1))), fun f => ?_, rfl, cz_eC_no r2 ?_⟩
      · show cl_X9_evenestTeam_37 σ (nI A) (nI (cz_lb 16 A)) (nI (cz_rs 16 A)) (nI (cz_pq 16 A)) (nI (2 ^ (cz_pq 16 A - 1))) (fun x19 => (some x19)) (f + 1) x6 x7 (nI (cz_dp 16 (cz_rs 16 A) i)) (nI i) = _
        rw [unf f, if_pos g]
      · unfold cz_vl
        exact decide_eq_false (by omega)
    · have hv : cz_vl A (2 * i + 1) = true := decide_eq_true (by omega)
      have y := cz_eC_yes r2 hd hv
      by_cases g2 : x7 ≤ nI (cz_dd α A (2 * i + 1))
      · refine ⟨(x6, x7, nI (cz_dp 16 (cz_rs 16 A) (i + 1))), fun f => ?_, rfl, y.1 g2⟩
        show cl_X9_evenestTeam_37 σ (nI A) (nI (cz_lb 16 A)) (nI (cz_rs 16 A)) (nI (cz_pq 16 A)) (nI (2 ^ (cz_pq 16 A - 1))) (fun x19 => (some x19)) (f + 1) x6 x7 (nI (cz_dp 16 (cz_rs 16 A) i)) (nI i) = _
        rw [unf f, if_neg g, if_pos g2]
      · refine ⟨(nI (cz_dp 16 A (2 * i + 1)), nI (cz_dd α A (2 * i + 1)), nI (cz_dp 16 (cz_rs 16 A) (i + 1))), fun f => ?_, rfl, y.2 g2⟩
        show cl_X9_evenestTeam_37 σ (nI A) (nI (cz_lb 16 A)) (nI (cz_rs 16 A)) (nI (cz_pq 16 A)) (nI (2 ^ (cz_pq 16 A - 1))) (fun x19 => (some x19)) (f + 1) x6 x7 (nI (cz_dp 16 (cz_rs 16 A) i)) (nI i) = _
        rw [unf f, if_neg g, if_neg g2]) (fun f s hs => by
    show cl_X9_evenestTeam_37 σ (nI A) (nI (cz_lb 16 A)) (nI (cz_rs 16 A)) (nI (cz_pq 16 A)) (nI (2 ^ (cz_pq 16 A - 1))) (fun x19 => (some x19)) (f + 1) s.1 s.2.1 s.2.2 (nI (2 ^ (cz_pq 16 A - 1))) = _
    rw [cl_X9_evenestTeam_37, if_pos (Int32.le_refl _)]) (0, 2147483647, 0) ⟨by rw [cz_dp_0]; rfl, Or.inl ⟨rfl, fun i' hi => by omega⟩⟩
  exact ⟨x6, x7, h1, h3⟩
