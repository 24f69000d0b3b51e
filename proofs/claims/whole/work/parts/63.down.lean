theorem cz_eM_no {α : ca_A} {A k : Nat} {x3 x4 : Int32} (hk : 1 ≤ k) (h : cz_eM α A k x3 x4) (hv : ∀ i, k = 2 * i + 1 → cz_vl A (2 * i + 1) = false) : cz_eM α A (k - 1) x3 x4 := by
  rcases h with ⟨a, b⟩ | ⟨i0, a, a2, b, c, d, e, f⟩
  · refine Or.inl ⟨a, fun i' hi hi2 => ?_⟩
    rcases Nat.lt_or_ge k (2 * i' + 1) with q | q
    · exact b i' q hi2
    · exact hv i' (by omega)
  · refine Or.inr ⟨i0, by omega, a2, b, c, d, fun i' hi hi2 hv' => ?_, fun i' hi hi2 hv' => ?_⟩
    · rcases Nat.lt_or_ge k (2 * i' + 1) with q | q
      · exact e i' q hi2 hv'
      · rw [hv i' (by omega)] at hv'
        cases hv'
    · rcases Nat.lt_or_ge k (2 * i' + 1) with q | q
      · exact f i' q hi2 hv'
      · rw [hv i' (by omega)] at hv'
        cases hv'
theorem cz_eM_yes {α : ca_A} {A i : Nat} {x3 x4 : Int32} (h : cz_eM α A (2 * i + 1) x3 x4) (hi : 2 * i + 1 < 2 ^ cz_pq 16 A) (hd : ∀ k, cz_dd α A k ≤ 320) (hv : cz_vl A (2 * i + 1) = true) : (x4 < nI (cz_dd α A (2 * i + 1)) → cz_eM α A (2 * i) x3 x4) ∧ (¬ x4 < nI (cz_dd α A (2 * i + 1)) → cz_eM α A (2 * i) (nI (cz_dp 16 A (2 * i + 1))) (nI (cz_dd α A (2 * i + 1)))) := by
  have b0 := hd (2 * i + 1)
  rcases h with ⟨a, b⟩ | ⟨i0, a, a2, b, c, d, e, f⟩
  · constructor
    · intro z
      rw [a, show (9999 : Int32) = nI 9999 from rfl, cz_ltn (by omega) (by omega)] at z
      omega
    · intro _
      refine Or.inr ⟨i, by omega, hi, hv, rfl, rfl, fun i' hi hi2 hv' => ?_, fun i' hi hi2 hv' => ?_⟩
      · rcases Nat.lt_or_ge (2 * i + 1) (2 * i' + 1) with q | q
        · rw [b i' q hi2] at hv'
          cases hv'
        · rw [show i' = i by omega]
          exact Nat.le_refl _
      · omega
  · have b1 := hd (2 * i0 + 1)
    rw [d, cz_ltn (by omega) (by omega)]
    constructor
    · intro z
      refine Or.inr ⟨i0, by omega, a2, b, c, rfl, fun i' hi hi2 hv' => ?_, fun i' hi hi2 hv' => ?_⟩
      · rcases Nat.lt_or_ge (2 * i + 1) (2 * i' + 1) with q | q
        · exact e i' q hi2 hv'
        · rw [show i' = i by omega]
          omega
      · rcases Nat.lt_or_ge (2 * i + 1) (2 * i' + 1) with q | q
        · exact f i' q hi2 hv'
        · rw [show i' = i by omega]
          exact z
    · intro z
      refine Or.inr ⟨i, by omega, hi, hv, rfl, rfl, fun i' hi hi2 hv' => ?_, fun i' hi hi2 hv' => ?_⟩
      · rcases Nat.lt_or_ge (2 * i + 1) (2 * i' + 1) with q | q
        · have := e i' q hi2 hv'
          omega
        · rw [show i' = i by omega]
          exact Nat.le_refl _
      · omega
theorem tm_M {α : ca_A} {τ : ca_S} (hM : RM α τ) (hQ : α 9 0 0 ≤ 20) (h16 : α 0 0 0 ≤ 16) {A : Nat} (hA : A < 65536) (h0 : 0 < A) (hs : cz_pq 16 A ≤ 12) (x2 : Int32) (K : Int32 → Int32 → Option Int32) : ∃ x3 x4, cl_X10_teams_56 τ (nI A) x2 (nI A &&& -nI A) K ca_FU 0 9999 (nI A) = K x3 x4 ∧ cz_eM α A 0 x3 x4 := by
  have p : 2 ^ cz_pq 16 A ≤ 2 ^ 12 := Nat.pow_le_pow_right (by decide) (by omega)
  have p0 := Nat.two_pow_pos (cz_pq 16 A)
  have hA16 : A < 2 ^ 16 := hA
  have e1 : nI A &&& -nI A = nI (cz_lb 16 A) := by
    rw [cz_neg (by omega), cz_and, cz_lb_neg 16 32 A hA16 (by decide)]
  have hd : ∀ k, cz_dd α A k ≤ 320 := fun k => cz_ap_le hQ h16 _ _
  have hl := cz_lb_pos 16 A hA16 h0
  have hl2 : cz_lb 16 A ≤ A := by
    rw [← cz_lb_neg 16 32 A hA16 (by decide)]
    exact Nat.and_le_left
  rw [e1]
  obtain ⟨⟨x3, x4, x6⟩, h1, h2, h3⟩ := cz_loop (fun f (s : Int32 × Int32 × Int32) (_ : Int32) => cl_X10_teams_56 τ (nI A) x2 (nI (cz_lb 16 A)) K f s.1 s.2.1 s.2.2) (2 ^ cz_pq 16 A - 1) 0 (fun i s => s.2.2 = nI (cz_dp 16 A (2 ^ cz_pq 16 A - 1 - i)) ∧ cz_eM α A (2 ^ cz_pq 16 A - 1 - i) s.1 s.2.1) (fun s => K s.1 s.2.1) (Nat.zero_le _) (by omega) (fun i s _ hi hs => by
    obtain ⟨x3, x4, x6⟩ := s
    obtain ⟨r1, r2⟩ := hs
    simp only at r1 r2
    obtain ⟨k, hk⟩ : ∃ k, k = 2 ^ cz_pq 16 A - 1 - i := ⟨_, rfl⟩
    have hk2 : 2 ^ cz_pq 16 A - 1 - (i + 1) = k - 1 := by omega
    rw [hk2]
    rw [← hk] at r1 r2
    have k1 : 1 ≤ k := by omega
    have k2 : k < 2 ^ cz_pq 16 A := by omega
    subst r1
    have ps := cz_dp_p 16 A k k1 k2
    have le := cz_dp_le 16 A k
    have b1 := cz_pq_le (cz_dp 16 A k)
    have l1 := cz_ms_le hQ (fun i => cz_tb A i && !cz_tb (cz_dp 16 A k) i) (α 0 0 0)
    have l2 := cz_ms_le hQ (cz_tb (cz_dp 16 A k)) (α 0 0 0)
    have t1 := mi_M hM hQ h16 (S := cz_dp 16 A k) (by omega)
    have t2 := mo_M hM hQ h16 (A := A) (S := cz_dp 16 A k) (by omega) (by omega)
    have t3 : cf_X10_size (nI (cz_ms α (cz_tb (cz_dp 16 A k)) (α 0 0 0)) - nI (cz_ms α (fun i => cz_tb A i && !cz_tb (cz_dp 16 A k) i) (α 0 0 0))) = some (nI (cz_dd α A k)) := sz_M (by omega) (by omega)
    have t4 : (nI (cz_dp 16 A k) - 1) &&& nI A = nI (cz_dp 16 A (k - 1)) := by
      rw [show (1 : Int32) = nI 1 from rfl, pk_sub ps, cz_and, cz_dp_d 16 A k k1 k2]
    have t5 : cf_X10_sizeOf (nI (cz_dp 16 A k)) = some (nI (cz_pq 16 (cz_dp 16 A k))) := by
      rw [so_M (by omega), ← cz_pq_ct]
    have t6 : cf_X10_sizeOf (nI A) = some (nI (cz_pq 16 A)) := by
      rw [so_M (by omega), ← cz_pq_ct]
    have t7 : 2 * nI (cz_pq 16 (cz_dp 16 A k)) = nI (2 * cz_pq 16 (cz_dp 16 A k)) := by
      rw [show (2 : Int32) = nI 2 from rfl, pk_mul]
    have bo : cz_off (cz_pq 16 A) (2 * cz_pq 16 (cz_dp 16 A k)) ≤ 100000 := cz_off_b (by omega) (by omega)
    have t8 : ((1 : Int32) < nI (cz_off (cz_pq 16 A) (2 * cz_pq 16 (cz_dp 16 A k)))) = (1 < cz_off (cz_pq 16 A) (2 * cz_pq 16 (cz_dp 16 A k))) := by
      rw [show (1 : Int32) = nI 1 from rfl, cz_ltn (by omega) (by omega)]
    have t9 : cf_X10_size (nI (2 * cz_pq 16 (cz_dp 16 A k)) - nI (cz_pq 16 A)) = some (nI (cz_off (cz_pq 16 A) (2 * cz_pq 16 (cz_dp 16 A k)))) := sz_M (by omega) (by omega)
    have ex := cz_half k
    obtain ⟨i', ei | ei⟩ := ex
    · have ta : ¬ nI (cz_dp 16 A k) &&& nI (cz_lb 16 A) ≤ 0 := by
        rw [cz_and, ei, cz_dp_a1]
        exact nI_nle hl (by omega)
      have unf : ∀ f, cl_X10_teams_56 τ (nI A) x2 (nI (cz_lb 16 A)) K (f + 1) x3 x4 (nI (cz_dp 16 A k)) = if 1 < cz_off (cz_pq 16 A) (2 * cz_pq 16 (cz_dp 16 A k)) then cl_X10_teams_56 τ (nI A) x2 (nI (cz_lb 16 A)) K f x3 x4 (nI (cz_dp 16 A (k - 1))) else if x4 < nI (cz_dd α A k) then cl_X10_teams_56 τ (nI A) x2 (nI (cz_lb 16 A)) K f x3 x4 (nI (cz_dp 16 A (k - 1))) else cl_X10_teams_56 τ (nI A) x2 (nI (cz_lb 16 A)) K f (nI (cz_dp 16 A k)) (nI (cz_dd α A k)) (nI (cz_dp 16 A (k - 1))) := fun f => by
        rw [cl_X10_teams_56, if_neg (nI_nle (by omega) (by omega)), t1, cz_br, t2, cz_br, t3, cz_br, if_neg ta, t5, cz_br, t6, cz_br, t7, t9, cz_br]
        unfold cj_X10_teams_115
        rw [t4, if_pos rfl, if_neg (show ¬ (1 : Int32) = 0 by decide)]
        simp only [t8]
      by_cases g : 1 < cz_off (cz_pq 16 A) (2 * cz_pq 16 (cz_dp 16 A k))
      · refine ⟨(x3, x4, nI (cz_dp 16 A (k - 1))), fun f => ?_, rfl, cz_eM_no k1 r2 (fun i hi => ?_)⟩
        · show cl_X10_teams_56 τ (nI A) x2 (nI (cz_lb 16 A)) K (f + 1) x3 x4 (nI (cz_dp 16 A k)) = _
          rw [unf f, if_pos g]
        · rw [← hi]
          exact decide_eq_false (by omega)
      · have hv : cz_vl A k = true := decide_eq_true (by omega)
        rw [ei] at hv r2 k2
        have y := cz_eM_yes r2 k2 hd hv
        rw [← ei] at y
        have ek : k - 1 = 2 * i' := by omega
        by_cases g2 : x4 < nI (cz_dd α A k)
        · refine ⟨(x3, x4, nI (cz_dp 16 A (k - 1))), fun f => ?_, rfl, ?_⟩
          · show cl_X10_teams_56 τ (nI A) x2 (nI (cz_lb 16 A)) K (f + 1) x3 x4 (nI (cz_dp 16 A k)) = _
            rw [unf f, if_neg g, if_pos g2]
          · rw [ek]
            exact y.1 g2
        · refine ⟨(nI (cz_dp 16 A k), nI (cz_dd α A k), nI (cz_dp 16 A (k - 1))), fun f => ?_, rfl, ?_⟩
          · show cl_X10_teams_56 τ (nI A) x2 (nI (cz_lb 16 A)) K (f + 1) x3 x4 (nI (cz_dp 16 A k)) = _
            rw [unf f, if_neg g, if_neg g2]
          · rw [ek]
            exact y.2 g2
    · have ta : nI (cz_dp 16 A k) &&& nI (cz_lb 16 A) ≤ 0 := by
        rw [cz_and, ei, cz_dp_a0]
        exact Int32.le_refl _
      refine ⟨(x3, x4, nI (cz_dp 16 A (k - 1))), fun f => ?_, rfl, cz_eM_no k1 r2 (fun i hi => by omega)⟩
      show cl_X10_teams_56 τ (nI A) x2 (nI (cz_lb 16 A)) K (f + 1) x3 x4 (nI (cz_dp 16 A k)) = _
      rw [cl_X10_teams_56, if_neg (nI_nle (by omega) (by omega)), t1, cz_br, t2, cz_br, t3, cz_br, if_pos ta]
      unfold cj_X10_teams_115
      rw [t4, if_pos rfl]) (fun f s hs => by
    obtain ⟨x3, x4, x6⟩ := s
    obtain ⟨r1, r2⟩ := hs
    simp only at r1 r2
    rw [Nat.sub_self, cz_dp_0] at r1
    show cl_X10_teams_56 τ (nI A) x2 (nI (cz_lb 16 A)) K (f + 1) x3 x4 x6 = _
    rw [cl_X10_teams_56, r1, if_pos (show nI 0 ≤ 0 from Int32.le_refl _)]) (0, 9999, nI A) ⟨by
      show nI A = _
      rw [Nat.sub_zero, cz_dp_full 16 A hA16], Or.inl ⟨rfl, fun i' hi hi2 => by omega⟩⟩
  rw [Nat.sub_self] at h3
  exact ⟨x3, x4, h1, h3⟩
