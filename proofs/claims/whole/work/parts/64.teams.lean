theorem cz_one {α : ca_A} {A : Nat} (hs2 : 2 ≤ cz_pq 16 A) {x6 x7 x3 x4 : Int32} (hc : cz_eC α A (2 ^ (cz_pq 16 A - 1)) x6 x7) (hm : cz_eM α A 0 x3 x4) : ∃ S, S ≤ A ∧ x6 = nI S ∧ x3 = nI S ∧ x4 = nI (cz_ap α A S) := by
  have p : 2 ^ cz_pq 16 A = 2 * 2 ^ (cz_pq 16 A - 1) := by
    rw [← Nat.pow_succ']
    congr 1
    omega
  have half : ∃ t, t = cz_pq 16 A / 2 := ⟨_, rfl⟩
  obtain ⟨t, ht⟩ := half
  have pt : 2 ^ t = 2 * 2 ^ (t - 1) := by
    rw [← Nat.pow_succ']
    congr 1
    omega
  have pt0 := Nat.two_pow_pos (t - 1)
  have pl : 2 ^ t ≤ 2 ^ (cz_pq 16 A - 1) := Nat.pow_le_pow_right (by decide) (by omega)
  have vt : cz_vl A (2 * (2 ^ (t - 1) - 1) + 1) = true := by
    unfold cz_vl
    rw [show 2 * (2 ^ (t - 1) - 1) + 1 = 2 ^ t - 1 by omega, cz_dp_pc 16 A t (by omega)]
    apply decide_eq_true
    unfold cz_off
    split <;> omega
  rcases hc with ⟨-, b⟩ | ⟨i0, a, b, c, d, e, f⟩
  · have := b (2 ^ (t - 1) - 1) (by omega)
    rw [vt] at this
    cases this
  · rcases hm with ⟨-, b'⟩ | ⟨j0, a', a2', b', c', d', e', f'⟩
    · have := b' i0 (by omega) (by omega)
      rw [b] at this
      cases this
    · have ij : i0 = j0 := by
        rcases Nat.lt_trichotomy i0 j0 with q | q | q
        · have h1 := f' i0 (by omega) q b
          have h2 := e j0 (by omega) b'
          omega
        · exact q
        · have h1 := f j0 q b'
          have h2 := e' i0 (by omega) (by omega) b
          omega
      subst ij
      exact ⟨_, cz_dp_le _ _ _, c, c', d'⟩
theorem st_teams {k : Nat} {σ τ : ca_S} (h : ca_R k σ τ) : ca_St_teams ca_R k σ τ := by
  have hk := h.mono (Nat.le_succ k)
  obtain ⟨α, hI, hC, hM⟩ := h
  obtain ⟨c1, c2, c3, c4, c5, c6, c7, c8, c9, c10, c11, c12, c13⟩ := hC.1
  obtain ⟨m1, m2, m3, m4, m5, m6, m7, m8, m9, m10, m11, m12, m13⟩ := hM.1
  obtain ⟨i1, i2, i3, i4, i5, i6, i7, i8, i9, i10, i11⟩ := hI.1
  have p : 2 ^ α 0 0 0 ≤ 2 ^ 16 := Nat.pow_le_pow_right (by decide) i1
  have p0 := Nat.two_pow_pos (α 0 0 0)
  intro a1 a2
  unfold cf_X9_teams cf_X10_teams cf_X9_canBeTeams
  rw [c1, m1]
  rcases cw_C a1 0 (2 ^ α 0 0 0 - 1) 0 (((1 : Int32) <<< (nI (α 0 0 0) &&& 31)) - 1) rfl (cz_kn _ i1) (Nat.zero_le _) (by omega) with ⟨-, g2, g3⟩ | ⟨A, -, hA, rfl, -, g2⟩
  · have nk : ¬ (a1 &&& ((((1 : Int32) <<< (nI (α 0 0 0) &&& 31)) - 1) ^^^ (-1)) = 0) := fun z => by
      obtain ⟨A, hA, e⟩ := (cz_known i1 a1).mp z
      exact g3 A (Nat.zero_le _) (by omega) e
    rw [g2, if_neg nk]
    rcases cw_C a2 0 1 0 1 rfl rfl (by decide) (by decide) with ⟨f1, -, -⟩ | ⟨x, -, hx, rfl, f1, -⟩
    · rw [f1]
      exact ⟨-1, rfl, rfl, hk⟩
    · rw [f1]
      exact ⟨-1, rfl, rfl, hk⟩
  have hA : A < 2 ^ α 0 0 0 := by omega
  have yk : (nI A &&& ((((1 : Int32) <<< (nI (α 0 0 0) &&& 31)) - 1) ^^^ (-1)) = 0) := (cz_known i1 _).mpr ⟨A, hA, rfl⟩
  have hA65 : A < 65536 := by omega
  have hs16 := cz_pq_le A
  rw [g2, if_pos yk, bc_C hA65, so_M (by omega), ← cz_pq_ct]
  rcases cw_C (nI (cz_pq 16 A)) 2 12 2 12 rfl rfl (by decide) (by decide) with ⟨h1, h2, -⟩ | ⟨s, hs1, hs2, es, h1, h2⟩
  · rcases cw_C a2 0 1 0 1 rfl rfl (by decide) (by decide) with ⟨f1, -, -⟩ | ⟨x, -, hx, rfl, f1, -⟩
    · rw [f1]
      simp only [cz_br, h1, h2]
      exact ⟨-1, rfl, rfl, hk⟩
    · rw [f1]
      simp only [cz_br, h1, h2]
      exact ⟨-1, rfl, rfl, hk⟩
  have es : cz_pq 16 A = s := (nI_eq (by omega) (by omega)).mp es
  rcases cw_C a2 0 1 0 1 rfl rfl (by decide) (by decide) with ⟨f1, f2, -⟩ | ⟨x, -, hx, rfl, f1, f2⟩
  · rw [f1]
    simp only [cz_br, h1, h2, f2]
    exact ⟨-1, rfl, rfl, hk⟩
  have h0 : 0 < A := by
    rcases Nat.eq_zero_or_pos A with z | z
    · rw [z] at es
      have : cz_pq 16 0 = 0 := by decide
      omega
    · exact z
  obtain ⟨x6, x7, q1, q2⟩ := ev_C hC i9 i1 hA65 h0 (by omega) (by omega)
  obtain ⟨x3, x4, q3, q4⟩ := tm_M hM i9 i1 hA65 h0 (by omega) (nI x) (fun x47 x48 => (if nI x = 0 then (some x47) else (some x48)))
  obtain ⟨S, sl, rfl, rfl, rfl⟩ := cz_one (by omega) q2 q4
  rw [f1]
  simp only [cz_br, h1, h2, f2, if_neg (show ¬ (1 : Int32) = 0 by decide)]
  rw [q1, q3, cz_br, ma_C hC i9 i1 (by omega) (by omega)]
  rcases (show x = 0 ∨ x = 1 by omega) with rfl | rfl
  · exact ⟨nI S, rfl, rfl, hk⟩
  · exact ⟨nI (cz_ap α A S), rfl, rfl, hk⟩
