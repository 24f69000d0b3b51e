-- ===== the calls that only look, and the short ones =====
theorem st_count {k : Nat} {σ τ : ca_S} (h : ca_R k σ τ) : ca_St_count ca_R k σ τ := by
  have hk := h.mono (Nat.le_succ k)
  obtain ⟨α, hI, hC, hM⟩ := h
  obtain ⟨c1, c2, c3, c4, c5, c6, c7, c8, c9, c10, c11, c12, c13⟩ := hC.1
  obtain ⟨m1, m2, m3, m4, m5, m6, m7, m8, m9, m10, m11, m12, m13⟩ := hM.1
  intro a
  unfold cf_X9_count cf_X10_count
  rw [c1, c2, c5, c6, c10, c11, m1, m2, m5, m6, m10, m11]
  by_cases g0 : a = 0
  · exact ⟨_, by rw [if_pos g0], by rw [if_pos g0], hk⟩
  by_cases g1 : a = 1
  · exact ⟨_, by rw [if_neg g0, if_pos g1], by rw [if_neg g0, if_pos g1], hk⟩
  by_cases g2 : a = 2
  · exact ⟨_, by rw [if_neg g0, if_neg g1, if_pos g2], by rw [if_neg g0, if_neg g1, if_pos g2], hk⟩
  by_cases g3 : a = 3
  · refine ⟨if nI (α 4 0 0) = 0 then 0 else 1, ?_, ?_, hk⟩ <;> rw [if_neg g0, if_neg g1, if_neg g2, if_pos g3] <;> split <;> rfl
  by_cases g4 : a = 4
  · exact ⟨_, by rw [if_neg g0, if_neg g1, if_neg g2, if_neg g3, if_pos g4], by rw [if_neg g0, if_neg g1, if_neg g2, if_neg g3, if_pos g4], hk⟩
  by_cases g5 : a = 5
  · exact ⟨_, by rw [if_neg g0, if_neg g1, if_neg g2, if_neg g3, if_neg g4, if_pos g5], by rw [if_neg g0, if_neg g1, if_neg g2, if_neg g3, if_neg g4, if_pos g5], hk⟩
  · exact ⟨_, by rw [if_neg g0, if_neg g1, if_neg g2, if_neg g3, if_neg g4, if_neg g5], by rw [if_neg g0, if_neg g1, if_neg g2, if_neg g3, if_neg g4, if_neg g5], hk⟩
theorem st_box {k : Nat} {σ τ : ca_S} (h : ca_R k σ τ) : ca_St_box ca_R k σ τ := by
  have hk := h.mono (Nat.le_succ k)
  obtain ⟨α, hI, hC, hM⟩ := h
  obtain ⟨c1, c2, c3, c4, c5, c6, c7, c8, c9, c10, c11, c12, c13⟩ := hC.1
  obtain ⟨m1, m2, m3, m4, m5, m6, m7, m8, m9, m10, m11, m12, m13⟩ := hM.1
  obtain ⟨i1, i2, i3, i4, i5, i6, i7, i8, i9, i10, i11⟩ := hI.1
  unfold ca_St_box cf_X9_box cf_X10_box
  rw [c1, c6, m1, m6]
  by_cases g : nI (α 4 0 0) = 0
  · rw [if_pos g, if_pos g]
    by_cases g2 : α 0 0 0 = 16
    · rw [g2]
      exact ⟨-3, σ, τ, rfl, rfl, hk⟩
    · have h1 : nI (α 0 0 0) < 16 := nI_lt (b := 16) (by omega) (by decide)
      have h2 : ¬ nI (α 0 0 0) = 16 := fun e => g2 ((nI_eq (b := 16) (by omega) (by decide)).mp e)
      rw [if_pos h1, if_neg h2]
      simp only [cz_br, cz_bi, cz_bv, cz_gd, cz_lt]
      refine ⟨nI (α 0 0 0) + 1 - 1, ca_st σ (0, 0, 0) 1 (nI (α 0 0 0) + 1), ca_st τ (20, 0, 0) 0 (nI (α 0 0 0) + 1), by simp [ca_st], by simp [ca_st], cu α 0 0 0 (α 0 0 0 + 1), ⟨?_, ?_, fun b j hb hj => by have := hI.2.2.1 b j hb hj; simpa [cu] using this, ?_, fun i b hi hb => by have := hI.2.2.2.2 i b (by simpa [cu] using hi) hb; simpa [cu] using this⟩, ⟨?_, fun b hb => by have := hC.2.1 b hb; simpa [ca_st, ca_sl, cu, cz_mk] using this, fun b j hb hj => by have := hC.2.2.1 b j hb hj; simpa [ca_st, ca_sl, cu, cz_mk] using this, fun l hl => by have := hC.2.2.2.1 l (by simpa [cu] using hl); simpa [ca_st, ca_sl, cu, cz_mk] using this, fun i b hi hb => by have := hC.2.2.2.2 i b (by simpa [cu] using hi) hb; simpa [ca_st, ca_sl, cu, cz_mk] using this⟩, ⟨?_, fun b hb => by have := hM.2.1 b hb; simpa [ca_st, ca_sl, cu, cz_mk] using this, fun b j hb hj => by have := hM.2.2.1 b j hb hj; simpa [ca_st, ca_sl, cu, cz_mk] using this, fun l hl => by have := hM.2.2.2.1 l (by simpa [cu] using hl); simpa [ca_st, ca_sl, cu, cz_mk] using this, fun i b hi hb => by have := hM.2.2.2.2 i b (by simpa [cu] using hi) hb; simpa [ca_st, ca_sl, cu, cz_mk] using this⟩⟩
      · simp [CI1, cu]
        refine ⟨by omega, i2, i3, i4, i5, i6, i7, i8, i9, ?_, i11⟩
        have : 2 ^ α 0 0 0 ≤ 2 ^ (α 0 0 0 + 1) := Nat.pow_le_pow_right (by decide) (by omega)
        omega
      · intro b hb
        have := hI.2.1 b hb
        simp [cu, cz_gr] at this ⊢
        refine ⟨by omega, this.2.1, this.2.2.1, this.2.2.2.1, this.2.2.2.2.1, this.2.2.2.2.2.1, this.2.2.2.2.2.2.1, fun hh => this.2.2.2.2.2.2.2 (by omega)⟩
      · have := hI.2.2.2.1
        simp [CI4, cu] at this ⊢
        refine ⟨this.1, fun l hl => ?_, this.2.2⟩
        have q := this.2.1 l hl
        exact ⟨by omega, q.2⟩
      · simp [RC1, ca_st, cu]
        exact ⟨(nI_succ _).symm, c2, c3, c4, c5, c6, c7, c8, c9, c10, c11, c12, c13⟩
      · simp [RM1, ca_st, cu]
        exact ⟨(nI_succ _).symm, m2, m3, m4, m5, m6, m7, m8, m9, m10, m11, m12, m13⟩
  · rw [if_neg g, if_neg g]
    exact ⟨-2, σ, τ, rfl, rfl, hk⟩
theorem st_marks0 {α : ca_A} {τ : ca_S} (hM : RM α τ) (hQ : α 9 0 0 ≤ 20) {b : Nat} (hb : b < 16) : cf_X10_marksOf τ (nI b) = some (nI (cz_mk α b)) := by
  have m11 : τ.1 (20, 0, 0) 27 = nI (α 9 0 0) := hM.1.2.2.2.2.2.2.2.2.2.2.1
  unfold cf_X10_marksOf
  obtain ⟨s', h1, h2⟩ := cz_loop (fun f (s : Int32) x => cl_X10_marksOf_4 τ (nI b) (fun x6 => some x6) f s x) (α 9 0 0) 0 (fun i s => s = nI (cz_ct (fun i => α 50 i b == 2) i)) (fun s => some s) (Nat.zero_le _) (by omega) (fun i s _ hi hs => by
    refine ⟨nI (cz_ct (fun i => α 50 i b == 2) (i + 1)), fun f => ?_, rfl⟩
    have e1 : 16 * nI i + nI b = nI (16 * i + b) := by
      rw [show (16 : Int32) = nI 16 from rfl, pk_mul, nI_add]
    have e2 := hM.2.2.2.2 i b hi hb
    rw [cl_X10_marksOf_4, m11, if_neg (nI_ge hi (by omega)), e1, cz_in (by omega) (by decide), nI_clamp (by omega), e2, nI_1, hs]
    simp only [cz_gd]
    by_cases g : α 50 i b = 2
    · rw [if_pos ((cz_enc1 _).mpr g)]
      simp [g, cz_ct, nI_succ]
    · have g1 : ¬ cz_enc (α 50 i b) = 1 := fun e => g ((cz_enc1 _).mp e)
      rw [if_neg g1]
      simp [cz_ct, g]) (fun f s hs => by
    rw [cl_X10_marksOf_4, m11, if_pos (Int32.le_refl _)]) (nI 0) rfl
  have e : (0 : Int32) = nI 0 := rfl
  rw [e]
  rw [h1, h2]
  rfl
theorem st_marks {k : Nat} {σ τ : ca_S} (h : ca_R k σ τ) : ca_St_marks ca_R k σ τ := by
  have hk := h.mono (Nat.le_succ k)
  obtain ⟨α, hI, hC, hM⟩ := h
  obtain ⟨i1, i2, i3, i4, i5, i6, i7, i8, i9, i10, i11⟩ := hI.1
  intro a
  unfold cf_X9_marks cf_X10_marks
  rcases cw_box hC hM i1 a with ⟨h1, h2⟩ | ⟨b, hb, hb2, rfl, h1, h2⟩
  · rw [h1, h2]
    exact ⟨-1, rfl, rfl, hk⟩
  · rw [h1, h2, st_marks0 hM i9 hb2, cz_in hb2 (by decide), nI_clamp (by omega), (hC.2.1 b hb2).2.2.2.2]
    exact ⟨_, rfl, rfl, hk⟩
theorem st_book {k : Nat} {σ τ : ca_S} (h : ca_R k σ τ) : ca_St_book ca_R k σ τ := by
  have hk := h.mono (Nat.le_succ k)
  obtain ⟨α, hI, hC, hM⟩ := h
  obtain ⟨c1, c2, c3, c4, c5, c6, c7, c8, c9, c10, c11, c12, c13⟩ := hC.1
  obtain ⟨m1, m2, m3, m4, m5, m6, m7, m8, m9, m10, m11, m12, m13⟩ := hM.1
  obtain ⟨i1, i2, i3, i4, i5, i6, i7, i8, i9, i10, i11⟩ := hI.1
  intro a1 a2
  unfold cf_X9_book cf_X10_book
  rw [c11, m11]
  have key : (∃ q : Nat, q < α 9 0 0 ∧ a1 = nI q ∧ cf_X10_in a1 0 (nI (α 9 0 0) - 1) = some 1) ∨ ((a1 < 0 ∨ nI (α 9 0 0) ≤ a1) ∧ cf_X10_in a1 0 (nI (α 9 0 0) - 1) = some 0) := by
    have e2 : (nI (α 9 0 0) - 1).toInt = (α 9 0 0 : Int) - (1 : Nat) := pk_sub_toInt (a := α 9 0 0) (b := 1) (by omega) (by decide)
    unfold cf_X10_in
    rcases pk_ix a1 (n := α 9 0 0) (by omega) with q | q | ⟨q, hq, rfl⟩
    · exact Or.inr ⟨Or.inl q, by rw [if_pos q]⟩
    · refine Or.inr ⟨Or.inr q, ?_⟩
      by_cases g : a1 < 0
      · rw [if_pos g]
      · rw [if_neg g, if_pos]
        rw [Int32.lt_iff_toInt_lt, e2]
        have a3 := Int32.le_iff_toInt_le.mp q
        rw [nI_toInt (by omega)] at a3
        omega
    · refine Or.inl ⟨q, hq, rfl, ?_⟩
      rw [if_neg (nI_pos (by omega)), if_neg]
      rw [Int32.lt_iff_toInt_lt, e2, nI_toInt (by omega)]
      omega
  rcases key with ⟨q, hq, rfl, e1⟩ | ⟨e0, e1⟩
  · rw [if_neg (nI_pos (by omega)), if_neg (nI_ge hq (by omega)), e1]
    rcases cw_box hC hM i1 a2 with ⟨h1, h2⟩ | ⟨b, hb, hb2, rfl, h1, h2⟩
    · rw [h1, h2]
      exact ⟨-9, rfl, rfl, hk⟩
    · have e3 : 16 * nI q + nI b = nI (16 * q + b) := by
        rw [show (16 : Int32) = nI 16 from rfl, pk_mul, nI_add]
      rw [h1, cz_br, cz_br, if_neg (by decide), if_neg (by decide), h2, cz_br, if_neg (by decide), e3, cz_in (k := q) (by omega) (by decide), cz_in hb2 (by decide), cz_in (by omega) (by decide), nI_clamp (by omega), nI_clamp (by omega), nI_clamp (by omega), hC.2.2.2.2 q b hq hb2, hM.2.2.2.2 q b hq hb2]
      exact ⟨_, rfl, rfl, hk⟩
  · rw [e1]
    refine ⟨-9, ?_, rfl, hk⟩
    by_cases g : a1 < 0
    · rw [if_pos g]
    · rw [if_neg g, if_pos (e0.resolve_left g)]
theorem st_seed {k : Nat} {σ τ : ca_S} (h : ca_R k σ τ) : ca_St_seed ca_R k σ τ := by
  have hk := h.mono (Nat.le_succ k)
  obtain ⟨α, hI, hC, hM⟩ := h
  obtain ⟨c1, c2, c3, c4, c5, c6, c7, c8, c9, c10, c11, c12, c13⟩ := hC.1
  obtain ⟨m1, m2, m3, m4, m5, m6, m7, m8, m9, m10, m11, m12, m13⟩ := hM.1
  obtain ⟨i1, i2, i3, i4, i5, i6, i7, i8, i9, i10, i11⟩ := hI.1
  intro a
  unfold cf_X9_seed cf_X10_seed cf_X4_begin
  rcases cw_C a 1 2147483646 1 2147483646 rfl rfl (by decide) (by decide) with ⟨h1, h2, -⟩ | ⟨j, j1, j2, rfl, h1, h2⟩
  · rw [h1, h2]
    exact ⟨-1, σ, τ, rfl, rfl, hk⟩
  · rw [h1, h2]
    simp only [cz_br, cz_bi, cz_bv, cz_gd, cz_lt]
    have e : (nI j).toInt64 = lN j := nI_l (by omega)
    refine ⟨nI (α 0 0 0), ca_st (ca_sl σ (lN j)) (13, 0, 0) 1 0, ca_st (ca_sl τ (lN j)) (20, 0, 0) 30 0, ?_, ?_, cu (cu α 11 0 0 j) 10 0 0 0, ⟨?_, ?_, fun b j hb hj => by have := hI.2.2.1 b j hb hj; simpa [cu] using this, by have := hI.2.2.2.1; simpa [CI4, cu] using this, fun i b hi hb => by have := hI.2.2.2.2 i b (by simpa [cu] using hi) hb; simpa [cu] using this⟩, ⟨?_, fun b hb => by have := hC.2.1 b hb; simpa [ca_st, ca_sl, cu, cz_mk] using this, fun b j hb hj => by have := hC.2.2.1 b j hb hj; simpa [ca_st, ca_sl, cu, cz_mk] using this, fun l hl => by have := hC.2.2.2.1 l (by simpa [cu] using hl); simpa [ca_st, ca_sl, cu, cz_mk] using this, fun i b hi hb => by have := hC.2.2.2.2 i b (by simpa [cu] using hi) hb; simpa [ca_st, ca_sl, cu, cz_mk] using this⟩, ⟨?_, fun b hb => by have := hM.2.1 b hb; simpa [ca_st, ca_sl, cu, cz_mk] using this, fun b j hb hj => by have := hM.2.2.1 b j hb hj; simpa [ca_st, ca_sl, cu, cz_mk] using this, fun l hl => by have := hM.2.2.2.1 l (by simpa [cu] using hl); simpa [ca_st, ca_sl, cu, cz_mk] using this, fun i b hi hb => by have := hM.2.2.2.2 i b (by simpa [cu] using hi) hb; simpa [ca_st, ca_sl, cu, cz_mk] using this⟩⟩
    · rw [e]
      simp [ca_st, ca_sl, c1]
    · rw [e]
      simp [ca_st, ca_sl, m1]
    · simp [CI1, cu]
      refine ⟨i1, i2, i3, i4, i5, i6, i7, i8, i9, ?_, by omega⟩
      exact Nat.pow_pos (by decide)
    · intro b hb
      have := hI.2.1.mono (Nat.le_succ k) b hb
      simpa [cu, cz_gr] using this
    · simp [RC1, ca_st, ca_sl, cu]
      exact ⟨c1, c2, c3, c4, c5, c6, c7, c8, c9, c10, c11, rfl⟩
    · simp [RM1, ca_st, ca_sl, cu]
      exact ⟨m1, m2, m3, m4, m5, m6, m7, m8, m9, m10, m11, rfl⟩
theorem cz_par {b j b2 j2 : Nat} (hj : j < 2) (hj2 : j2 < 2) : (2 * b2 + j2 = 2 * b + j) = (b2 = b ∧ j2 = j) := by
  apply propext
  constructor
  · intro h
    omega
  · rintro ⟨rfl, rfl⟩
    rfl
theorem st_road {k : Nat} {σ τ : ca_S} (h : ca_R k σ τ) : ca_St_road ca_R k σ τ := by
  have hk := h.mono (Nat.le_succ k)
  obtain ⟨α, hI, hC, hM⟩ := h
  obtain ⟨c1, c2, c3, c4, c5, c6, c7, c8, c9, c10, c11, c12, c13⟩ := hC.1
  obtain ⟨m1, m2, m3, m4, m5, m6, m7, m8, m9, m10, m11, m12, m13⟩ := hM.1
  obtain ⟨i1, i2, i3, i4, i5, i6, i7, i8, i9, i10, i11⟩ := hI.1
  intro a1 a2 a3 a4
  unfold cf_X9_road cf_X10_road cf_X8_lay
  rcases cw_box hC hM i1 a1 with ⟨h1, h2⟩ | ⟨b, hb, hb2, rfl, h1, h2⟩
  · rw [h1, h2]
    exact ⟨-1, σ, τ, rfl, rfl, hk⟩
  rcases cw_base a2 with ⟨g1, g2⟩ | ⟨j, hj, rfl, g1, g2⟩
  · rw [h1, h2, g1, g2]
    exact ⟨-1, σ, τ, rfl, rfl, hk⟩
  rcases cw_C a3 0 65535 0 65535 rfl rfl (by decide) (by decide) with ⟨f1, f2, -⟩ | ⟨x, -, hx, rfl, f1, f2⟩
  · rw [h1, h2, g1, g2, f1, f2]
    exact ⟨-1, σ, τ, rfl, rfl, hk⟩
  rcases cw_C a4 0 9 0 9 rfl rfl (by decide) (by decide) with ⟨e1, e2, -⟩ | ⟨y, -, hy, rfl, e1, e2⟩
  · rw [h1, h2, g1, g2, f1, f2, e1, e2]
    exact ⟨-1, σ, τ, rfl, rfl, hk⟩
  have z : 2 * nI b + nI j = nI (2 * b + j) := by rw [show (2 : Int32) = nI 2 from rfl, pk_mul, nI_add]
  rw [h1, h2, g1, g2, f1, f2, e1, e2, z, cz_in hb2 (by decide), cz_in hj (by decide), cz_in (k := 2 * b + j) (by omega) (by decide), nI_clamp (n := b) (by omega), nI_clamp (n := j) (by omega), nI_clamp (n := 2 * b + j) (by omega)]
  refine ⟨0, ca_st (ca_st (ca_st σ (4, b, j) 0 (nI x)) (4, b, j) 2 (nI y)) (4, b, j) 1 0, ca_st (ca_st (ca_st τ (21, 2, 0) (2 * b + j) (nI x)) (21, 3, 0) (2 * b + j) (nI y)) (21, 4, 0) (2 * b + j) 0, rfl, rfl, cu (cu (cu α 30 b j x) 32 b j y) 31 b j 0, ⟨?_, ?_, ?_, by have := hI.2.2.2.1; simpa [CI4, cu] using this, fun i b hi hb => by have := hI.2.2.2.2 i b (by simpa [cu] using hi) hb; simpa [cu] using this⟩, ⟨?_, fun b hb => by have := hC.2.1 b hb; simpa [ca_st, ca_sl, cu, cz_mk] using this, ?_, fun l hl => by have := hC.2.2.2.1 l (by simpa [cu] using hl); simpa [ca_st, ca_sl, cu, cz_mk] using this, fun i b hi hb => by have := hC.2.2.2.2 i b (by simpa [cu] using hi) hb; simpa [ca_st, ca_sl, cu, cz_mk] using this⟩, ⟨?_, fun b hb => by have := hM.2.1 b hb; simpa [ca_st, ca_sl, cu, cz_mk] using this, ?_, fun l hl => by have := hM.2.2.2.1 l (by simpa [cu] using hl); simpa [ca_st, ca_sl, cu, cz_mk] using this, fun i b hi hb => by have := hM.2.2.2.2 i b (by simpa [cu] using hi) hb; simpa [ca_st, ca_sl, cu, cz_mk] using this⟩⟩
  · simpa [CI1, cu] using hI.1
  · intro b hb
    have := hI.2.1.mono (Nat.le_succ k) b hb
    simpa [cu, cz_gr] using this
  · intro b2 j2 hb3 hj3
    have := hI.2.2.1 b2 j2 hb3 hj3
    by_cases q : b2 = b ∧ j2 = j
    · obtain ⟨rfl, rfl⟩ := q
      simp [cu]
      exact ⟨hy, this.2.2.1, this.2.2.2.1, this.2.2.2.2⟩
    · simpa [cu, q] using this
  · simpa [RC1, ca_st, cu] using hC.1
  · intro b2 j2 hb3 hj3
    have := hC.2.2.1 b2 j2 hb3 hj3
    by_cases q : b2 = b ∧ j2 = j
    · obtain ⟨rfl, rfl⟩ := q
      simp [cu, ca_st]
      exact ⟨rfl, this.2.2.2.1, this.2.2.2.2.1, this.2.2.2.2.2⟩
    · simpa [cu, ca_st, q] using this
  · simpa [RM1, ca_st, cu] using hM.1
  · intro b2 j2 hb3 hj3
    have := hM.2.2.1 b2 j2 hb3 hj3
    simp only [ca_st, cu, Prod.mk.injEq, cz_par hj hj3] at this ⊢
    by_cases q : b2 = b ∧ j2 = j
    · obtain ⟨rfl, rfl⟩ := q
      simp
      exact ⟨rfl, this.2.2.2.1, this.2.2.2.2.1, this.2.2.2.2.2.1, this.2.2.2.2.2.2⟩
    · simpa [q] using this
theorem st_rule {k : Nat} {σ τ : ca_S} (h : ca_R k σ τ) : ca_St_rule ca_R k σ τ := by
  have hk := h.mono (Nat.le_succ k)
  obtain ⟨α, hI, hC, hM⟩ := h
  obtain ⟨c1, c2, c3, c4, c5, c6, c7, c8, c9, c10, c11, c12, c13⟩ := hC.1
  obtain ⟨m1, m2, m3, m4, m5, m6, m7, m8, m9, m10, m11, m12, m13⟩ := hM.1
  obtain ⟨i1, i2, i3, i4, i5, i6, i7, i8, i9, i10, i11⟩ := hI.1
  intro a1 a2
  unfold cf_X9_rule cf_X10_rule cj_X9_rule_25 cj_X10_rule_21 cj_X10_rule_53 cj_X10_rule_76
  rcases cw_C a1 0 1 0 1 rfl rfl (by decide) (by decide) with ⟨f1, f2, f3⟩ | ⟨x, -, hx, rfl, f1, f2⟩
  · have n0 : ¬ a1 = 0 := f3 0 (by decide) (by decide)
    have n1 : ¬ a1 = 1 := f3 1 (by decide) (by decide)
    rw [f2, if_neg n0, if_neg n1]
    exact ⟨-1, σ, τ, rfl, rfl, hk⟩
  rcases (show x = 0 ∨ x = 1 by omega) with rfl | rfl
  · rw [f2, if_pos (show nI 0 = 0 from rfl), if_neg (show ¬ nI 0 = 1 by decide)]
    rcases cw_C a2 0 1 0 1 rfl rfl (by decide) (by decide) with ⟨g1, g2, -⟩ | ⟨v, -, hv, rfl, g1, g2⟩
    · rw [g1]
      simp only [cz_br, cz_bi, cz_bv, cz_gd, cz_lt, if_neg (show ¬ (1 : Int32) = 0 by decide), if_pos (show nI 0 = 0 from rfl), g2, if_true]
      exact ⟨-1, σ, τ, rfl, rfl, hk⟩
    · rw [g1]
      simp only [cz_br, cz_bi, cz_bv, cz_gd, cz_lt, if_neg (show ¬ (1 : Int32) = 0 by decide), if_pos (show nI 0 = 0 from rfl), g2, if_neg (show ¬ nI 0 = 1 by decide), c3, m3]
      have hw : (if nI (α 2 0 0) = 0 then (0 : Int32) else 1) = nI (α 2 0 0) := by
        rcases (show α 2 0 0 = 0 ∨ α 2 0 0 = 1 by omega) with q | q <;> rw [q] <;> rfl
      refine ⟨nI (α 2 0 0), ca_st σ (0, 0, 0) 3 (nI v), ca_st (ca_st τ (20, 0, 0) 6 (nI v)) (20, 0, 0) 7 (nI (α 3 0 0)), rfl, ?_, cu α 2 0 0 v, ⟨?_, ?_, fun b j hb hj => by have := hI.2.2.1 b j hb hj; simpa [cu] using this, by have := hI.2.2.2.1; simpa [CI4, cu] using this, fun i b hi hb => by have := hI.2.2.2.2 i b (by simpa [cu] using hi) hb; simpa [cu] using this⟩, ⟨?_, fun b hb => by have := hC.2.1 b hb; simpa [ca_st, ca_sl, cu, cz_mk] using this, fun b j hb hj => by have := hC.2.2.1 b j hb hj; simpa [ca_st, ca_sl, cu, cz_mk] using this, fun l hl => by have := hC.2.2.2.1 l (by simpa [cu] using hl); simpa [ca_st, ca_sl, cu, cz_mk] using this, fun i b hi hb => by have := hC.2.2.2.2 i b (by simpa [cu] using hi) hb; simpa [ca_st, ca_sl, cu, cz_mk] using this⟩, ⟨?_, fun b hb => by have := hM.2.1 b hb; simpa [ca_st, ca_sl, cu, cz_mk] using this, fun b j hb hj => by have := hM.2.2.1 b j hb hj; simpa [ca_st, ca_sl, cu, cz_mk] using this, fun l hl => by have := hM.2.2.2.1 l (by simpa [cu] using hl); simpa [ca_st, ca_sl, cu, cz_mk] using this, fun i b hi hb => by have := hM.2.2.2.2 i b (by simpa [cu] using hi) hb; simpa [ca_st, ca_sl, cu, cz_mk] using this⟩⟩
      · have hb : ca_bo 0 = true := rfl
        have hb1 : ca_bo 1 = true := rfl
        have e7 : (ca_st τ (20, 0, 0) 6 0).1 (20, 0, 0) 7 = nI (α 3 0 0) := by simp [ca_st, m4]
        have e8 : (ca_st τ (20, 0, 0) 6 1).1 (20, 0, 0) 7 = nI (α 3 0 0) := by simp [ca_st, m4]
        rcases (show v = 0 ∨ v = 1 by omega) with rfl | rfl
        · simp only [if_neg (show ¬ nI 0 = 1 by decide), hb, hb1, cz_gd, e7]
          rw [← hw]
          split <;> rfl
        · simp only [if_pos (show nI 1 = 1 from rfl), hb, hb1, cz_gd, e8]
          rw [← hw]
          split <;> rfl
      · simp [CI1, cu]
        exact ⟨i1, i2, by omega, i4, i5, i6, i7, i8, i9, i10, i11⟩
      · intro b hb
        have := hI.2.1.mono (Nat.le_succ k) b hb
        simpa [cu, cz_gr] using this
      · simp [RC1, ca_st, cu]
        exact ⟨c1, c2, c4, c5, c6, c7, c8, c9, c10, c11, c12, c13⟩
      · simp [RM1, ca_st, cu]
        exact ⟨m1, m2, m5, m6, m7, m8, m9, m10, m11, m12, m13⟩
  · rw [f2, if_neg (show ¬ nI 1 = 0 by decide), if_pos (show nI 1 = 1 from rfl)]
    rcases cw_C a2 0 16 0 16 rfl rfl (by decide) (by decide) with ⟨g1, g2, -⟩ | ⟨v, -, hv, rfl, g1, g2⟩
    · rw [g1]
      simp only [cz_br, cz_bi, cz_bv, cz_gd, cz_lt, if_neg (show ¬ (1 : Int32) = 0 by decide), if_neg (show ¬ nI 1 = 0 by decide), g2, if_true]
      exact ⟨-1, σ, τ, rfl, rfl, hk⟩
    · rw [g1]
      simp only [cz_br, cz_bi, cz_bv, cz_gd, cz_lt, if_neg (show ¬ (1 : Int32) = 0 by decide), if_neg (show ¬ nI 1 = 0 by decide), g2, if_pos (show nI 1 = 1 from rfl), c4, m4, m3]
      have hb : ca_bo (nI (α 2 0 0)) = true := by
        rcases (show α 2 0 0 = 0 ∨ α 2 0 0 = 1 by omega) with q | q <;> rw [q] <;> rfl
      rw [hb]
      refine ⟨nI (α 3 0 0), ca_st σ (0, 0, 0) 4 (nI v), ca_st (ca_st τ (20, 0, 0) 6 (nI (α 2 0 0))) (20, 0, 0) 7 (nI v), rfl, rfl, cu α 3 0 0 v, ⟨?_, ?_, fun b j hb hj => by have := hI.2.2.1 b j hb hj; simpa [cu] using this, by have := hI.2.2.2.1; simpa [CI4, cu] using this, fun i b hi hb => by have := hI.2.2.2.2 i b (by simpa [cu] using hi) hb; simpa [cu] using this⟩, ⟨?_, fun b hb => by have := hC.2.1 b hb; simpa [ca_st, ca_sl, cu, cz_mk] using this, fun b j hb hj => by have := hC.2.2.1 b j hb hj; simpa [ca_st, ca_sl, cu, cz_mk] using this, fun l hl => by have := hC.2.2.2.1 l (by simpa [cu] using hl); simpa [ca_st, ca_sl, cu, cz_mk] using this, fun i b hi hb => by have := hC.2.2.2.2 i b (by simpa [cu] using hi) hb; simpa [ca_st, ca_sl, cu, cz_mk] using this⟩, ⟨?_, fun b hb => by have := hM.2.1 b hb; simpa [ca_st, ca_sl, cu, cz_mk] using this, fun b j hb hj => by have := hM.2.2.1 b j hb hj; simpa [ca_st, ca_sl, cu, cz_mk] using this, fun l hl => by have := hM.2.2.2.1 l (by simpa [cu] using hl); simpa [ca_st, ca_sl, cu, cz_mk] using this, fun i b hi hb => by have := hM.2.2.2.2 i b (by simpa [cu] using hi) hb; simpa [ca_st, ca_sl, cu, cz_mk] using this⟩⟩
      · simp [CI1, cu]
        exact ⟨i1, i2, i3, by omega, i5, i6, i7, i8, i9, i10, i11⟩
      · intro b hb
        have := hI.2.1.mono (Nat.le_succ k) b hb
        simpa [cu, cz_gr] using this
      · simp [RC1, ca_st, cu]
        exact ⟨c1, c2, c3, c5, c6, c7, c8, c9, c10, c11, c12, c13⟩
      · simp [RM1, ca_st, cu]
        exact ⟨m1, m2, m5, m6, m7, m8, m9, m10, m11, m12, m13⟩
