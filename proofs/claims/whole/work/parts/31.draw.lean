theorem bc_C {D : Nat} (h : D < 65536) : cf_J6_bitCount_0f7a4 (nI D) = some (nI (cz_ct (cz_tb D) 16)) := by
  rw [← cz_bc_pq h]
  unfold cf_J6_bitCount_0f7a4
  simp only [cz_lt]
  have l1 : ∀ a b : Nat, a &&& b ≤ a := fun a b => Nat.and_le_left
  have e1 : nI D - (((Int32.toUInt32 (nI D) >>> (Int32.toUInt32 1 &&& Int32.toUInt32 31)).toInt32) &&& 1431655765) = nI (D - (D / 2 &&& 1431655765)) := by
    rw [pk_ushrN (by omega) 1 1 (by decide), show (1431655765 : Int32) = nI 1431655765 from rfl, cz_and, pk_sub]
    have := l1 (D / 2 ^ 1) 1431655765
    omega
  rw [e1]
  obtain ⟨v1, hv1⟩ : ∃ v, v = D - (D / 2 &&& 1431655765) := ⟨_, rfl⟩
  have b1 : v1 < 65536 := by omega
  rw [← hv1]
  have e2 : (nI v1 &&& 858993459) + (((Int32.toUInt32 (nI v1) >>> (Int32.toUInt32 2 &&& Int32.toUInt32 31)).toInt32) &&& 858993459) = nI ((v1 &&& 858993459) + (v1 / 4 &&& 858993459)) := by
    rw [pk_ushrN (by omega) 2 2 (by decide), show (858993459 : Int32) = nI 858993459 from rfl, cz_and, cz_and, nI_add]
  rw [e2]
  obtain ⟨v2, hv2⟩ : ∃ v, v = (v1 &&& 858993459) + (v1 / 4 &&& 858993459) := ⟨_, rfl⟩
  have b2 : v2 < 131072 := by
    have := l1 v1 858993459
    have := l1 (v1 / 4) 858993459
    omega
  rw [← hv2]
  have e3 : (nI v2 + ((Int32.toUInt32 (nI v2) >>> (Int32.toUInt32 4 &&& Int32.toUInt32 31)).toInt32)) &&& 252645135 = nI ((v2 + v2 / 16) &&& 252645135) := by
    rw [pk_ushrN (by omega) 4 4 (by decide), nI_add, show (252645135 : Int32) = nI 252645135 from rfl, cz_and]
  rw [e3]
  obtain ⟨v3, hv3⟩ : ∃ v, v = (v2 + v2 / 16) &&& 252645135 := ⟨_, rfl⟩
  have b3 : v3 < 262144 := by
    have := l1 (v2 + v2 / 16) 252645135
    omega
  rw [← hv3]
  have e4 : nI v3 + ((Int32.toUInt32 (nI v3) >>> (Int32.toUInt32 8 &&& Int32.toUInt32 31)).toInt32) = nI (v3 + v3 / 256) := by
    rw [pk_ushrN (by omega) 8 8 (by decide), nI_add]
  rw [e4]
  obtain ⟨v4, hv4⟩ : ∃ v, v = v3 + v3 / 256 := ⟨_, rfl⟩
  have b4 : v4 < 524288 := by omega
  rw [← hv4]
  have e5 : nI v4 + ((Int32.toUInt32 (nI v4) >>> (Int32.toUInt32 16 &&& Int32.toUInt32 31)).toInt32) = nI (v4 + v4 / 65536) := by
    rw [pk_ushrN (by omega) 16 16 (by decide), nI_add]
  rw [e5, show (63 : Int32) = nI 63 from rfl, cz_and]
  rw [hv4, hv3, hv2, hv1]
  rfl
theorem cz_s1 : ∀ i, i < 31 → ((nI i &&& 31).toBitVec.smod 32).toNat = i := by decide +kernel
theorem cz_b1 {D i : Nat} (hD : D < 2 ^ 31) (hi : i < 31) : (nI D >>> (nI i &&& 31)) &&& 1 = nI (D / 2 ^ i % 2) := by
  rw [pk_shrN hD _ i (cz_s1 i hi), pk_andN (by have := Nat.div_le_self D (2 ^ i); omega) 1 (by decide)]
theorem cz_b1_0 {D i : Nat} (hD : D < 2 ^ 31) (hi : i < 31) : ((nI D >>> (nI i &&& 31)) &&& 1 = 0) = (cz_tb D i = false) := by
  rw [cz_b1 hD hi]
  unfold cz_tb
  rcases Nat.mod_two_eq_zero_or_one (D / 2 ^ i) with h | h <;> simp [h, nI]
theorem cz_b1_1 {D i : Nat} (hD : D < 2 ^ 31) (hi : i < 31) : ((nI D >>> (nI i &&& 31)) &&& 1 = 1) = (cz_tb D i = true) := by
  rw [cz_b1 hD hi]
  unfold cz_tb
  rcases Nat.mod_two_eq_zero_or_one (D / 2 ^ i) with h | h <;> simp [h, nI]
theorem so_M {D : Nat} (h : D < 2 ^ 31) : cf_X10_sizeOf (nI D) = some (nI (cz_ct (cz_tb D) 16)) := by
  unfold cf_X10_sizeOf
  obtain ⟨s', h1, h2⟩ := cz_loop (fun f (s : Int32) y => cl_X10_sizeOf_4 (nI D) (fun x => some x) f s y) 16 0 (fun i s => s = nI (cz_ct (cz_tb D) i)) (fun s => some s) (Nat.zero_le _) (by omega) (fun i s _ hi hs => by
    refine ⟨nI (cz_ct (cz_tb D) (i + 1)), fun f => ?_, rfl⟩
    show cl_X10_sizeOf_4 (nI D) _ (f + 1) s (nI i) = _
    rw [cl_X10_sizeOf_4, if_neg (show ¬ (16 : Int32) ≤ nI i from nI_ge (b := 16) hi (by omega)), cz_b1 h (by omega), nI_1, hs, nI_add]
    have e : cz_ct (cz_tb D) (i + 1) = cz_ct (cz_tb D) i + D / 2 ^ i % 2 := by
      show cz_ct (cz_tb D) i + (if cz_tb D i = true then 1 else 0) = _
      congr 1
      unfold cz_tb
      rcases Nat.mod_two_eq_zero_or_one (D / 2 ^ i) with q | q <;> simp [q]
    rw [e]) (fun f s hs => by
    show cl_X10_sizeOf_4 (nI D) _ (f + 1) s (nI 16) = _
    rw [cl_X10_sizeOf_4, if_pos (show (16 : Int32) ≤ nI 16 from Int32.le_refl _)]) (nI 0) rfl
  exact h1.trans (by rw [h2])
theorem cz_tb_hi {D n i : Nat} (h : D < 2 ^ n) (hi : n ≤ i) : cz_tb D i = false := by
  have : D < 2 ^ i := Nat.lt_of_lt_of_le h (Nat.pow_le_pow_right (by decide) hi)
  unfold cz_tb
  rw [Nat.div_eq_of_lt this]
  rfl
theorem cz_ct_cut {p : Nat → Bool} {n : Nat} (h : ∀ i, n ≤ i → p i = false) : ∀ m, cz_ct p (n + m) = cz_ct p n
  | 0 => rfl
  | m + 1 => by
    have e : cz_ct p (n + (m + 1)) = cz_ct p (n + m) + (if p (n + m) then 1 else 0) := rfl
    rw [e, h (n + m) (by omega), cz_ct_cut h m]
    simp
theorem cz_ct_not (p : Nat → Bool) : ∀ n, cz_ct p n + cz_ct (fun i => !p i) n = n
  | 0 => rfl
  | n + 1 => by
    have := cz_ct_not p n
    unfold cz_ct
    cases p n <;> simp <;> omega
theorem cz_kth {p : Nat → Bool} {k : Nat} : ∀ {n : Nat}, k < cz_ct p n → ∃ i, i < n ∧ p i = true ∧ cz_ct p i = k
  | 0, h => absurd h (Nat.not_lt_zero k)
  | n + 1, h => by
    rcases Nat.lt_or_ge k (cz_ct p n) with q | q
    · obtain ⟨i, h1, h2⟩ := cz_kth q
      exact ⟨i, by omega, h2⟩
    · unfold cz_ct at h
      cases hp : p n with
      | false =>
        rw [hp] at h
        simp at h
        omega
      | true =>
        rw [hp] at h
        simp at h
        exact ⟨n, by omega, hp, by omega⟩
theorem cz_ct_mono {p : Nat → Bool} {i : Nat} : ∀ {j : Nat}, i ≤ j → cz_ct p i ≤ cz_ct p j
  | 0, h => by
    have : i = 0 := by omega
    subst this
    exact Nat.le_refl _
  | j + 1, h => by
    rcases Nat.lt_or_ge j i with q | q
    · have : i = j + 1 := by omega
      subst this
      exact Nat.le_refl _
    · have := cz_ct_mono (p := p) q
      have e : cz_ct p (j + 1) = cz_ct p j + (if p j = true then 1 else 0) := rfl
      rw [e]
      omega
/-- the clear bit with so many clear ones below it: the class's search, the reference's -/
theorem cb_C {D n pl b : Nat} (hD : D < 2 ^ 31) (hn : n ≤ 16) (hb : b < n) (h1 : cz_tb D b = false) (h2 : cz_ct (fun i => !cz_tb D i) b = pl) : cf_X9_clearBit (nI D) (nI pl) (nI n) = some (nI b) := by
  unfold cf_X9_clearBit
  have hpl : pl ≤ b := by rw [← h2]; exact cz_ct_le _ _
  obtain ⟨s', h3, h4⟩ := cz_loop (fun f (s : Int32) y => cl_X9_clearBit_5 (nI D) (nI pl) (nI n) (some 0) f s y) b 0 (fun i s => s = nI (cz_ct (fun i => !cz_tb D i) i)) (fun _ => some (nI b)) (Nat.zero_le _) (by omega) (fun i s _ hi hs => by
    refine ⟨nI (cz_ct (fun i => !cz_tb D i) (i + 1)), fun f => ?_, rfl⟩
    show cl_X9_clearBit_5 (nI D) (nI pl) (nI n) (some 0) (f + 1) s (nI i) = _
    rw [cl_X9_clearBit_5, if_neg (nI_ge (by omega) (by omega))]
    simp only [cz_b1_0 hD (show i < 31 by omega), nI_1]
    have hle : cz_ct (fun i => !cz_tb D i) i ≤ i := cz_ct_le _ _
    by_cases g : cz_tb D i = false
    · have hlt : cz_ct (fun i => !cz_tb D i) i < pl := by
        have e : cz_ct (fun i => !cz_tb D i) (i + 1) = cz_ct (fun i => !cz_tb D i) i + 1 := by
          simp [cz_ct, g]
        have := cz_ct_mono (p := fun i => !cz_tb D i) (show i + 1 ≤ b by omega)
        omega
      have ne : ¬ nI (cz_ct (fun i => !cz_tb D i) i) = nI pl := fun e => by
        have := (nI_eq (by omega) (by omega)).mp e
        omega
      rw [if_pos g, hs, if_neg ne]
      simp [cz_ct, g, nI_succ]
    · have g' : cz_tb D i = true := by
        cases q : cz_tb D i with
        | true => rfl
        | false => exact absurd q g
      rw [if_neg g, hs]
      simp [cz_ct, g']) (fun f s hs => by
    show cl_X9_clearBit_5 (nI D) (nI pl) (nI n) (some 0) (f + 1) s (nI b) = _
    rw [cl_X9_clearBit_5, if_neg (nI_ge (by omega) (by omega))]
    simp only [cz_b1_0 hD (show b < 31 by omega)]
    rw [if_pos h1, hs, h2, if_pos rfl]) (nI 0) rfl
  exact h3
theorem cb_M {τ : ca_S} {D pl b : Nat} (hD : D < 2 ^ 31) (hb : b < 16) (hm : τ.1 (20, 0, 0) 30 = nI D) (h1 : cz_tb D b = false) (h2 : cz_ct (fun i => !cz_tb D i) b = pl) (K : Int32 → Option (Int32 × ca_S)) : cl_X10_draw_59 τ K ca_FU (nI pl) 0 = K (nI b) := by
  have hpl : pl ≤ b := by rw [← h2]; exact cz_ct_le _ _
  obtain ⟨s', h3, h4⟩ := cz_loop (fun f (s : Int32) y => cl_X10_draw_59 τ K f s y) b 0 (fun i s => s = nI (pl - cz_ct (fun i => !cz_tb D i) i)) (fun _ => K (nI b)) (Nat.zero_le _) (by omega) (fun i s _ hi hs => by
    refine ⟨nI (pl - cz_ct (fun i => !cz_tb D i) (i + 1)), fun f => ?_, rfl⟩
    show cl_X10_draw_59 τ K (f + 1) s (nI i) = _
    rw [cl_X10_draw_59, hm]
    unfold cj_X10_draw_75
    rw [hm]
    simp only [cz_b1_1 hD (show i < 31 by omega), nI_1]
    by_cases g : cz_tb D i = true
    · have e : cz_ct (fun i => !cz_tb D i) (i + 1) = cz_ct (fun i => !cz_tb D i) i := by
        simp [cz_ct, g]
      rw [if_pos g, if_pos g, hs, e]
      simp
    · have g' : cz_tb D i = false := by
        cases q : cz_tb D i with
        | true => exact absurd q g
        | false => rfl
      have e : cz_ct (fun i => !cz_tb D i) (i + 1) = cz_ct (fun i => !cz_tb D i) i + 1 := by
        simp [cz_ct, g']
      have := cz_ct_mono (p := fun i => !cz_tb D i) (show i + 1 ≤ b by omega)
      have gp : ¬ nI (pl - cz_ct (fun i => !cz_tb D i) i) ≤ 0 := nI_nle (by omega) (by omega)
      rw [if_neg g, hs, if_neg gp, if_neg g, e]
      have e2 : nI (pl - cz_ct (fun i => !cz_tb D i) i) - 1 = nI (pl - (cz_ct (fun i => !cz_tb D i) i + 1)) := by
        have := nI_pred (pl - (cz_ct (fun i => !cz_tb D i) i + 1))
        rw [← this]
        congr 2
        omega
      rw [e2]) (fun f s hs => by
    show cl_X10_draw_59 τ K (f + 1) s (nI b) = _
    rw [cl_X10_draw_59, hm]
    simp only [cz_b1_1 hD (show b < 31 by omega)]
    rw [if_neg (by rw [h1]; simp), hs, h2, Nat.sub_self, if_pos (show nI 0 ≤ 0 from Int32.le_refl _)]) (nI pl) (by simp [cz_ct])
  exact h3
theorem st_draw {k : Nat} {σ τ : ca_S} (h : ca_R k σ τ) : ca_St_draw ca_R k σ τ := by
  have hk := h.mono (Nat.le_succ k)
  obtain ⟨α, hI, hC, hM⟩ := h
  obtain ⟨c1, c2, c3, c4, c5, c6, c7, c8, c9, c10, c11, c12, c13⟩ := hC.1
  obtain ⟨m1, m2, m3, m4, m5, m6, m7, m8, m9, m10, m11, m12, m13⟩ := hM.1
  obtain ⟨i1, i2, i3, i4, i5, i6, i7, i8, i9, i10, i11⟩ := hI.1
  unfold ca_St_draw cf_X9_draw cf_X10_draw cf_X4_next
  have hD : α 10 0 0 < 65536 := by
    have : 2 ^ α 0 0 0 ≤ 2 ^ 16 := Nat.pow_le_pow_right (by decide) i1
    omega
  have hD31 : α 10 0 0 < 2 ^ 31 := by omega
  rw [c1, c12, c13, m1, m12, m13, bc_C hD, so_M hD31]
  have hs0 : (lN (α 11 0 0) = 0) = (α 11 0 0 = 0) := propext (by rw [show (0 : Int64) = lN 0 from rfl]; exact pk_lEQ (by omega) (by decide))
  simp only [hs0, cz_br]
  by_cases g0 : α 11 0 0 = 0
  · simp only [if_pos g0]
    exact ⟨-2, σ, τ, rfl, rfl, hk⟩
  simp only [if_neg g0]
  have hpc : cz_ct (cz_tb (α 10 0 0)) 16 = cz_ct (cz_tb (α 10 0 0)) (α 0 0 0) := by
    have := cz_ct_cut (p := cz_tb (α 10 0 0)) (n := α 0 0 0) (fun i hi => cz_tb_hi i10 hi) (16 - α 0 0 0)
    rw [show α 0 0 0 + (16 - α 0 0 0) = 16 by omega] at this
    exact this
  have hle : cz_ct (cz_tb (α 10 0 0)) (α 0 0 0) ≤ α 0 0 0 := cz_ct_le _ _
  have hnot := cz_ct_not (cz_tb (α 10 0 0)) (α 0 0 0)
  rw [hpc, pk_sub hle]
  obtain ⟨L, hL⟩ : ∃ L, L = α 0 0 0 - cz_ct (cz_tb (α 10 0 0)) (α 0 0 0) := ⟨_, rfl⟩
  rw [← hL]
  by_cases gl : L = 0
  · rw [gl, if_neg (show ¬ (0 : Int32) < nI 0 by decide), if_pos (show nI 0 = 0 from rfl)]
    exact ⟨-4, σ, τ, rfl, rfl, hk⟩
  have gp : (0 : Int32) < nI L := nI_lt (a := 0) (by omega) (by omega)
  have gn : ¬ nI L = 0 := nI_ne0 (by omega) (by omega)
  have eL : (nI L).toInt64 = lN L := nI_l (by omega)
  have hL0 : ¬ lN L = 0 := fun e => by
    have : lN L = lN 0 := e
    have := (pk_lEQ (by omega) (by decide)).mp this
    omega
  have es : lN (α 11 0 0) * 48271 - lN (α 11 0 0) * 48271 / 2147483647 * 2147483647 = lN (α 11 0 0 * 48271 % 2147483647) := by
    rw [show (48271 : Int64) = lN 48271 from rfl, show (2147483647 : Int64) = lN 2147483647 from rfl, lN_mul, pk_lRem (by omega) (by decide) (by decide)]
  obtain ⟨S, hS⟩ : ∃ S, S = α 11 0 0 * 48271 % 2147483647 := ⟨_, rfl⟩
  have hS1 : S < 2147483647 := by
    rw [hS]
    exact Nat.mod_lt _ (by decide)
  have ep : (lN S - lN S / lN L * lN L).toInt32 = nI (S % L) := by
    rw [pk_lRem (by omega) (by omega) (by omega), lN_i]
  have hpl : S % L < L := Nat.mod_lt _ (by omega)
  obtain ⟨b, hb, hb1, hb2⟩ := cz_kth (p := fun i => !cz_tb (α 10 0 0) i) (k := S % L) (n := α 0 0 0) (by omega)
  have hb1 : cz_tb (α 10 0 0) b = false := by
    cases q : cz_tb (α 10 0 0) b with
    | true => rw [q] at hb1; cases hb1
    | false => rfl
  rw [es, ← hS, eL]
  simp only [cz_br, cz_bi, cz_bv, cz_gd, cz_lt, if_pos gp, if_neg gn, if_neg hL0, if_neg (show ¬ (2147483647 : Int64) = 0 by decide), if_neg (show ¬ (2147483647 : Nat) = 0 by decide), if_neg (show ¬ (2147483647 : Int32) = 0 by decide)]
  have q1 : (ca_sl σ (lN S)).1 (13, 0, 0) 1 = nI (α 10 0 0) := by simp [ca_sl, c12]
  have q2 : (ca_sl σ (lN S)).2 = lN S := rfl
  have q3 : (ca_sl τ (lN S)).2 = lN S := rfl
  have q4 : (ca_sl τ (lN S)).1 (20, 0, 0) 30 = nI (α 10 0 0) := by simp [ca_sl, m12]
  simp only [q1, q2, q3]
  rw [ep, cb_C hD31 i1 hb hb1 hb2, cb_M hD31 (by omega) q4 hb1 hb2, q4]
  simp only [cz_br, cz_bi, cz_bv, cz_gd, cz_lt, cz_sh1 b (show b < 31 by omega), cz_or]
  refine ⟨nI b, ca_st (ca_sl σ (lN S)) (13, 0, 0) 1 (nI (α 10 0 0 ||| 2 ^ b)), ca_st (ca_sl τ (lN S)) (20, 0, 0) 30 (nI (α 10 0 0 ||| 2 ^ b)), rfl, rfl, cu (cu α 11 0 0 S) 10 0 0 (α 10 0 0 ||| 2 ^ b), ⟨?_, ?_, fun b j hb hj => by have := hI.2.2.1 b j hb hj; simpa [cu] using this, by have := hI.2.2.2.1; simpa [CI4, cu] using this, fun i b hi hb => by have := hI.2.2.2.2 i b (by simpa [cu] using hi) hb; simpa [cu] using this⟩, ⟨?_, fun b hb => by have := hC.2.1 b hb; simpa [ca_st, ca_sl, cu, cz_mk] using this, fun b j hb hj => by have := hC.2.2.1 b j hb hj; simpa [ca_st, ca_sl, cu, cz_mk] using this, fun l hl => by have := hC.2.2.2.1 l (by simpa [cu] using hl); simpa [ca_st, ca_sl, cu, cz_mk] using this, fun i b hi hb => by have := hC.2.2.2.2 i b (by simpa [cu] using hi) hb; simpa [ca_st, ca_sl, cu, cz_mk] using this⟩, ⟨?_, fun b hb => by have := hM.2.1 b hb; simpa [ca_st, ca_sl, cu, cz_mk] using this, fun b j hb hj => by have := hM.2.2.1 b j hb hj; simpa [ca_st, ca_sl, cu, cz_mk] using this, fun l hl => by have := hM.2.2.2.1 l (by simpa [cu] using hl); simpa [ca_st, ca_sl, cu, cz_mk] using this, fun i b hi hb => by have := hM.2.2.2.2 i b (by simpa [cu] using hi) hb; simpa [ca_st, ca_sl, cu, cz_mk] using this⟩⟩
  · simp [CI1, cu]
    refine ⟨i1, i2, i3, i4, i5, i6, i7, i8, i9, ?_, hS1⟩
    exact Nat.or_lt_two_pow i10 (Nat.pow_lt_pow_right (by decide) hb)
  · intro b hb
    have := hI.2.1.mono (Nat.le_succ k) b hb
    simpa [cu, cz_gr] using this
  · simp [RC1, ca_st, ca_sl, cu]
    exact ⟨c1, c2, c3, c4, c5, c6, c7, c8, c9, c10, c11⟩
  · simp [RM1, ca_st, ca_sl, cu]
    exact ⟨m1, m2, m3, m4, m5, m6, m7, m8, m9, m10, m11⟩
