-- ===== bits of plain numbers (fa_and, fa_or: out of kit/laws/NUMBERS.to-paste) =====
theorem cz_and (a b : Nat) : nI a &&& nI b = nI (a &&& b) := by
  apply Int32.toBitVec_inj.1
  show BitVec.ofNat 32 a &&& BitVec.ofNat 32 b = BitVec.ofNat 32 (a &&& b)
  apply BitVec.eq_of_getLsbD_eq
  intro i hi
  simp [hi]
theorem cz_or (a b : Nat) : nI a ||| nI b = nI (a ||| b) := by
  apply Int32.toBitVec_inj.1
  show BitVec.ofNat 32 a ||| BitVec.ofNat 32 b = BitVec.ofNat 32 (a ||| b)
  apply BitVec.eq_of_getLsbD_eq
  intro i hi
  simp [hi]
theorem cz_sh1 : ∀ d, d < 31 → (1 : Int32) <<< (nI d &&& 31) = nI (2 ^ d) := by decide +kernel
theorem cz_s3 : ∀ i, i < 10 → (((3 * nI i) &&& 31).toBitVec.smod 32).toNat = 3 * i := by decide +kernel
theorem cz_sr {a i : Nat} (ha : a < 2 ^ 31) (hi : i < 10) : nI a >>> ((3 * nI i) &&& 31) = nI (a / 8 ^ i) := by
  rw [pk_shrN ha _ (3 * i) (cz_s3 i hi), Nat.pow_mul]
theorem cz_dig {a i : Nat} (ha : a < 2 ^ 31) (hi : i < 10) : (nI a >>> ((3 * nI i) &&& 31)) &&& 7 = nI (a / 8 ^ i % 8) := by
  rw [cz_sr ha hi, pk_andN (by have := Nat.div_le_self a (8 ^ i); omega) 3 (by decide)]
/-- whether a number is an answer of the kind that is asked: both sides say it alike -/
theorem cw_takes {k : Nat} {α : ca_A} {σ τ : ca_S} (hI : CI k α) (hC : RC α σ) (hM : RM α τ) (x : Int32) : (cf_X7_takes σ x = some 0 ∧ cf_X10_isAnswer τ x = some 0) ∨ ∃ a, x = nI a ∧ cz_ok (α 5 0 0) (α 6 0 0) a ∧ cf_X7_takes σ x = some 1 ∧ cf_X10_isAnswer τ x = some 1 := by
  obtain ⟨c1, c2, c3, c4, c5, c6, c7, c8, c9, c10, c11, c12, c13⟩ := hC.1
  obtain ⟨m1, m2, m3, m4, m5, m6, m7, m8, m9, m10, m11, m12, m13⟩ := hM.1
  obtain ⟨i1, i2, i3, i4, i5, i6, i7, i8, i9, i10, i11⟩ := hI.1
  unfold cf_X7_takes cf_X10_isAnswer
  rw [c7, m7]
  rcases (show α 5 0 0 = 0 ∨ α 5 0 0 = 1 ∨ α 5 0 0 = 2 by omega) with q | q | q
  · rw [q, if_pos (show nI 0 = 0 from rfl), if_neg (show ¬ (2 : Int32) ≤ nI 0 by decide), if_pos (show nI 0 = 0 from rfl)]
    rcases cw_C x 0 7 0 7 rfl rfl (by decide) (by decide) with ⟨f1, f2, -⟩ | ⟨a, -, ha, rfl, f1, f2⟩
    · rw [f1, f2]
      exact Or.inl ⟨rfl, rfl⟩
    · rw [f1, f2]
      exact Or.inr ⟨a, rfl, ⟨by omega, fun _ => ha, fun h => by omega⟩, rfl, rfl⟩
  · rw [q, if_neg (show ¬ nI 1 = 0 by decide), if_pos (show nI 1 = 1 from rfl), if_neg (show ¬ (2 : Int32) ≤ nI 1 by decide), if_neg (show ¬ nI 1 = 0 by decide)]
    rcases cw_C x 0 100000 0 100000 rfl rfl (by decide) (by decide) with ⟨f1, f2, -⟩ | ⟨a, -, ha, rfl, f1, f2⟩
    · rw [f1, f2]
      exact Or.inl ⟨rfl, rfl⟩
    · rw [f1, f2]
      exact Or.inr ⟨a, rfl, ⟨by omega, fun h => by omega, fun h => by omega⟩, rfl, rfl⟩
  · rw [q, if_neg (show ¬ nI 2 = 0 by decide), if_neg (show ¬ nI 2 = 1 by decide), if_pos (show (2 : Int32) ≤ nI 2 by decide)]
    have ct := c8 q
    have mt := m8 q
    have ht := i7 q
    unfold cf_X7_isOrder
    rw [ct, mt]
    by_cases g : x < 0
    · obtain ⟨s', h1, -⟩ := cz_loop (fun f (s : Int32) y => cl_X10_isAnswer_32 τ x (fun x6 => (if x < 0 then (some 0) else (if (x >>> ((3 * nI (α 6 0 0)) &&& 31)) = 0 then (if x6 = ((1 <<< (nI (α 6 0 0) &&& 31)) - 1) then (some 1) else (some 0)) else (some 0)))) f s y) (α 6 0 0) 0 (fun _ _ => True) (fun _ => some 0) (Nat.zero_le _) (by omega) (fun i s _ hi _ => by
        refine ⟨s ||| (1 <<< (((x >>> ((3 * nI i) &&& 31)) &&& 7) &&& 31)), fun f => ?_, trivial⟩
        show cl_X10_isAnswer_32 τ x _ (f + 1) s (nI i) = _
        rw [cl_X10_isAnswer_32, mt, if_neg (nI_ge hi (by omega)), nI_1]
        rfl) (fun f s _ => by
        show cl_X10_isAnswer_32 τ x _ (f + 1) s (nI (α 6 0 0)) = _
        rw [cl_X10_isAnswer_32, mt, if_pos (Int32.le_refl _), if_pos g]) (nI 0) trivial
      refine Or.inl ⟨?_, ?_⟩
      · rw [if_pos g]
        rfl
      · exact h1
    · obtain ⟨a, ha, rfl⟩ := nI_of g
      rw [if_neg g]
      have hK : ∀ v : Nat, v < 256 → ((nI v = ((1 : Int32) <<< (nI (α 6 0 0) &&& 31)) - 1) = (v = 2 ^ α 6 0 0 - 1)) := by
        intro v hv
        have e : ((1 : Int32) <<< (nI (α 6 0 0) &&& 31)) - 1 = nI (2 ^ α 6 0 0 - 1) := by
          rcases (show α 6 0 0 = 2 ∨ α 6 0 0 = 3 ∨ α 6 0 0 = 4 ∨ α 6 0 0 = 5 by omega) with z | z | z | z <;> rw [z] <;> rfl
        have : 2 ^ α 6 0 0 ≤ 32 := by
          rcases (show α 6 0 0 = 2 ∨ α 6 0 0 = 3 ∨ α 6 0 0 = 4 ∨ α 6 0 0 = 5 by omega) with z | z | z | z <;> rw [z] <;> decide
        rw [e, cz_eqn (by omega) (by omega)]
      have hseen : ∀ i, cz_seen a i < 256 := by
        intro i
        induction i with
        | zero => simp [cz_seen]
        | succ i ih =>
          unfold cz_seen
          have h2 : 2 ^ (a / 8 ^ i % 8) < 2 ^ 8 := Nat.pow_lt_pow_right (by decide) (Nat.mod_lt _ (by decide))
          exact Nat.or_lt_two_pow (n := 8) ih h2
      have hstep : ∀ i, i < α 6 0 0 → nI (cz_seen a i) ||| ((1 : Int32) <<< (((nI a >>> ((3 * nI i) &&& 31)) &&& 7) &&& 31)) = nI (cz_seen a (i + 1)) := by
        intro i hi
        rw [cz_dig ha (by omega), cz_sh1 _ (by have := Nat.mod_lt (a / 8 ^ i) (show 0 < 8 by decide); omega), cz_or]
        rfl
      have hdiv : (nI a >>> ((3 * nI (α 6 0 0)) &&& 31) = 0) = (a < 8 ^ α 6 0 0) := by
        rw [cz_sr ha (by omega), show (0 : Int32) = nI 0 from rfl]
        apply propext
        have hd := Nat.div_le_self a (8 ^ α 6 0 0)
        rw [nI_eq (by omega) (by decide)]
        have hp : 0 < 8 ^ α 6 0 0 := Nat.pow_pos (by decide)
        constructor
        · intro h
          rcases Nat.lt_or_ge a (8 ^ α 6 0 0) with z | z
          · exact z
          · have := Nat.div_pos z hp
            omega
        · intro h
          exact Nat.div_eq_of_lt h
      obtain ⟨s1, h1, h2⟩ := cz_loop (fun f (s : Int32) y => cl_X7_isOrder_21 σ (nI a) (fun x8 => (if x8 = ((1 <<< (nI (α 6 0 0) &&& 31)) - 1) then (some 1) else (some 0))) f s y) (α 6 0 0) 0 (fun i s => s = nI (cz_seen a i)) (fun s => (if s = ((1 <<< (nI (α 6 0 0) &&& 31)) - 1) then (some 1) else (some 0))) (Nat.zero_le _) (by omega) (fun i s _ hi hs => by
        refine ⟨nI (cz_seen a (i + 1)), fun f => ?_, rfl⟩
        show cl_X7_isOrder_21 σ (nI a) _ (f + 1) s (nI i) = _
        rw [cl_X7_isOrder_21, ct, if_neg (nI_ge hi (by omega)), nI_1, hs, hstep i hi]
        rfl) (fun f s _ => by
        show cl_X7_isOrder_21 σ (nI a) _ (f + 1) s (nI (α 6 0 0)) = _
        rw [cl_X7_isOrder_21, ct, if_pos (Int32.le_refl _)]) (nI 0) rfl
      obtain ⟨s2, h3, h4⟩ := cz_loop (fun f (s : Int32) y => cl_X10_isAnswer_32 τ (nI a) (fun x6 => (if nI a < 0 then (some 0) else (if (nI a >>> ((3 * nI (α 6 0 0)) &&& 31)) = 0 then (if x6 = ((1 <<< (nI (α 6 0 0) &&& 31)) - 1) then (some 1) else (some 0)) else (some 0)))) f s y) (α 6 0 0) 0 (fun i s => s = nI (cz_seen a i)) (fun s => (if (nI a >>> ((3 * nI (α 6 0 0)) &&& 31)) = 0 then (if s = ((1 <<< (nI (α 6 0 0) &&& 31)) - 1) then (some 1) else (some 0)) else (some 0))) (Nat.zero_le _) (by omega) (fun i s _ hi hs => by
        refine ⟨nI (cz_seen a (i + 1)), fun f => ?_, rfl⟩
        show cl_X10_isAnswer_32 τ (nI a) _ (f + 1) s (nI i) = _
        rw [cl_X10_isAnswer_32, mt, if_neg (nI_ge hi (by omega)), nI_1, hs, hstep i hi]
        rfl) (fun f s _ => by
        show cl_X10_isAnswer_32 τ (nI a) _ (f + 1) s (nI (α 6 0 0)) = _
        rw [cl_X10_isAnswer_32, mt, if_pos (Int32.le_refl _), if_neg g]) (nI 0) rfl
      have h1 : cl_X7_isOrder_21 σ (nI a) (fun x8 => (if x8 = ((1 <<< (nI (α 6 0 0) &&& 31)) - 1) then (some 1) else (some 0))) ca_FU 0 0 = _ := h1
      have h3 : cl_X10_isAnswer_32 τ (nI a) (fun x6 => (if nI a < 0 then (some 0) else (if (nI a >>> ((3 * nI (α 6 0 0)) &&& 31)) = 0 then (if x6 = ((1 <<< (nI (α 6 0 0) &&& 31)) - 1) then (some 1) else (some 0)) else (some 0)))) ca_FU 0 0 = _ := h3
      rw [h1, h3, h2, h4]
      simp only [hdiv, hK _ (hseen (α 6 0 0))]
      by_cases z1 : a < 8 ^ α 6 0 0
      · by_cases z2 : cz_seen a (α 6 0 0) = 2 ^ α 6 0 0 - 1
        · simp only [if_pos z1, if_pos z2]
          refine Or.inr ⟨a, rfl, ⟨?_, fun h => by omega, fun _ => ⟨z1, z2⟩⟩, rfl, trivial⟩
          have : 8 ^ α 6 0 0 ≤ 32768 := by
            rcases (show α 6 0 0 = 2 ∨ α 6 0 0 = 3 ∨ α 6 0 0 = 4 ∨ α 6 0 0 = 5 by omega) with z | z | z | z <;> rw [z] <;> decide
          omega
        · simp only [if_pos z1, if_neg z2]
          exact Or.inl ⟨rfl, trivial⟩
      · simp only [if_neg z1]
        exact Or.inl ⟨rfl, trivial⟩
theorem st_send {k : Nat} {σ τ : ca_S} (hk0 : k < 512) (h : ca_R k σ τ) : ca_St_send ca_R k σ τ := by
  have hk := h.mono (Nat.le_succ k)
  obtain ⟨α, hI, hC, hM⟩ := h
  obtain ⟨c1, c2, c3, c4, c5, c6, c7, c8, c9, c10, c11, c12, c13⟩ := hC.1
  obtain ⟨m1, m2, m3, m4, m5, m6, m7, m8, m9, m10, m11, m12, m13⟩ := hM.1
  obtain ⟨i1, i2, i3, i4, i5, i6, i7, i8, i9, i10, i11⟩ := hI.1
  intro a1 a2
  unfold cf_X9_send cf_X10_send cf_X0_write
  rcases cw_box hC hM i1 a1 with ⟨h1, h2⟩ | ⟨b, hb, hb2, rfl, h1, h2⟩
  · rw [h1, h2]
    exact ⟨-1, σ, τ, rfl, rfl, hk⟩
  rw [h1, h2, c6, m6]
  simp only [cz_br, if_neg (show ¬ (1 : Int32) = 0 by decide), cz_eq0 (show α 4 0 0 ≤ 100000 by omega)]
  by_cases ga : α 4 0 0 = 0
  · simp only [if_pos ga]
    exact ⟨-2, σ, τ, rfl, rfl, hk⟩
  simp only [if_neg ga]
  rcases cw_takes hI hC hM a2 with ⟨f1, f2⟩ | ⟨a, rfl, hok, f1, f2⟩
  · rw [f1, f2]
    exact ⟨-1, σ, τ, rfl, rfl, hk⟩
  have e0 : 2 * nI b = nI (2 * b) := by rw [show (2 : Int32) = nI 2 from rfl, pk_mul]
  have e1 : nI (2 * b) + 1 = nI (2 * b + 1) := nI_1 _
  have hc := hC.2.1 b hb2
  have hm := hM.2.1 b hb2
  rw [f1, f2, e0, e1, nI_clamp (n := b) (by omega), nI_clamp (n := 2 * b) (by omega), nI_clamp (n := 2 * b + 1) (by omega)]
  simp only [cz_br, cz_bi, cz_bv, cz_gd, cz_lt, if_neg (show ¬ (1 : Int32) = 0 by decide), cz_in hb2 (show 16 < 2 ^ 31 by decide), cz_in (show 2 * b < 32 by omega) (show 32 < 2 ^ 31 by decide), cz_in (show 2 * b + 1 < 32 by omega) (show 32 < 2 ^ 31 by decide), hm.1, c2]
  refine ⟨nI (α 20 b 0 + 1), ca_st (ca_st (ca_st (ca_st σ (2, b, 0) 3 (nI a)) (2, b, 0) 4 (nI (α 1 0 0))) (2, b, 0) 5 0) (2, b, 0) 2 (nI (α 20 b 0 + 1)), ca_st (ca_st (ca_st (ca_st (ca_st (ca_st τ (21, 12, 0) b (nI (α 20 b 0 + 1))) (21, 13, 0) b (nI a)) (21, 14, 0) b (nI (α 1 0 0))) (21, 15, 0) b 0) (21, 5, 0) (2 * b) 0) (21, 5, 0) (2 * b + 1) 0, ?_, ?_, cu (cu (cu (cu (cu α 20 b 0 (α 20 b 0 + 1)) 21 b 0 a) 22 b 0 (α 1 0 0)) 24 b 0 0) 23 b 0 0, ⟨?_, ?_, ?_, ?_, fun i b hi hb => by have := hI.2.2.2.2 i b (by simpa [cu] using hi) hb; simpa [cu] using this⟩, ⟨?_, ?_, fun b j hb hj => by have := hC.2.2.1 b j hb hj; simpa [ca_st, ca_sl, cu, cz_mk] using this, fun l hl => by have := hC.2.2.2.1 l (by simpa [cu] using hl); simpa [ca_st, ca_sl, cu, cz_mk] using this, fun i b hi hb => by have := hC.2.2.2.2 i b (by simpa [cu] using hi) hb; simpa [ca_st, ca_sl, cu, cz_mk] using this⟩, ⟨?_, ?_, fun b j hb hj => by have := hM.2.2.1 b j hb hj; simpa [ca_st, ca_sl, cu, cz_mk] using this, fun l hl => by have := hM.2.2.2.1 l (by simpa [cu] using hl); simpa [ca_st, ca_sl, cu, cz_mk] using this, fun i b hi hb => by have := hM.2.2.2.2 i b (by simpa [cu] using hi) hb; simpa [ca_st, ca_sl, cu, cz_mk] using this⟩⟩
  · simp [ca_st, hc.1, nI_succ]
  · simp [ca_st, m2, nI_succ]
  · simpa [CI1, cu] using hI.1
  · intro b2 hb3
    have := hI.2.1 b2 hb3
    by_cases q : b2 = b
    · subst q
      have g0 := hI.2.2.1 b2 0 hb3 (by decide)
      have g1 := hI.2.2.1 b2 1 hb3 (by decide)
      simp [cu, cz_gr]
      refine ⟨by omega, i2, hok, ?_, by omega⟩
      omega
    · simp [cu, cz_gr, q] at this ⊢
      exact ⟨by omega, this.2⟩
  · intro b2 j hb3 hj
    have := hI.2.2.1 b2 j hb3 hj
    by_cases q : b2 = b
    · subst q
      simp [cu] at this ⊢
      exact ⟨this.1, this.2.1, by omega, by omega, this.2.2.2.2⟩
    · simpa [cu, q] using this
  · have := hI.2.2.2.1
    simp [CI4, cu] at this ⊢
    refine ⟨this.1, fun l hl => ?_, this.2.2⟩
    have q := this.2.1 l hl
    refine ⟨q.1, q.2.1, q.2.2.1, ?_, q.2.2.2.2⟩
    by_cases z : α 41 l 0 = b
    · rw [if_pos z]
      have := q.2.2.2.1
      rw [z] at this
      omega
    · rw [if_neg z]
      exact q.2.2.2.1
  · simpa [RC1, ca_st, cu] using hC.1
  · intro b2 hb3
    have := hC.2.1 b2 hb3
    by_cases q : b2 = b
    · subst q
      simp [ca_st, cu, cz_mk] at this ⊢
      exact ⟨rfl, this.2.2.2.2⟩
    · simpa [ca_st, cu, cz_mk, q] using this
  · simpa [RM1, ca_st, cu] using hM.1
  · intro b2 hb3
    have := hM.2.1 b2 hb3
    by_cases q : b2 = b
    · subst q
      simp [ca_st, cu] at this ⊢
      exact rfl
    · have q1 : ¬ 2 * b2 = 2 * b + 1 := by omega
      have q2 : ¬ 2 * b2 + 1 = 2 * b := by omega
      have q3 : ¬ 2 * b2 = 2 * b := by omega
      simpa [ca_st, cu, q, q1, q2, q3] using this
