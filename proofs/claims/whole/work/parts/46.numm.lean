theorem r78_M {τ : ca_S} {g : Nat → Nat} {m v : Nat} {S : (Nat → Bool) → Nat} (h : cz_rowM τ g m S) (hm : m ≤ 16) (hv : v ≤ 100000) (x1 : Int32) (K : ca_S → Option (Int32 × ca_S)) : ∃ τ', cl_X10_number_78 x1 (nI m) (nI v) K ca_FU τ 0 = K τ' ∧ cz_rowM τ' (fun i => cz_off v (g i)) m (fun q => S (fun a => q (cz_off v a))) ∧ (∀ c k, c ≠ (21, 31, 0) → τ'.1 c k = τ.1 c k) ∧ τ'.2 = τ.2 := by
  obtain ⟨h0, hb, hS⟩ := h
  obtain ⟨s', h1, h2, h2', h3, h4⟩ := cz_loop (fun f (s : ca_S) x => cl_X10_number_78 x1 (nI m) (nI v) K f s x) m 0 (fun i s => (∀ j, j < i → s.1 (21, 31, 0) j = nI (cz_off v (g j))) ∧ (∀ j, i ≤ j → j < m → s.1 (21, 31, 0) j = nI (g j)) ∧ (∀ c k, c ≠ (21, 31, 0) → s.1 c k = τ.1 c k) ∧ s.2 = τ.2) K (Nat.zero_le _) (by omega) (fun i s _ hi hs => by
    obtain ⟨r1, r2, r3, r4⟩ := hs
    refine ⟨ca_st s (21, 31, 0) i (nI (cz_off v (g i))), fun fu => ?_, ?_, ?_, ?_, ?_⟩
    · show cl_X10_number_78 x1 (nI m) (nI v) K (fu + 1) s (nI i) = _
      rw [cl_X10_number_78, if_neg (nI_ge hi (by omega)), cz_in (show i < 16 by omega) (by decide), nI_clamp (show i < 2 ^ 31 by omega), r2 i (Nat.le_refl _) hi, sz_M hv (hb i hi), nI_1, cz_gd, cz_br, cz_gd, cz_lt]
    · intro j hj
      by_cases z : j = i
      · simp [ca_st, z]
      · have := r1 j (by omega)
        simpa [ca_st, z] using this
    · intro j hj hj2
      have z : ¬ j = i := by omega
      have := r2 j (by omega) hj2
      simpa [ca_st, z] using this
    · intro c k hc
      have := r3 c k hc
      simpa [ca_st, hc] using this
    · simpa [ca_st] using r4) (fun f s hs => by
    show cl_X10_number_78 x1 (nI m) (nI v) K (f + 1) s (nI m) = _
    rw [cl_X10_number_78, if_pos (Int32.le_refl _)]) τ ⟨fun j hj => by omega, fun j _ hj => h0 j hj, fun _ _ _ => rfl, rfl⟩
  exact ⟨s', h1, ⟨h2, fun i hi => cz_off_b hv (hb i hi), fun q => hS (fun a => q (cz_off v a))⟩, h3, h4⟩
theorem r125_M {k : Nat} {α : ca_A} {τ : ca_S} (hI : CI k α) (hk : k ≤ 512) (hM : RM α τ) {v o : Nat} (hv : v ≤ 100000) (ho : o ≤ 100000) (x1 : Int32) (K : Int32 → Int32 → Option (Int32 × ca_S)) : cl_X10_number_125 τ x1 (nI v) (nI o) K ca_FU 0 0 0 = K (nI (cz_bits (fun b => (cz_ao α b).any (fun a => decide (3 * o < cz_off v a))) (α 0 0 0))) (nI (cz_ct (fun b => (cz_ao α b).any (fun a => decide (3 * o < cz_off v a))) (α 0 0 0))) := by
  have i1 := hI.1.1
  have m1 : τ.1 (20, 0, 0) 0 = nI (α 0 0 0) := hM.1.1
  have e3 : 3 * nI o = nI (3 * o) := by rw [show (3 : Int32) = nI 3 from rfl, pk_mul]
  obtain ⟨s', h1, h2⟩ := cz_loop (fun f (s : Int32 × Int32) x => cl_X10_number_125 τ x1 (nI v) (nI o) K f s.1 s.2 x) (α 0 0 0) 0 (fun i s => s = (nI (cz_bits (fun b => (cz_ao α b).any (fun a => decide (3 * o < cz_off v a))) i), nI (cz_ct (fun b => (cz_ao α b).any (fun a => decide (3 * o < cz_off v a))) i))) (fun s => K s.1 s.2) (Nat.zero_le _) (by omega) (fun i s _ hi hs => by
    subst hs
    refine ⟨_, fun f => ?_, rfl⟩
    have an := an_M hI hk hM (show i < 16 by omega)
    have bd := cz_aob hI (show i < 16 by omega)
    have z0 : ∀ x : Int32, x + 0 = x := Int32.add_zero
    have z1 : ∀ x : Int32, x ||| 0 = x := fun x => Int32.or_zero
    show cl_X10_number_125 τ x1 (nI v) (nI o) K (f + 1) (nI (cz_bits (fun b => (cz_ao α b).any (fun a => decide (3 * o < cz_off v a))) i)) (nI (cz_ct (fun b => (cz_ao α b).any (fun a => decide (3 * o < cz_off v a))) i)) (nI i) = cl_X10_number_125 τ x1 (nI v) (nI o) K f (nI (cz_bits (fun b => (cz_ao α b).any (fun a => decide (3 * o < cz_off v a))) (i + 1))) (nI (cz_ct (fun b => (cz_ao α b).any (fun a => decide (3 * o < cz_off v a))) (i + 1))) (nI (i + 1))
    rw [cl_X10_number_125, m1, if_neg (nI_ge hi (by omega)), an, e3, cz_br]
    unfold cj_X10_number_166 cj_X10_number_183
    cases e : cz_ao α i with
    | none =>
      have ne : cz_eo none < 0 := by decide
      rw [if_pos ne, if_pos rfl, if_pos rfl, z0, z1, nI_1]
      simp [cz_bits, cz_ct, e]
    | some a =>
      have ba := bd a e
      have bo := cz_off_b hv ba
      have ne : ¬ cz_eo (some a) < 0 := by
        rw [cz_eo_neg (fun b hb => by cases hb; omega)]
        exact fun z => by cases z
      have sz : cf_X10_size (cz_eo (some a) - nI v) = some (nI (cz_off v a)) := sz_M hv ba
      rw [if_neg ne, cz_br, sz, cz_br]
      by_cases g : cz_off v a ≤ 3 * o
      · have w : ¬ 3 * o < cz_off v a := by omega
        rw [if_pos ((nI_leI (by omega) (by omega)).mpr g), if_pos rfl, if_pos rfl, z0, z1, nI_1]
        simp [cz_bits, cz_ct, e, w]
      · have ng : ¬ nI (cz_off v a) ≤ nI (3 * o) := by
          rw [nI_leI (by omega) (by omega)]
          exact g
        have w : 3 * o < cz_off v a := by omega
        rw [if_neg ng, if_neg (by decide), if_neg (by decide), cz_sh1 i (by omega), cz_or, cz_bits_or, nI_1, nI_1]
        simp [cz_bits, cz_ct, e, w]) (fun f s hs => by
    show cl_X10_number_125 τ x1 (nI v) (nI o) K (f + 1) s.1 s.2 (nI (α 0 0 0)) = _
    rw [cl_X10_number_125, m1, if_pos (Int32.le_refl _)]) (nI 0, nI 0) rfl
  exact h1.trans (by rw [h2])
