theorem lk102_C {k : Nat} {α : ca_A} {σ : ca_S} (hI : CI k α) (hk : k ≤ 512) (hC : RC α σ) {v o : Nat} (hv : v ≤ 100000) (ho : o ≤ 100000) (hmid : σ.1 (14, 0, 0) 2 = nI v) (h14 : σ.1 (14, 0, 0) 3 = nI 0) (K : ca_S → Option ca_S) : ∃ σ', cl_X5_look_102 (nI (α 0 0 0)) (nI (3 * o)) K ca_FU σ 0 = K σ' ∧ σ'.1 (14, 0, 0) 3 = nI (cz_bits (fun b => (cz_ao α b).any (fun a => decide (3 * o < cz_off v a))) (α 0 0 0)) ∧ (∀ c k, (c ≠ (14, 0, 0) ∨ k ≠ 3) → σ'.1 c k = σ.1 c k) ∧ σ'.2 = σ.2 := by
  have i1 := hI.1.1
  obtain ⟨s', h1, h2, h3, h4⟩ := cz_loop (fun f (s : ca_S) x => cl_X5_look_102 (nI (α 0 0 0)) (nI (3 * o)) K f s x) (α 0 0 0) 0 (fun i s => s.1 (14, 0, 0) 3 = nI (cz_bits (fun b => (cz_ao α b).any (fun a => decide (3 * o < cz_off v a))) i) ∧ (∀ c k, (c ≠ (14, 0, 0) ∨ k ≠ 3) → s.1 c k = σ.1 c k) ∧ s.2 = σ.2) K (Nat.zero_le _) (by omega) (fun i s _ hi hs => by
    obtain ⟨r1, r2, r3⟩ := hs
    have hCs : RC α s := RC_scr hC (fun c k n1 n2 => r2 c k (Or.inl (fun z => n1 (by rw [z])))) r3
    have an := an_C hI hk hCs (show i < 16 by omega)
    have bd := cz_aob hI (show i < 16 by omega)
    have hmid2 : s.1 (14, 0, 0) 2 = nI v := (r2 _ _ (Or.inr (by decide))).trans hmid
    cases e : cz_ao α i with
    | none =>
      refine ⟨s, fun fu => ?_, ?_, r2, r3⟩
      · show cl_X5_look_102 (nI (α 0 0 0)) (nI (3 * o)) K (fu + 1) s (nI i) = _
        rw [cl_X5_look_102, if_neg (nI_ge hi (by omega)), cz_in (show i < 16 by omega) (by decide), nI_clamp (show i < 2 ^ 31 by omega), an, e, nI_1]
        rfl
      · rw [r1]
        simp [cz_bits, e]
    | some a =>
      have ba := bd a e
      have bo := cz_off_b hv ba
      have ne : ¬ cz_eo (some a) = (-4) := by
        rw [cz_eo_m4 (fun b hb => by cases hb; omega)]
        exact fun z => by cases z
      by_cases g : cz_off v a ≤ 3 * o
      · refine ⟨s, fun fu => ?_, ?_, r2, r3⟩
        · show cl_X5_look_102 (nI (α 0 0 0)) (nI (3 * o)) K (fu + 1) s (nI i) = _
          rw [cl_X5_look_102, if_neg (nI_ge hi (by omega)), cz_in (show i < 16 by omega) (by decide), nI_clamp (show i < 2 ^ 31 by omega), an, e, nI_1, cz_gd, cz_br, if_neg ne, cz_gd, off_C hI hk hCs (show i < 16 by omega) e hv hmid2, cz_br, if_pos ((nI_leI (by omega) (by omega)).mpr g)]
        · rw [r1]
          have : ¬ 3 * o < cz_off v a := by omega
          simp [cz_bits, e, this]
      · have ng : ¬ nI (cz_off v a) ≤ nI (3 * o) := by
          rw [nI_leI (by omega) (by omega)]
          exact g
        refine ⟨ca_st s (14, 0, 0) 3 (nI (cz_bits (fun b => (cz_ao α b).any (fun a => decide (3 * o < cz_off v a))) (i + 1))), fun fu => ?_, by simp [ca_st], ?_, ?_⟩
        · show cl_X5_look_102 (nI (α 0 0 0)) (nI (3 * o)) K (fu + 1) s (nI i) = _
          have eb : nI (cz_bits (fun b => (cz_ao α b).any (fun a => decide (3 * o < cz_off v a))) i) ||| ((1 : Int32) <<< (nI i &&& 31)) = nI (cz_bits (fun b => (cz_ao α b).any (fun a => decide (3 * o < cz_off v a))) (i + 1)) := by
            rw [cz_sh1 i (by omega), cz_or, cz_bits_or]
            have : 3 * o < cz_off v a := by omega
            congr 1
            simp [cz_bits, e, this]
          rw [cl_X5_look_102, if_neg (nI_ge hi (by omega)), cz_in (show i < 16 by omega) (by decide), nI_clamp (show i < 2 ^ 31 by omega), an, e, nI_1, cz_gd, cz_br, if_neg ne, cz_gd, off_C hI hk hCs (show i < 16 by omega) e hv hmid2, cz_br, if_neg ng, r1, eb, cz_lt]
        · intro c k hc
          have := r2 c k hc
          have n : ¬ (c = (14, 0, 0) ∧ k = 3) := fun z => by
            rcases hc with hc | hc
            · exact hc z.1
            · exact hc z.2
          simpa [ca_st, n] using this
        · simpa [ca_st] using r3) (fun f s hs => by
    show cl_X5_look_102 (nI (α 0 0 0)) (nI (3 * o)) K (f + 1) s (nI (α 0 0 0)) = _
    rw [cl_X5_look_102, if_pos (Int32.le_refl _)]) σ ⟨h14, fun _ _ _ => rfl, rfl⟩
  exact ⟨s', h1, h2, h3, h4⟩
