def cz_bits (p : Nat → Bool) : Nat → Nat
  | 0 => 0
  | i + 1 => cz_bits p i + (if p i then 2 ^ i else 0)
theorem cz_bits_lt (p : Nat → Bool) : ∀ n, cz_bits p n < 2 ^ n
  | 0 => Nat.zero_lt_one
  | n + 1 => by
    have := cz_bits_lt p n
    have e : 2 ^ (n + 1) = 2 ^ n + 2 ^ n := by rw [Nat.pow_succ]; omega
    unfold cz_bits
    rw [e]
    split <;> omega
theorem cz_bits_or (p : Nat → Bool) (i : Nat) : cz_bits p i ||| 2 ^ i = cz_bits p i + 2 ^ i := by
  have := Nat.two_pow_add_eq_or_of_lt (cz_bits_lt p i) 1
  rw [Nat.mul_one] at this
  rw [Nat.or_comm, ← this, Nat.add_comm]
theorem RM_scr {α : ca_A} {τ τ' : ca_S} (hM : RM α τ) (h : ∀ c k, c ≠ (21, 31, 0) → τ'.1 c k = τ.1 c k) (h2 : τ'.2 = τ.2) : RM α τ' := by
  refine ⟨?_, fun b hb => ?_, fun b j hb hj => ?_, fun l hl => ?_, fun i b hi hb => ?_⟩
  · have := hM.1
    simpa [RM1, h, h2] using this
  · have := hM.2.1 b hb
    simpa [h] using this
  · have := hM.2.2.1 b j hb hj
    simpa [h] using this
  · have := hM.2.2.2.1 l hl
    simpa [h] using this
  · have := hM.2.2.2.2 i b hi hb
    simpa [h] using this
def cz_rowM (τ : ca_S) (g : Nat → Nat) (m : Nat) (S : (Nat → Bool) → Nat) : Prop := (∀ i, i < m → τ.1 (21, 31, 0) i = nI (g i)) ∧ (∀ i, i < m → g i ≤ 100000) ∧ (∀ q, cz_ct (fun i => q (g i)) m = S q)
theorem r33_M {k : Nat} {α : ca_A} {τ : ca_S} (hI : CI k α) (hk : k ≤ 512) (hM : RM α τ) (x1 : Int32) (K : ca_S → Int32 → Option (Int32 × ca_S)) : ∃ τ' g m, cl_X10_number_33 x1 K ca_FU τ 0 0 = K τ' (nI m) ∧ cz_rowM τ' g m (fun q => cz_cs α q (α 0 0 0)) ∧ (∀ c k, c ≠ (21, 31, 0) → τ'.1 c k = τ.1 c k) ∧ τ'.2 = τ.2 := by
  have i1 := hI.1.1
  obtain ⟨⟨s', y⟩, h1, g, m, e0, h2, h3, h4⟩ := cz_loop (fun f (s : ca_S × Int32) x => cl_X10_number_33 x1 K f s.1 s.2 x) (α 0 0 0) 0 (fun i s => ∃ g m, s.2 = nI m ∧ cz_rowM s.1 g m (fun q => cz_cs α q i) ∧ (∀ c k, c ≠ (21, 31, 0) → s.1.1 c k = τ.1 c k) ∧ s.1.2 = τ.2) (fun s => K s.1 s.2) (Nat.zero_le _) (by omega) (fun i s _ hi hs => by
    obtain ⟨s, y⟩ := s
    obtain ⟨g, m, e0, r1, r2, r3⟩ := hs
    simp only at e0 r1 r2 r3
    subst e0
    have hMs : RM α s := RM_scr hM r2 r3
    have m1 : s.1 (20, 0, 0) 0 = nI (α 0 0 0) := hMs.1.1
    have hm : m ≤ i := by
      have a := r1.2.2 (fun _ => true)
      have b : cz_ct (fun i => (fun _ => true) (g i)) m = m := cz_ct_all (fun i _ => rfl)
      have c := cz_ct_le (fun b => (cz_ao α b).any (fun _ => true)) i
      rw [b] at a
      rw [a]
      exact c
    have an := an_M hI hk hMs (show i < 16 by omega)
    have bd := cz_aob hI (show i < 16 by omega)
    cases e : cz_ao α i with
    | none =>
      refine ⟨(s, nI m), fun fu => ?_, g, m, rfl, ?_, r2, r3⟩
      · show cl_X10_number_33 x1 K (fu + 1) s (nI m) (nI i) = _
        rw [cl_X10_number_33, m1, if_neg (nI_ge hi (by omega)), an, e, nI_1]
        rfl
      · refine ⟨r1.1, r1.2.1, fun q => ?_⟩
        rw [r1.2.2 q]
        simp [cz_cs, cz_ct, e]
    | some a =>
      have ba := bd a e
      refine ⟨(ca_st s (21, 31, 0) m (nI a), nI (m + 1)), fun fu => ?_, fun j => if j = m then a else g j, m + 1, rfl, ⟨?_, ?_, ?_⟩, ?_, ?_⟩
      · show cl_X10_number_33 x1 K (fu + 1) s (nI m) (nI i) = _
        have ne : ¬ cz_eo (some a) < 0 := by
          rw [cz_eo_neg (fun b hb => by cases hb; omega)]
          exact fun z => by cases z
        rw [cl_X10_number_33, m1, if_neg (nI_ge hi (by omega)), an, e, nI_1, nI_1, cz_br, if_neg ne, cz_br, cz_in (show m < 16 by omega) (by decide), nI_clamp (show m < 2 ^ 31 by omega), cz_gd, cz_lt]
        rfl
      · intro j hj
        by_cases z : j = m
        · simp [ca_st, z]
        · have := r1.1 j (by omega)
          simpa [ca_st, z] using this
      · intro j hj
        by_cases z : j = m
        · simpa [z] using ba
        · have := r1.2.1 j (by omega)
          simpa [z] using this
      · intro q
        have w : cz_ct (fun j => q (if j = m then a else g j)) m = cz_ct (fun j => q (g j)) m := cz_ct_congr (fun j hj => by
          have : ¬ j = m := by omega
          simp [this])
        rw [cz_ct, w, r1.2.2 q]
        simp [cz_cs, cz_ct, e]
      · intro c k hc
        have := r2 c k hc
        simpa [ca_st, hc] using this
      · simpa [ca_st] using r3) (fun f s hs => by
    obtain ⟨s, y⟩ := s
    obtain ⟨g, m, e0, r1, r2, r3⟩ := hs
    simp only at e0 r1 r2 r3
    have m1 : s.1 (20, 0, 0) 0 = nI (α 0 0 0) := (RM_scr hM r2 r3).1.1
    show cl_X10_number_33 x1 K (f + 1) s y (nI (α 0 0 0)) = _
    rw [cl_X10_number_33, m1, if_pos (Int32.le_refl _)]) (τ, nI 0) ⟨fun _ => 0, 0, rfl, ⟨fun i hi => by omega, fun i hi => by omega, fun q => rfl⟩, fun _ _ _ => rfl, rfl⟩
  simp only at e0 h2 h3 h4 h1
  subst e0
  exact ⟨s', g, m, h1, h2, h3, h4⟩
