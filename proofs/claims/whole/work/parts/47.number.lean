theorem cz_bits_tb (p : Nat → Bool) : ∀ n, cz_ct (cz_tb (cz_bits p n)) n = cz_ct p n
  | 0 => rfl
  | n + 1 => by
    have ih := cz_bits_tb p n
    have lt := cz_bits_lt p n
    have eb : cz_bits p (n + 1) = cz_bits p n + (if p n then 2 ^ n else 0) := rfl
    have e1 : cz_ct (cz_tb (cz_bits p (n + 1))) n = cz_ct (cz_tb (cz_bits p n)) n := cz_ct_congr (fun i hi => by
      unfold cz_tb
      rw [eb]
      by_cases g : p n = true
      · rw [if_pos g]
        obtain ⟨d, hd⟩ : ∃ d, n = i + 1 + d := ⟨n - (i + 1), by omega⟩
        have e : 2 ^ n = 2 ^ i * (2 * 2 ^ d) := by
          rw [hd, Nat.pow_add, Nat.pow_succ, Nat.mul_assoc]
        rw [e, Nat.add_mul_div_left _ _ (Nat.two_pow_pos i), Nat.add_mul_mod_self_left]
      · rw [if_neg g, Nat.add_zero])
    have e2 : cz_tb (cz_bits p (n + 1)) n = p n := by
      unfold cz_tb
      rw [eb]
      by_cases g : p n = true
      · rw [if_pos g, Nat.add_div_right _ (Nat.two_pow_pos n), Nat.div_eq_of_lt lt, g]
        rfl
      · have g2 : p n = false := by simpa using g
        rw [if_neg g, Nat.add_zero, Nat.div_eq_of_lt lt, g2]
        rfl
    rw [cz_ct, e1, e2, ih]
    rfl
