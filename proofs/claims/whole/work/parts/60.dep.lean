-- ===== the bits of one number laid into the bits of another =====
theorem cz_a2 (a b x y : Nat) (hx : x < 2) (hy : y < 2) : (2 * a + x) &&& (2 * b + y) = 2 * (a &&& b) + x * y := by
  have h1 := Nat.and_div_two (a := 2 * a + x) (b := 2 * b + y)
  rw [show (2 * a + x) / 2 = a by omega, show (2 * b + y) / 2 = b by omega] at h1
  have h2 := Nat.and_mod_two_eq_one (a := 2 * a + x) (b := 2 * b + y)
  rw [show (2 * a + x) % 2 = x by omega, show (2 * b + y) % 2 = y by omega] at h2
  generalize (2 * a + x) &&& (2 * b + y) = z at h1 h2 ⊢
  generalize a &&& b = w at h1 ⊢
  rcases (show x = 0 ∨ x = 1 by omega) with e | e <;> rcases (show y = 0 ∨ y = 1 by omega) with e' | e' <;> subst e <;> subst e' <;> omega
theorem cz_o2 (a b x y : Nat) (hx : x < 2) (hy : y < 2) : (2 * a + x) ||| (2 * b + y) = 2 * (a ||| b) + max x y := by
  have h1 := Nat.or_div_two (a := 2 * a + x) (b := 2 * b + y)
  rw [show (2 * a + x) / 2 = a by omega, show (2 * b + y) / 2 = b by omega] at h1
  have h2 := Nat.or_mod_two_eq_one (a := 2 * a + x) (b := 2 * b + y)
  rw [show (2 * a + x) % 2 = x by omega, show (2 * b + y) % 2 = y by omega] at h2
  generalize (2 * a + x) ||| (2 * b + y) = z at h1 h2 ⊢
  generalize a ||| b = w at h1 ⊢
  omega
theorem cz_x2 (a b x y : Nat) (hx : x < 2) (hy : y < 2) : (2 * a + x) ^^^ (2 * b + y) = 2 * (a ^^^ b) + (x + y) % 2 := by
  have h1 := Nat.xor_div_two (a := 2 * a + x) (b := 2 * b + y)
  rw [show (2 * a + x) / 2 = a by omega, show (2 * b + y) / 2 = b by omega] at h1
  have h2 := Nat.xor_mod_two_eq_one (a := 2 * a + x) (b := 2 * b + y)
  rw [show (2 * a + x) % 2 = x by omega, show (2 * b + y) % 2 = y by omega] at h2
  generalize (2 * a + x) ^^^ (2 * b + y) = z at h1 h2 ⊢
  generalize a ^^^ b = w at h1 ⊢
  omega
theorem cz_a00 (a b : Nat) : 2 * a &&& 2 * b = 2 * (a &&& b) := cz_a2 a b 0 0 (by decide) (by decide)
theorem cz_a10 (a b : Nat) : 2 * a + 1 &&& 2 * b = 2 * (a &&& b) := cz_a2 a b 1 0 (by decide) (by decide)
theorem cz_x00 (a b : Nat) : 2 * a ^^^ 2 * b = 2 * (a ^^^ b) := cz_x2 a b 0 0 (by decide) (by decide)
def cz_dp : Nat → Nat → Nat → Nat
  | 0, _, _ => 0
  | n + 1, M, k => if M % 2 = 1 then k % 2 + 2 * cz_dp n (M / 2) (k / 2) else 2 * cz_dp n (M / 2) k
theorem cz_dp1 (n M k : Nat) : cz_dp (n + 1) (2 * M + 1) k = k % 2 + 2 * cz_dp n M (k / 2) := by
  show (if (2 * M + 1) % 2 = 1 then _ else _) = _
  rw [if_pos (by omega), show (2 * M + 1) / 2 = M by omega]
theorem cz_dp2 (n M k : Nat) : cz_dp (n + 1) (2 * M) k = 2 * cz_dp n M k := by
  show (if (2 * M) % 2 = 1 then _ else _) = _
  rw [if_neg (by omega), show (2 * M) / 2 = M by omega]
theorem cz_pq1 (n M : Nat) : cz_pq (n + 1) (2 * M + 1) = 1 + cz_pq n M := by
  show (2 * M + 1) % 2 + cz_pq n ((2 * M + 1) / 2) = _
  rw [show (2 * M + 1) / 2 = M by omega]
  omega
theorem cz_pq2 (n M : Nat) : cz_pq (n + 1) (2 * M) = cz_pq n M := by
  show (2 * M) % 2 + cz_pq n ((2 * M) / 2) = _
  rw [show (2 * M) / 2 = M by omega]
  omega
theorem cz_half (M : Nat) : ∃ M', M = 2 * M' + 1 ∨ M = 2 * M' := ⟨M / 2, by omega⟩
theorem cz_dp_0 : ∀ n M, cz_dp n M 0 = 0
  | 0, _ => rfl
  | n + 1, M => by
    obtain ⟨M', e | e⟩ := cz_half M <;> subst e
    · rw [cz_dp1, cz_dp_0 n]
    · rw [cz_dp2, cz_dp_0 n]
theorem cz_dp_q : ∀ n N M k, M < 2 ^ n → n ≤ N → (cz_dp n M k + (2 ^ N - 1 - M)) &&& M = cz_dp n M k
  | 0, N, M, k, h, _ => by
    have e : M = 0 := by simpa using h
    subst e
    simp [cz_dp]
  | n + 1, 0, M, k, _, h => by omega
  | n + 1, N + 1, M, k, h, hN => by
    have p1 : 2 ^ (n + 1) = 2 * 2 ^ n := by rw [Nat.pow_succ]; omega
    have p2 : 2 ^ (N + 1) = 2 * 2 ^ N := by rw [Nat.pow_succ]; omega
    have p3 : 2 ^ n ≤ 2 ^ N := Nat.pow_le_pow_right (by decide) (by omega)
    rw [p1] at h
    rw [p2]
    obtain ⟨M', e | e⟩ := cz_half M <;> subst e
    · have ih := cz_dp_q n N M' (k / 2) (by omega) (by omega)
      rw [cz_dp1, show k % 2 + 2 * cz_dp n M' (k / 2) + (2 * 2 ^ N - 1 - (2 * M' + 1)) = 2 * (cz_dp n M' (k / 2) + (2 ^ N - 1 - M')) + k % 2 by omega, cz_a2 _ _ _ _ (by omega) (by omega), ih]
      omega
    · have ih := cz_dp_q n N M' k (by omega) (by omega)
      have a := cz_a10 (cz_dp n M' k + (2 ^ N - 1 - M')) M'
      rw [cz_dp2, show 2 * cz_dp n M' k + (2 * 2 ^ N - 1 - 2 * M') = 2 * (cz_dp n M' k + (2 ^ N - 1 - M')) + 1 by omega, a, ih]
theorem cz_dp_s : ∀ n N M k, M < 2 ^ n → n ≤ N → (cz_dp n M k + (2 ^ N - M)) &&& M = cz_dp n M (k + 1)
  | 0, N, M, k, h, _ => by
    have e : M = 0 := by simpa using h
    subst e
    simp [cz_dp]
  | n + 1, 0, M, k, _, h => by omega
  | n + 1, N + 1, M, k, h, hN => by
    have p1 : 2 ^ (n + 1) = 2 * 2 ^ n := by rw [Nat.pow_succ]; omega
    have p2 : 2 ^ (N + 1) = 2 * 2 ^ N := by rw [Nat.pow_succ]; omega
    have p3 : 2 ^ n ≤ 2 ^ N := Nat.pow_le_pow_right (by decide) (by omega)
    rw [p1] at h
    rw [p2]
    obtain ⟨M', e | e⟩ := cz_half M <;> subst e
    · rw [cz_dp1, cz_dp1]
      obtain ⟨k', e | e⟩ := cz_half k <;> subst e
      · have ih := cz_dp_s n N M' k' (by omega) (by omega)
        have a := cz_a2 (cz_dp n M' k' + (2 ^ N - M')) M' 0 1 (by omega) (by omega)
        rw [show (2 * k' + 1) / 2 = k' by omega, show (2 * k' + 1 + 1) / 2 = k' + 1 by omega, show (2 * k' + 1) % 2 + 2 * cz_dp n M' k' + (2 * 2 ^ N - (2 * M' + 1)) = 2 * (cz_dp n M' k' + (2 ^ N - M')) + 0 by omega, a, ih]
        omega
      · have ih := cz_dp_q n N M' k' (by omega) (by omega)
        have a := cz_a2 (cz_dp n M' k' + (2 ^ N - 1 - M')) M' 1 1 (by omega) (by omega)
        rw [show (2 * k') / 2 = k' by omega, show (2 * k' + 1) / 2 = k' by omega, show (2 * k') % 2 + 2 * cz_dp n M' k' + (2 * 2 ^ N - (2 * M' + 1)) = 2 * (cz_dp n M' k' + (2 ^ N - 1 - M')) + 1 by omega, a, ih]
        omega
    · have ih := cz_dp_s n N M' k (by omega) (by omega)
      have a := cz_a00 (cz_dp n M' k + (2 ^ N - M')) M'
      rw [cz_dp2, cz_dp2, show 2 * cz_dp n M' k + (2 * 2 ^ N - 2 * M') = 2 * (cz_dp n M' k + (2 ^ N - M')) by omega, a, ih]
theorem cz_dp_p : ∀ n M k, 1 ≤ k → k < 2 ^ cz_pq n M → 1 ≤ cz_dp n M k
  | 0, M, k, h1, h2 => by
    have : k < 2 ^ 0 := h2
    omega
  | n + 1, M, k, h1, h2 => by
    obtain ⟨M', e | e⟩ := cz_half M <;> subst e
    · rw [cz_pq1, Nat.pow_add] at h2
      rw [cz_dp1]
      by_cases g : k % 2 = 1
      · omega
      · have := cz_dp_p n M' (k / 2) (by omega) (by omega)
        omega
    · rw [cz_pq2] at h2
      have := cz_dp_p n M' k h1 h2
      rw [cz_dp2]
      omega
theorem cz_dp_sub : ∀ n M k, cz_dp n M k &&& M = cz_dp n M k
  | 0, M, k => by simp [cz_dp]
  | n + 1, M, k => by
    obtain ⟨M', e | e⟩ := cz_half M <;> subst e
    · have ih := cz_dp_sub n M' (k / 2)
      rw [cz_dp1, Nat.add_comm (k % 2), cz_a2 _ _ _ _ (by omega) (by omega), ih]
      omega
    · have ih := cz_dp_sub n M' k
      have a := cz_a00 (cz_dp n M' k) M'
      rw [cz_dp2, a, ih]
theorem cz_dp_d : ∀ n M k, 1 ≤ k → k < 2 ^ cz_pq n M → (cz_dp n M k - 1) &&& M = cz_dp n M (k - 1)
  | 0, M, k, h1, h2 => by
    have : k < 2 ^ 0 := h2
    omega
  | n + 1, M, k, h1, h2 => by
    obtain ⟨M', e | e⟩ := cz_half M <;> subst e
    · rw [cz_pq1, Nat.pow_add] at h2
      rw [cz_dp1, cz_dp1]
      obtain ⟨k', e | e⟩ := cz_half k <;> subst e
      · have ih := cz_dp_sub n M' k'
        have a := cz_a2 (cz_dp n M' k') M' 0 1 (by omega) (by omega)
        rw [show (2 * k' + 1) / 2 = k' by omega, show (2 * k' + 1 - 1) / 2 = k' by omega, show (2 * k' + 1) % 2 + 2 * cz_dp n M' k' - 1 = 2 * cz_dp n M' k' + 0 by omega, a, ih]
        omega
      · have ps := cz_dp_p n M' k' (by omega) (by omega)
        have ih := cz_dp_d n M' k' (by omega) (by omega)
        have a := cz_a2 (cz_dp n M' k' - 1) M' 1 1 (by omega) (by omega)
        rw [show (2 * k') / 2 = k' by omega, show (2 * k' - 1) / 2 = k' - 1 by omega, show (2 * k') % 2 + 2 * cz_dp n M' k' - 1 = 2 * (cz_dp n M' k' - 1) + 1 by omega, a, ih]
        omega
    · rw [cz_pq2] at h2
      have ps := cz_dp_p n M' k h1 h2
      have ih := cz_dp_d n M' k h1 h2
      have a := cz_a10 (cz_dp n M' k - 1) M'
      rw [cz_dp2, cz_dp2, show 2 * cz_dp n M' k - 1 = 2 * (cz_dp n M' k - 1) + 1 by omega, a, ih]
theorem cz_dp_full : ∀ n M, M < 2 ^ n → cz_dp n M (2 ^ cz_pq n M - 1) = M
  | 0, M, h => by
    have e : M = 0 := by simpa using h
    subst e
    rfl
  | n + 1, M, h => by
    have p1 : 2 ^ (n + 1) = 2 * 2 ^ n := by rw [Nat.pow_succ]; omega
    rw [p1] at h
    obtain ⟨M', e | e⟩ := cz_half M <;> subst e
    · have ih := cz_dp_full n M' (by omega)
      have p2 : 2 ^ (1 + cz_pq n M') = 2 * 2 ^ cz_pq n M' := by rw [Nat.pow_add]
      have p3 : 0 < 2 ^ cz_pq n M' := Nat.two_pow_pos _
      rw [cz_pq1, cz_dp1, p2, show (2 * 2 ^ cz_pq n M' - 1) / 2 = 2 ^ cz_pq n M' - 1 by omega, ih]
      omega
    · rw [cz_pq2, cz_dp2, cz_dp_full n M' (by omega)]
theorem cz_dp_pc : ∀ n M t, t ≤ cz_pq n M → cz_pq n (cz_dp n M (2 ^ t - 1)) = t
  | 0, M, t, h => by
    have : t ≤ 0 := h
    have : t = 0 := by omega
    subst this
    rfl
  | n + 1, M, t, h => by
    obtain ⟨M', e | e⟩ := cz_half M <;> subst e
    · rw [cz_pq1] at h
      cases t with
      | zero =>
        have e : cz_dp (n + 1) (2 * M' + 1) (2 ^ 0 - 1) = 0 := cz_dp_0 _ _
        have e2 := cz_dp_pc n M' 0 (Nat.zero_le _)
        rw [show 2 ^ 0 - 1 = 0 from rfl, cz_dp_0] at e2
        rw [e]
        have := cz_pq2 n 0
        rw [Nat.mul_zero] at this
        rw [this, e2]
      | succ t =>
        have ih := cz_dp_pc n M' t (by omega)
        have p2 : 2 ^ (t + 1) = 2 * 2 ^ t := by rw [Nat.pow_succ]; omega
        have p3 : 0 < 2 ^ t := Nat.two_pow_pos _
        rw [cz_dp1, p2, show (2 * 2 ^ t - 1) / 2 = 2 ^ t - 1 by omega, show (2 * 2 ^ t - 1) % 2 + 2 * cz_dp n M' (2 ^ t - 1) = 2 * cz_dp n M' (2 ^ t - 1) + 1 by omega, cz_pq1, ih]
        omega
    · rw [cz_pq2] at h
      rw [cz_dp2, cz_pq2, cz_dp_pc n M' t h]
-- the lowest bit, and the rest
def cz_lb : Nat → Nat → Nat
  | 0, _ => 0
  | n + 1, A => if A % 2 = 1 then 1 else 2 * cz_lb n (A / 2)
def cz_rs : Nat → Nat → Nat
  | 0, _ => 0
  | n + 1, A => if A % 2 = 1 then 2 * (A / 2) else 2 * cz_rs n (A / 2)
theorem cz_lb1 (n M : Nat) : cz_lb (n + 1) (2 * M + 1) = 1 := by
  show (if (2 * M + 1) % 2 = 1 then _ else _) = _
  rw [if_pos (by omega)]
theorem cz_lb2 (n M : Nat) : cz_lb (n + 1) (2 * M) = 2 * cz_lb n M := by
  show (if (2 * M) % 2 = 1 then _ else _) = _
  rw [if_neg (by omega), show (2 * M) / 2 = M by omega]
theorem cz_rs1 (n M : Nat) : cz_rs (n + 1) (2 * M + 1) = 2 * M := by
  show (if (2 * M + 1) % 2 = 1 then _ else _) = _
  rw [if_pos (by omega), show (2 * M + 1) / 2 = M by omega]
theorem cz_rs2 (n M : Nat) : cz_rs (n + 1) (2 * M) = 2 * cz_rs n M := by
  show (if (2 * M) % 2 = 1 then _ else _) = _
  rw [if_neg (by omega), show (2 * M) / 2 = M by omega]
theorem cz_lb_neg : ∀ n N A, A < 2 ^ n → n ≤ N → A &&& (2 ^ N - A) = cz_lb n A
  | 0, N, A, h, _ => by
    have e : A = 0 := by simpa using h
    subst e
    simp [cz_lb]
  | n + 1, 0, A, _, h => by omega
  | n + 1, N + 1, A, h, hN => by
    have p1 : 2 ^ (n + 1) = 2 * 2 ^ n := by rw [Nat.pow_succ]; omega
    have p2 : 2 ^ (N + 1) = 2 * 2 ^ N := by rw [Nat.pow_succ]; omega
    have p3 : 2 ^ n ≤ 2 ^ N := Nat.pow_le_pow_right (by decide) (by omega)
    rw [p1] at h
    rw [p2]
    obtain ⟨M', e | e⟩ := cz_half A <;> subst e
    · have q := cz_dp_q n N M' 0 (by omega) (by omega)
      rw [cz_dp_0, Nat.zero_add, Nat.and_comm] at q
      rw [cz_lb1, show 2 * 2 ^ N - (2 * M' + 1) = 2 * (2 ^ N - 1 - M') + 1 by omega, cz_a2 _ _ _ _ (by omega) (by omega), q]
    · have ih := cz_lb_neg n N M' (by omega) (by omega)
      have a := cz_a00 M' (2 ^ N - M')
      rw [cz_lb2, show 2 * 2 ^ N - 2 * M' = 2 * (2 ^ N - M') by omega, a, ih]
theorem cz_lb_xor : ∀ n A, A < 2 ^ n → A ^^^ cz_lb n A = cz_rs n A
  | 0, A, h => by
    have e : A = 0 := by simpa using h
    subst e
    simp [cz_lb, cz_rs]
  | n + 1, A, h => by
    have p1 : 2 ^ (n + 1) = 2 * 2 ^ n := by rw [Nat.pow_succ]; omega
    rw [p1] at h
    obtain ⟨M', e | e⟩ := cz_half A <;> subst e
    · have a := cz_x2 M' 0 1 1 (by omega) (by omega)
      rw [Nat.xor_zero, Nat.mul_zero, Nat.zero_add] at a
      rw [cz_lb1, cz_rs1, a]
      rfl
    · have ih := cz_lb_xor n M' (by omega)
      have a := cz_x00 M' (cz_lb n M')
      rw [cz_lb2, cz_rs2, a, ih]
theorem cz_rs_lt : ∀ n A, A < 2 ^ n → cz_rs n A < 2 ^ n
  | 0, A, h => Nat.zero_lt_one
  | n + 1, A, h => by
    have p1 : 2 ^ (n + 1) = 2 * 2 ^ n := by rw [Nat.pow_succ]; omega
    rw [p1] at h ⊢
    obtain ⟨M', e | e⟩ := cz_half A <;> subst e
    · rw [cz_rs1]
      omega
    · have ih := cz_rs_lt n M' (by omega)
      rw [cz_rs2]
      omega
theorem cz_lb_pos : ∀ n A, A < 2 ^ n → 0 < A → 0 < cz_lb n A
  | 0, A, h, h0 => by
    have : A < 2 ^ 0 := h
    omega
  | n + 1, A, h, h0 => by
    have p1 : 2 ^ (n + 1) = 2 * 2 ^ n := by rw [Nat.pow_succ]; omega
    rw [p1] at h
    obtain ⟨M', e | e⟩ := cz_half A <;> subst e
    · rw [cz_lb1]
      omega
    · have ih := cz_lb_pos n M' (by omega) (by omega)
      rw [cz_lb2]
      omega
theorem cz_dp_odd : ∀ n A i, A < 2 ^ n → 0 < A → cz_dp n A (2 * i + 1) = cz_lb n A + cz_dp n (cz_rs n A) i
  | 0, A, i, h, h0 => by
    have : A < 2 ^ 0 := h
    omega
  | n + 1, A, i, h, h0 => by
    have p1 : 2 ^ (n + 1) = 2 * 2 ^ n := by rw [Nat.pow_succ]; omega
    rw [p1] at h
    obtain ⟨M', e | e⟩ := cz_half A <;> subst e
    · rw [cz_dp1, cz_lb1, cz_rs1, cz_dp2, show (2 * i + 1) / 2 = i by omega]
      omega
    · rw [cz_dp2, cz_lb2, cz_rs2, cz_dp2, cz_dp_odd n M' i (by omega) (by omega)]
      omega
theorem cz_dp_or : ∀ n A i, cz_lb n A ||| cz_dp n (cz_rs n A) i = cz_lb n A + cz_dp n (cz_rs n A) i
  | 0, A, i => by simp [cz_lb, cz_dp]
  | n + 1, A, i => by
    obtain ⟨M', e | e⟩ := cz_half A <;> subst e
    · have a := cz_o2 0 (cz_dp n M' i) 1 0 (by omega) (by omega)
      rw [Nat.zero_or, Nat.mul_zero, Nat.zero_add, Nat.add_zero] at a
      rw [cz_lb1, cz_rs1, cz_dp2, a]
      omega
    · have ih := cz_dp_or n M' i
      have a := cz_o2 (cz_lb n M') (cz_dp n (cz_rs n M') i) 0 0 (by omega) (by omega)
      rw [Nat.add_zero, Nat.add_zero] at a
      rw [cz_lb2, cz_rs2, cz_dp2, a, ih]
      omega
theorem cz_dp_a1 : ∀ n A i, cz_dp n A (2 * i + 1) &&& cz_lb n A = cz_lb n A
  | 0, A, i => by simp [cz_lb]
  | n + 1, A, i => by
    obtain ⟨M', e | e⟩ := cz_half A <;> subst e
    · have a := cz_a2 (cz_dp n M' i) 0 1 1 (by omega) (by omega)
      rw [Nat.and_zero, Nat.mul_zero, Nat.zero_add] at a
      rw [cz_dp1, cz_lb1, show (2 * i + 1) / 2 = i by omega, show (2 * i + 1) % 2 + 2 * cz_dp n M' i = 2 * cz_dp n M' i + 1 by omega, a]
    · have ih := cz_dp_a1 n M' i
      have a := cz_a00 (cz_dp n M' (2 * i + 1)) (cz_lb n M')
      rw [cz_dp2, cz_lb2, a, ih]
theorem cz_dp_a0 : ∀ n A i, cz_dp n A (2 * i) &&& cz_lb n A = 0
  | 0, A, i => by simp [cz_lb]
  | n + 1, A, i => by
    obtain ⟨M', e | e⟩ := cz_half A <;> subst e
    · have a := cz_a2 (cz_dp n M' i) 0 0 1 (by omega) (by omega)
      rw [Nat.and_zero, Nat.mul_zero, Nat.zero_add] at a
      rw [cz_dp1, cz_lb1, show (2 * i) / 2 = i by omega, show (2 * i) % 2 + 2 * cz_dp n M' i = 2 * cz_dp n M' i + 0 by omega, a]
    · have ih := cz_dp_a0 n M' i
      have a := cz_a00 (cz_dp n M' (2 * i)) (cz_lb n M')
      rw [cz_dp2, cz_lb2, a, ih]
