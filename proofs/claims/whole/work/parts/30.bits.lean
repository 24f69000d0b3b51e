-- ===== bits of a set of boxes =====
def cz_pq : Nat → Nat → Nat
  | 0, _ => 0
  | n + 1, D => Nat.add (Nat.mod D 2) (cz_pq n (Nat.div D 2))
theorem cz_ct_first (p : Nat → Bool) : ∀ n, cz_ct p (n + 1) = (if p 0 then 1 else 0) + cz_ct (fun i => p (i + 1)) n
  | 0 => by simp [cz_ct]
  | n + 1 => by
    have e : cz_ct p (n + 1 + 1) = cz_ct p (n + 1) + (if p (n + 1) then 1 else 0) := rfl
    rw [e, cz_ct_first p n]
    simp only [cz_ct]
    omega
def cz_tb (D i : Nat) : Bool := decide (D / 2 ^ i % 2 = 1)
theorem cz_pq_ct : ∀ n D, cz_pq n D = cz_ct (cz_tb D) n
  | 0, _ => rfl
  | n + 1, D => by
    rw [cz_ct_first]
    show D % 2 + cz_pq n (D / 2) = _
    rw [cz_pq_ct n (D / 2)]
    have e : (fun i => cz_tb D (i + 1)) = cz_tb (D / 2) := by
      funext i
      unfold cz_tb
      rw [Nat.pow_succ, Nat.mul_comm, Nat.div_div_eq_div_mul]
    rw [e]
    congr 1
    unfold cz_tb
    simp only [Nat.pow_zero, Nat.div_one]
    rcases Nat.mod_two_eq_zero_or_one D with h | h <;> simp [h]
def cz_bc (D : Nat) : Nat :=
  (fun v1 => (fun v2 => (fun v3 => (fun v4 => (fun v5 => Nat.land v5 63) (Nat.add v4 (Nat.div v4 65536))) (Nat.add v3 (Nat.div v3 256))) (Nat.land (Nat.add v2 (Nat.div v2 16)) 252645135)) (Nat.add (Nat.land v1 858993459) (Nat.land (Nat.div v1 4) 858993459))) (Nat.sub D (Nat.land (Nat.div D 2) 1431655765))
def cz_all (f : Nat → Bool) : Nat → Nat → Bool
  | 0, b => f b
  | k + 1, b => cz_all f k b && cz_all f k (Nat.add b (Nat.pow 2 k))
theorem cz_all_of (f : Nat → Bool) : ∀ k b, cz_all f k b = true → ∀ d, d < 2 ^ k → f (b + d) = true
  | 0, b, h, d, hd => by
    have : d = 0 := by simpa using hd
    subst this
    exact h
  | k + 1, b, h, d, hd => by
    have h' : (cz_all f k b && cz_all f k (b + 2 ^ k)) = true := h
    rw [Bool.and_eq_true] at h'
    rcases Nat.lt_or_ge d (2 ^ k) with q | q
    · exact cz_all_of f k b h'.1 d q
    · have := cz_all_of f k (b + 2 ^ k) h'.2 (d - 2 ^ k) (by rw [Nat.pow_succ] at hd; omega)
      rw [show b + 2 ^ k + (d - 2 ^ k) = b + d by omega] at this
      exact this
theorem cz_bc_all : cz_all (fun D => Nat.beq (cz_bc D) (cz_pq 16 D)) 16 0 = true := by decide +kernel
theorem cz_bc_pq {D : Nat} (h : D < 65536) : cz_bc D = cz_ct (cz_tb D) 16 := by
  have := cz_all_of _ 16 0 cz_bc_all D h
  rw [Nat.zero_add] at this
  rw [← cz_pq_ct]
  exact Nat.eq_of_beq_eq_true this
