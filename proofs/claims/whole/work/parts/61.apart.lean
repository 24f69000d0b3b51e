-- ===== teams: the marks of a set of boxes =====
theorem cz_xor (a b : Nat) : nI a ^^^ nI b = nI (a ^^^ b) := by
  apply Int32.toBitVec_inj.1
  show BitVec.ofNat 32 a ^^^ BitVec.ofNat 32 b = BitVec.ofNat 32 (a ^^^ b)
  apply BitVec.eq_of_getLsbD_eq
  intro i hi
  simp [hi]
theorem cz_tbt (D i : Nat) : cz_tb D i = Nat.testBit D i := Nat.testBit_eq_decide_div_mod_eq.symm
theorem cz_not {S : Nat} (hS : S < 2 ^ 32) : nI S ^^^ (-1) = nI (2 ^ 32 - (S + 1)) := by
  rw [show (-1 : Int32) = nI (2 ^ 32 - 1) from rfl, cz_xor]
  congr 1
  apply Nat.eq_of_testBit_eq
  intro i
  rw [Nat.testBit_xor, Nat.testBit_two_pow_sub_one, Nat.testBit_two_pow_sub_succ hS]
  by_cases g : i < 32
  · simp [g]
  · have : Nat.testBit S i = false := by
      rw [← cz_tbt]
      exact cz_tb_hi hS (by omega)
    simp [g, this]
theorem cz_wrap {a b : Nat} (h : b ≤ 2 ^ 32) : nI a - nI b = nI (a + (2 ^ 32 - b)) := by
  have e : nI (a + 2 ^ 32) = nI a := by
    rw [← nI_add, show nI (2 ^ 32) = 0 from rfl, Int32.add_zero]
  rw [← e, pk_sub (by omega)]
  congr 1
  omega
theorem cz_neg {a : Nat} (h : a ≤ 2 ^ 32) : -nI a = nI (2 ^ 32 - a) := by
  have := cz_wrap (a := 0) h
  rw [show nI 0 = 0 from rfl, Int32.zero_sub, Nat.zero_add] at this
  exact this
theorem cz_all32 (x : Int32) : ∃ X, X < 2 ^ 32 ∧ x = nI X := ⟨x.toBitVec.toNat, x.toBitVec.isLt, by
  apply Int32.toBitVec_inj.1
  show x.toBitVec = BitVec.ofNat 32 x.toBitVec.toNat
  simp⟩
theorem cz_z32 {X : Nat} (h : X < 2 ^ 32) (e : nI X = 0) : X = 0 := by
  have e2 : (nI X).toBitVec.toNat = (0 : Int32).toBitVec.toNat := by rw [e]
  have e3 : (BitVec.ofNat 32 X).toNat = 0 := e2
  rw [BitVec.toNat_ofNat, Nat.mod_eq_of_lt h] at e3
  exact e3
theorem cz_kn (n : Nat) (hn : n ≤ 16) : ((1 : Int32) <<< (nI n &&& 31)) - 1 = nI (2 ^ n - 1) := by
  rw [cz_sh1 n (by omega), show (1 : Int32) = nI 1 from rfl, pk_sub (Nat.two_pow_pos n)]
theorem cz_known {n : Nat} (hn : n ≤ 16) (x : Int32) : (x &&& ((((1 : Int32) <<< (nI n &&& 31)) - 1) ^^^ (-1)) = 0) ↔ ∃ A, A < 2 ^ n ∧ x = nI A := by
  have p : 2 ^ n ≤ 2 ^ 16 := Nat.pow_le_pow_right (by decide) hn
  have p0 := Nat.two_pow_pos n
  have l : 2 ^ n - 1 < 2 ^ 32 := by omega
  rw [cz_kn n hn, cz_not l]
  obtain ⟨X, hX, rfl⟩ := cz_all32 x
  rw [cz_and]
  have tb : ∀ i, Nat.testBit (X &&& (2 ^ 32 - (2 ^ n - 1 + 1))) i = (Nat.testBit X i && (decide (i < 32) && !decide (i < n))) := fun i => by
    rw [Nat.testBit_and, Nat.testBit_two_pow_sub_succ l, Nat.testBit_two_pow_sub_one]
  constructor
  · intro e
    have le : X &&& (2 ^ 32 - (2 ^ n - 1 + 1)) ≤ X := Nat.and_le_left
    have z := cz_z32 (by omega) e
    refine ⟨X, Nat.lt_pow_two_of_testBit X (fun i hi => ?_), rfl⟩
    have t := tb i
    rw [z, Nat.zero_testBit] at t
    by_cases g : i < 32
    · have g2 : ¬ i < n := by omega
      simpa [g, g2] using t.symm
    · rw [← cz_tbt]
      exact cz_tb_hi hX (by omega)
  · rintro ⟨A, hA, e⟩
    have hA2 : A < 2 ^ 31 := by omega
    have e1 : X = A := by
      have e2 : (nI X).toBitVec.toNat = (nI A).toBitVec.toNat := by rw [e]
      have e3 : (BitVec.ofNat 32 X).toNat = (BitVec.ofNat 32 A).toNat := e2
      rw [BitVec.toNat_ofNat, BitVec.toNat_ofNat, Nat.mod_eq_of_lt hX, Nat.mod_eq_of_lt (by omega)] at e3
      exact e3
    subst e1
    have z : X &&& (2 ^ 32 - (2 ^ n - 1 + 1)) = 0 := by
      apply Nat.eq_of_testBit_eq
      intro i
      rw [tb i, Nat.zero_testBit]
      by_cases g : i < n
      · simp [g]
      · have : Nat.testBit X i = false := by
          rw [← cz_tbt]
          exact cz_tb_hi hA (by omega)
        simp [this]
    rw [z]
    rfl
def cz_ms (α : ca_A) (p : Nat → Bool) : Nat → Nat
  | 0 => 0
  | n + 1 => cz_ms α p n + (if p n then cz_mk α n else 0)
theorem cz_ms_le {α : ca_A} (hQ : α 9 0 0 ≤ 20) (p : Nat → Bool) : ∀ n, cz_ms α p n ≤ 20 * n
  | 0 => Nat.le_refl _
  | n + 1 => by
    have h1 := cz_ms_le hQ p n
    have h2 : cz_mk α n ≤ α 9 0 0 := cz_ct_le _ _
    unfold cz_ms
    split <;> omega
theorem cz_ms_congr {α : ca_A} {p q : Nat → Bool} : ∀ {n : Nat}, (∀ i, i < n → p i = q i) → cz_ms α p n = cz_ms α q n
  | 0, _ => rfl
  | n + 1, h => by
    unfold cz_ms
    rw [cz_ms_congr (fun i hi => h i (by omega)), h n (by omega)]
/-- how far apart the marks of a set and of the rest are -/
def cz_ap (α : ca_A) (A S : Nat) : Nat := cz_off (cz_ms α (fun i => cz_tb A i && !cz_tb S i) (α 0 0 0)) (cz_ms α (cz_tb S) (α 0 0 0))
theorem cz_pm (p q m : Nat) : nI p - nI q + nI m = nI (p + m) - nI q := by
  rw [← nI_add, Int32.sub_eq_add_neg, Int32.sub_eq_add_neg, Int32.add_assoc, Int32.add_assoc, Int32.add_comm (-nI q)]
theorem cz_mmn (p q m : Nat) : nI p - nI q - nI m = nI p - nI (q + m) := by
  rw [← nI_add, Int32.sub_sub]
theorem cz_ap_le {α : ca_A} (hQ : α 9 0 0 ≤ 20) (h16 : α 0 0 0 ≤ 16) (A S : Nat) : cz_ap α A S ≤ 320 := by
  have h1 := cz_ms_le hQ (fun i => cz_tb A i && !cz_tb S i) (α 0 0 0)
  have h2 := cz_ms_le hQ (cz_tb S) (α 0 0 0)
  unfold cz_ap cz_off
  split <;> omega
theorem ma_C {α : ca_A} {σ : ca_S} (hC : RC α σ) (hQ : α 9 0 0 ≤ 20) (h16 : α 0 0 0 ≤ 16) {A S : Nat} (hA : A < 2 ^ 31) (hS : S < 2 ^ 31) : cf_X9_marksApart σ (nI S) (nI A) = some (nI (cz_ap α A S)) := by
  have c1 : σ.1 (0, 0, 0) 1 = nI (α 0 0 0) := hC.1.1
  unfold cf_X9_marksApart
  obtain ⟨s', h1, h2⟩ := cz_loop (fun f (s : Int32) x => cl_X9_marksApart_5 σ (nI S) (nI A) (fun x11 => (some (if 0 ≤ x11 then x11 else 0 - x11))) f s x) (α 0 0 0) 0 (fun i s => s = nI (cz_ms α (cz_tb S) i) - nI (cz_ms α (fun i => cz_tb A i && !cz_tb S i) i)) (fun x11 => (some (if 0 ≤ x11 then x11 else 0 - x11))) (Nat.zero_le _) (by omega) (fun i s _ hi hs => by
    refine ⟨nI (cz_ms α (cz_tb S) (i + 1)) - nI (cz_ms α (fun i => cz_tb A i && !cz_tb S i) (i + 1)), fun f => ?_, rfl⟩
    show cl_X9_marksApart_5 σ (nI S) (nI A) _ (f + 1) s (nI i) = _
    rw [cl_X9_marksApart_5, c1, if_neg (nI_ge hi (by omega)), cz_in (show i < 16 by omega) (by decide), nI_clamp (show i < 2 ^ 31 by omega), (hC.2.1 i (by omega)).2.2.2.2, nI_1, hs]
    simp only [cz_b1_1 hS (show i < 31 by omega), cz_b1_1 hA (show i < 31 by omega), cz_gd, cz_lt]
    by_cases g : cz_tb S i = true
    · rw [if_pos g, cz_pm]
      simp only [cz_ms, g, if_true, Bool.not_true, Bool.and_false, Bool.false_eq_true, if_false, Nat.add_zero]
    · have g0 : cz_tb S i = false := by simpa using g
      rw [if_neg g]
      by_cases g2 : cz_tb A i = true
      · rw [if_pos g2, cz_mmn]
        simp only [cz_ms, g0, g2, if_true, Bool.not_false, Bool.and_true, Bool.false_eq_true, if_false, Nat.add_zero]
      · have g3 : cz_tb A i = false := by simpa using g2
        rw [if_neg g2]
        simp only [cz_ms, g0, g3, Bool.not_false, Bool.and_true, Bool.false_eq_true, if_false, Nat.add_zero]) (fun f s hs => by
    show cl_X9_marksApart_5 σ (nI S) (nI A) _ (f + 1) s (nI (α 0 0 0)) = _
    rw [cl_X9_marksApart_5, c1, if_pos (Int32.le_refl _)]) (nI 0) (by
    show nI 0 = nI 0 - nI 0
    rw [pk_sub (Nat.le_refl _)])
  have l1 := cz_ms_le hQ (fun i => cz_tb A i && !cz_tb S i) (α 0 0 0)
  have l2 := cz_ms_le hQ (cz_tb S) (α 0 0 0)
  refine h1.trans ?_
  rw [h2, cz_off_v (by omega) (by omega)]
  rfl
theorem mi_M {α : ca_A} {τ : ca_S} (hM : RM α τ) (hQ : α 9 0 0 ≤ 20) (h16 : α 0 0 0 ≤ 16) {S : Nat} (hS : S < 2 ^ 31) : cf_X10_marksIn τ (nI S) = some (nI (cz_ms α (cz_tb S) (α 0 0 0))) := by
  have m1 : τ.1 (20, 0, 0) 0 = nI (α 0 0 0) := hM.1.1
  unfold cf_X10_marksIn
  obtain ⟨s', h1, h2⟩ := cz_loop (fun f (s : Int32) x => cl_X10_marksIn_4 τ (nI S) (fun x => some x) f s x) (α 0 0 0) 0 (fun i s => s = nI (cz_ms α (cz_tb S) i)) (fun x => some x) (Nat.zero_le _) (by omega) (fun i s _ hi hs => by
    refine ⟨nI (cz_ms α (cz_tb S) (i + 1)), fun f => ?_, rfl⟩
    show cl_X10_marksIn_4 τ (nI S) _ (f + 1) s (nI i) = _
    rw [cl_X10_marksIn_4, m1, if_neg (nI_ge hi (by omega)), st_marks0 hM hQ (show i < 16 by omega), nI_1, hs]
    simp only [cz_b1_1 hS (show i < 31 by omega), cz_br]
    by_cases g : cz_tb S i = true
    · rw [if_pos g, nI_add]
      simp only [cz_ms, g, if_true]
    · have g0 : cz_tb S i = false := by simpa using g
      rw [if_neg g, Int32.add_zero]
      simp only [cz_ms, g0, Bool.false_eq_true, if_false, Nat.add_zero]) (fun f s hs => by
    show cl_X10_marksIn_4 τ (nI S) _ (f + 1) s (nI (α 0 0 0)) = _
    rw [cl_X10_marksIn_4, m1, if_pos (Int32.le_refl _)]) (nI 0) rfl
  refine h1.trans ?_
  rw [h2]
theorem mo_M {α : ca_A} {τ : ca_S} (hM : RM α τ) (hQ : α 9 0 0 ≤ 20) (h16 : α 0 0 0 ≤ 16) {A S : Nat} (hA : A < 2 ^ 31) (hS : S < 2 ^ 31) : cf_X10_marksIn τ (nI A &&& (nI S ^^^ (-1))) = some (nI (cz_ms α (fun i => cz_tb A i && !cz_tb S i) (α 0 0 0))) := by
  have le : A &&& (2 ^ 32 - (S + 1)) ≤ A := Nat.and_le_left
  rw [cz_not (show S < 2 ^ 32 by omega), cz_and, mi_M hM hQ h16 (by omega)]
  congr 2
  apply cz_ms_congr
  intro i hi
  have g : i < 32 := by omega
  rw [cz_tbt, cz_tbt, cz_tbt, Nat.testBit_and, Nat.testBit_two_pow_sub_succ (show S < 2 ^ 32 by omega)]
  simp [g]
