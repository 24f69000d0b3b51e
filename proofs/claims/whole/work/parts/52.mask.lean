-- ===== orders: which thing stands ahead of which, as bits of one number =====
def cz_sm (f : Nat → Nat) : Nat → Nat
  | 0 => 0
  | n + 1 => Nat.add (cz_sm f n) (f n)
theorem cz_sm_s (f : Nat → Nat) (n : Nat) : cz_sm f (n + 1) = cz_sm f n + f n := rfl
theorem cz_sm_congr {f g : Nat → Nat} : ∀ {n : Nat}, (∀ i, i < n → f i = g i) → cz_sm f n = cz_sm g n
  | 0, _ => rfl
  | n + 1, h => by
    rw [cz_sm_s, cz_sm_s, cz_sm_congr (fun i hi => h i (by omega)), h n (by omega)]
theorem cz_sm_add (f g : Nat → Nat) : ∀ n, cz_sm (fun i => f i + g i) n = cz_sm f n + cz_sm g n
  | 0 => rfl
  | n + 1 => by
    rw [cz_sm_s, cz_sm_s, cz_sm_s, cz_sm_add f g n]
    omega
theorem cz_sm_0 : ∀ n, cz_sm (fun _ => 0) n = 0
  | 0 => rfl
  | n + 1 => by rw [cz_sm_s, cz_sm_0 n]
theorem cz_sm_swap (F : Nat → Nat → Nat) (m : Nat) : ∀ n, cz_sm (fun i => cz_sm (fun b => F i b) n) m = cz_sm (fun b => cz_sm (fun i => F i b) m) n
  | 0 => cz_sm_0 m
  | n + 1 => by
    rw [cz_sm_s, ← cz_sm_swap F m n, ← cz_sm_add]
    exact cz_sm_congr (fun i _ => rfl)
theorem cz_sm_le {f : Nat → Nat} {B : Nat} : ∀ {n : Nat}, (∀ i, i < n → f i ≤ B) → cz_sm f n ≤ B * n
  | 0, _ => Nat.zero_le _
  | n + 1, h => by
    have h1 := cz_sm_le (f := f) (B := B) (n := n) (fun i hi => h i (by omega))
    have h2 := h n (by omega)
    rw [cz_sm_s, Nat.mul_succ]
    omega
def cz_pl (c x : Nat) : Nat → Nat → Nat
  | 0, p => p
  | f + 1, p => bif Nat.beq (cz_dg c p) x then p else cz_pl c x f (Nat.add p 1)
def cz_bt (m x y : Nat) : Nat := Nat.mod (Nat.div m (Nat.pow 2 (Nat.add (Nat.mul 8 x) y))) 2
def cz_mx (th a : Nat) : Nat := cz_sm (fun i => cz_sm (fun j => bif Nat.blt i j then Nat.pow 2 (Nat.add (Nat.mul 8 (cz_dg a i)) (cz_dg a j)) else 0) th) th
def cz_pc (th a x y : Nat) : Nat := cz_sm (fun i => cz_ct (fun j => Nat.blt i j && (Nat.beq (cz_dg a i) x && Nat.beq (cz_dg a j) y)) th) th
def cz_tu1 (th c m : Nat) : Nat := cz_sm (fun i => cz_sm (fun j => bif Nat.blt i j then cz_bt m (cz_dg c j) (cz_dg c i) else 0) th) th
def cz_tu2 (th mc m : Nat) : Nat := cz_sm (fun x => cz_sm (fun y => bif Nat.blt x y then Nat.mod (Nat.add (cz_bt mc x y) (cz_bt m x y)) 2 else 0) th) th
/-- what is true of one order -/
def cz_w1 (th w : Nat) : Bool :=
  let a := cz_cc th w
  let m := cz_mx th a
  Nat.beq (cz_ct (fun x => Nat.blt (cz_pl a x 8 0) th && Nat.beq (cz_dg a (cz_pl a x 8 0)) x && Nat.blt (cz_dg a x) th && Nat.beq (cz_ct (fun p => Nat.beq (cz_dg a p) x) (cz_pl a x 8 0)) 0 && Nat.beq (cz_ct (fun y => Nat.beq (cz_bt m x y) (cz_pc th a x y) && Nat.beq (cz_bt m x y) (bif Nat.blt (cz_pl a x 8 0) (cz_pl a y 8 0) then 1 else 0)) th) th) th) th
theorem cz_w1_2 : ∀ w, w < cz_fa 2 → cz_w1 2 w = true := by decide +kernel
theorem cz_w1_3 : ∀ w, w < cz_fa 3 → cz_w1 3 w = true := by decide +kernel
theorem cz_w1_4 : ∀ w, w < cz_fa 4 → cz_w1 4 w = true := by decide +kernel
theorem cz_w1_5 : ∀ w, w < cz_fa 5 → cz_w1 5 w = true := by decide +kernel
theorem cz_ct_of {p : Nat → Bool} : ∀ {n : Nat}, cz_ct p n = n → ∀ i, i < n → p i = true
  | 0, _, i, hi => by omega
  | n + 1, h, i, hi => by
    have l := cz_ct_le p n
    have e : cz_ct p (n + 1) = cz_ct p n + (if p n then 1 else 0) := rfl
    rw [e] at h
    by_cases g : p n = true
    · rw [if_pos g] at h
      rcases Nat.lt_or_ge i n with q | q
      · exact cz_ct_of (by omega) i q
      · rw [show i = n by omega]
        exact g
    · rw [if_neg g] at h
      omega
theorem cz_ct_zero {p : Nat → Bool} : ∀ {n : Nat}, cz_ct p n = 0 → ∀ i, i < n → p i = false
  | 0, _, i, hi => by omega
  | n + 1, h, i, hi => by
    have e : cz_ct p (n + 1) = cz_ct p n + (if p n then 1 else 0) := rfl
    rw [e] at h
    by_cases g : p n = true
    · rw [if_pos g] at h
      omega
    · rw [if_neg g] at h
      rcases Nat.lt_or_ge i n with q | q
      · exact cz_ct_zero (by omega) i q
      · rw [show i = n by omega]
        simpa using g
theorem cz_w1a {th w : Nat} (h1 : 2 ≤ th) (h2 : th ≤ 5) (hw : w < cz_fa th) : cz_w1 th w = true := by
  rcases (show th = 2 ∨ th = 3 ∨ th = 4 ∨ th = 5 by omega) with rfl | rfl | rfl | rfl
  · exact cz_w1_2 w hw
  · exact cz_w1_3 w hw
  · exact cz_w1_4 w hw
  · exact cz_w1_5 w hw
theorem cz_w1b {th w x : Nat} (h1 : 2 ≤ th) (h2 : th ≤ 5) (hw : w < cz_fa th) (hx : x < th) : cz_pl (cz_cc th w) x 8 0 < th ∧ cz_dg (cz_cc th w) (cz_pl (cz_cc th w) x 8 0) = x ∧ cz_dg (cz_cc th w) x < th ∧ (∀ p, p < cz_pl (cz_cc th w) x 8 0 → ¬ cz_dg (cz_cc th w) p = x) ∧ ∀ y, y < th → cz_bt (cz_mx th (cz_cc th w)) x y = cz_pc th (cz_cc th w) x y ∧ cz_bt (cz_mx th (cz_cc th w)) x y = (bif Nat.blt (cz_pl (cz_cc th w) x 8 0) (cz_pl (cz_cc th w) y 8 0) then 1 else 0) := by
  have k := cz_ct_of (Nat.eq_of_beq_eq_true (cz_w1a h1 h2 hw)) x hx
  simp only [Bool.and_eq_true] at k
  obtain ⟨⟨⟨⟨k1, k2⟩, k3⟩, k4⟩, k5⟩ := k
  refine ⟨Nat.le_of_ble_eq_true k1, Nat.eq_of_beq_eq_true k2, Nat.le_of_ble_eq_true k3, fun p hp e => ?_, fun y hy => ?_⟩
  · have := cz_ct_zero (Nat.eq_of_beq_eq_true k4) p hp
    rw [e, Nat.beq_refl] at this
    cases this
  · have k6 := cz_ct_of (Nat.eq_of_beq_eq_true k5) y hy
    simp only [Bool.and_eq_true] at k6
    exact ⟨Nat.eq_of_beq_eq_true k6.1, Nat.eq_of_beq_eq_true k6.2⟩
