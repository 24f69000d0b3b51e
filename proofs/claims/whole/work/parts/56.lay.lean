-- ===== the class lays out the next way =====
theorem cz_fab : ∀ i, i < 6 → 0 < cz_fa i ∧ cz_fa i ≤ 120 := by decide +kernel
def cz_ri (f : Nat → Nat) : Nat → Nat
  | 0 => 0
  | k + 1 => bif Nat.ble (f k) (f (Nat.add k 1)) then Nat.add k 1 else cz_ri f k
def cz_ab (f : Nat → Nat) (r : Nat) : Nat → Nat
  | 0 => 0
  | a + 1 => bif Nat.ble a r then Nat.add a 1 else bif Nat.ble (f r) (f (Nat.add a 1)) then Nat.add a 1 else cz_ab f r a
def cz_sw (f : Nat → Nat) (i j k : Nat) : Nat := bif Nat.beq k i then f j else bif Nat.beq k j then f i else f k
def cz_rv : Nat → (Nat → Nat) → Nat → Nat → Nat → Nat
  | 0, f, _, _ => f
  | n + 1, f, l, i => bif Nat.ble l i then f else cz_rv n (cz_sw f i l) (Nat.sub l 1) (Nat.add i 1)
/-- what is true of the step from one way to the next -/
def cz_nx (th w : Nat) : Bool :=
  bif Nat.beq (Nat.add w 1) (cz_fa th) then Nat.beq (cz_ri (cz_dg (cz_cc th w)) (Nat.sub th 1)) 0
  else Nat.blt 0 (cz_ri (cz_dg (cz_cc th w)) (Nat.sub th 1)) && Nat.blt (cz_ri (cz_dg (cz_cc th w)) (Nat.sub th 1)) th && Nat.blt (cz_ab (cz_dg (cz_cc th w)) (Nat.sub (cz_ri (cz_dg (cz_cc th w)) (Nat.sub th 1)) 1) (Nat.sub th 1)) th && Nat.beq (cz_ct (fun i => Nat.beq (cz_rv 4 (cz_sw (cz_dg (cz_cc th w)) (Nat.sub (cz_ri (cz_dg (cz_cc th w)) (Nat.sub th 1)) 1) (cz_ab (cz_dg (cz_cc th w)) (Nat.sub (cz_ri (cz_dg (cz_cc th w)) (Nat.sub th 1)) 1) (Nat.sub th 1))) (Nat.sub th 1) (cz_ri (cz_dg (cz_cc th w)) (Nat.sub th 1)) i) (cz_dg (cz_cc th (Nat.add w 1)) i)) th) th
theorem cz_nx_all : ∀ th, th < 6 → 2 ≤ th → ∀ w, w < cz_fa th → cz_nx th w = true := by decide +kernel
theorem cz_cc0 : ∀ th, th < 6 → 2 ≤ th → ∀ i, i < th → cz_dg (cz_cc th 0) i = i := by decide +kernel
theorem cz_m1 (n : Nat) : nI (n + 1) + (-1) = nI n := by
  rw [← Int32.sub_eq_add_neg]
  exact nI_pred n
theorem cz_m0 (x : Int32) : x + (-1) = x - 1 := (Int32.sub_eq_add_neg _ _).symm
/-- the row holds the numbers f -/
def cz_r19 (σ : ca_S) (th : Nat) (f : Nat → Nat) : Prop := ∀ i, i < th → σ.1 (19, 0, 0) i = nI (f i)
theorem ri_C {σ : ca_S} {th : Nat} {f : Nat → Nat} (h2 : th ≤ 5) (hr : cz_r19 σ th f) (hf : ∀ i, i < th → f i < 8) (x1 : Int32) (K : Int32 → Option (Int32 × ca_S)) : ∀ k n, k + 1 ≤ th → cl_X1_layOutNext_4 σ x1 K (n + k + 1) (nI k - 1) = K (nI (cz_ri f k) - 1)
  | 0, n, _ => by
    rw [cl_X1_layOutNext_4, if_pos (show nI 0 - 1 < 0 by decide)]
    rfl
  | k + 1, n, h => by
    have e : nI (k + 1) - 1 = nI k := nI_pred k
    have f1 := hf k (by omega)
    have f2 := hf (k + 1) (by omega)
    have le : (nI (f k) ≤ nI (f (k + 1))) = (f k ≤ f (k + 1)) := cz_len (by omega) (by omega)
    have ih := ri_C h2 hr hf x1 K k n (by omega)
    rw [show n + (k + 1) + 1 = (n + k + 1) + 1 by omega, e, cl_X1_layOutNext_4, if_neg (nI_pos (by omega)), cz_in (show k < 5 by omega) (by decide), nI_1, cz_in (show k + 1 < 5 by omega) (by decide), cz_gd, cz_gd, nI_clamp (show k < 2 ^ 31 by omega), nI_clamp (show k + 1 < 2 ^ 31 by omega), hr k (by omega), hr (k + 1) (by omega)]
    by_cases g : f k ≤ f (k + 1)
    · have b : Nat.ble (f k) (f (Nat.add k 1)) = true := Nat.ble_eq_true_of_le g
      have e2 : cz_ri f (k + 1) = k + 1 := by
        show (bif Nat.ble (f k) (f (Nat.add k 1)) then Nat.add k 1 else cz_ri f k) = k + 1
        rw [b]
        rfl
      rw [if_pos (le.mpr g), e2, e]
    · have b : Nat.ble (f k) (f (Nat.add k 1)) = false := by
        cases b : Nat.ble (f k) (f (Nat.add k 1)) with
        | false => rfl
        | true => exact absurd (Nat.le_of_ble_eq_true b) g
      have e2 : cz_ri f (k + 1) = cz_ri f k := by
        show (bif Nat.ble (f k) (f (Nat.add k 1)) then Nat.add k 1 else cz_ri f k) = cz_ri f k
        rw [b]
        rfl
      rw [if_neg (fun z => g (le.mp z)), cz_m0, ih, e2]
theorem ab_C {σ : ca_S} {th r : Nat} {f : Nat → Nat} (h2 : th ≤ 5) (hr : cz_r19 σ th f) (hf : ∀ i, i < th → f i < 8) (hrt : r < th) (x1 : Int32) (K : Int32 → Option (Int32 × ca_S)) : ∀ a n, a < th → cl_X1_layOutNext_41 σ x1 (nI r) K (n + a + 1) (nI a) = K (nI (cz_ab f r a))
  | 0, n, _ => by
    rw [cl_X1_layOutNext_41, nI_1, if_pos (nI_le (by omega) (by omega))]
    rfl
  | a + 1, n, h => by
    have f1 := hf r (by omega)
    have f2 := hf (a + 1) (by omega)
    have le : (nI (f r) ≤ nI (f (a + 1))) = (f r ≤ f (a + 1)) := cz_len (by omega) (by omega)
    have ih := ab_C h2 hr hf hrt x1 K a n (by omega)
    rw [show n + (a + 1) + 1 = (n + a + 1) + 1 by omega, cl_X1_layOutNext_41, nI_1]
    by_cases g0 : a ≤ r
    · have b : Nat.ble a r = true := Nat.ble_eq_true_of_le g0
      have e2 : cz_ab f r (a + 1) = a + 1 := by
        show (bif Nat.ble a r then Nat.add a 1 else bif Nat.ble (f r) (f (Nat.add a 1)) then Nat.add a 1 else cz_ab f r a) = a + 1
        rw [b]
        rfl
      rw [if_pos (nI_le (by omega) (by omega)), e2]
    · have b0 : Nat.ble a r = false := by
        cases b : Nat.ble a r with
        | false => rfl
        | true => exact absurd (Nat.le_of_ble_eq_true b) g0
      rw [if_neg (nI_ge (by omega) (by omega)), cz_in (show a + 1 < 5 by omega) (by decide), cz_in (show r < 5 by omega) (by decide), cz_gd, cz_gd, nI_clamp (show a + 1 < 2 ^ 31 by omega), nI_clamp (show r < 2 ^ 31 by omega), hr r (by omega), hr (a + 1) (by omega)]
      by_cases g : f r ≤ f (a + 1)
      · have b : Nat.ble (f r) (f (Nat.add a 1)) = true := Nat.ble_eq_true_of_le g
        have e2 : cz_ab f r (a + 1) = a + 1 := by
          show (bif Nat.ble a r then Nat.add a 1 else bif Nat.ble (f r) (f (Nat.add a 1)) then Nat.add a 1 else cz_ab f r a) = a + 1
          rw [b0, b]
          rfl
        rw [if_pos (le.mpr g), e2]
      · have b : Nat.ble (f r) (f (Nat.add a 1)) = false := by
          cases b : Nat.ble (f r) (f (Nat.add a 1)) with
          | false => rfl
          | true => exact absurd (Nat.le_of_ble_eq_true b) g
        have e2 : cz_ab f r (a + 1) = cz_ab f r a := by
          show (bif Nat.ble a r then Nat.add a 1 else bif Nat.ble (f r) (f (Nat.add a 1)) then Nat.add a 1 else cz_ab f r a) = cz_ab f r a
          rw [b0, b]
          rfl
        rw [if_neg (fun z => g (le.mp z)), cz_m1, ih, e2]
theorem sw_C {σ : ca_S} {th i j : Nat} {f : Nat → Nat} (h2 : th ≤ 5) (hr : cz_r19 σ th f) (hi : i < th) (hj : j < th) : ∃ σ', cf_X1_swap σ (nI i) (nI j) = some σ' ∧ cz_r19 σ' th (cz_sw f i j) ∧ (∀ c k, c ≠ (19, 0, 0) → σ'.1 c k = σ.1 c k) ∧ σ'.2 = σ.2 := by
  refine ⟨ca_st (ca_st σ (19, 0, 0) i (nI (f j))) (19, 0, 0) j (nI (f i)), ?_, fun k hk => ?_, fun c k hc => ?_, rfl⟩
  · unfold cf_X1_swap
    rw [cz_in (show i < 5 by omega) (by decide), cz_in (show j < 5 by omega) (by decide), nI_clamp (show i < 2 ^ 31 by omega), nI_clamp (show j < 2 ^ 31 by omega), hr i hi, hr j hj]
    rfl
  · by_cases z : k = j
    · subst z
      by_cases y : k = i
      · subst y
        have e : cz_sw f k k k = f k := by
          unfold cz_sw
          rw [Nat.beq_refl]
          rfl
        rw [e]
        simp [ca_st]
      · have e : cz_sw f i k k = f i := by
          unfold cz_sw
          rw [Nat.beq_refl, ca_beqf y]
          rfl
        rw [e]
        simp [ca_st]
    · by_cases y : k = i
      · subst y
        have e : cz_sw f k j k = f j := by
          unfold cz_sw
          rw [Nat.beq_refl]
          rfl
        rw [e]
        simp [ca_st, z]
      · have e : cz_sw f i j k = f k := by
          unfold cz_sw
          rw [ca_beqf z, ca_beqf y]
          rfl
        rw [e]
        have := hr k hk
        simpa [ca_st, z, y] using this
  · simp [ca_st, hc]
theorem rv_C {th : Nat} (h2 : th ≤ 5) (K : ca_S → Option (Int32 × ca_S)) : ∀ n (σ : ca_S) (f : Nat → Nat) (l i : Nat), l ≤ n → l < th → i ≤ th → cz_r19 σ th f → ∃ σ', (∀ m, cl_X1_layOutNext_85 K (m + n + 1) σ (nI l) (nI i) = K σ') ∧ cz_r19 σ' th (cz_rv n f l i) ∧ (∀ c k, c ≠ (19, 0, 0) → σ'.1 c k = σ.1 c k) ∧ σ'.2 = σ.2
  | 0, σ, f, l, i, h1, hl, hi, hr => by
    refine ⟨σ, fun m => ?_, hr, fun _ _ _ => rfl, rfl⟩
    rw [cl_X1_layOutNext_85, if_pos (nI_le (by omega) (by omega))]
  | n + 1, σ, f, l, i, h1, hl, hi, hr => by
    by_cases g : l ≤ i
    · have e : cz_rv (n + 1) f l i = f := by
        show (bif Nat.ble l i then f else cz_rv n (cz_sw f i l) (Nat.sub l 1) (Nat.add i 1)) = f
        rw [Nat.ble_eq_true_of_le g]
        rfl
      rw [e]
      refine ⟨σ, fun m => ?_, hr, fun _ _ _ => rfl, rfl⟩
      rw [cl_X1_layOutNext_85, if_pos (nI_le g (by omega))]
    · have b : Nat.ble l i = false := by
        cases b : Nat.ble l i with
        | false => rfl
        | true => exact absurd (Nat.le_of_ble_eq_true b) g
      have e : cz_rv (n + 1) f l i = cz_rv n (cz_sw f i l) (l - 1) (i + 1) := by
        show (bif Nat.ble l i then f else cz_rv n (cz_sw f i l) (Nat.sub l 1) (Nat.add i 1)) = _
        rw [b]
        rfl
      obtain ⟨σ1, s1, s2, s3, s4⟩ := sw_C (i := i) (j := l) h2 hr (by omega) hl
      obtain ⟨σ2, t1, t2, t3, t4⟩ := rv_C h2 K n σ1 (cz_sw f i l) (l - 1) (i + 1) (by omega) (by omega) (by omega) s2
      rw [e]
      refine ⟨σ2, fun m => ?_, t2, fun c k hc => (t3 c k hc).trans (s3 c k hc), t4.trans s4⟩
      obtain ⟨l', rfl⟩ : ∃ l', l = l' + 1 := ⟨l - 1, by omega⟩
      rw [show m + (n + 1) + 1 = (m + n + 1) + 1 by omega, cl_X1_layOutNext_85, if_neg (nI_ge (by omega) (by omega)), s1, cz_bv, cz_m1, nI_1]
      exact t1 m
theorem nx_C {σ : ca_S} {th w : Nat} (h1 : 2 ≤ th) (h2 : th ≤ 5) (hw : w < cz_fa th) (hr : cz_r19 σ th (cz_dg (cz_cc th w))) : ∃ (fl : Int32) (σ' : ca_S), cf_X1_layOutNext σ (nI th) = some (fl, σ') ∧ (w + 1 < cz_fa th → fl = 1 ∧ cz_r19 σ' th (cz_dg (cz_cc th (w + 1)))) ∧ (w + 1 = cz_fa th → fl = 0) ∧ (∀ c k, c ≠ (19, 0, 0) → σ'.1 c k = σ.1 c k) ∧ σ'.2 = σ.2 := by
  have k := cz_nx_all th (by omega) h1 w hw
  have hf : ∀ i, i < th → cz_dg (cz_cc th w) i < 8 := fun i _ => cz_dg8 _ i
  have e2 : nI th - 2 = nI (th - 1) - 1 := by
    rw [show (2 : Int32) = nI 2 from rfl, show (1 : Int32) = nI 1 from rfl, pk_sub (by omega), pk_sub (by omega)]
    rfl
  have e1 : nI th - 1 = nI (th - 1) := by
    rw [show (1 : Int32) = nI 1 from rfl, pk_sub (by omega)]
  have fu : ca_FU = (99999 - (th - 1)) + (th - 1) + 1 := by
    rw [ca_FU_eq]
    omega
  have fu4 : ca_FU = 99995 + 4 + 1 := ca_FU_eq
  unfold cf_X1_layOutNext
  rw [e2, fu, ri_C h2 hr hf (nI th) _ (th - 1) _ (by omega)]
  unfold cz_nx at k
  by_cases g : w + 1 = cz_fa th
  · have b : Nat.beq (Nat.add w 1) (cz_fa th) = true := by
      show Nat.beq (w + 1) (cz_fa th) = true
      rw [g]
      exact Nat.beq_refl _
    rw [b] at k
    have m0 : cz_ri (cz_dg (cz_cc th w)) (th - 1) = 0 := Nat.eq_of_beq_eq_true k
    refine ⟨0, σ, ?_, fun h => by omega, fun _ => rfl, fun _ _ _ => rfl, rfl⟩
    rw [m0]
    unfold cj_X1_layOutNext_31
    rw [if_neg (show ¬ (0 : Int32) ≤ nI 0 - 1 by decide)]
  · rw [ca_beqf (show Nat.add w 1 ≠ cz_fa th from g)] at k
    have k : (Nat.blt 0 (cz_ri (cz_dg (cz_cc th w)) (Nat.sub th 1)) && Nat.blt (cz_ri (cz_dg (cz_cc th w)) (Nat.sub th 1)) th && Nat.blt (cz_ab (cz_dg (cz_cc th w)) (Nat.sub (cz_ri (cz_dg (cz_cc th w)) (Nat.sub th 1)) 1) (Nat.sub th 1)) th && Nat.beq (cz_ct (fun i => Nat.beq (cz_rv 4 (cz_sw (cz_dg (cz_cc th w)) (Nat.sub (cz_ri (cz_dg (cz_cc th w)) (Nat.sub th 1)) 1) (cz_ab (cz_dg (cz_cc th w)) (Nat.sub (cz_ri (cz_dg (cz_cc th w)) (Nat.sub th 1)) 1) (Nat.sub th 1))) (Nat.sub th 1) (cz_ri (cz_dg (cz_cc th w)) (Nat.sub th 1)) i) (cz_dg (cz_cc th (Nat.add w 1)) i)) th) th) = true := k
    simp only [Bool.and_eq_true] at k
    obtain ⟨⟨⟨k1, k2⟩, k3⟩, k4⟩ := k
    have k1 : 1 ≤ cz_ri (cz_dg (cz_cc th w)) (th - 1) := Nat.le_of_ble_eq_true k1
    have k2 : cz_ri (cz_dg (cz_cc th w)) (th - 1) < th := Nat.le_of_ble_eq_true k2
    have k3 : cz_ab (cz_dg (cz_cc th w)) (cz_ri (cz_dg (cz_cc th w)) (th - 1) - 1) (th - 1) < th := Nat.le_of_ble_eq_true k3
    have k4 : ∀ i, i < th → cz_rv 4 (cz_sw (cz_dg (cz_cc th w)) (cz_ri (cz_dg (cz_cc th w)) (th - 1) - 1) (cz_ab (cz_dg (cz_cc th w)) (cz_ri (cz_dg (cz_cc th w)) (th - 1) - 1) (th - 1))) (th - 1) (cz_ri (cz_dg (cz_cc th w)) (th - 1)) i = cz_dg (cz_cc th (w + 1)) i := fun i hi => Nat.eq_of_beq_eq_true (cz_ct_of (Nat.eq_of_beq_eq_true k4) i hi)
    generalize cz_ri (cz_dg (cz_cc th w)) (th - 1) = m at k1 k2 k3 k4 ⊢
    obtain ⟨r, rfl⟩ : ∃ r, m = r + 1 := ⟨m - 1, by omega⟩
    rw [Nat.add_sub_cancel] at k3 k4
    have ab := fun K => ab_C (r := r) h2 hr hf (by omega) (nI th) K (th - 1) (99999 - (th - 1)) (by omega)
    generalize cz_ab (cz_dg (cz_cc th w)) r (th - 1) = a at k3 k4 ab
    obtain ⟨σ1, s1, s2, s3, s4⟩ := sw_C (i := r) (j := a) h2 hr (by omega) k3
    obtain ⟨σ2, t1, t2, t3, t4⟩ := rv_C h2 (fun σ25 => (some (1, σ25))) 4 σ1 _ (th - 1) (r + 1) (by omega) (by omega) (by omega) s2
    refine ⟨1, σ2, ?_, fun _ => ⟨rfl, fun i hi => ?_⟩, fun h => absurd h g, fun c k hc => (t3 c k hc).trans (s3 c k hc), t4.trans s4⟩
    · unfold cj_X1_layOutNext_31
      rw [nI_pred, if_pos (nI_pos' (by omega)), e1, fu, ab]
      unfold cj_X1_layOutNext_69
      rw [s1, cz_bv, e1, nI_1, fu4]
      exact t1 99995
    · rw [t2 i hi, k4 i hi]
theorem tp_C {σ : ca_S} {th w : Nat} {B : Nat → Nat → Nat} (h1 : 2 ≤ th) (h2 : th ≤ 5) (hw : w < cz_fa th) (hB : cz_cl18 σ th B) (hr : ∀ i, i < th → σ.1 (19, 0, 0) i = nI (cz_dg (cz_cc th w) i)) : cf_X1_turnedPairs σ (nI th) = some (nI (cz_sm (fun i => cz_sm (fun j => bif Nat.blt i j then B (cz_dg (cz_cc th w) j) (cz_dg (cz_cc th w) i) else 0) th) th)) := by
  have hd : ∀ j, j < th → cz_dg (cz_cc th w) j < th := fun j hj => (cz_w1b h1 h2 hw hj).2.2.1
  have inner : ∀ i, i < th → ∀ v, ∃ s', (∀ K : Int32 → Option Int32, cl_X1_turnedPairs_14 σ (nI th) (nI i) K ca_FU (nI v) (nI (i + 1)) = K s') ∧ s' = nI (v + cz_sm (fun j => bif Nat.blt i j then B (cz_dg (cz_cc th w) j) (cz_dg (cz_cc th w) i) else 0) th) := fun i hi v => by
    obtain ⟨s', q1, q2⟩ := cz_loopK (fun (K : Int32 → Option Int32) f (s : Int32) x => cl_X1_turnedPairs_14 σ (nI th) (nI i) K f s x) th (i + 1) (fun j s => s = nI (v + cz_sm (fun j => bif Nat.blt i j then B (cz_dg (cz_cc th w) j) (cz_dg (cz_cc th w) i) else 0) j)) hi (by omega) (fun j s j1 hj hs => by
      have bl : Nat.blt i j = true := Nat.ble_eq_true_of_le (show i + 1 ≤ j by omega)
      have di := hd i hi
      have dj := hd j hj
      refine ⟨_, fun K f => ?_, rfl⟩
      show cl_X1_turnedPairs_14 σ (nI th) (nI i) K (f + 1) s (nI j) = _
      rw [cl_X1_turnedPairs_14, if_neg (nI_ge hj (by omega)), cz_in (show j < 5 by omega) (by decide), cz_in (show i < 5 by omega) (by decide), nI_clamp (show j < 2 ^ 31 by omega), nI_clamp (show i < 2 ^ 31 by omega), hr i hi, hr j hj, cz_in (show cz_dg (cz_cc th w) j < 5 by omega) (by decide), cz_in (show cz_dg (cz_cc th w) i < 5 by omega) (by decide), nI_clamp (show cz_dg (cz_cc th w) j < 2 ^ 31 by omega), nI_clamp (show cz_dg (cz_cc th w) i < 2 ^ 31 by omega), hB _ _ dj di, cz_gd, cz_gd, cz_gd, cz_gd, cz_lt, hs, nI_add, nI_1, cz_sm_s, bl]
      show cl_X1_turnedPairs_14 σ (nI th) (nI i) K f _ _ = cl_X1_turnedPairs_14 σ (nI th) (nI i) K f _ _
      rw [Nat.add_assoc]
      rfl) (fun K f s hs => by
      show cl_X1_turnedPairs_14 σ (nI th) (nI i) K (f + 1) s (nI th) = _
      rw [cl_X1_turnedPairs_14, if_pos (Int32.le_refl _)]) (nI v) (by
      have e : cz_sm (fun j => bif Nat.blt i j then B (cz_dg (cz_cc th w) j) (cz_dg (cz_cc th w) i) else 0) (i + 1) = 0 := by
        rw [cz_sm_congr (g := fun _ => 0) (fun j hj => ?_), cz_sm_0]
        have : Nat.blt i j = false := by
          cases b : Nat.blt i j with
          | false => rfl
          | true =>
            have : i + 1 ≤ j := Nat.le_of_ble_eq_true b
            omega
        rw [this]
        rfl
      rw [e, Nat.add_zero])
    exact ⟨s', q1, q2⟩
  unfold cf_X1_turnedPairs
  obtain ⟨s', q1, q2⟩ := cz_loop (fun f (s : Int32) x => cl_X1_turnedPairs_4 σ (nI th) (fun x11 => (some x11)) f s x) th 0 (fun i s => s = nI (cz_sm (fun i => cz_sm (fun j => bif Nat.blt i j then B (cz_dg (cz_cc th w) j) (cz_dg (cz_cc th w) i) else 0) th) i)) (fun s => some s) (Nat.zero_le _) (by omega) (fun i s _ hi hs => by
    obtain ⟨s', k1, k2⟩ := inner i hi (cz_sm (fun i => cz_sm (fun j => bif Nat.blt i j then B (cz_dg (cz_cc th w) j) (cz_dg (cz_cc th w) i) else 0) th) i)
    refine ⟨s', fun f => ?_, ?_⟩
    · show cl_X1_turnedPairs_4 σ (nI th) _ (f + 1) s (nI i) = _
      rw [cl_X1_turnedPairs_4, if_neg (nI_ge hi (by omega)), nI_1, hs, k1]
    · rw [k2, cz_sm_s]) (fun f s hs => by
    show cl_X1_turnedPairs_4 σ (nI th) _ (f + 1) s (nI th) = _
    rw [cl_X1_turnedPairs_4, if_pos (Int32.le_refl _)]) (nI 0) rfl
  refine q1.trans ?_
  rw [q2]
theorem cz_s3l : ∀ i, i < 5 → ∀ d, d < 8 → nI d <<< ((3 * nI i) &&& 31) = nI (d * 8 ^ i) := by decide +kernel
theorem aa_C {σ : ca_S} {th w : Nat} (h1 : 2 ≤ th) (h2 : th ≤ 5) (hw : w < cz_fa th) (hr : ∀ i, i < th → σ.1 (19, 0, 0) i = nI (cz_dg (cz_cc th w) i)) : cf_X1_asAnswer σ (nI th) = some (nI (cz_cc th w)) := by
  have f1 := cz_wf1 th (by omega) h1 w hw
  rw [Bool.and_eq_true] at f1
  have lt : cz_cc th w < 8 ^ th := Nat.le_of_ble_eq_true f1.1
  unfold cf_X1_asAnswer
  obtain ⟨s', q1, q2⟩ := cz_loop (fun f (s : Int32) x => cl_X1_asAnswer_4 σ (nI th) (fun x5 => (some x5)) f s x) th 0 (fun i s => s = nI (cz_cc th w % 8 ^ i)) (fun s => some s) (Nat.zero_le _) (by omega) (fun i s _ hi hs => by
    refine ⟨nI (cz_cc th w % 8 ^ (i + 1)), fun f => ?_, rfl⟩
    show cl_X1_asAnswer_4 σ (nI th) _ (f + 1) s (nI i) = _
    have d8 := cz_dg8 (cz_cc th w) i
    have e : cz_cc th w % 8 ^ i ||| cz_dg (cz_cc th w) i * 8 ^ i = cz_cc th w % 8 ^ (i + 1) := by
      have p : 8 ^ i = 2 ^ (3 * i) := by rw [Nat.pow_mul]
      have l : cz_cc th w % 8 ^ i < 2 ^ (3 * i) := by
        rw [← p]
        exact Nat.mod_lt _ (Nat.pow_pos (by decide))
      have o := Nat.two_pow_add_eq_or_of_lt l (cz_dg (cz_cc th w) i)
      rw [← p] at o
      rw [Nat.or_comm, Nat.mul_comm, ← o, Nat.pow_succ, Nat.mod_mul]
      rw [Nat.add_comm]
      rfl
    rw [cl_X1_asAnswer_4, if_neg (nI_ge hi (by omega)), cz_in (show i < 5 by omega) (by decide), nI_clamp (show i < 2 ^ 31 by omega), hr i hi, cz_s3l i (by omega) _ d8, hs, cz_or, e, cz_gd, cz_lt, nI_1]) (fun f s hs => by
    show cl_X1_asAnswer_4 σ (nI th) _ (f + 1) s (nI th) = _
    rw [cl_X1_asAnswer_4, if_pos (Int32.le_refl _)]) (nI 0) (by rw [Nat.pow_zero, Nat.mod_one])
  refine q1.trans ?_
  rw [q2, Nat.mod_eq_of_lt lt]
