-- ===== the class lays out a way =====
theorem cz_ways : ∀ i, i < 6 → ca_ways i = nI (cz_fa i) := by decide +kernel
theorem cz_fab : ∀ i, i < 6 → 0 < cz_fa i ∧ cz_fa i ≤ 120 := by decide +kernel
theorem cz_oradd : ∀ D, D < 32 → ∀ b, b < 5 → D / 2 ^ b % 2 = 0 → D ||| 2 ^ b = D + 2 ^ b := by decide +kernel
theorem cz_lkf {th w i : Nat} (h1 : 2 ≤ th) (h2 : th ≤ 5) (hw : w < cz_fa th) (hi : i < th) : ∃ D L b, cz_ls th w i = (D, L, (cz_ls th w i).2.2) ∧ D < 32 ∧ L < 1000 ∧ b < th ∧ cz_tb D b = false ∧ cz_ct (fun j => !cz_tb D j) b = L / cz_fa (th - 1 - i) ∧ cz_dg (cz_cc th w) i = b ∧ (cz_ls th w (i + 1)).1 = D + 2 ^ b ∧ (cz_ls th w (i + 1)).2.1 = L % cz_fa (th - 1 - i) := by
  have k := cz_lk_all th (by omega) h1 w hw i hi
  unfold cz_lk at k
  simp only [Bool.and_eq_true] at k
  obtain ⟨⟨⟨⟨⟨k1, k2⟩, k3⟩, k4⟩, k5⟩, k6⟩ := k
  refine ⟨(cz_ls th w i).1, (cz_ls th w i).2.1, cz_clr (cz_ls th w i).1 8 (Nat.div (cz_ls th w i).2.1 (cz_fa (Nat.sub (Nat.sub th 1) i))) 0, rfl, Nat.le_of_ble_eq_true k4, Nat.le_of_ble_eq_true k5, Nat.le_of_ble_eq_true k1, ?_, ?_, Nat.eq_of_beq_eq_true k6, rfl, rfl⟩
  · have e : (cz_ls th w i).1 / 2 ^ _ % 2 = 0 := Nat.eq_of_beq_eq_true k2
    unfold cz_tb
    rw [e]
    rfl
  · have e := Nat.eq_of_beq_eq_true k3
    refine Eq.trans (cz_ct_congr (fun j _ => ?_)) e
    unfold cz_tb
    show (!decide ((cz_ls th w i).1 / 2 ^ j % 2 = 1)) = Nat.beq ((cz_ls th w i).1 / 2 ^ j % 2) 0
    rcases Nat.mod_two_eq_zero_or_one ((cz_ls th w i).1 / 2 ^ j) with q | q <;> rw [q] <;> rfl
theorem lay_C {σ : ca_S} {th w : Nat} (h1 : 2 ≤ th) (h2 : th ≤ 5) (hw : w < cz_fa th) : ∃ σ', cf_X1_layOut σ (nI w) (nI th) = some σ' ∧ (∀ i, i < th → σ'.1 (19, 0, 0) i = nI (cz_dg (cz_cc th w) i)) ∧ (∀ c k, c ≠ (19, 0, 0) → σ'.1 c k = σ.1 c k) ∧ σ'.2 = σ.2 := by
  unfold cf_X1_layOut
  obtain ⟨⟨s', x3, x4⟩, q1, q2⟩ := cz_loop (fun f (s : ca_S × Int32 × Int32) x => cl_X1_layOut_8 (nI th) (fun σ12 => (some σ12)) f s.1 s.2.1 s.2.2 x) th 0 (fun i s => s.2.1 = nI (cz_ls th w i).1 ∧ s.2.2 = nI (cz_ls th w i).2.1 ∧ (∀ j, j < i → s.1.1 (19, 0, 0) j = nI (cz_dg (cz_cc th w) j)) ∧ (∀ c k, c ≠ (19, 0, 0) → s.1.1 c k = σ.1 c k) ∧ s.1.2 = σ.2) (fun s => some s.1) (Nat.zero_le _) (by omega) (fun i s _ hi hs => by
    obtain ⟨s, x3, x4⟩ := s
    obtain ⟨r1, r2, r3, r4, r5⟩ := hs
    simp only at r1 r2 r3 r4 r5
    obtain ⟨D, L, b, e0, d1, d2, d3, d4, d5, d6, d7, d8⟩ := cz_lkf h1 h2 hw hi
    rw [e0] at r1 r2
    simp only at r1 r2
    subst r1
    subst r2
    have fb := cz_fab (th - 1 - i) (by omega)
    have t1 : nI th - 1 - nI i = nI (th - 1 - i) := by
      rw [show (1 : Int32) = nI 1 from rfl, pk_sub (by omega), pk_sub (by omega)]
    have t2 : ¬ nI (cz_fa (th - 1 - i)) = 0 := nI_ne0 fb.1 (by omega)
    have t3 : nI L / nI (cz_fa (th - 1 - i)) = nI (L / cz_fa (th - 1 - i)) := pk_div (by omega) fb.1 (by omega)
    have t4 : cf_X9_clearBit (nI D) (nI (L / cz_fa (th - 1 - i))) (nI th) = some (nI b) := cb_C (by omega) (by omega) d3 d4 d5
    have t5 : nI L - nI L / nI (cz_fa (th - 1 - i)) * nI (cz_fa (th - 1 - i)) = nI (L % cz_fa (th - 1 - i)) := pk_rem (by omega) fb.1 (by omega)
    have t6 : nI D ||| ((1 : Int32) <<< (nI b &&& 31)) = nI (D + 2 ^ b) := by
      have z : D / 2 ^ b % 2 = 0 := by
        have : ¬ D / 2 ^ b % 2 = 1 := by
          unfold cz_tb at d4
          exact of_decide_eq_false d4
        omega
      rw [cz_sh1 b (by omega), cz_or, cz_oradd D d1 b (by omega) z]
    refine ⟨(ca_st s (19, 0, 0) i (nI b), nI (D + 2 ^ b), nI (L % cz_fa (th - 1 - i))), fun f => ?_, ?_, ?_, fun j hj => ?_, fun c k hc => ?_, r5⟩
    · show cl_X1_layOut_8 (nI th) (fun σ12 => (some σ12)) (f + 1) s (nI D) (nI L) (nI i) = _
      rw [cl_X1_layOut_8, if_neg (nI_ge hi (by omega)), t1, cz_in (show th - 1 - i < 6 by omega) (by decide), nI_clamp (show th - 1 - i < 2 ^ 31 by omega), cz_ways _ (show th - 1 - i < 6 by omega), cz_gd, cz_lt, if_neg t2, t5, t3, t4, cz_br, if_neg t2, cz_in (show i < 5 by omega) (by decide), nI_clamp (show i < 2 ^ 31 by omega), cz_gd, cz_lt, t6, nI_1]
    · rw [d7]
    · rw [d8]
    · by_cases z : j = i
      · rw [z, d6]
        simp [ca_st]
      · have := r3 j (by omega)
        simpa [ca_st, z] using this
    · have := r4 c k hc
      simpa [ca_st, hc] using this) (fun f s hs => by
    show cl_X1_layOut_8 (nI th) (fun σ12 => (some σ12)) (f + 1) s.1 s.2.1 s.2.2 (nI th) = _
    rw [cl_X1_layOut_8, if_pos (Int32.le_refl _)]) (σ, 0, nI w) ⟨rfl, rfl, fun j hj => by omega, fun _ _ _ => rfl, rfl⟩
  exact ⟨s', q1, q2.2.2⟩
theorem tp_C {σ : ca_S} {th w : Nat} {B : Nat → Nat → Nat} (h1 : 2 ≤ th) (h2 : th ≤ 5) (hw : w < cz_fa th) (hB : cz_cl18 σ th B) (hr : ∀ i, i < th → σ.1 (19, 0, 0) i = nI (cz_dg (cz_cc th w) i)) : cf_X1_turnedPairs σ (nI th) = some (nI (cz_sm (fun i => cz_sm (fun j => bif Nat.blt i j then B (cz_dg (cz_cc th w) j) (cz_dg (cz_cc th w) i) else 0) th) th)) := by
  have hd : ∀ j, j < th → cz_dg (cz_cc th w) j < th := fun j hj => (cz_w1b h1 h2 hw hj).2.2.1
  have inner : ∀ i, i < th → ∀ v, ∃ s', (∀ K : Int32 → Option Int32, cl_X1_turnedPairs_14 σ (nI th) (nI i) K ca_FU (nI v) (nI (i + 1)) = K s') ∧ s' = nI (v + cz_sm (fun j => bif Nat.blt i j then B (cz_dg (cz_cc th w) j) (cz_dg (cz_cc th w) i) else 0) th) := fun i hi v => by
    obtain ⟨s', q1, q2⟩ := cz_loopK (fun (K : Int32 → Option Int32) f (s : Int32) x => cl_X1_turnedPairs_14 σ (nI th) (nI i) K f s x) th (i + 1) (fun j s => s = nI (v + cz_sm (fun j => bif Nat.blt i j then B (cz_dg (cz_cc th w) j) (cz_dg (cz_cc th w) i) else 0) j)) hi (by omega) (fun j s j1 hj hs => by
      have bl : Nat.blt i j = true := Nat.ble_eq_true_of_le (show i + 1 ≤ j by omega)
      have di := hd i hi
      have dj := hd j hj
      refine ⟨_, fun K f => ?_, rfl⟩
      show cl_X1_turnedPairs_14 σ (nI th) (nI i) K (f + 1) s (nI j) = _
      rw [cl_X1_turnedPairs_14, if_neg (nI_ge hj (by omega)), cz_in (show j < 5 by omega) (by decide), cz_in (show i < 5 by omega) (by decide), nI_clamp (show j < 2 ^ 31 by omega), nI_clamp (show i < 2 ^ 31 by omega), hr i hi, hr j hj, cz_in (show cz_dg (cz_cc th w) j < 5 by omega) (by decide), cz_in (show cz_dg (cz_cc th w) i < 5 by omega) (by decide), nI_clamp (show cz_dg (cz_cc th w) j < 2 ^ 31 by omega), nI_clamp (show cz_dg (cz_cc th w) i < 2 ^ 31 by omega), hB _ _ dj di, cz_gd, cz_gd, cz_gd, cz_gd, cz_lt, hs, nI_add, nI_1, cz_sm_s, bl]
      show cl_X1_turnedPairs_14 σ (nI th) (nI i) K f _ _ = cl_X1_turnedPairs_14 σ (nI th) (nI i) K f _ _
      rw [Nat.add_assoc]
      rfl) (fun K f s hs => by
      show cl_X1_turnedPairs_14 σ (nI th) (nI i) K (f + 1) s (nI th) = _
      rw [cl_X1_turnedPairs_14, if_pos (Int32.le_refl _)]) (nI v) (by
      have e : cz_sm (fun j => bif Nat.blt i j then B (cz_dg (cz_cc th w) j) (cz_dg (cz_cc th w) i) else 0) (i + 1) = 0 := by
        rw [cz_sm_congr (g := fun _ => 0) (fun j hj => ?_), cz_sm_0]
        have : Nat.blt i j = false := by
          cases b : Nat.blt i j with
          | false => rfl
          | true =>
            have : i + 1 ≤ j := Nat.le_of_ble_eq_true b
            omega
        rw [this]
        rfl
      rw [e, Nat.add_zero])
    exact ⟨s', q1, q2⟩
  unfold cf_X1_turnedPairs
  obtain ⟨s', q1, q2⟩ := cz_loop (fun f (s : Int32) x => cl_X1_turnedPairs_4 σ (nI th) (fun x11 => (some x11)) f s x) th 0 (fun i s => s = nI (cz_sm (fun i => cz_sm (fun j => bif Nat.blt i j then B (cz_dg (cz_cc th w) j) (cz_dg (cz_cc th w) i) else 0) th) i)) (fun s => some s) (Nat.zero_le _) (by omega) (fun i s _ hi hs => by
    obtain ⟨s', k1, k2⟩ := inner i hi (cz_sm (fun i => cz_sm (fun j => bif Nat.blt i j then B (cz_dg (cz_cc th w) j) (cz_dg (cz_cc th w) i) else 0) th) i)
    refine ⟨s', fun f => ?_, ?_⟩
    · show cl_X1_turnedPairs_4 σ (nI th) _ (f + 1) s (nI i) = _
      rw [cl_X1_turnedPairs_4, if_neg (nI_ge hi (by omega)), nI_1, hs, k1]
    · rw [k2, cz_sm_s]) (fun f s hs => by
    show cl_X1_turnedPairs_4 σ (nI th) _ (f + 1) s (nI th) = _
    rw [cl_X1_turnedPairs_4, if_pos (Int32.le_refl _)]) (nI 0) rfl
  refine q1.trans ?_
  rw [q2]
theorem cz_s3l : ∀ i, i < 5 → ∀ d, d < 8 → nI d <<< ((3 * nI i) &&& 31) = nI (d * 8 ^ i) := by decide +kernel
theorem aa_C {σ : ca_S} {th w : Nat} (h1 : 2 ≤ th) (h2 : th ≤ 5) (hw : w < cz_fa th) (hr : ∀ i, i < th → σ.1 (19, 0, 0) i = nI (cz_dg (cz_cc th w) i)) : cf_X1_asAnswer σ (nI th) = some (nI (cz_cc th w)) := by
  have f1 := cz_wf1 th (by omega) h1 w hw
  rw [Bool.and_eq_true] at f1
  have lt : cz_cc th w < 8 ^ th := Nat.le_of_ble_eq_true f1.1
  unfold cf_X1_asAnswer
  obtain ⟨s', q1, q2⟩ := cz_loop (fun f (s : Int32) x => cl_X1_asAnswer_4 σ (nI th) (fun x5 => (some x5)) f s x) th 0 (fun i s => s = nI (cz_cc th w % 8 ^ i)) (fun s => some s) (Nat.zero_le _) (by omega) (fun i s _ hi hs => by
    refine ⟨nI (cz_cc th w % 8 ^ (i + 1)), fun f => ?_, rfl⟩
    show cl_X1_asAnswer_4 σ (nI th) _ (f + 1) s (nI i) = _
    have d8 := cz_dg8 (cz_cc th w) i
    have e : cz_cc th w % 8 ^ i ||| cz_dg (cz_cc th w) i * 8 ^ i = cz_cc th w % 8 ^ (i + 1) := by
      have p : 8 ^ i = 2 ^ (3 * i) := by rw [Nat.pow_mul]
      have l : cz_cc th w % 8 ^ i < 2 ^ (3 * i) := by
        rw [← p]
        exact Nat.mod_lt _ (Nat.pow_pos (by decide))
      have o := Nat.two_pow_add_eq_or_of_lt l (cz_dg (cz_cc th w) i)
      rw [← p] at o
      rw [Nat.or_comm, Nat.mul_comm, ← o, Nat.pow_succ, Nat.mod_mul]
      rw [Nat.add_comm]
      rfl
    rw [cl_X1_asAnswer_4, if_neg (nI_ge hi (by omega)), cz_in (show i < 5 by omega) (by decide), nI_clamp (show i < 2 ^ 31 by omega), hr i hi, cz_s3l i (by omega) _ d8, hs, cz_or, e, cz_gd, cz_lt, nI_1]) (fun f s hs => by
    show cl_X1_asAnswer_4 σ (nI th) _ (f + 1) s (nI th) = _
    rw [cl_X1_asAnswer_4, if_pos (Int32.le_refl _)]) (nI 0) (by rw [Nat.pow_zero, Nat.mod_one])
  refine q1.trans ?_
  rw [q2, Nat.mod_eq_of_lt lt]
