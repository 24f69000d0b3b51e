-- ===== the reference's side of an order =====
theorem cz_cclt {th w : Nat} (h1 : 2 ≤ th) (h2 : th ≤ 5) (hw : w < cz_fa th) : cz_cc th w < 8 ^ th ∧ cz_seen (cz_cc th w) th = 2 ^ th - 1 := by
  have f1 := cz_wf1 th (by omega) h1 w hw
  rw [Bool.and_eq_true] at f1
  exact ⟨Nat.le_of_ble_eq_true f1.1, Nat.eq_of_beq_eq_true f1.2⟩
theorem cz_8th {th : Nat} (h1 : 2 ≤ th) (h2 : th ≤ 5) : 8 ^ th ≤ 32768 ∧ 0 < 8 ^ th ∧ (1 : Int32) <<< ((3 * nI th) &&& 31) = nI (8 ^ th) := by
  rcases (show th = 2 ∨ th = 3 ∨ th = 4 ∨ th = 5 by omega) with rfl | rfl | rfl | rfl <;> decide +kernel
theorem pl_M {th w x : Nat} (h1 : 2 ≤ th) (h2 : th ≤ 5) (hw : w < cz_fa th) (hx : x < th) : cf_X10_place (nI (cz_cc th w)) (nI x) = some (nI (cz_pl (cz_cc th w) x 8 0)) := by
  obtain ⟨a1, a2, a3, a4, -⟩ := cz_w1b h1 h2 hw hx
  have l := (cz_cclt h1 h2 hw).1
  have l8 := (cz_8th h1 h2).1
  unfold cf_X10_place
  obtain ⟨s', q1, -⟩ := cz_loop (fun f (_ : Unit) y => cl_X10_place_2 (nI (cz_cc th w)) (nI x) (fun x3 => (some x3)) f y) (cz_pl (cz_cc th w) x 8 0) 0 (fun _ _ => True) (fun _ => some (nI (cz_pl (cz_cc th w) x 8 0))) (Nat.zero_le _) (by omega) (fun i s _ hi _ => by
    refine ⟨(), fun f => ?_, trivial⟩
    show cl_X10_place_2 (nI (cz_cc th w)) (nI x) _ (f + 1) (nI i) = _
    have d8 := cz_dg8 (cz_cc th w) i
    have ne : ¬ nI (cz_dg (cz_cc th w) i) = nI x := by
      rw [nI_eq (by omega) (by omega)]
      exact a4 i hi
    rw [cl_X10_place_2, cz_digd (by omega) (by omega), if_neg ne, nI_1]) (fun f s _ => by
    show cl_X10_place_2 (nI (cz_cc th w)) (nI x) _ (f + 1) (nI (cz_pl (cz_cc th w) x 8 0)) = _
    rw [cl_X10_place_2, cz_digd (by omega) (by omega), a2, if_pos rfl]) () trivial
  exact q1
theorem t42_M {τ : ca_S} {th w v x : Nat} (h1 : 2 ≤ th) (h2 : th ≤ 5) (ht : τ.1 (20, 0, 0) 10 = nI th) (hw : w < cz_fa th) (hv : v < cz_fa th) (hx : x < th) (x3 : Int32) (u : Nat) : ∃ s', (∀ K : Int32 → Option Int32, cl_X10_turned_42 τ (nI (cz_cc th w)) x3 (nI (cz_cc th v)) (nI x) K ca_FU (nI u) (nI (x + 1)) = K s') ∧ s' = nI (u + cz_sm (fun y => bif Nat.blt x y then Nat.mod (Nat.add (cz_bt (cz_mx th (cz_cc th w)) x y) (cz_bt (cz_mx th (cz_cc th v)) x y)) 2 else 0) th) := by
  obtain ⟨s', q1, q2⟩ := cz_loopK (fun (K : Int32 → Option Int32) f (s : Int32) y => cl_X10_turned_42 τ (nI (cz_cc th w)) x3 (nI (cz_cc th v)) (nI x) K f s y) th (x + 1) (fun y s => s = nI (u + cz_sm (fun y => bif Nat.blt x y then Nat.mod (Nat.add (cz_bt (cz_mx th (cz_cc th w)) x y) (cz_bt (cz_mx th (cz_cc th v)) x y)) 2 else 0) y)) hx (by omega) (fun y s y1 hy hs => by
    have bl : Nat.blt x y = true := Nat.ble_eq_true_of_le (show x + 1 ≤ y by omega)
    have bw := ((cz_w1b h1 h2 hw hx).2.2.2.2 y hy).2
    have bv := ((cz_w1b h1 h2 hv hx).2.2.2.2 y hy).2
    have l1 := (cz_w1b h1 h2 hw hx).1
    have l2 := (cz_w1b h1 h2 hw hy).1
    have l3 := (cz_w1b h1 h2 hv hx).1
    have l4 := (cz_w1b h1 h2 hv hy).1
    have p1 := pl_M h1 h2 hw hx
    have p2 := pl_M h1 h2 hw hy
    have p3 := pl_M h1 h2 hv hx
    have p4 := pl_M h1 h2 hv hy
    generalize cz_pl (cz_cc th w) x 8 0 = wx at bw l1 p1
    generalize cz_pl (cz_cc th w) y 8 0 = wy at bw l2 p2
    generalize cz_pl (cz_cc th v) x 8 0 = vx at bv l3 p3
    generalize cz_pl (cz_cc th v) y 8 0 = vy at bv l4 p4
    have lw : (nI wy ≤ nI wx) = (wy ≤ wx) := cz_len (by omega) (by omega)
    have lv : (nI vy ≤ nI vx) = (vy ≤ vx) := cz_len (by omega) (by omega)
    have ew : Nat.blt wx wy = !decide (wy ≤ wx) := by
      by_cases g : wy ≤ wx
      · have : ¬ wx < wy := by omega
        have e : Nat.blt wx wy = false := by
          cases b : Nat.blt wx wy with
          | false => rfl
          | true => exact absurd (Nat.le_of_ble_eq_true b) this
        simp [g, e]
      · have e : Nat.blt wx wy = true := Nat.ble_eq_true_of_le (show wx + 1 ≤ wy by omega)
        simp [g, e]
    have ev : Nat.blt vx vy = !decide (vy ≤ vx) := by
      by_cases g : vy ≤ vx
      · have : ¬ vx < vy := by omega
        have e : Nat.blt vx vy = false := by
          cases b : Nat.blt vx vy with
          | false => rfl
          | true => exact absurd (Nat.le_of_ble_eq_true b) this
        simp [g, e]
      · have e : Nat.blt vx vy = true := Nat.ble_eq_true_of_le (show vx + 1 ≤ vy by omega)
        simp [g, e]
    refine ⟨_, fun K f => ?_, rfl⟩
    show cl_X10_turned_42 τ (nI (cz_cc th w)) x3 (nI (cz_cc th v)) (nI x) K (f + 1) s (nI y) = _
    rw [cl_X10_turned_42, ht, if_neg (nI_ge hy (by omega)), p1, cz_br, p2, cz_br]
    unfold cj_X10_turned_74
    rw [p3, p4]
    unfold cj_X10_turned_98
    simp only [cz_br, if_true, if_neg (show ¬ (0 : Int32) = 1 by decide), if_neg (show ¬ (1 : Int32) = 0 by decide)]
    rw [cz_sm_s, bl, bw, bv, ew, ev, hs, nI_1, Int32.add_zero, nI_1]
    simp only [lw, lv]
    by_cases g1 : wy ≤ wx
    · by_cases g2 : vy ≤ vx
      · rw [if_pos g1, if_pos g2]
        simp [g1, g2]
        rfl
      · rw [if_pos g1, if_neg g2]
        simp [g1, g2]
        rfl
    · by_cases g2 : vy ≤ vx
      · rw [if_neg g1, if_pos g2]
        simp [g1, g2]
        rfl
      · rw [if_neg g1, if_neg g2]
        simp [g1, g2]
        rfl) (fun K f s hs => by
    show cl_X10_turned_42 τ (nI (cz_cc th w)) x3 (nI (cz_cc th v)) (nI x) K (f + 1) s (nI th) = _
    rw [cl_X10_turned_42, ht, if_pos (Int32.le_refl _)]) (nI u) (by
    have e : cz_sm (fun y => bif Nat.blt x y then Nat.mod (Nat.add (cz_bt (cz_mx th (cz_cc th w)) x y) (cz_bt (cz_mx th (cz_cc th v)) x y)) 2 else 0) (x + 1) = 0 := by
      rw [cz_sm_congr (g := fun _ => 0) (fun j hj => ?_), cz_sm_0]
      have : Nat.blt x j = false := by
        cases b : Nat.blt x j with
        | false => rfl
        | true =>
          have : x + 1 ≤ j := Nat.le_of_ble_eq_true b
          omega
      rw [this]
      rfl
    rw [e, Nat.add_zero])
  exact ⟨s', q1, q2⟩
theorem t22_M {τ : ca_S} {th w v : Nat} (h1 : 2 ≤ th) (h2 : th ≤ 5) (ht : τ.1 (20, 0, 0) 10 = nI th) (hw : w < cz_fa th) (hv : v < cz_fa th) (x3 : Int32) (u : Nat) : ∃ s', (∀ K : Int32 → Option Int32, cl_X10_turned_22 τ (nI (cz_cc th w)) x3 (nI (cz_cc th v)) K ca_FU (nI u) 0 = K s') ∧ s' = nI (u + cz_tu2 th (cz_mx th (cz_cc th w)) (cz_mx th (cz_cc th v))) := by
  have l := (cz_cclt h1 h2 hv).1
  have l8 := (cz_8th h1 h2).1
  obtain ⟨s', q1, q2⟩ := cz_loopK (fun (K : Int32 → Option Int32) f (s : Int32) x => cl_X10_turned_22 τ (nI (cz_cc th w)) x3 (nI (cz_cc th v)) K f s x) th 0 (fun x s => s = nI (u + cz_sm (fun x => cz_sm (fun y => bif Nat.blt x y then Nat.mod (Nat.add (cz_bt (cz_mx th (cz_cc th w)) x y) (cz_bt (cz_mx th (cz_cc th v)) x y)) 2 else 0) th) x)) (Nat.zero_le _) (by omega) (fun x s _ hx hs => by
    obtain ⟨s', k1, k2⟩ := t42_M (τ := τ) h1 h2 ht hw hv hx x3 (u + cz_sm (fun x => cz_sm (fun y => bif Nat.blt x y then Nat.mod (Nat.add (cz_bt (cz_mx th (cz_cc th w)) x y) (cz_bt (cz_mx th (cz_cc th v)) x y)) 2 else 0) th) x)
    refine ⟨s', fun K f => ?_, ?_⟩
    · show cl_X10_turned_22 τ (nI (cz_cc th w)) x3 (nI (cz_cc th v)) K (f + 1) s (nI x) = _
      rw [cl_X10_turned_22, ht, if_neg (nI_ge hx (by omega)), if_neg (nI_pos (by omega)), nI_1, hs, k1]
    · rw [k2, cz_sm_s, Nat.add_assoc]) (fun K f s hs => by
    show cl_X10_turned_22 τ (nI (cz_cc th w)) x3 (nI (cz_cc th v)) K (f + 1) s (nI th) = _
    rw [cl_X10_turned_22, ht, if_pos (Int32.le_refl _)]) (nI u) rfl
  exact ⟨s', q1, q2⟩
theorem t22_N {τ : ca_S} {th : Nat} (h1 : 2 ≤ th) (h2 : th ≤ 5) (ht : τ.1 (20, 0, 0) 10 = nI th) (x1 x3 x2 : Int32) (K : Int32 → Option Int32) : cl_X10_turned_22 τ x1 x3 (-4) K ca_FU x2 0 = K x2 := by
  have e : ca_FU = 99999 + 1 := ca_FU_eq
  rw [e, cl_X10_turned_22, ht, if_neg (show ¬ nI th ≤ 0 from nI_nle (by omega) (by omega)), if_pos (show (-4 : Int32) < 0 by decide)]
theorem tn_M {k : Nat} {α : ca_A} {τ : ca_S} (hI : CI k α) (hk : k ≤ 512) (hM : RM α τ) (hq : α 5 0 0 = 2) {w : Nat} (hw : w < cz_fa (α 6 0 0)) : cf_X10_turned τ (nI (cz_cc (α 6 0 0) w)) = some (nI (cz_T α (α 6 0 0) (α 0 0 0) (cz_cc (α 6 0 0) w))) := by
  have i1 := hI.1.1
  have ht := hI.1.2.2.2.2.2.2.1 hq
  have m1 : τ.1 (20, 0, 0) 0 = nI (α 0 0 0) := hM.1.1
  have m8 : τ.1 (20, 0, 0) 10 = nI (α 6 0 0) := hM.1.2.2.2.2.2.2.2.1 hq
  unfold cf_X10_turned
  obtain ⟨s', q1, q2⟩ := cz_loop (fun f (s : Int32) x => cl_X10_turned_4 τ (nI (cz_cc (α 6 0 0) w)) (fun x32 => (some x32)) f s x) (α 0 0 0) 0 (fun b s => s = nI (cz_T α (α 6 0 0) b (cz_cc (α 6 0 0) w))) (fun s => some s) (Nat.zero_le _) (by omega) (fun b s _ hb hs => by
    have an := an_M hI hk hM (show b < 16 by omega)
    cases e : cz_ao α b with
    | none =>
      refine ⟨s, fun f => ?_, ?_⟩
      · show cl_X10_turned_4 τ (nI (cz_cc (α 6 0 0) w)) _ (f + 1) s (nI b) = _
        rw [cl_X10_turned_4, m1, if_neg (nI_ge hb (by omega)), an, e, cz_br]
        show cl_X10_turned_22 τ _ _ (-4) _ ca_FU s 0 = _
        rw [t22_N ht.1 ht.2 m8, nI_1]
      · rw [hs]
        unfold cz_T
        rw [cz_sm_s, e]
        rfl
    | some a =>
      obtain ⟨v, hv, ev⟩ := cz_way hI hq (show b < 16 by omega) e
      obtain ⟨s', k1, k2⟩ := t22_M (τ := τ) ht.1 ht.2 m8 hw hv (nI b) (cz_T α (α 6 0 0) b (cz_cc (α 6 0 0) w))
      rw [ev] at k1 k2
      refine ⟨s', fun f => ?_, ?_⟩
      · show cl_X10_turned_4 τ (nI (cz_cc (α 6 0 0) w)) _ (f + 1) s (nI b) = _
        rw [cl_X10_turned_4, m1, if_neg (nI_ge hb (by omega)), an, e, cz_br, hs]
        show cl_X10_turned_22 τ _ _ (nI a) _ ca_FU _ 0 = _
        rw [k1, nI_1]
      · rw [k2]
        unfold cz_T
        rw [cz_sm_s, e]) (fun f s hs => by
    show cl_X10_turned_4 τ (nI (cz_cc (α 6 0 0) w)) _ (f + 1) s (nI (α 0 0 0)) = _
    rw [cl_X10_turned_4, m1, if_pos (Int32.le_refl _)]) (nI 0) rfl
  refine q1.trans ?_
  rw [q2]
