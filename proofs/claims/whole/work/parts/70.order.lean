theorem is_M {k : Nat} {α : ca_A} {τ : ca_S} (hI : CI k α) (hM : RM α τ) (hq : α 5 0 0 = 2) {c : Nat} (hc : c < 8 ^ α 6 0 0) : cf_X10_isAnswer τ (nI c) = some (if cz_seen c (α 6 0 0) = 2 ^ α 6 0 0 - 1 then 1 else 0) := by
  have ht := hI.1.2.2.2.2.2.2.1 hq
  have m7 : τ.1 (20, 0, 0) 9 = nI (α 5 0 0) := hM.1.2.2.2.2.2.2.1
  have mt : τ.1 (20, 0, 0) 10 = nI (α 6 0 0) := hM.1.2.2.2.2.2.2.2.1 hq
  have l8 := (cz_8th ht.1 ht.2).1
  have ha : c < 2 ^ 31 := by omega
  have g : ¬ nI c < 0 := nI_pos ha
  unfold cf_X10_isAnswer
  rw [m7, hq, if_pos (show (2 : Int32) ≤ nI 2 by decide), mt]
  have hseen : ∀ i, cz_seen c i < 256 := by
    intro i
    induction i with
    | zero => simp [cz_seen]
    | succ i ih =>
      unfold cz_seen
      have h2 : 2 ^ (c / 8 ^ i % 8) < 2 ^ 8 := Nat.pow_lt_pow_right (by decide) (Nat.mod_lt _ (by decide))
      exact Nat.or_lt_two_pow (n := 8) ih h2
  have hstep : ∀ i, i < α 6 0 0 → nI (cz_seen c i) ||| ((1 : Int32) <<< (((nI c >>> ((3 * nI i) &&& 31)) &&& 7) &&& 31)) = nI (cz_seen c (i + 1)) := by
    intro i hi
    rw [cz_dig ha (by omega), cz_sh1 _ (by have := Nat.mod_lt (c / 8 ^ i) (show 0 < 8 by decide); omega), cz_or]
    rfl
  have hdiv : nI c >>> ((3 * nI (α 6 0 0)) &&& 31) = 0 := by
    rw [cz_sr ha (by omega), Nat.div_eq_of_lt hc]
    rfl
  have p5 : 2 ^ α 6 0 0 ≤ 2 ^ 5 := Nat.pow_le_pow_right (by decide) ht.2
  have hs2 := hseen (α 6 0 0)
  have hK : (nI (cz_seen c (α 6 0 0)) = ((1 : Int32) <<< (nI (α 6 0 0) &&& 31)) - 1) = (cz_seen c (α 6 0 0) = 2 ^ α 6 0 0 - 1) := by
    rw [cz_kn _ (by omega), cz_eqn (by omega) (by omega)]
  obtain ⟨s2, h3, h4⟩ := cz_loop (fun f (s : Int32) y => cl_X10_isAnswer_32 τ (nI c) (fun x6 => (if nI c < 0 then (some 0) else (if (nI c >>> ((3 * nI (α 6 0 0)) &&& 31)) = 0 then (if x6 = ((1 <<< (nI (α 6 0 0) &&& 31)) - 1) then (some 1) else (some 0)) else (some 0)))) f s y) (α 6 0 0) 0 (fun i s => s = nI (cz_seen c i)) (fun s => (if s = ((1 <<< (nI (α 6 0 0) &&& 31)) - 1) then (some 1) else (some 0))) (Nat.zero_le _) (by omega) (fun i s _ hi hs => by
    refine ⟨nI (cz_seen c (i + 1)), fun f => ?_, rfl⟩
    show cl_X10_isAnswer_32 τ (nI c) _ (f + 1) s (nI i) = _
    rw [cl_X10_isAnswer_32, mt, if_neg (nI_ge hi (by omega)), nI_1, hs, hstep i hi]
    rfl) (fun f s _ => by
    show cl_X10_isAnswer_32 τ (nI c) _ (f + 1) s (nI (α 6 0 0)) = _
    rw [cl_X10_isAnswer_32, mt, if_pos (Int32.le_refl _), if_neg g, if_pos hdiv]) (nI 0) rfl
  refine Eq.trans h3 ?_
  rw [h4]
  simp only [hK]
  split <;> rfl
theorem cz_dext : ∀ th c d, c < 8 ^ th → d < 8 ^ th → (∀ i, i < th → cz_dg c i = cz_dg d i) → c = d
  | 0, c, d, hc, hd, _ => by
    rw [Nat.pow_zero] at hc hd
    omega
  | th + 1, c, d, hc, hd, h => by
    rw [Nat.pow_succ] at hc hd
    have h0 : c / 8 ^ 0 % 8 = d / 8 ^ 0 % 8 := h 0 (by omega)
    rw [Nat.pow_zero, Nat.div_one, Nat.div_one] at h0
    have ih := cz_dext th (c / 8) (d / 8) (by omega) (by omega) (fun i hi => by
      have e : c / 8 ^ (i + 1) % 8 = d / 8 ^ (i + 1) % 8 := h (i + 1) (by omega)
      rw [Nat.pow_succ, Nat.mul_comm, ← Nat.div_div_eq_div_mul, ← Nat.div_div_eq_div_mul] at e
      exact e)
    omega
theorem cz_rev_s (th c i : Nat) : cz_rev th c (i + 1) = cz_rev th c i * 8 + cz_dg c i := rfl
theorem cz_rev_eq {th c d : Nat} : ∀ {k : Nat}, (∀ i, i < k → cz_dg c i = cz_dg d i) → cz_rev th c k = cz_rev th d k
  | 0, _ => rfl
  | k + 1, h => by
    rw [cz_rev_s, cz_rev_s, cz_rev_eq (fun i hi => h i (by omega)), h k (by omega)]
theorem cz_rev_lt {th c d k : Nat} (h : ∀ i, i < k → cz_dg c i = cz_dg d i) (hk : cz_dg c k < cz_dg d k) : ∀ m, cz_rev th c (k + 1 + m) < cz_rev th d (k + 1 + m)
  | 0 => by
    rw [Nat.add_zero, cz_rev_s, cz_rev_s, cz_rev_eq h]
    omega
  | m + 1 => by
    have ih := cz_rev_lt (th := th) h hk m
    have d1 := cz_dg8 c (k + 1 + m)
    rw [← Nat.add_assoc, cz_rev_s, cz_rev_s]
    omega
theorem il_M {th c d : Nat} (h1 : 2 ≤ th) (h2 : th ≤ 5) (hc : c < 8 ^ th) (hd : d < 8 ^ th) (hne : c ≠ d) : cf_X10_isLower (nI c) (nI d) = some (if cz_rev th c th < cz_rev th d th then 1 else 0) := by
  have l8 := (cz_8th h1 h2).1
  obtain ⟨k, hk, hl⟩ := pk_least (fun k => k < th ∧ ¬ cz_dg c k = cz_dg d k) (Classical.byContradiction fun z => hne (cz_dext th c d hc hd (fun i hi => Classical.byContradiction fun q => z ⟨i, hi, q⟩)))
  have he : ∀ i, i < k → cz_dg c i = cz_dg d i := fun i hi => Classical.byContradiction fun q => hl i hi ⟨by omega, q⟩
  unfold cf_X10_isLower
  have d1 := cz_dg8 c k
  have d2 := cz_dg8 d k
  have le : (nI (cz_dg d k) ≤ nI (cz_dg c k)) = (cz_dg d k ≤ cz_dg c k) := cz_len (by omega) (by omega)
  obtain ⟨s', q1, -⟩ := cz_loop (fun f (_ : Unit) y => cl_X10_isLower_2 (nI c) (nI d) (fun x3 => (if ((nI d >>> ((3 * x3) &&& 31)) &&& 7) ≤ ((nI c >>> ((3 * x3) &&& 31)) &&& 7) then (some 0) else (some 1))) f y) k 0 (fun _ _ => True) (fun _ => if cz_dg d k ≤ cz_dg c k then (some 0) else (some 1)) (Nat.zero_le _) (by omega) (fun i s _ hi _ => by
    refine ⟨(), fun f => ?_, trivial⟩
    show cl_X10_isLower_2 (nI c) (nI d) _ (f + 1) (nI i) = _
    rw [cl_X10_isLower_2, cz_digd (by omega) (by omega), cz_digd (by omega) (by omega), he i hi, if_pos rfl, nI_1]) (fun f s _ => by
    show cl_X10_isLower_2 (nI c) (nI d) _ (f + 1) (nI k) = _
    have ne : ¬ nI (cz_dg c k) = nI (cz_dg d k) := by
      rw [nI_eq (by omega) (by omega)]
      exact hk.2
    rw [cl_X10_isLower_2, cz_digd (by omega) (by omega), cz_digd (by omega) (by omega), if_neg ne]
    simp only [le]) () trivial
  refine Eq.trans q1 ?_
  by_cases g : cz_dg d k ≤ cz_dg c k
  · have := cz_rev_lt (th := th) (c := d) (d := c) (k := k) (fun i hi => (he i hi).symm) (by have := hk.2; omega) (th - (k + 1))
    rw [show k + 1 + (th - (k + 1)) = th by omega] at this
    rw [if_pos g, if_neg (by omega)]
  · have := cz_rev_lt (th := th) (c := c) (d := d) (k := k) he (by omega) (th - (k + 1))
    rw [show k + 1 + (th - (k + 1)) = th by omega] at this
    rw [if_neg g, if_pos this]
theorem cz_rmono {th : Nat} (h1 : 2 ≤ th) (h2 : th ≤ 5) {w : Nat} : ∀ d, w + 1 + d < cz_fa th → cz_rev th (cz_cc th w) th < cz_rev th (cz_cc th (w + 1 + d)) th
  | 0, h => Nat.le_of_ble_eq_true (cz_wf3 th (by omega) h1 w (by omega))
  | d + 1, h => by
    have ih := cz_rmono h1 h2 (w := w) d (by omega)
    have s : cz_rev th (cz_cc th (w + 1 + d)) th < cz_rev th (cz_cc th (w + 1 + d + 1)) th := Nat.le_of_ble_eq_true (cz_wf3 th (by omega) h1 (w + 1 + d) (by omega))
    rw [← Nat.add_assoc]
    omega
theorem cz_rlt {th : Nat} (h1 : 2 ≤ th) (h2 : th ≤ 5) {w v : Nat} (hw : w < cz_fa th) (hv : v < cz_fa th) : cz_rev th (cz_cc th w) th < cz_rev th (cz_cc th v) th ↔ w < v := by
  rcases Nat.lt_trichotomy w v with q | q | q
  · have := cz_rmono h1 h2 (w := w) (v - (w + 1)) (by omega)
    rw [show w + 1 + (v - (w + 1)) = v by omega] at this
    exact ⟨fun _ => q, fun _ => this⟩
  · subst q
    omega
  · have := cz_rmono h1 h2 (w := v) (w - (v + 1)) (by omega)
    rw [show v + 1 + (w - (v + 1)) = w by omega] at this
    omega
theorem cz_ccinj {th : Nat} (h1 : 2 ≤ th) (h2 : th ≤ 5) {w v : Nat} (hw : w < cz_fa th) (hv : v < cz_fa th) (e : cz_cc th w = cz_cc th v) : w = v := by
  have a := cz_rlt h1 h2 hw hv
  have b := cz_rlt h1 h2 hv hw
  rw [e] at a b
  omega
theorem or_M {k : Nat} {α : ca_A} {τ : ca_S} (hI : CI k α) (hk : k ≤ 512) (hM : RM α τ) (hq : α 5 0 0 = 2) (x1 : Int32) (K : Int32 → Int32 → Option Int32) : ∃ w0, w0 < cz_fa (α 6 0 0) ∧ cl_X10_order_36 τ x1 K ca_FU (-1) 0 0 = K (nI (cz_cc (α 6 0 0) w0)) (nI (cz_T α (α 6 0 0) (α 0 0 0) (cz_cc (α 6 0 0) w0))) ∧ ∀ w, w < cz_fa (α 6 0 0) → cz_T α (α 6 0 0) (α 0 0 0) (cz_cc (α 6 0 0) w0) < cz_T α (α 6 0 0) (α 0 0 0) (cz_cc (α 6 0 0) w) ∨ (cz_T α (α 6 0 0) (α 0 0 0) (cz_cc (α 6 0 0) w0) = cz_T α (α 6 0 0) (α 0 0 0) (cz_cc (α 6 0 0) w) ∧ w0 ≤ w) := by
  have i1 := hI.1.1
  have ht := hI.1.2.2.2.2.2.2.1 hq
  have mt : τ.1 (20, 0, 0) 10 = nI (α 6 0 0) := hM.1.2.2.2.2.2.2.2.1 hq
  have fb := cz_fab (α 6 0 0) (by omega)
  obtain ⟨l8, l80, sh⟩ := cz_8th ht.1 ht.2
  obtain ⟨T, hT⟩ : ∃ T : Nat → Nat, ∀ w, T w = cz_T α (α 6 0 0) (α 0 0 0) (cz_cc (α 6 0 0) w) := ⟨_, fun _ => rfl⟩
  have bT : ∀ w, T w ≤ 400 := fun w => by
    rw [hT]
    exact cz_T_le _ _ _ _ ht.2 i1
  simp only [← hT]
  obtain ⟨⟨x2, x3⟩, q1, q2⟩ := cz_loop (fun f (s : Int32 × Int32) x => cl_X10_order_36 τ x1 K f s.1 s.2 x) (8 ^ α 6 0 0) 0 (fun c s => (s.1 = -1 ∧ ∀ w, w < cz_fa (α 6 0 0) → ¬ cz_cc (α 6 0 0) w < c) ∨ ∃ w0, w0 < cz_fa (α 6 0 0) ∧ cz_cc (α 6 0 0) w0 < c ∧ s.1 = nI (cz_cc (α 6 0 0) w0) ∧ s.2 = nI (T w0) ∧ ∀ w, w < cz_fa (α 6 0 0) → cz_cc (α 6 0 0) w < c → T w0 < T w ∨ (T w0 = T w ∧ w0 ≤ w)) (fun s => K s.1 s.2) (Nat.zero_le _) (by omega) (fun c s _ hc hs => by
    obtain ⟨x2, x3⟩ := s
    simp only at hs
    have ia := is_M hI hM hq hc
    by_cases g : cz_seen c (α 6 0 0) = 2 ^ α 6 0 0 - 1
    · rw [if_pos g] at ia
      obtain ⟨w, hw, ew⟩ := cz_wf2 ht.1 ht.2 hc g
      have tn := tn_M hI hk hM hq hw
      rw [← hT, ew] at tn
      have bw := bT w
      have inj : ∀ v, v < cz_fa (α 6 0 0) → cz_cc (α 6 0 0) v < c + 1 → v = w ∨ cz_cc (α 6 0 0) v < c := fun v hv hl => by
        rcases Nat.lt_or_ge (cz_cc (α 6 0 0) v) c with z | z
        · exact Or.inr z
        · refine Or.inl (cz_ccinj ht.1 ht.2 hv hw ?_)
          rw [ew]
          omega
      have unf : ∀ f, cl_X10_order_36 τ x1 K (f + 1) x2 x3 (nI c) = (if x2 < 0 then (cl_X10_order_36 τ x1 K f (nI c) (nI (T w)) (nI (c + 1))) else (if nI (T w) < x3 then (cl_X10_order_36 τ x1 K f (nI c) (nI (T w)) (nI (c + 1))) else (if nI (T w) = x3 then (ca_br (cf_X10_isLower (nI c) x2) fun r32 => (if r32 = 0 then (cl_X10_order_36 τ x1 K f x2 x3 (nI (c + 1))) else (cl_X10_order_36 τ x1 K f (nI c) (nI (T w)) (nI (c + 1))))) else (cl_X10_order_36 τ x1 K f x2 x3 (nI (c + 1)))))) := fun f => by
        rw [cl_X10_order_36, mt, sh, if_neg (nI_ge hc (by omega)), ia, cz_br, if_neg (show ¬ (1 : Int32) = 0 by decide), tn, cz_br, nI_1]
      have new : (∀ v, v < cz_fa (α 6 0 0) → cz_cc (α 6 0 0) v < c → T w < T v ∨ (T w = T v ∧ w ≤ v)) → ∃ w0, w0 < cz_fa (α 6 0 0) ∧ cz_cc (α 6 0 0) w0 < c + 1 ∧ nI c = nI (cz_cc (α 6 0 0) w0) ∧ nI (T w) = nI (T w0) ∧ ∀ v, v < cz_fa (α 6 0 0) → cz_cc (α 6 0 0) v < c + 1 → T w0 < T v ∨ (T w0 = T v ∧ w0 ≤ v) := fun z => ⟨w, hw, by omega, by rw [ew], rfl, fun v hv hl => by
        rcases inj v hv hl with q | q
        · rw [q]
          exact Or.inr ⟨rfl, Nat.le_refl _⟩
        · exact z v hv q⟩
      rcases hs with ⟨r1, r2⟩ | ⟨w0, r1, r2, r3, r4, r5⟩
      · refine ⟨(nI c, nI (T w)), fun f => ?_, Or.inr (new (fun v hv hl => absurd hl (r2 v hv)))⟩
        refine (unf f).trans ?_
        rw [r1, if_pos (show (-1 : Int32) < 0 by decide)]
      · have b0 := bT w0
        have np : ¬ x2 < 0 := by
          rw [r3]
          exact nI_pos (by omega)
        have lt : (nI (T w) < x3) = (T w < T w0) := by
          rw [r4, cz_ltn (by omega) (by omega)]
        have eq : (nI (T w) = x3) = (T w = T w0) := by
          rw [r4, cz_eqn (by omega) (by omega)]
        simp only [lt, eq] at unf
        by_cases g1 : T w < T w0
        · refine ⟨(nI c, nI (T w)), fun f => ?_, Or.inr (new (fun v hv hl => ?_))⟩
          · refine (unf f).trans ?_
            rw [if_neg np, if_pos g1]
          · have := r5 v hv hl
            omega
        · by_cases g2 : T w = T w0
          · have ne : c ≠ cz_cc (α 6 0 0) w0 := by omega
            have il := il_M ht.1 ht.2 hc (cz_cclt ht.1 ht.2 r1).1 ne
            have rl := cz_rlt ht.1 ht.2 hw r1
            rw [ew] at rl
            by_cases g3 : w < w0
            · rw [if_pos (rl.mpr g3)] at il
              refine ⟨(nI c, nI (T w)), fun f => ?_, Or.inr (new (fun v hv hl => ?_))⟩
              · refine (unf f).trans ?_
                rw [if_neg np, if_neg g1, if_pos g2, r3, il, cz_br, if_neg (show ¬ (1 : Int32) = 0 by decide)]
              · have := r5 v hv hl
                omega
            · rw [if_neg (fun z => g3 (rl.mp z))] at il
              refine ⟨(x2, x3), fun f => ?_, Or.inr ⟨w0, r1, by omega, r3, r4, fun v hv hl => ?_⟩⟩
              · refine (unf f).trans ?_
                rw [if_neg np, if_neg g1, if_pos g2, r3, il, cz_br, if_pos rfl]
              · rcases inj v hv hl with q | q
                · rw [q]
                  exact Or.inr ⟨g2.symm, by omega⟩
                · exact r5 v hv q
          · refine ⟨(x2, x3), fun f => ?_, Or.inr ⟨w0, r1, by omega, r3, r4, fun v hv hl => ?_⟩⟩
            · refine (unf f).trans ?_
              rw [if_neg np, if_neg g1, if_neg g2]
            · rcases inj v hv hl with q | q
              · rw [q]
                exact Or.inl (by omega)
              · exact r5 v hv q
    · rw [if_neg g] at ia
      have nv : ∀ v, v < cz_fa (α 6 0 0) → cz_cc (α 6 0 0) v < c + 1 → cz_cc (α 6 0 0) v < c := fun v hv hl => by
        rcases Nat.lt_or_ge (cz_cc (α 6 0 0) v) c with z | z
        · exact z
        · exfalso
          have e : cz_cc (α 6 0 0) v = c := by omega
          have := (cz_cclt ht.1 ht.2 hv).2
          rw [e] at this
          exact g this
      refine ⟨(x2, x3), fun f => ?_, ?_⟩
      · show cl_X10_order_36 τ x1 K (f + 1) x2 x3 (nI c) = _
        rw [cl_X10_order_36, mt, sh, if_neg (nI_ge hc (by omega)), ia, cz_br, if_pos rfl, nI_1]
      · rcases hs with ⟨r1, r2⟩ | ⟨w0, r1, r2, r3, r4, r5⟩
        · exact Or.inl ⟨r1, fun w hw hl => r2 w hw (nv w hw hl)⟩
        · exact Or.inr ⟨w0, r1, by omega, r3, r4, fun v hv hl => r5 v hv (nv v hv hl)⟩) (fun f s hs => by
    show cl_X10_order_36 τ x1 K (f + 1) s.1 s.2 (nI (8 ^ α 6 0 0)) = _
    rw [cl_X10_order_36, mt, sh, if_pos (Int32.le_refl _)]) (-1, 0) (Or.inl ⟨rfl, fun w hw hl => by omega⟩)
  simp only at q1 q2
  rcases q2 with ⟨-, r2⟩ | ⟨w0, r1, r2, r3, r4, r5⟩
  · exact absurd (cz_cclt ht.1 ht.2 fb.1).1 (r2 0 fb.1)
  · refine ⟨w0, r1, ?_, fun w hw => r5 w hw (cz_cclt ht.1 ht.2 hw).1⟩
    refine Eq.trans q1 ?_
    rw [r3, r4]
theorem st_order {k : Nat} {σ τ : ca_S} (hk0 : k < 512) (h : ca_R k σ τ) : ca_St_order ca_R k σ τ := by
  have hk := h.mono (Nat.le_succ k)
  obtain ⟨α, hI, hC, hM⟩ := h
  have hkl := Nat.le_of_lt hk0
  obtain ⟨c1, c2, c3, c4, c5, c6, c7, c8, c9, c10, c11, c12, c13⟩ := hC.1
  obtain ⟨m1, m2, m3, m4, m5, m6, m7, m8, m9, m10, m11, m12, m13⟩ := hM.1
  obtain ⟨i1, i2, i3, i4, i5, i6, i7, i8, i9, i10, i11⟩ := hI.1
  intro a
  unfold cf_X9_order cf_X10_order
  rcases cw_C a 0 1 0 1 rfl rfl (by decide) (by decide) with ⟨f1, f2, -⟩ | ⟨x, -, hx, rfl, f1, f2⟩
  · rw [f1, f2]
    exact ⟨-1, σ, rfl, rfl, hk⟩
  rw [f1, f2]
  rcases res_both hI hkl hC hM 2 (by decide) with ⟨g1, g2⟩ | ⟨g1, g2, hq, -⟩
  · have g1 : cf_X9_areResultsShown σ 2 = some 0 := g1
    have g2 : cf_X10_isShownOf τ 2 = some 0 := g2
    rw [g1, g2]
    exact ⟨-2, σ, rfl, rfl, hk⟩
  have g1 : cf_X9_areResultsShown σ 2 = some 1 := g1
  have g2 : cf_X10_isShownOf τ 2 = some 1 := g2
  have bm : cz_many α ≤ α 0 0 0 := cz_ct_le _ _
  rw [g1, g2, many_C hI hkl hC, many_M hI hkl hM]
  simp only [cz_br, if_neg (show ¬ (1 : Int32) = 0 by decide), cz_eq0 (show cz_many α ≤ 100000 by omega)]
  by_cases z : cz_many α = 0
  · simp only [if_pos z]
    exact ⟨-2, σ, rfl, rfl, hk⟩
  simp only [if_neg z]
  obtain ⟨σ', w0, a1, a2, a3, a4, a5, a6, a7, a8⟩ := jn_C hI hkl hC hq
  obtain ⟨w1, b1, b2, b3⟩ := or_M hI hkl hM hq (nI x) (fun x37 x38 => (if nI x = 0 then (some x37) else (some x38)))
  have e : w1 = w0 := by
    have h1 := b3 w0 a2
    have h2 := a5 w1 b1
    rcases Nat.lt_trichotomy w1 w0 with q | q | q
    · have := a6 w1 q
      omega
    · exact q
    · omega
  subst e
  have hR : ca_R (k + 1) σ' τ := ⟨α, hI.mono (Nat.le_succ k), RC_hi hC a7 a8, hM⟩
  rw [c1, c8 hq, a1, cz_bv, a3, a4, b2]
  rcases (show x = 0 ∨ x = 1 by omega) with rfl | rfl
  · exact ⟨_, σ', rfl, rfl, hR⟩
  · exact ⟨_, σ', rfl, rfl, hR⟩
