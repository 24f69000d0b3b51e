-- ===== the class counts the pairs =====
theorem RC_hi {α : ca_A} {σ σ' : ca_S} (hC : RC α σ) (h : ∀ c k, c.1 < 14 → σ'.1 c k = σ.1 c k) (h2 : σ'.2 = σ.2) : RC α σ' := by
  refine ⟨?_, fun b hb => ?_, fun b j hb hj => ?_, fun l hl => ?_, fun i b hi hb => ?_⟩
  · have := hC.1
    simpa [RC1, h, h2] using this
  · have := hC.2.1 b hb
    simpa [h] using this
  · have := hC.2.2.1 b j hb hj
    simpa [h] using this
  · have := hC.2.2.2.1 l hl
    simpa [h] using this
  · have := hC.2.2.2.2 i b hi hb
    simpa [h] using this
theorem cz_digd {a i : Nat} (ha : a < 2 ^ 31) (hi : i < 10) : (nI a >>> ((3 * nI i) &&& 31)) &&& 7 = nI (cz_dg a i) := cz_dig ha hi
theorem cz_dg8 (a i : Nat) : cz_dg a i < 8 := Nat.mod_lt _ (by decide)
/-- a counter from i0 to n, whatever comes behind it -/
theorem cz_loopK {S ρ : Type} (F : (S → Option ρ) → Nat → S → Int32 → Option ρ) (n i0 : Nat) (I : Nat → S → Prop) (hi : i0 ≤ n) (hn : n < 99999) (hs : ∀ i s, i0 ≤ i → i < n → I i s → ∃ s', (∀ K f, F K (f + 1) s (nI i) = F K f s' (nI (i + 1))) ∧ I (i + 1) s') (hx : ∀ K f s, I n s → F K (f + 1) s (nI n) = K s) (s : S) (h0 : I i0 s) : ∃ s', (∀ K, F K ca_FU s (nI i0) = K s') ∧ I n s' := by
  have key : ∀ m i s, i + m = n → i0 ≤ i → I i s → ∃ s', (∀ K f, F K (f + m) s (nI i) = F K f s' (nI n)) ∧ I n s' := by
    intro m
    induction m with
    | zero =>
      intro i s h _ hI
      have e : i = n := by omega
      subst e
      exact ⟨s, fun _ _ => rfl, hI⟩
    | succ m ih =>
      intro i s h hi0 hi
      obtain ⟨s1, h1, h2⟩ := hs i s hi0 (by omega) hi
      obtain ⟨s2, h3, h4⟩ := ih (i + 1) s1 (by omega) (by omega) h2
      refine ⟨s2, fun K f => ?_, h4⟩
      have e : f + (m + 1) = (f + m) + 1 := by omega
      rw [e, h1, h3]
  obtain ⟨s', h1, h2⟩ := key (n - i0) i0 s (by omega) (Nat.le_refl _) h0
  have e : ca_FU = 99999 - (n - i0) + 1 + (n - i0) := by
    rw [ca_FU_eq]
    omega
  refine ⟨s', fun K => ?_, h2⟩
  rw [e, h1, hx _ _ s' h2]
/-- the cells of the pairs -/
def cz_cl18 (σ : ca_S) (th : Nat) (B : Nat → Nat → Nat) : Prop := ∀ x y, x < th → y < th → σ.1 (18, x, 0) y = nI (B x y)
theorem ap12_C {σ : ca_S} {th a i : Nat} {B : Nat → Nat → Nat} (hth : th ≤ 5) (ha : a < 2 ^ 31) (hd : ∀ j, j < th → cz_dg a j < th) (hi : i < th) (hB : cz_cl18 σ th B) : ∃ σ', (∀ K : ca_S → Option ca_S, cl_X1_addPairs_12 (nI a) (nI th) (nI i) K ca_FU σ (nI (i + 1)) = K σ') ∧ cz_cl18 σ' th (fun x y => B x y + cz_ct (fun j => Nat.blt i j && (Nat.beq (cz_dg a i) x && Nat.beq (cz_dg a j) y)) th) ∧ (∀ c k, c.1 ≠ 18 → σ'.1 c k = σ.1 c k) ∧ σ'.2 = σ.2 := by
  obtain ⟨s', h1, h2⟩ := cz_loopK (fun (K : ca_S → Option ca_S) f (s : ca_S) x => cl_X1_addPairs_12 (nI a) (nI th) (nI i) K f s x) th (i + 1) (fun j s => cz_cl18 s th (fun x y => B x y + cz_ct (fun j => Nat.blt i j && (Nat.beq (cz_dg a i) x && Nat.beq (cz_dg a j) y)) j) ∧ (∀ c k, c.1 ≠ 18 → s.1 c k = σ.1 c k) ∧ s.2 = σ.2) hi (by omega) (fun j s j1 hj hs => by
    obtain ⟨r1, r2, r3⟩ := hs
    have di := hd i hi
    have dj := hd j hj
    refine ⟨ca_st s (18, cz_dg a i, 0) (cz_dg a j) (nI (B (cz_dg a i) (cz_dg a j) + cz_ct (fun j' => Nat.blt i j' && (Nat.beq (cz_dg a i) (cz_dg a i) && Nat.beq (cz_dg a j') (cz_dg a j))) j + 1)), fun K f => ?_, fun x y hx hy => ?_, fun c k hc => ?_, ?_⟩
    · show cl_X1_addPairs_12 (nI a) (nI th) (nI i) K (f + 1) s (nI j) = _
      rw [cl_X1_addPairs_12, if_neg (nI_ge hj (by omega)), cz_digd ha (show i < 10 by omega), cz_digd ha (show j < 10 by omega), if_neg (nI_ge di (by omega)), if_neg (nI_ge dj (by omega)), cz_in (show cz_dg a i < 5 by omega) (by decide), cz_in (show cz_dg a j < 5 by omega) (by decide), nI_clamp (show cz_dg a i < 2 ^ 31 by omega), nI_clamp (show cz_dg a j < 2 ^ 31 by omega), cz_gd, cz_gd, cz_gd, cz_lt, r1 _ _ di dj, nI_1, nI_1]
    · have bl : Nat.blt i j = true := Nat.ble_eq_true_of_le (show i + 1 ≤ j by omega)
      have e : cz_ct (fun j => Nat.blt i j && (Nat.beq (cz_dg a i) x && Nat.beq (cz_dg a j) y)) (j + 1) = cz_ct (fun j => Nat.blt i j && (Nat.beq (cz_dg a i) x && Nat.beq (cz_dg a j) y)) j + (if (Nat.blt i j && (Nat.beq (cz_dg a i) x && Nat.beq (cz_dg a j) y)) = true then 1 else 0) := rfl
      have q := r1 x y hx hy
      by_cases z : x = cz_dg a i ∧ y = cz_dg a j
      · obtain ⟨z1, z2⟩ := z
        subst z1
        subst z2
        have b : (Nat.blt i j && (Nat.beq (cz_dg a i) (cz_dg a i) && Nat.beq (cz_dg a j) (cz_dg a j))) = true := by
          rw [bl, Nat.beq_refl, Nat.beq_refl]
          rfl
        show (ca_st s _ _ _).1 _ _ = nI (_ + cz_ct _ (j + 1))
        rw [e, if_pos b]
        simp [ca_st, Nat.add_assoc]
      · have b : ¬ (Nat.blt i j && (Nat.beq (cz_dg a i) x && Nat.beq (cz_dg a j) y)) = true := by
          intro b
          simp only [Bool.and_eq_true] at b
          exact z ⟨(Nat.eq_of_beq_eq_true b.2.1).symm, (Nat.eq_of_beq_eq_true b.2.2).symm⟩
        show (ca_st s _ _ _).1 _ _ = nI (_ + cz_ct _ (j + 1))
        rw [e, if_neg b, Nat.add_zero]
        have nz : ¬ ((18, x, 0) = ((18, cz_dg a i, 0) : ca_I) ∧ y = cz_dg a j) := by
          rintro ⟨p, q⟩
          exact z ⟨by simpa using p, q⟩
        simp only [ca_st, if_neg nz]
        exact q
    · have nz : ¬ (c = (18, cz_dg a i, 0) ∧ k = cz_dg a j) := by
        rintro ⟨p, q⟩
        exact hc (by rw [p])
      simp only [ca_st, if_neg nz]
      exact r2 c k hc
    · exact r3) (fun K f s hs => by
    show cl_X1_addPairs_12 (nI a) (nI th) (nI i) K (f + 1) s (nI th) = _
    rw [cl_X1_addPairs_12, if_pos (Int32.le_refl _)]) σ ⟨fun x y hx hy => by
      have e : cz_ct (fun j => Nat.blt i j && (Nat.beq (cz_dg a i) x && Nat.beq (cz_dg a j) y)) (i + 1) = 0 := cz_ct_none (fun j hj => by
        have : Nat.blt i j = false := by
          cases b : Nat.blt i j with
          | false => rfl
          | true =>
            have : i + 1 ≤ j := Nat.le_of_ble_eq_true b
            omega
        rw [this]
        rfl)
      show _ = nI (_ + cz_ct _ (i + 1))
      rw [e, Nat.add_zero]
      exact hB x y hx hy, fun _ _ _ => rfl, rfl⟩
  exact ⟨s', h1, h2⟩
theorem ap_C {σ : ca_S} {th a : Nat} {B : Nat → Nat → Nat} (hth : th ≤ 5) (ha : a < 2 ^ 31) (hd : ∀ j, j < th → cz_dg a j < th) (hB : cz_cl18 σ th B) : ∃ σ', cf_X1_addPairs σ (nI a) (nI th) = some σ' ∧ cz_cl18 σ' th (fun x y => B x y + cz_pc th a x y) ∧ (∀ c k, c.1 ≠ 18 → σ'.1 c k = σ.1 c k) ∧ σ'.2 = σ.2 := by
  unfold cf_X1_addPairs
  obtain ⟨s', h1, h2⟩ := cz_loop (fun f (s : ca_S) x => cl_X1_addPairs_2 (nI a) (nI th) (fun σ14 => (some σ14)) f s x) th 0 (fun i s => cz_cl18 s th (fun x y => B x y + cz_sm (fun i => cz_ct (fun j => Nat.blt i j && (Nat.beq (cz_dg a i) x && Nat.beq (cz_dg a j) y)) th) i) ∧ (∀ c k, c.1 ≠ 18 → s.1 c k = σ.1 c k) ∧ s.2 = σ.2) (fun s => some s) (Nat.zero_le _) (by omega) (fun i s _ hi hs => by
    obtain ⟨r1, r2, r3⟩ := hs
    obtain ⟨s', k1, e2, e3, e4⟩ := ap12_C (σ := s) hth ha hd hi r1
    have e1 : ∀ f, cl_X1_addPairs_2 (nI a) (nI th) (fun σ14 => (some σ14)) (f + 1) s (nI i) = cl_X1_addPairs_2 (nI a) (nI th) (fun σ14 => (some σ14)) f s' (nI (i + 1)) := fun f => by
      rw [cl_X1_addPairs_2, if_neg (nI_ge hi (by omega)), nI_1, k1]
    refine ⟨s', e1, fun x y hx hy => ?_, fun c k hc => (e3 c k hc).trans (r2 c k hc), e4.trans r3⟩
    rw [e2 x y hx hy]
    show nI (_ + _ + _) = nI (_ + cz_sm _ (i + 1))
    rw [cz_sm_s, Nat.add_assoc]) (fun f s hs => by
    show cl_X1_addPairs_2 (nI a) (nI th) _ (f + 1) s (nI th) = _
    rw [cl_X1_addPairs_2, if_pos (Int32.le_refl _)]) σ ⟨hB, fun _ _ _ => rfl, rfl⟩
  exact ⟨s', h1, h2⟩
