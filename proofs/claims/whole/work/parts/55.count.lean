def cz_A (α : ca_A) (th n x y : Nat) : Nat := cz_sm (fun b => match cz_ao α b with
  | none => 0
  | some a => cz_bt (cz_mx th a) x y) n
theorem cp12_C {σ : ca_S} {th x : Nat} (hth : th ≤ 5) (hx : x < th) (x2 : Int32) : ∃ σ', (∀ K : ca_S → Option ca_S, cl_X1_countPairs_12 x2 (nI th) (nI x) K ca_FU σ 0 = K σ') ∧ (∀ y, y < th → σ'.1 (18, x, 0) y = nI 0) ∧ (∀ c k, c ≠ (18, x, 0) → σ'.1 c k = σ.1 c k) ∧ σ'.2 = σ.2 := by
  obtain ⟨s', h1, h2⟩ := cz_loopK (fun (K : ca_S → Option ca_S) f (s : ca_S) y => cl_X1_countPairs_12 x2 (nI th) (nI x) K f s y) th 0 (fun j s => (∀ y, y < j → s.1 (18, x, 0) y = nI 0) ∧ (∀ c k, c ≠ (18, x, 0) → s.1 c k = σ.1 c k) ∧ s.2 = σ.2) (Nat.zero_le _) (by omega) (fun j s j1 hj hs => by
    obtain ⟨r1, r2, r3⟩ := hs
    refine ⟨ca_st s (18, x, 0) j 0, fun K f => ?_, fun y hy => ?_, fun c k hc => ?_, r3⟩
    · show cl_X1_countPairs_12 x2 (nI th) (nI x) K (f + 1) s (nI j) = _
      rw [cl_X1_countPairs_12, if_neg (nI_ge hj (by omega)), cz_in (show x < 5 by omega) (by decide), cz_in (show j < 5 by omega) (by decide), nI_clamp (show x < 2 ^ 31 by omega), nI_clamp (show j < 2 ^ 31 by omega), cz_gd, cz_gd, cz_lt, nI_1]
    · by_cases z : y = j
      · simp [ca_st, z]
        rfl
      · have := r1 y (by omega)
        simpa [ca_st, z] using this
    · have := r2 c k hc
      simpa [ca_st, hc] using this) (fun K f s hs => by
    show cl_X1_countPairs_12 x2 (nI th) (nI x) K (f + 1) s (nI th) = _
    rw [cl_X1_countPairs_12, if_pos (Int32.le_refl _)]) σ ⟨fun y hy => by omega, fun _ _ _ => rfl, rfl⟩
  exact ⟨s', h1, h2⟩
theorem cp3_C {σ : ca_S} {th : Nat} (hth : th ≤ 5) (x2 : Int32) : ∃ σ', (∀ K : ca_S → Option ca_S, cl_X1_countPairs_3 x2 (nI th) K ca_FU σ 0 = K σ') ∧ cz_cl18 σ' th (fun _ _ => 0) ∧ (∀ c k, c.1 ≠ 18 → σ'.1 c k = σ.1 c k) ∧ σ'.2 = σ.2 := by
  obtain ⟨s', h1, h2⟩ := cz_loopK (fun (K : ca_S → Option ca_S) f (s : ca_S) y => cl_X1_countPairs_3 x2 (nI th) K f s y) th 0 (fun i s => (∀ x y, x < i → y < th → s.1 (18, x, 0) y = nI 0) ∧ (∀ c k, c.1 ≠ 18 → s.1 c k = σ.1 c k) ∧ s.2 = σ.2) (Nat.zero_le _) (by omega) (fun i s _ hi hs => by
    obtain ⟨r1, r2, r3⟩ := hs
    obtain ⟨s', k1, k2, k3, k4⟩ := cp12_C (σ := s) hth hi x2
    refine ⟨s', fun K f => ?_, fun x y hx hy => ?_, fun c k hc => ?_, k4.trans r3⟩
    · show cl_X1_countPairs_3 x2 (nI th) K (f + 1) s (nI i) = _
      rw [cl_X1_countPairs_3, if_neg (nI_ge hi (by omega)), nI_1, k1]
    · by_cases z : x = i
      · rw [z]
        exact k2 y hy
      · rw [k3 (18, x, 0) y (by simpa using z)]
        exact r1 x y (by omega) hy
    · rw [k3 c k (fun w => hc (by rw [w]))]
      exact r2 c k hc) (fun K f s hs => by
    show cl_X1_countPairs_3 x2 (nI th) K (f + 1) s (nI th) = _
    rw [cl_X1_countPairs_3, if_pos (Int32.le_refl _)]) σ ⟨fun x y hx hy => by omega, fun _ _ _ => rfl, rfl⟩
  exact ⟨s', h1, fun x y hx hy => h2.1 x y hx hy, h2.2⟩
/-- an answer to a question of kind 2 is a way -/
theorem cz_way {k : Nat} {α : ca_A} (hI : CI k α) (hq : α 5 0 0 = 2) {b a : Nat} (hb : b < 16) (h : cz_ao α b = some a) : ∃ w, w < cz_fa (α 6 0 0) ∧ cz_cc (α 6 0 0) w = a := by
  have ok := (cz_ao_ok hI hb h).2.2 hq
  have ht := hI.1.2.2.2.2.2.2.1 hq
  exact cz_wf2 ht.1 ht.2 ok.1 ok.2
theorem cp_C {k : Nat} {α : ca_A} {σ : ca_S} (hI : CI k α) (hk : k ≤ 512) (hC : RC α σ) (hq : α 5 0 0 = 2) : ∃ σ', cf_X1_countPairs σ (nI (α 0 0 0)) (nI (α 6 0 0)) = some σ' ∧ cz_cl18 σ' (α 6 0 0) (cz_A α (α 6 0 0) (α 0 0 0)) ∧ (∀ c k, c.1 ≠ 18 → σ'.1 c k = σ.1 c k) ∧ σ'.2 = σ.2 := by
  have i1 := hI.1.1
  have ht := hI.1.2.2.2.2.2.2.1 hq
  unfold cf_X1_countPairs
  obtain ⟨σ0, z1, z2, z3, z4⟩ := cp3_C (σ := σ) ht.2 (nI (α 0 0 0))
  rw [z1]
  obtain ⟨s', h1, h2⟩ := cz_loop (fun f (s : ca_S) x => cl_X1_countPairs_44 (nI (α 0 0 0)) (nI (α 6 0 0)) (fun σ25 => (some σ25)) f s x) (α 0 0 0) 0 (fun i s => cz_cl18 s (α 6 0 0) (cz_A α (α 6 0 0) i) ∧ (∀ c k, c.1 ≠ 18 → s.1 c k = σ.1 c k) ∧ s.2 = σ.2) (fun s => some s) (Nat.zero_le _) (by omega) (fun i s _ hi hs => by
    obtain ⟨r1, r2, r3⟩ := hs
    have hCs : RC α s := RC_hi hC (fun c k n1 => r2 c k (by omega)) r3
    have an := an_C hI hk hCs (show i < 16 by omega)
    have bd := cz_aob hI (show i < 16 by omega)
    cases e : cz_ao α i with
    | none =>
      refine ⟨s, fun fu => ?_, fun x y hx hy => ?_, r2, r3⟩
      · show cl_X1_countPairs_44 (nI (α 0 0 0)) (nI (α 6 0 0)) _ (fu + 1) s (nI i) = _
        rw [cl_X1_countPairs_44, if_neg (nI_ge hi (by omega)), cz_in (show i < 16 by omega) (by decide), nI_clamp (show i < 2 ^ 31 by omega), an, e, nI_1]
        rfl
      · rw [r1 x y hx hy]
        unfold cz_A
        rw [cz_sm_s, e]
        rfl
    | some a =>
      have ba := bd a e
      have ne : ¬ cz_eo (some a) = (-4) := by
        rw [cz_eo_m4 (fun b hb => by cases hb; omega)]
        exact fun z => by cases z
      obtain ⟨w, hw, ew⟩ := cz_way hI hq (show i < 16 by omega) e
      have f1 := fun {x : Nat} (hx : x < α 6 0 0) => cz_w1b ht.1 ht.2 hw hx
      rw [ew] at f1
      obtain ⟨s', k1, k2, k3, k4⟩ := ap_C (σ := s) (a := a) ht.2 (by omega) (fun j hj => (f1 hj).2.2.1) r1
      refine ⟨s', fun fu => ?_, fun x y hx hy => ?_, fun c k hc => (k3 c k hc).trans (r2 c k hc), k4.trans r3⟩
      · show cl_X1_countPairs_44 (nI (α 0 0 0)) (nI (α 6 0 0)) _ (fu + 1) s (nI i) = _
        rw [cl_X1_countPairs_44, if_neg (nI_ge hi (by omega)), cz_in (show i < 16 by omega) (by decide), nI_clamp (show i < 2 ^ 31 by omega), an, e, nI_1, cz_gd, cz_br, if_neg ne, cz_gd, cz_br]
        show (ca_bv (cf_X1_addPairs s (nI a) (nI (α 6 0 0))) _) = _
        rw [k1, cz_bv]
      · rw [k2 x y hx hy]
        show nI (cz_A α (α 6 0 0) i x y + cz_pc (α 6 0 0) a x y) = _
        rw [← ((f1 hx).2.2.2.2 y hy).1]
        unfold cz_A
        rw [cz_sm_s, e]) (fun f s hs => by
    show cl_X1_countPairs_44 (nI (α 0 0 0)) (nI (α 6 0 0)) _ (f + 1) s (nI (α 0 0 0)) = _
    rw [cl_X1_countPairs_44, if_pos (Int32.le_refl _)]) σ0 ⟨fun x y hx hy => z2 x y hx hy, z3, z4⟩
  exact ⟨s', h1, h2⟩
