theorem cz_ct_le_eq (g : Nat → Nat) (v : Nat) : ∀ n, cz_ct (fun i => decide (g i < v)) n + cz_ct (fun i => decide (g i = v)) n = cz_ct (fun i => decide (g i ≤ v)) n
  | 0 => rfl
  | n + 1 => by
    have := cz_ct_le_eq g v n
    unfold cz_ct
    by_cases a : g n < v
    · have b : ¬ g n = v := by omega
      have c : g n ≤ v := by omega
      simp [a, b, c]
      omega
    · by_cases b : g n = v
      · simp [b]
        omega
      · have c : ¬ g n ≤ v := by omega
        simp [a, b, c]
        omega
theorem in_M {τ : ca_S} {g : Nat → Nat} {m c : Nat} (hm2 : m ≤ 16) (hc : c < m) (hg : ∀ i, i < m → τ.1 (21, 31, 0) i = nI (g i)) (hb : ∀ i, i < m → g i ≤ 200000) (K : Int32 → Int32 → Option Int32) : cl_X10_middle_15 τ (nI m) (nI c) K ca_FU 0 0 0 = K (nI (cz_ct (fun i => decide (g i < g c)) m)) (nI (cz_ct (fun i => decide (g i = g c)) m)) := by
  obtain ⟨s', h1, h2⟩ := cz_loop (fun f (s : Int32 × Int32) x => cl_X10_middle_15 τ (nI m) (nI c) K f s.1 s.2 x) m 0 (fun i s => s = (nI (cz_ct (fun i => decide (g i < g c)) i), nI (cz_ct (fun i => decide (g i = g c)) i))) (fun s => K s.1 s.2) (Nat.zero_le _) (by omega) (fun i s _ hi hs => by
    subst hs
    refine ⟨_, fun f => ?_, rfl⟩
    have b1 := hb i hi
    have b2 := hb c hc
    show cl_X10_middle_15 τ (nI m) (nI c) K (f + 1) (nI (cz_ct (fun i => decide (g i < g c)) i)) (nI (cz_ct (fun i => decide (g i = g c)) i)) (nI i) = cl_X10_middle_15 τ (nI m) (nI c) K f (nI (cz_ct (fun i => decide (g i < g c)) (i + 1))) (nI (cz_ct (fun i => decide (g i = g c)) (i + 1))) (nI (i + 1))
    rw [cl_X10_middle_15, if_neg (nI_ge hi (by omega)), cz_in (show i < 16 by omega) (by decide), cz_in (show c < 16 by omega) (by decide), nI_clamp (show i < 2 ^ 31 by omega), nI_clamp (show c < 2 ^ 31 by omega), hg i hi, hg c hc, cz_gd, cz_gd]
    unfold cj_X10_middle_43
    rw [cz_in (show i < 16 by omega) (by decide), cz_in (show c < 16 by omega) (by decide), nI_clamp (show i < 2 ^ 31 by omega), nI_clamp (show c < 2 ^ 31 by omega), hg i hi, hg c hc, nI_1, nI_1]
    rw [cz_gd, cz_gd, cz_gd, cz_gd]
    have z0 : ∀ x : Int32, x + 0 = x := Int32.add_zero
    by_cases a : g i = g c
    · have q1 : nI (g c) ≤ nI (g i) := by
        rw [a]
        exact Int32.le_refl _
      have q2 : nI (g i) = nI (g c) := by rw [a]
      have w : ¬ g i < g c := by omega
      rw [if_pos q1, if_pos q2, z0]
      simp [cz_ct, a]
    · have q2 : ¬ nI (g i) = nI (g c) := by
        rw [nI_eq (by omega) (by omega)]
        exact a
      by_cases b : g i < g c
      · have q1 : ¬ nI (g c) ≤ nI (g i) := by
          rw [nI_leI (by omega) (by omega)]
          omega
        rw [if_neg q1, if_neg q2, z0, nI_1]
        simp [cz_ct, a, b]
      · have q1 : nI (g c) ≤ nI (g i) := by
          rw [nI_leI (by omega) (by omega)]
          omega
        rw [if_pos q1, if_neg q2, z0, z0]
        simp [cz_ct, a, b]) (fun f s hs => by
    show cl_X10_middle_15 τ (nI m) (nI c) K (f + 1) s.1 s.2 (nI m) = _
    rw [cl_X10_middle_15, if_pos (Int32.le_refl _)]) (nI 0, nI 0) rfl
  exact h1.trans (by rw [h2])
theorem mid_M {τ : ca_S} {g : Nat → Nat} {m v : Nat} (hm : 0 < m) (hm2 : m ≤ 16) (hg : ∀ i, i < m → τ.1 (21, 31, 0) i = nI (g i)) (hb : ∀ i, i < m → g i ≤ 200000) (h1 : cz_ct (fun i => decide (g i < v)) m ≤ (m - 1) / 2) (h2 : (m - 1) / 2 < cz_ct (fun i => decide (g i ≤ v)) m) (h3 : 0 < cz_ct (fun i => decide (g i = v)) m) : cf_X10_middle τ (nI m) = some (nI v) := by
  obtain ⟨c, hc, hcv, -⟩ := cz_kth h3
  have hcv : g c = v := by simpa using hcv
  have eh : (nI m - 1) / 2 = nI ((m - 1) / 2) := by
    rw [show (1 : Int32) = nI 1 from rfl, pk_sub (by omega), show (2 : Int32) = nI 2 from rfl, pk_div (by omega) (by decide) (by decide)]
  have key : ∀ d i, i + d = c → ∀ f, cl_X10_middle_2 τ (nI m) (some 0) (f + d + 1) (nI i) = some (nI v) := by
    intro d
    induction d with
    | zero =>
      intro i hi f
      have e : i = c := by omega
      subst e
      have q := cz_ct_le_eq g (g i) m
      have l1 := cz_ct_le (fun j => decide (g j < g i)) m
      have l2 := cz_ct_le (fun j => decide (g j ≤ g i)) m
      rw [hcv] at q l1 l2
      rw [cl_X10_middle_2, if_neg (nI_ge hc (by omega)), in_M hm2 hc hg hb, eh, hcv, if_neg (show ¬ (2 : Nat) = 0 by decide), if_neg (show ¬ (2 : Nat) = 0 by decide), nI_add, q, if_neg, if_neg, cz_in (show i < 16 by omega) (by decide), nI_clamp (show i < 2 ^ 31 by omega), hg i hc, hcv]
      · rfl
      · rw [nI_leI (by omega) (by omega)]
        omega
      · rw [nI_ltI (by omega) (by omega)]
        omega
    | succ d ih =>
      intro i hi f
      have hi2 : i < m := by omega
      have q := cz_ct_le_eq g (g i) m
      have l1 := cz_ct_le (fun j => decide (g j < g i)) m
      have l2 := cz_ct_le (fun j => decide (g j ≤ g i)) m
      rw [show f + (d + 1) + 1 = (f + d + 1) + 1 by omega, cl_X10_middle_2, if_neg (nI_ge hi2 (by omega)), in_M hm2 hi2 hg hb, eh, if_neg (show ¬ (2 : Nat) = 0 by decide), if_neg (show ¬ (2 : Nat) = 0 by decide), nI_add, q, nI_1]
      by_cases a : (m - 1) / 2 < cz_ct (fun j => decide (g j < g i)) m
      · rw [if_pos ((nI_ltI (by omega) (by omega)).mpr a)]
        exact ih (i + 1) (by omega) f
      · have a2 : ¬ nI ((m - 1) / 2) < nI (cz_ct (fun j => decide (g j < g i)) m) := by
          rw [nI_ltI (by omega) (by omega)]
          exact a
        rw [if_neg a2]
        by_cases b : cz_ct (fun j => decide (g j ≤ g i)) m ≤ (m - 1) / 2
        · rw [if_pos ((nI_leI (by omega) (by omega)).mpr b)]
          exact ih (i + 1) (by omega) f
        · have b2 : ¬ nI (cz_ct (fun j => decide (g j ≤ g i)) m) ≤ nI ((m - 1) / 2) := by
            rw [nI_leI (by omega) (by omega)]
            exact b
          have e : g i = v := mid_u (g := g) (m := m) (by omega) (by omega) h1 h2
          rw [if_neg b2, cz_in (show i < 16 by omega) (by decide), nI_clamp (show i < 2 ^ 31 by omega), hg i hi2, e]
          rfl
  have e : ca_FU = 99999 - c + c + 1 := by
    rw [ca_FU_eq]
    omega
  unfold cf_X10_middle
  rw [e]
  exact key c 0 (by omega) _
