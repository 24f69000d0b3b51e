-- ===== the middle of some numbers =====
def cz_ins (f : Nat → Nat) (p x i : Nat) : Nat := if i < p then f i else if i = p then x else f (i - 1)
theorem cz_ins_ct (q : Nat → Bool) (f : Nat → Nat) (p x : Nat) : ∀ m, p ≤ m → cz_ct (fun i => q (cz_ins f p x i)) (m + 1) = cz_ct (fun i => q (f i)) m + (if q x then 1 else 0) := by
  intro m
  induction m with
  | zero =>
    intro h
    have e : p = 0 := by omega
    subst e
    simp [cz_ct, cz_ins]
  | succ m ih =>
    intro h
    by_cases g : p = m + 1
    · subst g
      have e : cz_ct (fun i => q (cz_ins f (m + 1) x i)) (m + 1) = cz_ct (fun i => q (f i)) (m + 1) := cz_ct_congr (fun i hi => by simp [cz_ins, hi])
      rw [cz_ct, e]
      simp [cz_ins]
    · have e := ih (by omega)
      rw [cz_ct, e, cz_ct]
      have e2 : cz_ins f p x (m + 1) = f m := by
        unfold cz_ins
        rw [if_neg (by omega), if_neg (by omega)]
        rfl
      rw [e2]
      omega
theorem cz_ins_s {f : Nat → Nat} {m p x : Nat} (hp : p ≤ m) (hs : ∀ i j, i ≤ j → j < m → f i ≤ f j) (h1 : ∀ i, i < p → f i ≤ x) (h2 : ∀ i, p ≤ i → i < m → x < f i) : ∀ i j, i ≤ j → j < m + 1 → cz_ins f p x i ≤ cz_ins f p x j := by
  intro i j hij hj
  unfold cz_ins
  by_cases a : j < p
  · rw [if_pos a, if_pos (by omega)]
    exact hs i j hij (by omega)
  · rw [if_neg a]
    by_cases b : j = p
    · rw [if_pos b]
      by_cases c : i < p
      · rw [if_pos c]
        exact h1 i c
      · rw [if_neg c, if_pos (by omega)]
        exact Nat.le_refl _
    · rw [if_neg b]
      by_cases c : i < p
      · rw [if_pos c]
        exact hs i (j - 1) (by omega) (by omega)
      · rw [if_neg c]
        by_cases d : i = p
        · rw [if_pos d]
          exact Nat.le_of_lt (h2 (j - 1) (by omega) (by omega))
        · rw [if_neg d]
          exact hs (i - 1) (j - 1) (by omega) (by omega)
theorem ins_key {σ : ca_S} {f : Nat → Nat} {m x : Nat} (hm : m < 16) (hs : ∀ i j, i ≤ j → j < m → f i ≤ f j) (hb : ∀ i, i < m → f i ≤ 200000) (hx : x ≤ 200000) : ∀ p σ1, p ≤ m → (∀ i, i < p → σ1.1 (15, 0, 0) i = nI (f i)) → (∀ i, p < i → i ≤ m → σ1.1 (15, 0, 0) i = nI (f (i - 1))) → (∀ i, p ≤ i → i < m → x < f i) → (∀ c k, c ≠ (15, 0, 0) → σ1.1 c k = σ.1 c k) → σ1.2 = σ.2 → ∀ (K : ca_S → Int32 → Option ca_S) fu, ∃ σ2 p', p' ≤ m ∧ cl_X5_putInOrder_15 (nI x) K (fu + p + 1) σ1 (nI p) = K σ2 (nI p') ∧ (∀ i, i < p' → σ2.1 (15, 0, 0) i = nI (f i)) ∧ (∀ i, p' < i → i ≤ m → σ2.1 (15, 0, 0) i = nI (f (i - 1))) ∧ (∀ i, i < p' → f i ≤ x) ∧ (∀ i, p' ≤ i → i < m → x < f i) ∧ (∀ c k, c ≠ (15, 0, 0) → σ2.1 c k = σ.1 c k) ∧ σ2.2 = σ.2 := by
  intro p
  induction p with
  | zero =>
    intro σ1 hp a1 a2 a3 a4 a5 K fu
    refine ⟨σ1, 0, Nat.zero_le _, ?_, a1, a2, fun i hi => by omega, a3, a4, a5⟩
    rw [cl_X5_putInOrder_15, if_pos (show nI 0 ≤ 0 from Int32.le_refl _)]
  | succ p ih =>
    intro σ1 hp a1 a2 a3 a4 a5 K fu
    have e1 : nI (p + 1) - 1 = nI p := by
      rw [nI_succ, Int32.add_sub_cancel]
    have e2 : ¬ nI (p + 1) ≤ 0 := by
      rw [cz_le0 (by omega)]
      omega
    by_cases g : f p ≤ x
    · have hle : nI (f p) ≤ nI x := by
        have := hb p (by omega)
        exact (nI_leI (by omega) (by omega)).mpr g
      refine ⟨σ1, p + 1, hp, ?_, a1, a2, fun i hi => Nat.le_trans (hs i p (by omega) (by omega)) g, a3, a4, a5⟩
      rw [show fu + (p + 1) + 1 = (fu + p + 1) + 1 by omega, cl_X5_putInOrder_15, if_neg e2, e1, cz_in (show p < 16 by omega) (by decide), nI_clamp (show p < 2 ^ 31 by omega), a1 p (by omega), cz_gd, if_pos hle]
    · obtain ⟨σ2, p', b1, b2, b3⟩ := ih (ca_st σ1 (15, 0, 0) (p + 1) (nI (f p))) (by omega) (fun i hi => by
        have : ¬ i = p + 1 := by omega
        simpa [ca_st, this] using a1 i (by omega)) (fun i hi hi2 => by
        by_cases z : i = p + 1
        · subst z
          simp [ca_st]
        · simpa [ca_st, z] using a2 i (by omega) hi2) (fun i hi hi2 => by
        by_cases z : i = p
        · subst z
          omega
        · exact a3 i (by omega) hi2) (fun c k hc => by
        simpa [ca_st, hc] using a4 c k hc) (by simpa [ca_st] using a5) K fu
      refine ⟨σ2, p', b1, ?_, b3⟩
      rw [show fu + (p + 1) + 1 = (fu + p + 1) + 1 by omega, cl_X5_putInOrder_15, if_neg e2, e1, cz_in (show p < 16 by omega) (by decide), cz_in (show p + 1 < 16 by omega) (by decide), nI_clamp (show p < 2 ^ 31 by omega), nI_clamp (show p + 1 < 2 ^ 31 by omega), a1 p (by omega), pk_m1]
      simp only [cz_br, cz_bi, cz_bv, cz_gd, cz_lt, cz_len (hb p (by omega)) hx, if_neg g]
      exact b2
theorem ins_C {σ : ca_S} {f : Nat → Nat} {m x : Nat} (hm : m < 16) (h1 : σ.1 (14, 0, 0) 1 = nI m) (hf : ∀ i, i < m → σ.1 (15, 0, 0) i = nI (f i)) (hs : ∀ i j, i ≤ j → j < m → f i ≤ f j) (hb : ∀ i, i < m → f i ≤ 200000) (hx : x ≤ 200000) : ∃ σ' p, p ≤ m ∧ cf_X5_putInOrder σ (nI x) = some σ' ∧ σ'.1 (14, 0, 0) 1 = nI (m + 1) ∧ (∀ i, i < m + 1 → σ'.1 (15, 0, 0) i = nI (cz_ins f p x i)) ∧ (∀ i j, i ≤ j → j < m + 1 → cz_ins f p x i ≤ cz_ins f p x j) ∧ (∀ c k, c ≠ (15, 0, 0) → (c ≠ (14, 0, 0) ∨ k ≠ 1) → σ'.1 c k = σ.1 c k) ∧ σ'.2 = σ.2 := by
  obtain ⟨σ2, p, b1, b2, b3, b4, b5, b6, b7, b8⟩ := ins_key hm hs hb hx m σ (Nat.le_refl _) hf (fun i h h' => by omega) (fun i h h' => by omega) (fun _ _ _ => rfl) rfl (fun σ11 x12 => (cj_X5_putInOrder_51 σ11 (nI x) x12)) (99999 - m)
  have e : ca_FU = 99999 - m + m + 1 := by
    rw [ca_FU_eq]
    omega
  have c14 : σ2.1 (14, 0, 0) 1 = nI m := by rw [b7 _ _ (by decide), h1]
  refine ⟨ca_st (ca_st σ2 (15, 0, 0) p (nI x)) (14, 0, 0) 1 (nI (m + 1)), p, b1, ?_, by simp [ca_st], ?_, cz_ins_s b1 hs b5 b6, ?_, ?_⟩
  · unfold cf_X5_putInOrder
    rw [h1, show (16 : Int32) = nI 16 from rfl, if_pos ((nI_ltI (by omega) (by decide)).mpr hm), e, b2]
    unfold cj_X5_putInOrder_51
    rw [cz_in (show p < 16 by omega) (by decide), nI_clamp (show p < 2 ^ 31 by omega)]
    simp only [cz_br, cz_bi, cz_bv, cz_gd, cz_lt]
    have : (ca_st σ2 (15, 0, 0) p (nI x)).1 (14, 0, 0) 1 = nI m := by simpa [ca_st] using c14
    rw [this, nI_1]
  · intro i hi
    unfold cz_ins
    by_cases a : i < p
    · rw [if_pos a]
      have : ¬ i = p := by omega
      simpa [ca_st, this] using b3 i a
    · rw [if_neg a]
      by_cases b : i = p
      · subst b
        simp [ca_st]
      · rw [if_neg b]
        simpa [ca_st, b] using b4 i (by omega) (by omega)
  · intro c k hc hk
    have : ¬ (c = (14, 0, 0) ∧ k = 1) := fun z => by
      rcases hk with hk | hk
      · exact hk z.1
      · exact hk z.2
    simpa [ca_st, hc, this] using b7 c k hc
  · simpa [ca_st] using b8
/-- the lesser middle, by counting -/
def cz_mid (S : (Nat → Bool) → Nat) (m v : Nat) : Prop := S (fun a => decide (a < v)) ≤ (m - 1) / 2 ∧ (m - 1) / 2 < S (fun a => decide (a ≤ v)) ∧ 0 < S (fun a => decide (a = v))
theorem cz_ct_imp {p q : Nat → Bool} : ∀ {n : Nat}, (∀ i, i < n → p i = true → q i = true) → cz_ct p n ≤ cz_ct q n
  | 0, _ => Nat.le_refl _
  | n + 1, h => by
    have a := cz_ct_imp (p := p) (q := q) (n := n) (fun i hi => h i (by omega))
    have b := h n (by omega)
    unfold cz_ct
    by_cases g : p n = true
    · rw [if_pos g, if_pos (b g)]
      omega
    · rw [if_neg g]
      omega
theorem cz_ct_all {p : Nat → Bool} : ∀ {n : Nat}, (∀ i, i < n → p i = true) → cz_ct p n = n
  | 0, _ => rfl
  | n + 1, h => by
    unfold cz_ct
    rw [cz_ct_all (fun i hi => h i (by omega)), if_pos (h n (by omega))]
theorem cz_ct_none {p : Nat → Bool} : ∀ {n : Nat}, (∀ i, i < n → p i = false) → cz_ct p n = 0
  | 0, _ => rfl
  | n + 1, h => by
    unfold cz_ct
    rw [cz_ct_none (fun i hi => h i (by omega)), h n (by omega)]
    rfl
theorem cz_ct_tail {p : Nat → Bool} {h : Nat} (hp : ∀ i, h ≤ i → p i = false) (m : Nat) : cz_ct p m ≤ h := by
  by_cases g : m ≤ h
  · have := cz_ct_le p m
    omega
  · have e := cz_ct_cut hp (m - h)
    rw [show h + (m - h) = m by omega] at e
    have := cz_ct_le p h
    omega
theorem mid_s {f : Nat → Nat} {m : Nat} (hm : 0 < m) (hs : ∀ i j, i ≤ j → j < m → f i ≤ f j) : cz_mid (fun q => cz_ct (fun i => q (f i)) m) m (f ((m - 1) / 2)) := by
  have hh : (m - 1) / 2 < m := by omega
  refine ⟨?_, ?_, ?_⟩
  · have e : cz_ct (fun i => decide (f i < f ((m - 1) / 2))) m = cz_ct (fun i => decide (i < m) && decide (f i < f ((m - 1) / 2))) m := cz_ct_congr (fun i hi => by simp [hi])
    show cz_ct (fun i => decide (f i < f ((m - 1) / 2))) m ≤ (m - 1) / 2
    rw [e]
    apply cz_ct_tail
    intro i hi
    by_cases g : i < m
    · have := hs ((m - 1) / 2) i hi g
      simp [g]
      omega
    · simp [g]
  · show (m - 1) / 2 < cz_ct (fun i => decide (f i ≤ f ((m - 1) / 2))) m
    have a : cz_ct (fun i => decide (f i ≤ f ((m - 1) / 2))) ((m - 1) / 2 + 1) = (m - 1) / 2 + 1 := cz_ct_all (fun i hi => by
      have := hs i ((m - 1) / 2) (by omega) hh
      simpa using this)
    have b := cz_ct_mono (p := fun i => decide (f i ≤ f ((m - 1) / 2))) (i := (m - 1) / 2 + 1) (j := m) (by omega)
    omega
  · show 0 < cz_ct (fun i => decide (f i = f ((m - 1) / 2))) m
    have b := cz_ct_mono (p := fun i => decide (f i = f ((m - 1) / 2))) (i := (m - 1) / 2 + 1) (j := m) (by omega)
    have c : cz_ct (fun i => decide (f i = f ((m - 1) / 2))) ((m - 1) / 2 + 1) = cz_ct (fun i => decide (f i = f ((m - 1) / 2))) ((m - 1) / 2) + 1 := by
      rw [cz_ct]
      simp
    omega
theorem mid_u {g : Nat → Nat} {m v w : Nat} (h1 : cz_ct (fun i => decide (g i < v)) m ≤ (m - 1) / 2) (h2 : (m - 1) / 2 < cz_ct (fun i => decide (g i ≤ v)) m) (h3 : cz_ct (fun i => decide (g i < w)) m ≤ (m - 1) / 2) (h4 : (m - 1) / 2 < cz_ct (fun i => decide (g i ≤ w)) m) : v = w := by
  by_cases a : v < w
  · have := cz_ct_imp (p := fun i => decide (g i ≤ v)) (q := fun i => decide (g i < w)) (n := m) (fun i _ h => by
      simp at h ⊢
      omega)
    omega
  · by_cases b : w < v
    · have := cz_ct_imp (p := fun i => decide (g i ≤ w)) (q := fun i => decide (g i < v)) (n := m) (fun i _ h => by
        simp at h ⊢
        omega)
      omega
    · omega
