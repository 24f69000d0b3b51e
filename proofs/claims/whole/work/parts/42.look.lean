def cz_cs (α : ca_A) (q : Nat → Bool) (n : Nat) : Nat := cz_ct (fun b => (cz_ao α b).any q) n
theorem RC_scr {α : ca_A} {σ σ' : ca_S} (hC : RC α σ) (h : ∀ c k, c.1 ≠ 14 → c.1 ≠ 15 → σ'.1 c k = σ.1 c k) (h2 : σ'.2 = σ.2) : RC α σ' := by
  refine ⟨?_, fun b hb => ?_, fun b j hb hj => ?_, fun l hl => ?_, fun i b hi hb => ?_⟩
  · have := hC.1
    simpa [RC1, h, h2] using this
  · have := hC.2.1 b hb
    simpa [h] using this
  · have := hC.2.2.1 b j hb hj
    simpa [h] using this
  · have := hC.2.2.2.1 l hl
    simpa [h] using this
  · have := hC.2.2.2.2 i b hi hb
    simpa [h] using this
/-- a row in order, that holds what S counts -/
def cz_row (σ : ca_S) (f : Nat → Nat) (m : Nat) (S : (Nat → Bool) → Nat) : Prop := σ.1 (14, 0, 0) 1 = nI m ∧ (∀ i, i < m → σ.1 (15, 0, 0) i = nI (f i)) ∧ (∀ i j, i ≤ j → j < m → f i ≤ f j) ∧ (∀ i, i < m → f i ≤ 200000) ∧ (∀ q, cz_ct (fun i => q (f i)) m = S q)
theorem cz_row_m {σ : ca_S} {f : Nat → Nat} {m : Nat} {S : (Nat → Bool) → Nat} (h : cz_row σ f m S) : m = S (fun _ => true) := by
  have := h.2.2.2.2 (fun _ => true)
  rw [← this]
  exact (cz_ct_all (fun i _ => rfl)).symm
theorem put_row {σ : ca_S} {f : Nat → Nat} {m x : Nat} {S : (Nat → Bool) → Nat} (h : cz_row σ f m S) (hm : m < 16) (hx : x ≤ 200000) : ∃ σ' f', cf_X5_putInOrder σ (nI x) = some σ' ∧ cz_row σ' f' (m + 1) (fun q => S q + if q x then 1 else 0) ∧ (∀ c k, c ≠ (15, 0, 0) → (c ≠ (14, 0, 0) ∨ k ≠ 1) → σ'.1 c k = σ.1 c k) ∧ σ'.2 = σ.2 := by
  obtain ⟨h1, h2, h3, h4, h5⟩ := h
  obtain ⟨σ', p, a1, a2, a3, a4, a5, a6, a7⟩ := ins_C hm h1 h2 h3 h4 hx
  refine ⟨σ', cz_ins f p x, a2, ⟨a3, a4, a5, ?_, ?_⟩, a6, a7⟩
  · intro i hi
    unfold cz_ins
    by_cases b1 : i < p
    · rw [if_pos b1]
      exact h4 i (by omega)
    · rw [if_neg b1]
      by_cases b2 : i = p
      · rw [if_pos b2]
        exact hx
      · rw [if_neg b2]
        exact h4 (i - 1) (by omega)
  · intro q
    rw [cz_ins_ct q f p x m a1, h5]
theorem lk7_C {k : Nat} {α : ca_A} {σ : ca_S} (hI : CI k α) (hk : k ≤ 512) (hC : RC α σ) (h14 : σ.1 (14, 0, 0) 1 = nI 0) (K : ca_S → Option ca_S) : ∃ σ' f m, cl_X5_look_7 (nI (α 0 0 0)) K ca_FU σ 0 = K σ' ∧ cz_row σ' f m (fun q => cz_cs α q (α 0 0 0)) ∧ (∀ c k, c ≠ (15, 0, 0) → (c ≠ (14, 0, 0) ∨ k ≠ 1) → σ'.1 c k = σ.1 c k) ∧ σ'.2 = σ.2 := by
  have i1 := hI.1.1
  obtain ⟨s', h1, f, m, h2, h3, h4⟩ := cz_loop (fun f (s : ca_S) x => cl_X5_look_7 (nI (α 0 0 0)) K f s x) (α 0 0 0) 0 (fun i s => ∃ f m, cz_row s f m (fun q => cz_cs α q i) ∧ (∀ c k, c ≠ (15, 0, 0) → (c ≠ (14, 0, 0) ∨ k ≠ 1) → s.1 c k = σ.1 c k) ∧ s.2 = σ.2) K (Nat.zero_le _) (by omega) (fun i s _ hi hs => by
    obtain ⟨f, m, r1, r2, r3⟩ := hs
    have hCs : RC α s := RC_scr hC (fun c k n1 n2 => r2 c k (fun z => n2 (by rw [z])) (Or.inl (fun z => n1 (by rw [z])))) r3
    have hm : m ≤ i := by
      rw [cz_row_m r1]
      exact cz_ct_le _ _
    have an := an_C hI hk hCs (show i < 16 by omega)
    have bd := cz_aob hI (show i < 16 by omega)
    cases e : cz_ao α i with
    | none =>
      refine ⟨s, fun fu => ?_, f, m, ?_, r2, r3⟩
      · show cl_X5_look_7 (nI (α 0 0 0)) K (fu + 1) s (nI i) = _
        rw [cl_X5_look_7, if_neg (nI_ge hi (by omega)), cz_in (show i < 16 by omega) (by decide), nI_clamp (show i < 2 ^ 31 by omega), an, e, nI_1]
        rfl
      · refine ⟨r1.1, r1.2.1, r1.2.2.1, r1.2.2.2.1, fun q => ?_⟩
        rw [r1.2.2.2.2 q]
        simp [cz_cs, cz_ct, e]
    | some a =>
      have ba := bd a e
      obtain ⟨s2, f2, p1, p2, p3, p4⟩ := put_row r1 (show m < 16 by omega) (show a ≤ 200000 by omega)
      refine ⟨s2, fun fu => ?_, f2, m + 1, ?_, fun c k n1 n2 => (p3 c k n1 n2).trans (r2 c k n1 n2), p4.trans r3⟩
      · show cl_X5_look_7 (nI (α 0 0 0)) K (fu + 1) s (nI i) = _
        have ne : ¬ cz_eo (some a) = (-4) := by
          rw [cz_eo_m4 (fun b hb => by cases hb; omega)]
          exact fun z => by cases z
        rw [cl_X5_look_7, if_neg (nI_ge hi (by omega)), cz_in (show i < 16 by omega) (by decide), nI_clamp (show i < 2 ^ 31 by omega), an, e, nI_1, cz_gd, cz_br, if_neg ne, cz_gd, cz_br]
        have p1' : cf_X5_putInOrder s (cz_eo (some a)) = some s2 := p1
        rw [p1', cz_bv]
      · refine ⟨p2.1, p2.2.1, p2.2.2.1, p2.2.2.2.1, fun q => ?_⟩
        rw [p2.2.2.2.2 q]
        simp [cz_cs, cz_ct, e]) (fun f s hs => by
    show cl_X5_look_7 (nI (α 0 0 0)) K (f + 1) s (nI (α 0 0 0)) = _
    rw [cl_X5_look_7, if_pos (Int32.le_refl _)]) σ ⟨fun _ => 0, 0, ⟨h14, fun i hi => by omega, fun i j _ hj => by omega, fun i hi => by omega, fun q => rfl⟩, fun _ _ _ _ => rfl, rfl⟩
  exact ⟨s', f, m, h1, h2, h3, h4⟩
