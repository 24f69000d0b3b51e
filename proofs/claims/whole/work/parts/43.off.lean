def cz_off (v a : Nat) : Nat := if v ≤ a then a - v else v - a
theorem cz_off_b {v a : Nat} (hv : v ≤ 100000) (ha : a ≤ 100000) : cz_off v a ≤ 100000 := by
  unfold cz_off
  split <;> omega
theorem cz_off_v {v a : Nat} (hv : v ≤ 100000) (ha : a ≤ 100000) : (if 0 ≤ nI a - nI v then nI a - nI v else 0 - (nI a - nI v)) = nI (cz_off v a) := by
  unfold cz_off
  by_cases g : v ≤ a
  · rw [if_pos g, pk_sub g, if_pos (nI_pos' (by omega))]
  · have n : ¬ (0 : Int32) ≤ nI a - nI v := by
      have := pk_sneg (a := a) (b := v) (by omega) (by omega)
      intro z
      rw [Int32.le_iff_toInt_le] at z
      rw [Int32.lt_iff_toInt_lt] at this
      omega
    rw [if_neg g, if_neg n, Int32.zero_sub, Int32.neg_sub, pk_sub (by omega)]
theorem sz_M {v a : Nat} (hv : v ≤ 100000) (ha : a ≤ 100000) : cf_X10_size (nI a - nI v) = some (nI (cz_off v a)) := by
  rw [← cz_off_v hv ha]
  unfold cf_X10_size
  by_cases g : (0 : Int32) ≤ nI a - nI v
  · rw [if_pos g, if_pos g]
  · rw [if_neg g, if_neg g, Int32.zero_sub]
theorem off_C {k : Nat} {α : ca_A} {σ : ca_S} (hI : CI k α) (hk : k ≤ 512) (hC : RC α σ) {b a v : Nat} (hb : b < 16) (h : cz_ao α b = some a) (hv : v ≤ 100000) (h2 : σ.1 (14, 0, 0) 2 = nI v) : cf_X5_off σ b = some (nI (cz_off v a)) := by
  unfold cf_X5_off
  rw [an_C hI hk hC hb, h, h2, cz_br]
  exact congrArg some (cz_off_v hv (cz_aob hI hb a h))
theorem lk54_C {k : Nat} {α : ca_A} {σ : ca_S} (hI : CI k α) (hk : k ≤ 512) (hC : RC α σ) {v : Nat} (hv : v ≤ 100000) (hmid : σ.1 (14, 0, 0) 2 = nI v) (h14 : σ.1 (14, 0, 0) 1 = nI 0) (K : ca_S → Option ca_S) : ∃ σ' f m, cl_X5_look_54 (nI (α 0 0 0)) K ca_FU σ 0 = K σ' ∧ cz_row σ' f m (fun q => cz_cs α (fun a => q (cz_off v a)) (α 0 0 0)) ∧ (∀ c k, c ≠ (15, 0, 0) → (c ≠ (14, 0, 0) ∨ k ≠ 1) → σ'.1 c k = σ.1 c k) ∧ σ'.2 = σ.2 := by
  have i1 := hI.1.1
  obtain ⟨s', h1, f, m, h2, h3, h4⟩ := cz_loop (fun f (s : ca_S) x => cl_X5_look_54 (nI (α 0 0 0)) K f s x) (α 0 0 0) 0 (fun i s => ∃ f m, cz_row s f m (fun q => cz_cs α (fun a => q (cz_off v a)) i) ∧ (∀ c k, c ≠ (15, 0, 0) → (c ≠ (14, 0, 0) ∨ k ≠ 1) → s.1 c k = σ.1 c k) ∧ s.2 = σ.2) K (Nat.zero_le _) (by omega) (fun i s _ hi hs => by
    obtain ⟨f, m, r1, r2, r3⟩ := hs
    have hCs : RC α s := RC_scr hC (fun c k n1 n2 => r2 c k (fun z => n2 (by rw [z])) (Or.inl (fun z => n1 (by rw [z])))) r3
    have hm : m ≤ i := by
      rw [cz_row_m r1]
      exact cz_ct_le _ _
    have an := an_C hI hk hCs (show i < 16 by omega)
    have bd := cz_aob hI (show i < 16 by omega)
    have hmid2 : s.1 (14, 0, 0) 2 = nI v := (r2 _ _ (by decide) (Or.inr (by decide))).trans hmid
    cases e : cz_ao α i with
    | none =>
      refine ⟨s, fun fu => ?_, f, m, ?_, r2, r3⟩
      · show cl_X5_look_54 (nI (α 0 0 0)) K (fu + 1) s (nI i) = _
        rw [cl_X5_look_54, if_neg (nI_ge hi (by omega)), cz_in (show i < 16 by omega) (by decide), nI_clamp (show i < 2 ^ 31 by omega), an, e, nI_1]
        rfl
      · refine ⟨r1.1, r1.2.1, r1.2.2.1, r1.2.2.2.1, fun q => ?_⟩
        rw [r1.2.2.2.2 q]
        simp [cz_cs, cz_ct, e]
    | some a =>
      have ba := bd a e
      have bo := cz_off_b hv ba
      obtain ⟨s2, f2, p1, p2, p3, p4⟩ := put_row r1 (show m < 16 by omega) (show cz_off v a ≤ 200000 by omega)
      refine ⟨s2, fun fu => ?_, f2, m + 1, ?_, fun c k n1 n2 => (p3 c k n1 n2).trans (r2 c k n1 n2), p4.trans r3⟩
      · show cl_X5_look_54 (nI (α 0 0 0)) K (fu + 1) s (nI i) = _
        have ne : ¬ cz_eo (some a) = (-4) := by
          rw [cz_eo_m4 (fun b hb => by cases hb; omega)]
          exact fun z => by cases z
        rw [cl_X5_look_54, if_neg (nI_ge hi (by omega)), cz_in (show i < 16 by omega) (by decide), nI_clamp (show i < 2 ^ 31 by omega), an, e, nI_1, cz_gd, cz_br, if_neg ne, cz_gd, off_C hI hk hCs (show i < 16 by omega) e hv hmid2, cz_br, p1, cz_bv]
      · refine ⟨p2.1, p2.2.1, p2.2.2.1, p2.2.2.2.1, fun q => ?_⟩
        rw [p2.2.2.2.2 q]
        simp [cz_cs, cz_ct, e]) (fun f s hs => by
    show cl_X5_look_54 (nI (α 0 0 0)) K (f + 1) s (nI (α 0 0 0)) = _
    rw [cl_X5_look_54, if_pos (Int32.le_refl _)]) σ ⟨fun _ => 0, 0, ⟨h14, fun i hi => by omega, fun i j _ hj => by omega, fun i hi => by omega, fun q => rfl⟩, fun _ _ _ _ => rfl, rfl⟩
  exact ⟨s', f, m, h1, h2, h3, h4⟩
theorem lm_C {σ : ca_S} {f : Nat → Nat} {m : Nat} {S : (Nat → Bool) → Nat} (h : cz_row σ f m S) (hm : 0 < m) (hm2 : m ≤ 16) : cf_X5_lesserMiddle σ = some (nI (f ((m - 1) / 2))) := by
  unfold cf_X5_lesserMiddle
  have e1 : ¬ nI m ≤ 0 := by
    rw [cz_le0 (by omega)]
    omega
  have eh : (nI m - 1) / 2 = nI ((m - 1) / 2) := by
    rw [show (1 : Int32) = nI 1 from rfl, pk_sub (by omega), show (2 : Int32) = nI 2 from rfl, pk_div (by omega) (by decide) (by decide)]
  rw [h.1, if_neg e1, if_neg (show ¬ (2 : Nat) = 0 by decide), eh, cz_in (show (m - 1) / 2 < 16 by omega) (by decide), nI_clamp (show (m - 1) / 2 < 2 ^ 31 by omega), h.2.1 _ (by omega), cz_gd]
