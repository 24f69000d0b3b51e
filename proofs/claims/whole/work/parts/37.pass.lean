theorem cz_for3 {S T ρ : Type} (F : Nat → S → Int32 → Option ρ) {π : Type} (G : (T → Option π) → Nat → T → Int32 → Option π) (n : Nat) (I : Nat → S → T → Prop) (hn : n < 99999) (hs : ∀ i s t, i < n → I i s t → ∃ s' t', (∀ f, F (f + 1) s (nI i) = F f s' (nI (i + 1))) ∧ (∀ K f, G K (f + 1) t (nI i) = G K f t' (nI (i + 1))) ∧ I (i + 1) s' t') (s : S) (t : T) (h0 : I 0 s t) : ∃ s' t' f, F ca_FU s 0 = F (f + 1) s' (nI n) ∧ (∀ K, G K ca_FU t 0 = G K (f + 1) t' (nI n)) ∧ I n s' t' := by
  have key : ∀ m i s t, i + m = n → I i s t → ∀ f, ∃ s' t', F (f + m) s (nI i) = F f s' (nI n) ∧ (∀ K, G K (f + m) t (nI i) = G K f t' (nI n)) ∧ I n s' t' := by
    intro m
    induction m with
    | zero =>
      intro i s t h hi f
      have e : i = n := by omega
      subst e
      exact ⟨s, t, rfl, fun _ => rfl, hi⟩
    | succ m ih =>
      intro i s t h hi f
      obtain ⟨s1, t1, h1, h2, h3⟩ := hs i s t (by omega) hi
      obtain ⟨s2, t2, h4, h5, h6⟩ := ih (i + 1) s1 t1 (by omega) h3 f
      refine ⟨s2, t2, ?_, fun K => ?_, h6⟩
      · have e : f + (m + 1) = (f + m) + 1 := by omega
        rw [e, h1, h4]
      · have e : f + (m + 1) = (f + m) + 1 := by omega
        rw [e, h2, h5]
  obtain ⟨s', t', h1, h2, h3⟩ := key n 0 s t (by omega) h0 (99999 - n + 1)
  have e : ca_FU = 99999 - n + 1 + n := by
    rw [ca_FU_eq]
    omega
  refine ⟨s', t', 99999 - n, ?_, fun K => ?_, h3⟩
  · rw [e]
    exact h1
  · rw [e]
    exact h2 K
theorem br_CM {k hi : Nat} {α : ca_A} {σ τ : ca_S} (hT : TI k hi α) (hk : k ≤ 512) (hC : RC α σ) (hM : RM α τ) (hL : α 8 0 0 ≤ 320) (hhi : hi ≤ 32 * α 1 0 0 + 32) : ∃ α' σ' τ' t, cf_X6_bringWhatIsDue σ (nI (α 1 0 0)) (nI (α 7 0 0)) = some (ca_st σ' (8, 0, 0) 6 (nI t)) ∧ (∀ K : ca_S → Int32 → Option ca_S, cl_X10_passes_52 K ca_FU τ 0 0 = K τ' (nI t)) ∧ DI k hi t (α 8 0 0) α' ∧ RC α' σ' ∧ RM α' τ' ∧ α' 8 0 0 = α 8 0 0 ∧ α' 1 0 0 = α 1 0 0 ∧ α' 0 0 0 = α 0 0 0 ∧ α' 4 0 0 = α 4 0 0 := by
  have hD0 : DI k hi 0 0 α := ⟨hT.1, hT.2.1, hT.2.2.1, hT.2.2.2.2, hT.2.2.2.1.1, Nat.le_refl _, Nat.zero_le _, fun l hl _ => by
    have := hT.2.2.2.1.2.1 l hl
    unfold LI
    exact ⟨this.1, this.2.1, this.2.2.1, this.2.2.2.1, this.2.2.2.2.1, this.2.2.2.2.2.1, this.2.2.2.2.2.2.1, this.2.2.2.2.2.2.2.1, this.2.2.2.2.2.2.2.2, fun z => by omega⟩, fun l l' h h' _ _ => hT.2.2.2.1.2.2 l l' h h'⟩
  have ht1 : α 1 0 0 ≤ 100000 := hT.1.2.1
  have ht7 : α 7 0 0 ≤ 100000 := hT.1.2.2.2.2.2.2.2.1
  have ht0 : α 0 0 0 ≤ 16 := hT.1.1
  obtain ⟨⟨s1, x1⟩, ⟨s2, x2⟩, f, e1, e2, β, t, r1, r2, hD, rC, rM, v8, v1, v7, v0, v4⟩ := cz_for3 (S := ca_S × Int32) (T := ca_S × Int32) (π := ca_S) (fun f s x => cl_X6_bringWhatIsDue_6 (nI (α 1 0 0)) (nI (α 7 0 0)) (fun σ24 x25 => (ca_lt (ca_st σ24 (8, 0, 0) 6 x25) fun σ26 => (some σ26))) f s.1 s.2 x) (fun K f s x => cl_X10_passes_52 (fun a b => K (a, b)) f s.1 s.2 x) (α 8 0 0) (fun i s u => ∃ β t, s.2 = nI t ∧ u.2 = nI t ∧ DI k hi t i β ∧ RC β s.1 ∧ RM β u.1 ∧ β 8 0 0 = α 8 0 0 ∧ β 1 0 0 = α 1 0 0 ∧ β 7 0 0 = α 7 0 0 ∧ β 0 0 0 = α 0 0 0 ∧ β 4 0 0 = α 4 0 0) (by omega) (fun i s u hi2 hI => by
    obtain ⟨σ1, y1⟩ := s
    obtain ⟨τ1, y2⟩ := u
    obtain ⟨β, t, r1, r2, hD, rC, rM, v8, v1, v7, v0, v4⟩ := hI
    simp only at r1 r2 rC rM
    subst r1
    subst r2
    have hl := hD.2.2.2.2.2.2.2.1 i (by omega) (Or.inr (Nat.le_refl _))
    have hti := hD.2.2.2.2.2.1
    unfold LI at hl
    obtain ⟨l1, l2, l3, l4, l5, l6, l7, l8, l9, -⟩ := hl
    have hc4 := rC.2.2.2.1 i (by omega)
    have hm4 := rM.2.2.2.1 i (by omega)
    have hc10 : σ1.1 (8, 0, 0) 6 = nI (α 8 0 0) := by rw [← v8]; exact rC.1.2.2.2.2.2.2.2.2.2.1
    have hm10 : τ1.1 (20, 0, 0) 20 = nI (α 8 0 0) := by rw [← v8]; exact rM.1.2.2.2.2.2.2.2.2.2.1
    have hm2 : τ1.1 (20, 0, 0) 1 = nI (α 1 0 0) := by rw [← v1]; exact rM.1.2.1
    have hb : β 41 i 0 < 16 := by omega
    have b20 := (hD.2.1 (β 41 i 0) hb).1
    have b34 := hD.2.2.1 (β 41 i 0) (β 42 i 0) hb l2
    have g46 : β 40 i 0 ≤ 200000 ∨ ¬ β 40 i 0 = α 1 0 0 := by omega
    have a1 := cz_in (show i < 320 by omega) (show 320 < 2 ^ 31 by decide)
    have a2 := nI_clamp (show i < 2 ^ 31 by omega)
    have a3 := cz_in (show i < 400 by omega) (show 400 < 2 ^ 31 by decide)
    have a4 := cz_in (show t < 400 by omega) (show 400 < 2 ^ 31 by decide)
    have a5 := nI_clamp (show t < 2 ^ 31 by omega)
    have hge : ¬ nI (α 8 0 0) ≤ nI i := nI_ge hi2 (by omega)
    by_cases g : β 40 i 0 = α 1 0 0
    · obtain ⟨σ2, p1, p2⟩ := tk_C rC (b := β 41 i 0) (j := β 42 i 0) (a := β 43 i 0) (c := β 44 i 0) (bl := β 7 0 0) (sn := β 45 i 0) hb l2 (by omega) (by omega) (by omega) _ rfl
      obtain ⟨τ2, p3, p4⟩ := co_M rM (b := β 41 i 0) (j := β 42 i 0) (a := β 43 i 0) (c := β 44 i 0) (l := i) (bl := β 7 0 0) (sn := β 45 i 0) hb l2 (by omega) (by omega) (by omega) (by omega) (by omega) (by omega) rfl rfl rfl rfl rfl rfl (by omega) l6
      refine ⟨(σ2, nI t), (τ2, nI t), fun f => ?_, fun K f => ?_, cz_tk β (β 41 i 0) (β 42 i 0) (β 43 i 0) (β 44 i 0) (β 7 0 0) (β 45 i 0), t, rfl, rfl, DI_tk hD (by omega) hb l2 l3 l4 l5, p2, p4, ?_, ?_, ?_, ?_, ?_⟩
      · show cl_X6_bringWhatIsDue_6 (nI (α 1 0 0)) (nI (α 7 0 0)) (fun σ24 x25 => (ca_lt (ca_st σ24 (8, 0, 0) 6 x25) fun σ26 => (some σ26))) (f + 1) σ1 (nI t) (nI i) = _
        rw [cl_X6_bringWhatIsDue_6, hc10, if_neg hge, a1, a2, hc4.1, g, if_pos rfl, hc4.2.1, hc4.2.2.1, hc4.2.2.2.1, hc4.2.2.2.2.1, hc4.2.2.2.2.2, cz_in hb (by decide), cz_in l2 (by decide), nI_clamp (show β 41 i 0 < 2 ^ 31 by omega), nI_clamp (show β 42 i 0 < 2 ^ 31 by omega), ← v7]
        simp only [cz_gd, cz_len (show β 7 0 0 ≤ 200000 by omega) (show β 45 i 0 ≤ 200000 by omega)]
        by_cases w : β 7 0 0 ≤ β 45 i 0
        · rw [if_pos w] at p1 ⊢
          rw [p1, nI_1]
          rfl
        · rw [if_neg w] at p1 ⊢
          rw [p1, nI_1]
          rfl
      · show cl_X10_passes_52 (fun a b => K (a, b)) (f + 1) τ1 (nI t) (nI i) = _
        rw [cl_X10_passes_52, hm10, if_neg hge, a3, a2, hm4.1, hm2, g, if_pos rfl, p3, nI_1]
        rfl
      · rw [cz_tk_o (by decide), v8]
      · rw [cz_tk_o (by decide), v1]
      · rw [cz_tk_o (by decide), v7]
      · rw [cz_tk_o (by decide), v0]
      · rw [cz_tk_o (by decide), v4]
    · obtain ⟨σ2, p1, p2⟩ := mv_C rC (l := i) (t := t) (by omega) hti (by omega)
      have g46b : β 40 i 0 < 2 ^ 31 := by omega
      have hne : ¬ nI (β 40 i 0) = nI (α 1 0 0) := by
        rw [nI_eq g46b (by omega)]
        exact g
      refine ⟨(σ2, nI (t + 1)), (cz_mvM τ1 β i t, nI (t + 1)), fun f => ?_, fun K f => ?_, cz_mv β i t, t + 1, rfl, rfl, DI_mv hD (by omega) (by rw [v1]; exact g), p2, mv_M rM, ?_, ?_, ?_, ?_, ?_⟩
      · show cl_X6_bringWhatIsDue_6 (nI (α 1 0 0)) (nI (α 7 0 0)) (fun σ24 x25 => (ca_lt (ca_st σ24 (8, 0, 0) 6 x25) fun σ26 => (some σ26))) (f + 1) σ1 (nI t) (nI i) = _
        rw [cl_X6_bringWhatIsDue_6, hc10, if_neg hge, a1, a2, hc4.1, if_neg hne, p1, nI_1, nI_1]
        rfl
      · show cl_X10_passes_52 (fun a b => K (a, b)) (f + 1) τ1 (nI t) (nI i) = _
        rw [cl_X10_passes_52, hm10, if_neg hge, a3, a4, a2, a5, hm4.1, hm2, if_neg hne, nI_1, nI_1]
        simp only [cz_br, cz_bi, cz_bv, cz_gd, cz_lt]
        unfold cz_mvM
        have w : ∀ v, (ca_st τ1 (21, 21, 0) t v).1 (21, 22, 0) i = nI (2 * β 41 i 0 + β 42 i 0) := by simp [ca_st, hm4.2.1]
        simp [ca_st, hm4.2.1, hm4.2.2.1, hm4.2.2.2.1, hm4.2.2.2.2]
      · rw [cz_mv_o (by decide), v8]
      · rw [cz_mv_o (by decide), v1]
      · rw [cz_mv_o (by decide), v7]
      · rw [cz_mv_o (by decide), v0]
      · rw [cz_mv_o (by decide), v4]) (σ, nI 0) (τ, nI 0) ⟨α, 0, rfl, rfl, hD0, hC, hM, rfl, rfl, rfl, rfl, rfl⟩
  simp only at r1 r2 rC rM e1 e2
  subst r1
  subst r2
  refine ⟨β, s1, s2, t, ?_, fun K => ?_, hD, rC, rM, v8, v1, v0, v4⟩
  · unfold cf_X6_bringWhatIsDue
    refine e1.trans ?_
    have hc10 : s1.1 (8, 0, 0) 6 = nI (α 8 0 0) := by rw [← v8]; exact rC.1.2.2.2.2.2.2.2.2.2.1
    rw [cl_X6_bringWhatIsDue_6, hc10, if_pos (Int32.le_refl _)]
    rfl
  · refine (e2 (fun s => K s.1 s.2)).trans ?_
    have hm10 : s2.1 (20, 0, 0) 20 = nI (α 8 0 0) := by rw [← v8]; exact rM.1.2.2.2.2.2.2.2.2.2.1
    rw [cl_X10_passes_52, hm10, if_pos (Int32.le_refl _)]
