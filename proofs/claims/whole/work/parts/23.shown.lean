theorem cz_eo_neg {o : Option Nat} (h : ∀ a, o = some a → a ≤ 100000) : (cz_eo o < 0) = (o = none) := by
  cases o with
  | none => simp [cz_eo]
  | some a =>
    have := nI_pos (n := a) (by have := h a rfl; omega)
    simp [cz_eo, this]
theorem cz_eo_m4 {o : Option Nat} (h : ∀ a, o = some a → a ≤ 100000) : (cz_eo o = (-4)) = (o = none) := by
  cases o with
  | none => simp [cz_eo]
  | some a =>
    have := nI_pos (n := a) (by have := h a rfl; omega)
    have h2 : ¬ nI a = (-4) := fun e => this (by rw [e]; decide)
    simp [cz_eo, h2]
theorem cz_eo_eq {o : Option Nat} {c : Nat} (hc : c ≤ 100000) (h : ∀ a, o = some a → a ≤ 100000) : (cz_eo o = nI c) = (o = some c) := by
  cases o with
  | none =>
    have := nI_pos (n := c) (by omega)
    have h2 : ¬ (-4 : Int32) = nI c := fun e => this (by rw [← e]; decide)
    simp [cz_eo, h2]
  | some a =>
    have := h a rfl
    simp only [cz_eo, cz_eqn (show a ≤ 200000 by omega) (show c ≤ 200000 by omega)]
    simp
/-- how many boxes have an answer -/
def cz_many (α : ca_A) : Nat := cz_ct (fun b => (cz_ao α b).isSome) (α 0 0 0)
theorem cz_aob {k : Nat} {α : ca_A} (hI : CI k α) {b : Nat} (hb : b < 16) : ∀ a, cz_ao α b = some a → a ≤ 100000 := fun a h => (cz_ao_ok hI hb h).1
theorem many_C {k : Nat} {α : ca_A} {σ : ca_S} (hI : CI k α) (hk : k ≤ 512) (hC : RC α σ) : cf_X9_countAnswered σ = some (nI (cz_many α)) := by
  have c1 : σ.1 (0, 0, 0) 1 = nI (α 0 0 0) := hC.1.1
  have i1 := hI.1.1
  unfold cf_X9_countAnswered
  obtain ⟨s', h1, h2⟩ := cz_loop (fun f (s : Int32) x => cl_X9_countAnswered_4 σ (fun x => some x) f s x) (α 0 0 0) 0 (fun i s => s = nI (cz_ct (fun b => (cz_ao α b).isSome) i)) (fun s => some s) (Nat.zero_le _) (by omega) (fun i s _ hi hs => by
    refine ⟨nI (cz_ct (fun b => (cz_ao α b).isSome) (i + 1)), fun f => ?_, rfl⟩
    show cl_X9_countAnswered_4 σ _ (f + 1) s (nI i) = _
    rw [cl_X9_countAnswered_4, c1, if_neg (nI_ge hi (by omega)), cz_in (by omega) (by decide), nI_clamp (by omega), an_C hI hk hC (by omega), nI_1, hs]
    simp only [cz_br, cz_bi, cz_bv, cz_gd, cz_lt, cz_eo_m4 (cz_aob hI (show i < 16 by omega))]
    by_cases g : cz_ao α i = none
    · simp [g, cz_ct]
    · rw [if_neg g]
      have : (cz_ao α i).isSome = true := by
        cases e : cz_ao α i with
        | none => exact absurd e g
        | some a => rfl
      simp [cz_ct, this, nI_succ]) (fun f s hs => by
    show cl_X9_countAnswered_4 σ _ (f + 1) s (nI (α 0 0 0)) = _
    rw [cl_X9_countAnswered_4, c1, if_pos (Int32.le_refl _)]) (nI 0) rfl
  exact h1.trans (by rw [h2]; rfl)
theorem many_M {k : Nat} {α : ca_A} {τ : ca_S} (hI : CI k α) (hk : k ≤ 512) (hM : RM α τ) : cf_X10_many τ = some (nI (cz_many α)) := by
  have m1 : τ.1 (20, 0, 0) 0 = nI (α 0 0 0) := hM.1.1
  have i1 := hI.1.1
  unfold cf_X10_many
  obtain ⟨s', h1, h2⟩ := cz_loop (fun f (s : Int32) x => cl_X10_many_4 τ (fun x => some x) f s x) (α 0 0 0) 0 (fun i s => s = nI (cz_ct (fun b => (cz_ao α b).isSome) i)) (fun s => some s) (Nat.zero_le _) (by omega) (fun i s _ hi hs => by
    refine ⟨nI (cz_ct (fun b => (cz_ao α b).isSome) (i + 1)), fun f => ?_, rfl⟩
    show cl_X10_many_4 τ _ (f + 1) s (nI i) = _
    rw [cl_X10_many_4, m1, if_neg (nI_ge hi (by omega)), an_M hI hk hM (by omega), nI_1, hs]
    simp only [cz_br, cz_bi, cz_bv, cz_gd, cz_lt, cz_eo_neg (cz_aob hI (show i < 16 by omega))]
    by_cases g : cz_ao α i = none
    · simp [g, cz_ct]
    · rw [if_neg g]
      have : (cz_ao α i).isSome = true := by
        cases e : cz_ao α i with
        | none => exact absurd e g
        | some a => rfl
      simp [cz_ct, this, nI_succ]) (fun f s hs => by
    show cl_X10_many_4 τ _ (f + 1) s (nI (α 0 0 0)) = _
    rw [cl_X10_many_4, m1, if_pos (Int32.le_refl _)]) (nI 0) rfl
  exact h1.trans (by rw [h2]; rfl)
theorem shown_both {α : ca_A} {σ τ : ca_S} (hC : RC α σ) (hM : RM α τ) : cf_X10_isShown τ = cf_X9_isShown σ ∧ (cf_X9_isShown σ = some 0 ∨ cf_X9_isShown σ = some 1) := by
  obtain ⟨c1, c2, c3, c4, c5, c6, c7, c8, c9, c10, c11, c12, c13⟩ := hC.1
  obtain ⟨m1, m2, m3, m4, m5, m6, m7, m8, m9, m10, m11, m12, m13⟩ := hM.1
  unfold cf_X9_isShown cf_X10_isShown
  rw [c2, c3, c6, c9, m2, m3, m6, m9]
  refine ⟨rfl, ?_⟩
  split
  · exact Or.inl rfl
  · split
    · exact Or.inr rfl
    · split
      · exact Or.inl rfl
      · exact Or.inr rfl
theorem st_answers {k : Nat} {σ τ : ca_S} (hk0 : k < 512) (h : ca_R k σ τ) : ca_St_answers ca_R k σ τ := by
  have hk := h.mono (Nat.le_succ k)
  obtain ⟨α, hI, hC, hM⟩ := h
  have hkl := Nat.le_of_lt hk0
  obtain ⟨e1, e2⟩ := shown_both hC hM
  unfold ca_St_answers cf_X9_answers cf_X10_answers
  rw [e1, many_C hI hkl hC, many_M hI hkl hM]
  rcases e2 with e | e <;> rw [e]
  · exact ⟨-2, rfl, rfl, hk⟩
  · exact ⟨_, rfl, rfl, hk⟩
theorem res_both {k : Nat} {α : ca_A} {σ τ : ca_S} (hI : CI k α) (hk : k ≤ 512) (hC : RC α σ) (hM : RM α τ) (x : Nat) (hx : x ≤ 2) : (cf_X9_areResultsShown σ (nI x) = some 0 ∧ cf_X10_isShownOf τ (nI x) = some 0) ∨ (cf_X9_areResultsShown σ (nI x) = some 1 ∧ cf_X10_isShownOf τ (nI x) = some 1 ∧ α 5 0 0 = x ∧ α 4 0 0 = 1) := by
  obtain ⟨e1, e2⟩ := shown_both hC hM
  obtain ⟨c1, c2, c3, c4, c5, c6, c7, c8, c9, c10, c11, c12, c13⟩ := hC.1
  obtain ⟨m1, m2, m3, m4, m5, m6, m7, m8, m9, m10, m11, m12, m13⟩ := hM.1
  obtain ⟨i1, i2, i3, i4, i5, i6, i7, i8, i9, i10, i11⟩ := hI.1
  unfold cf_X9_areResultsShown cf_X10_isShownOf
  rw [e1, many_C hI hk hC, many_M hI hk hM, c4, c7, m4, m7]
  rcases e2 with e | e
  · rw [e]
    exact Or.inl ⟨rfl, rfl⟩
  · have ask : α 4 0 0 = 1 := by
      unfold cf_X9_isShown at e
      rw [c6] at e
      rcases (show α 4 0 0 = 0 ∨ α 4 0 0 = 1 by omega) with q | q
      · rw [q, if_pos (show nI 0 = 0 from rfl)] at e
        exact absurd (Option.some.inj e) (by decide)
      · exact q
    rw [e]
    simp only [cz_br, if_neg (show ¬ (1 : Int32) = 0 by decide), cz_eqn (show α 5 0 0 ≤ 200000 by omega) (show x ≤ 200000 by omega)]
    by_cases g : α 5 0 0 = x
    · simp only [if_pos g]
      by_cases g2 : nI (cz_many α) < nI (α 3 0 0)
      · simp only [if_pos g2]
        exact Or.inl ⟨trivial, trivial⟩
      · simp only [if_neg g2]
        exact Or.inr ⟨trivial, trivial, g, ask⟩
    · simp only [if_neg g]
      exact Or.inl ⟨trivial, trivial⟩
theorem st_share {k : Nat} {σ τ : ca_S} (hk0 : k < 512) (h : ca_R k σ τ) : ca_St_share ca_R k σ τ := by
  have hk := h.mono (Nat.le_succ k)
  obtain ⟨α, hI, hC, hM⟩ := h
  have hkl := Nat.le_of_lt hk0
  have c1 : σ.1 (0, 0, 0) 1 = nI (α 0 0 0) := hC.1.1
  have m1 : τ.1 (20, 0, 0) 0 = nI (α 0 0 0) := hM.1.1
  have i1 := hI.1.1
  intro a
  unfold cf_X9_share cf_X10_share
  rcases cw_C a 0 7 0 7 rfl rfl (by decide) (by decide) with ⟨f1, f2, -⟩ | ⟨x, -, hx, rfl, f1, f2⟩
  · rw [f1, f2]
    exact ⟨-1, rfl, rfl, hk⟩
  rcases res_both hI hkl hC hM 0 (by decide) with ⟨g1, g2⟩ | ⟨g1, g2, -, -⟩
  · rw [f1, f2, show (0 : Int32) = nI 0 from rfl, g1, g2]
    exact ⟨-2, rfl, rfl, hk⟩
  have g1 : cf_X9_areResultsShown σ 0 = some 1 := g1
  have g2 : cf_X10_isShownOf τ 0 = some 1 := g2
  rw [f1, f2, g1, g2]
  simp only [cz_br, if_neg (show ¬ (1 : Int32) = 0 by decide)]
  have hstep : ∀ i, i < α 0 0 0 → (cz_eo (cz_ao α i) = nI x) = (cz_ao α i = some x) := fun i hi => cz_eo_eq (by omega) (cz_aob hI (show i < 16 by omega))
  obtain ⟨s', h1, h2⟩ := cz_loop (fun f (s : Int32) y => cl_X9_share_27 σ (nI x) (fun x => some x) f s y) (α 0 0 0) 0 (fun i s => s = nI (cz_ct (fun b => decide (cz_ao α b = some x)) i)) (fun s => some s) (Nat.zero_le _) (by omega) (fun i s _ hi hs => by
    refine ⟨nI (cz_ct (fun b => decide (cz_ao α b = some x)) (i + 1)), fun f => ?_, rfl⟩
    show cl_X9_share_27 σ _ _ (f + 1) s (nI i) = _
    rw [cl_X9_share_27, c1, if_neg (nI_ge hi (by omega)), cz_in (by omega) (by decide), nI_clamp (by omega), an_C hI hkl hC (by omega), nI_1, hs]
    simp only [cz_br, cz_bi, cz_bv, cz_gd, cz_lt, hstep i hi]
    by_cases g : cz_ao α i = some x
    · simp [g, cz_ct, nI_succ]
    · simp [g, cz_ct]) (fun f s hs => by
    show cl_X9_share_27 σ _ _ (f + 1) s (nI (α 0 0 0)) = _
    rw [cl_X9_share_27, c1, if_pos (Int32.le_refl _)]) (nI 0) rfl
  obtain ⟨s2, h3, h4⟩ := cz_loop (fun f (s : Int32) y => cl_X10_share_27 τ (nI x) (fun x => some x) f s y) (α 0 0 0) 0 (fun i s => s = nI (cz_ct (fun b => decide (cz_ao α b = some x)) i)) (fun s => some s) (Nat.zero_le _) (by omega) (fun i s _ hi hs => by
    refine ⟨nI (cz_ct (fun b => decide (cz_ao α b = some x)) (i + 1)), fun f => ?_, rfl⟩
    show cl_X10_share_27 τ _ _ (f + 1) s (nI i) = _
    rw [cl_X10_share_27, m1, if_neg (nI_ge hi (by omega)), an_M hI hkl hM (by omega), nI_1, hs]
    simp only [cz_br, cz_bi, cz_bv, cz_gd, cz_lt, hstep i hi]
    by_cases g : cz_ao α i = some x
    · simp [g, cz_ct, nI_succ]
    · simp [g, cz_ct]) (fun f s hs => by
    show cl_X10_share_27 τ _ _ (f + 1) s (nI (α 0 0 0)) = _
    rw [cl_X10_share_27, m1, if_pos (Int32.le_refl _)]) (nI 0) rfl
  exact ⟨s', h1, h3.trans (by rw [h4, h2]), hk⟩
-- ===== the best question =====
def cz_rt (α : ca_A) (i v : Nat) (n : Nat) : Nat := cz_ct (fun b => α 50 i b == v) n
theorem hav_C {α : ca_A} {σ : ca_S} (hC : RC α σ) (hQ : α 9 0 0 ≤ 20) {i : Nat} (hi : i < α 9 0 0) (v : Nat) (x : Int32) (hv : ∀ w, (cz_enc w = x) = (w = v)) : cf_X3_having σ (nI i) x = some (nI (cz_rt α i v 16)) := by
  unfold cf_X3_having
  obtain ⟨s', h1, h2⟩ := cz_loop (fun f (s : Int32) y => cl_X3_having_5 σ (nI i) x (fun x => some x) f s y) 16 0 (fun b s => s = nI (cz_rt α i v b)) (fun s => some s) (Nat.zero_le _) (by omega) (fun b s _ hb hs => by
    refine ⟨nI (cz_rt α i v (b + 1)), fun f => ?_, rfl⟩
    show cl_X3_having_5 σ _ _ _ (f + 1) s (nI b) = _
    rw [cl_X3_having_5, if_neg (show ¬ (16 : Int32) ≤ nI b from nI_ge (b := 16) hb (by omega)), cz_in (k := i) (by omega) (by decide), cz_in hb (by decide), nI_clamp (n := i) (by omega), nI_clamp (n := b) (by omega), hC.2.2.2.2 i b hi hb, nI_1, hs]
    simp only [cz_br, cz_bi, cz_bv, cz_gd, cz_lt, hv]
    by_cases g : α 50 i b = v
    · simp [g, cz_rt, cz_ct, nI_succ]
    · simp [g, cz_rt, cz_ct]) (fun f s hs => by
    show cl_X3_having_5 σ _ _ _ (f + 1) s (nI 16) = _
    rw [cl_X3_having_5, if_pos (show (16 : Int32) ≤ nI 16 from Int32.le_refl _)]) (nI 0) rfl
  exact h1.trans (by rw [h2])
theorem inn_M {α : ca_A} {τ : ca_S} (hM : RM α τ) (hQ : α 9 0 0 ≤ 20) {i : Nat} (hi : i < α 9 0 0) (x1 x2 : Int32) (K : Int32 → Int32 → Option Int32) : cl_X10_best_24 τ x1 x2 (nI i) K ca_FU 0 0 0 = K (nI (cz_rt α i 2 16)) (nI (cz_rt α i 1 16)) := by
  obtain ⟨s', h1, h2⟩ := cz_loop (fun f (s : Int32 × Int32) y => cl_X10_best_24 τ x1 x2 (nI i) K f s.1 s.2 y) 16 0 (fun b s => s = (nI (cz_rt α i 2 b), nI (cz_rt α i 1 b))) (fun s => K s.1 s.2) (Nat.zero_le _) (by omega) (fun b s _ hb hs => by
    refine ⟨(nI (cz_rt α i 2 (b + 1)), nI (cz_rt α i 1 (b + 1))), fun f => ?_, rfl⟩
    show cl_X10_best_24 τ x1 x2 (nI i) K (f + 1) s.1 s.2 (nI b) = _
    have e1 : 16 * nI i + nI b = nI (16 * i + b) := by
      rw [show (16 : Int32) = nI 16 from rfl, pk_mul, nI_add]
    rw [cl_X10_best_24, if_neg (show ¬ (16 : Int32) ≤ nI b from nI_ge (b := 16) hb (by omega)), e1, cz_in (by omega) (by decide), nI_clamp (by omega), hM.2.2.2.2 i b hi hb, hs]
    unfold cj_X10_best_54
    rw [e1, cz_in (by omega) (by decide), nI_clamp (by omega), hM.2.2.2.2 i b hi hb]
    simp only [cz_br, cz_bi, cz_bv, cz_gd, cz_lt, cz_enc1, cz_enc0, nI_1]
    by_cases g2 : α 50 i b = 2
    · simp [g2, cz_rt, cz_ct, nI_succ]
    · by_cases g1 : α 50 i b = 1
      · simp [g1, cz_rt, cz_ct, nI_succ]
      · simp [g1, g2, cz_rt, cz_ct]) (fun f s hs => by
    show cl_X10_best_24 τ x1 x2 (nI i) K (f + 1) s.1 s.2 (nI 16) = _
    rw [cl_X10_best_24, if_pos (show (16 : Int32) ≤ nI 16 from Int32.le_refl _)]) (nI 0, nI 0) rfl
  exact h1.trans (by rw [h2])
/-- the best page so far, and its lesser number (one more, 0: none yet) -/
def cz_bp (α : ca_A) : Nat → Option Nat × Nat
  | 0 => (none, 0)
  | n + 1 => if min (cz_rt α n 2 16) (cz_rt α n 1 16) < (cz_bp α n).2 then cz_bp α n else (some n, min (cz_rt α n 2 16) (cz_rt α n 1 16))
theorem cz_bp_le (α : ca_A) : ∀ n, (cz_bp α n).2 ≤ 16
  | 0 => by simp [cz_bp]
  | n + 1 => by
    have h1 : cz_rt α n 2 16 ≤ 16 := cz_ct_le _ _
    have h2 := cz_bp_le α n
    unfold cz_bp
    split
    · exact h2
    · show min _ _ ≤ 16
      omega
theorem st_best {k : Nat} {σ τ : ca_S} (h : ca_R k σ τ) : ca_St_best ca_R k σ τ := by
  have hk := h.mono (Nat.le_succ k)
  obtain ⟨α, hI, hC, hM⟩ := h
  obtain ⟨c1, c2, c3, c4, c5, c6, c7, c8, c9, c10, c11, c12, c13⟩ := hC.1
  obtain ⟨m1, m2, m3, m4, m5, m6, m7, m8, m9, m10, m11, m12, m13⟩ := hM.1
  obtain ⟨i1, i2, i3, i4, i5, i6, i7, i8, i9, i10, i11⟩ := hI.1
  unfold ca_St_best cf_X9_best cf_X10_best cf_X3_bestPage
  have hb1 : ∀ n v, cz_rt α n v 16 ≤ 16 := fun n v => cz_ct_le _ _
  obtain ⟨s', h1, h2⟩ := cz_loop (fun f (s : Int32 × Int32) y => cl_X3_bestPage_7 σ (fun x => some x) f s.1 s.2 y) (α 9 0 0) 0 (fun i s => s = (cz_eo (cz_bp α i).1, nI (cz_bp α i).2)) (fun s => some s.1) (Nat.zero_le _) (by omega) (fun i s _ hi hs => by
    refine ⟨(cz_eo (cz_bp α (i + 1)).1, nI (cz_bp α (i + 1)).2), fun f => ?_, rfl⟩
    show cl_X3_bestPage_7 σ _ (f + 1) s.1 s.2 (nI i) = _
    have e1 := hav_C hC i9 hi 2 1 (fun w => propext (cz_enc1 w))
    have e0 := hav_C hC i9 hi 1 0 (fun w => propext (cz_enc0 w))
    have b1 := hb1 i 2
    have b2 := hb1 i 1
    have b3 := cz_bp_le α i
    have em : (if nI (cz_rt α i 1 16) < nI (cz_rt α i 2 16) then nI (cz_rt α i 1 16) else nI (cz_rt α i 2 16)) = nI (min (cz_rt α i 2 16) (cz_rt α i 1 16)) := by
      simp only [cz_ltn (show cz_rt α i 1 16 ≤ 200000 by omega) (show cz_rt α i 2 16 ≤ 200000 by omega)]
      split
      · rw [Nat.min_eq_right (by omega)]
      · rw [Nat.min_eq_left (by omega)]
    rw [cl_X3_bestPage_7, c11, if_neg (nI_ge hi (by omega)), e1, e0, nI_1, hs]
    simp only [cz_br, em, cz_ltn (show min (cz_rt α i 2 16) (cz_rt α i 1 16) ≤ 200000 by omega) (show (cz_bp α i).2 ≤ 200000 by omega)]
    by_cases g : min (cz_rt α i 2 16) (cz_rt α i 1 16) < (cz_bp α i).2
    · simp only [if_pos g, cz_bp]
    · simp only [if_neg g, cz_bp]
      rfl) (fun f s hs => by
    show cl_X3_bestPage_7 σ _ (f + 1) s.1 s.2 (nI (α 9 0 0)) = _
    rw [cl_X3_bestPage_7, c11, if_pos (Int32.le_refl _)]) (-4, nI 0) rfl
  obtain ⟨s2, h3, h4⟩ := cz_loop (fun f (s : Int32 × Int32) y => cl_X10_best_7 τ (fun x => some x) f s.1 s.2 y) (α 9 0 0) 0 (fun i s => s.1 = cz_eo (cz_bp α i).1 ∧ (i = 0 → s.2 = -1) ∧ (0 < i → s.2 = nI (cz_bp α i).2)) (fun s => some s.1) (Nat.zero_le _) (by omega) (fun i s _ hi hs => by
    refine ⟨(cz_eo (cz_bp α (i + 1)).1, nI (cz_bp α (i + 1)).2), fun f => ?_, rfl, fun h => by omega, fun _ => rfl⟩
    show cl_X10_best_7 τ _ (f + 1) s.1 s.2 (nI i) = _
    have b1 := hb1 i 2
    have b2 := hb1 i 1
    have b3 := cz_bp_le α i
    rw [cl_X10_best_7, m11, if_neg (nI_ge hi (by omega)), inn_M hM i9 hi]
    unfold cj_X10_best_102 cj_X10_best_115
    have em : min (cz_rt α i 2 16) (cz_rt α i 1 16) ≤ 200000 := by omega
    have key : ∀ m : Nat, m = min (cz_rt α i 2 16) (cz_rt α i 1 16) → (nI m < s.2) = (m < (cz_bp α i).2) := by
      intro m hm
      rcases Nat.eq_zero_or_pos i with z | z
      · have := hs.2.1 z
        rw [this]
        subst z
        apply propext
        constructor
        · intro q
          exfalso
          rw [Int32.lt_iff_toInt_lt, nI_toInt (by omega)] at q
          have : (-1 : Int32).toInt = -1 := rfl
          omega
        · intro q
          simp [cz_bp] at q
      · rw [hs.2.2 z, cz_ltn (by omega) (by omega)]
    simp only [cz_len (show cz_rt α i 1 16 ≤ 200000 by omega) (show cz_rt α i 2 16 ≤ 200000 by omega), nI_1]
    by_cases q : cz_rt α i 1 16 ≤ cz_rt α i 2 16
    · have k1 := key (cz_rt α i 1 16) (by omega)
      simp only [if_pos q, k1]
      have e : min (cz_rt α i 2 16) (cz_rt α i 1 16) = cz_rt α i 1 16 := by omega
      by_cases g : cz_rt α i 1 16 < (cz_bp α i).2
      · have hi0 : 0 < i := by
          rcases Nat.eq_zero_or_pos i with z | z
          · subst z
            simp [cz_bp] at g
          · exact z
        simp only [if_pos g, cz_bp, e, hs.1, hs.2.2 hi0]
      · simp only [if_neg g, cz_bp, e]
        rfl
    · have k1 := key (cz_rt α i 2 16) (by omega)
      simp only [if_neg q, k1]
      have e : min (cz_rt α i 2 16) (cz_rt α i 1 16) = cz_rt α i 2 16 := by omega
      by_cases g : cz_rt α i 2 16 < (cz_bp α i).2
      · have hi0 : 0 < i := by
          rcases Nat.eq_zero_or_pos i with z | z
          · subst z
            simp [cz_bp] at g
          · exact z
        simp only [if_pos g, cz_bp, e, hs.1, hs.2.2 hi0]
      · simp only [if_neg g, cz_bp, e]
        rfl) (fun f s hs => by
    show cl_X10_best_7 τ _ (f + 1) s.1 s.2 (nI (α 9 0 0)) = _
    rw [cl_X10_best_7, m11, if_pos (Int32.le_refl _)]) (-4, -1) ⟨rfl, fun _ => rfl, fun h => by omega⟩
  refine ⟨s'.1, ?_, ?_, hk⟩
  · have h1 : cl_X3_bestPage_7 σ (fun x11 => some x11) ca_FU (-4) 0 0 = some s'.1 := h1
    rw [h1]
    rfl
  · have h3 : cl_X10_best_7 τ (fun x11 => some x11) ca_FU (-4) (-1) 0 = some s2.1 := h3
    rw [h3, h4.1, h2]
