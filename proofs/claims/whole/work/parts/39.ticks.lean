def cz_qu (α : ca_A) : Prop := α 8 0 0 = 0 ∧ ∀ b, b < α 0 0 0 → ¬ (α 4 0 0 = 1 ∧ α 24 b 0 = 0 ∧ α 23 b 0 < 5)
theorem qu_C {k : Nat} {α : ca_A} {σ : ca_S} (hI : CI k α) (hk : k ≤ 512) (hC : RC α σ) : (cf_X9_isQuiet σ = some 1 ∧ cz_qu α) ∨ cf_X9_isQuiet σ = some 0 := by
  obtain ⟨i1, i2, i3, i4, i5, i6, i7, i8, i9, i10, i11⟩ := hI.1
  obtain ⟨c1, c2, c3, c4, c5, c6, c7, c8, c9, c10, c11, c12, c13⟩ := hC.1
  have hL := cz_L hI.2.2.2.1 (by omega)
  unfold cf_X9_isQuiet
  rw [c10]
  simp only [cz_le0 (show α 8 0 0 ≤ 100000 by omega)]
  by_cases g : α 8 0 0 = 0
  · rw [if_pos g]
    have key : ∀ m i, i + m = α 0 0 0 → (∀ b, b < i → ¬ (α 4 0 0 = 1 ∧ α 24 b 0 = 0 ∧ α 23 b 0 < 5)) → ∀ f, (cl_X9_isQuiet_14 σ (some 1) (f + m + 1) (nI i) = some 1 ∧ cz_qu α) ∨ cl_X9_isQuiet_14 σ (some 1) (f + m + 1) (nI i) = some 0 := by
      intro m
      induction m with
      | zero =>
        intro i hi hq f
        have e : i = α 0 0 0 := by omega
        subst e
        refine Or.inl ⟨?_, g, hq⟩
        rw [cl_X9_isQuiet_14, c1, if_pos (Int32.le_refl _)]
      | succ m ih =>
        intro i hi hq f
        rw [show f + (m + 1) + 1 = (f + m + 1) + 1 by omega, cl_X9_isQuiet_14, c1, if_neg (nI_ge (show i < α 0 0 0 by omega) (by omega)), cz_in (show i < 16 by omega) (by decide), nI_clamp (show i < 2 ^ 31 by omega), is_C hI.1 hI.2.1 hI.2.2.1 hk hC (show i < 16 by omega), nI_1]
        simp only [cz_br, cz_bi, cz_bv, cz_gd, cz_lt]
        by_cases q : α 4 0 0 = 1 ∧ α 24 i 0 = 0 ∧ α 23 i 0 < 5
        · rw [if_pos q, if_neg (show ¬ (1 : Int32) = 0 by decide)]
          exact Or.inr rfl
        · rw [if_neg q, if_pos rfl]
          exact ih (i + 1) (by omega) (fun b hb => by
            by_cases z : b = i
            · subst z
              exact q
            · exact hq b (by omega)) f
    have e : ca_FU = 99999 - α 0 0 0 + α 0 0 0 + 1 := by
      rw [ca_FU_eq]
      omega
    rw [e]
    exact key (α 0 0 0) 0 (by omega) (fun b hb => by omega) _
  · rw [if_neg g]
    exact Or.inr rfl
theorem qu_M {k : Nat} {α : ca_A} {τ : ca_S} (hI : CI k α) (hM : RM α τ) (hq : cz_qu α) : cf_X10_passes τ = some (ca_st (ca_st τ (20, 0, 0) 20 0) (20, 0, 0) 1 (nI (α 1 0 0 + 1))) := by
  obtain ⟨i1, i2, i3, i4, i5, i6, i7, i8, i9, i10, i11⟩ := hI.1
  obtain ⟨m1, m2, m3, m4, m5, m6, m7, m8, m9, m10, m11, m12, m13⟩ := hM.1
  have h1 : ∀ K : ca_S → Option ca_S, cl_X10_passes_2 K ca_FU τ 0 = K τ := by
    intro K
    have e : ca_FU = 99999 - α 0 0 0 + α 0 0 0 + 1 := by
      rw [ca_FU_eq]
      omega
    have key : ∀ m i, i + m = α 0 0 0 → ∀ f, cl_X10_passes_2 K (f + m + 1) τ (nI i) = K τ := by
      intro m
      induction m with
      | zero =>
        intro i hi f
        have e : i = α 0 0 0 := by omega
        subst e
        rw [cl_X10_passes_2, m1, if_pos (Int32.le_refl _)]
      | succ m ih =>
        intro i hi f
        have hi3 : i < 16 := by omega
        have b := hI.2.1 i hi3
        have em : 2 * nI i = nI (2 * i) := by rw [show (2 : Int32) = nI 2 from rfl, pk_mul]
        rw [show f + (m + 1) + 1 = (f + m + 1) + 1 by omega, cl_X10_passes_2, m1, if_neg (nI_ge (show i < α 0 0 0 by omega) (by omega)), m6]
        simp only [cz_eq0 (show α 4 0 0 ≤ 100000 by omega)]
        by_cases g4 : α 4 0 0 = 0
        · rw [if_pos g4]
        · rw [if_neg g4, cz_in hi3 (by decide), nI_clamp (show i < 2 ^ 31 by omega), (hM.2.1 i hi3).2.2.2.2.2, em, nI_1, nI_1]
          simp only [cz_gd, cz_eq0 (show α 24 i 0 ≤ 100000 by omega)]
          have nq := hq.2 i (by omega)
          by_cases g24 : α 24 i 0 = 0
          · have g23 : α 23 i 0 = 5 := by omega
            have t0 : cf_X10_tryBy τ (nI (2 * i)) = some τ := by
              unfold cf_X10_tryBy
              rw [cz_in (show 2 * i < 32 by omega) (by decide), nI_clamp (show 2 * i < 2 ^ 31 by omega), (hM.2.1 i hi3).2.2.2.1, g23, if_pos (show nI 5 = 5 from rfl)]
              rfl
            have t1 : cf_X10_tryBy τ (nI (2 * i + 1)) = some τ := by
              unfold cf_X10_tryBy
              rw [cz_in (show 2 * i + 1 < 32 by omega) (by decide), nI_clamp (show 2 * i + 1 < 2 ^ 31 by omega), (hM.2.1 i hi3).2.2.2.2.1, g23, if_pos (show nI 5 = 5 from rfl)]
              rfl
            rw [if_pos g24, t0, cz_bv, t1, cz_bv]
            exact ih (i + 1) (by omega) f
          · rw [if_neg g24]
            exact ih (i + 1) (by omega) f
    rw [e]
    exact key (α 0 0 0) 0 (by omega) _
  unfold cf_X10_passes
  rw [h1]
  have e : ca_FU = 99999 + 1 := ca_FU_eq
  rw [e, cl_X10_passes_52, m10, hq.1, if_pos (show nI 0 ≤ 0 from Int32.le_refl _)]
  have e2 : (ca_st τ (20, 0, 0) 20 0).1 (20, 0, 0) 1 = nI (α 1 0 0) := by simpa [ca_st] using m2
  simp only [cz_lt]
  rw [e2, nI_1]
/-- the tick alone -/
theorem CI_tick {k : Nat} {α : ca_A} (hI : CI k α) (hL : α 8 0 0 = 0) (v : Nat) (hv : v ≤ 100000) : CI k (cu α 1 0 0 v) := by
  refine ⟨?_, fun b hb => by have := hI.2.1 b hb; simpa [cu, cz_gr] using this, fun b j hb hj => by have := hI.2.2.1 b j hb hj; simpa [cu] using this, ?_, fun i b hi hb => by have := hI.2.2.2.2 i b (by simpa [cu] using hi) hb; simpa [cu] using this⟩
  · have := hI.1
    unfold CI1 at this ⊢
    simp [cu] at this ⊢
    exact ⟨this.1, hv, this.2.2⟩
  · refine ⟨fun _ => ?_, fun l hl => ?_, fun l l' h h' => ?_⟩
    · simpa [cu] using hL
    · have : l < α 8 0 0 := by simpa [cu] using hl
      omega
    · have : l' < α 8 0 0 := by simpa [cu] using h'
      omega
theorem RC_tick {α : ca_A} {σ : ca_S} (hC : RC α σ) (v : Nat) : RC (cu α 1 0 0 v) (ca_st σ (0, 0, 0) 2 (nI v)) := by
  refine ⟨?_, fun b hb => by have := hC.2.1 b hb; simpa [ca_st, ca_sl, cu, cz_mk] using this, fun b j hb hj => by have := hC.2.2.1 b j hb hj; simpa [ca_st, ca_sl, cu, cz_mk] using this, fun l hl => by have := hC.2.2.2.1 l (by simpa [cu] using hl); simpa [ca_st, ca_sl, cu, cz_mk] using this, fun i b hi hb => by have := hC.2.2.2.2 i b (by simpa [cu] using hi) hb; simpa [ca_st, ca_sl, cu, cz_mk] using this⟩
  obtain ⟨c1, c2, c3, c4, c5, c6, c7, c8, c9, c10, c11, c12, c13⟩ := hC.1
  simp [RC1, ca_st, cu]
  exact ⟨c1, c3, c4, c5, c6, c7, c8, c9, c10, c11, c12, c13⟩
theorem RM_tick {α : ca_A} {τ : ca_S} (hM : RM α τ) (hL : α 8 0 0 = 0) (v : Nat) : RM (cu α 1 0 0 v) (ca_st (ca_st τ (20, 0, 0) 20 0) (20, 0, 0) 1 (nI v)) := by
  refine ⟨?_, fun b hb => by have := hM.2.1 b hb; simpa [ca_st, ca_sl, cu, cz_mk] using this, fun b j hb hj => by have := hM.2.2.1 b j hb hj; simpa [ca_st, ca_sl, cu, cz_mk] using this, fun l hl => by have := hM.2.2.2.1 l (by simpa [cu] using hl); simpa [ca_st, ca_sl, cu, cz_mk] using this, fun i b hi hb => by have := hM.2.2.2.2 i b (by simpa [cu] using hi) hb; simpa [ca_st, ca_sl, cu, cz_mk] using this⟩
  obtain ⟨m1, m2, m3, m4, m5, m6, m7, m8, m9, m10, m11, m12, m13⟩ := hM.1
  simp [RM1, ca_st, cu]
  exact ⟨m1, m3, m4, m5, m6, m7, m8, m9, by rw [hL]; rfl, m11, m12, m13⟩
theorem st_ticks {k : Nat} {σ τ : ca_S} (hk0 : k < 512) (h : ca_R k σ τ) : ca_St_ticks ca_R k σ τ := by
  have hk := h.mono (Nat.le_succ k)
  obtain ⟨α, hI, hC, hM⟩ := h
  obtain ⟨c1, c2, c3, c4, c5, c6, c7, c8, c9, c10, c11, c12, c13⟩ := hC.1
  obtain ⟨m1, m2, m3, m4, m5, m6, m7, m8, m9, m10, m11, m12, m13⟩ := hM.1
  obtain ⟨i1, i2, i3, i4, i5, i6, i7, i8, i9, i10, i11⟩ := hI.1
  intro a
  unfold cf_X9_ticks cf_X10_ticks
  rcases cw_C a 1 200 1 200 rfl rfl (by decide) (by decide) with ⟨f1, f2, -⟩ | ⟨n, hn1, hn2, rfl, f1, f2⟩
  · rw [f1, f2]
    exact ⟨-1, σ, τ, rfl, rfl, hk⟩
  rw [f1, f2, c2, m2, nI_add]
  simp only [cz_br, if_neg (show ¬ (1 : Int32) = 0 by decide)]
  rw [show (100000 : Int32) = nI 100000 from rfl]
  simp only [cz_len (show α 1 0 0 + n ≤ 200000 by omega) (show 100000 ≤ 200000 by decide)]
  by_cases g : α 1 0 0 + n ≤ 100000
  · simp only [if_pos g]
    -- quiet: the reference goes on alone
    have alone : ∀ m i β τ1, i + m = n → CI k β → RM β τ1 → cz_qu β → β 1 0 0 = α 1 0 0 + i → ∀ f, ∃ τ2, cl_X10_ticks_29 (nI n) (fun σ13 => (some ((σ13.1 (20, 0, 0) 1), σ13))) (f + m + 1) τ1 (nI i) = some (nI (α 1 0 0 + n), τ2) ∧ RM (cu β 1 0 0 (α 1 0 0 + n)) τ2 := by
      intro m
      induction m with
      | zero =>
        intro i β τ1 hi hI1 hM1 hq hv f
        have e : i = n := by omega
        subst e
        refine ⟨τ1, ?_, ?_⟩
        · rw [cl_X10_ticks_29, if_pos (Int32.le_refl _), hM1.1.2.1, hv]
        · have e : cu β 1 0 0 (α 1 0 0 + i) = β := by
            funext x y z
            by_cases q : x = 1 ∧ y = 0 ∧ z = 0
            · simp [cu, q, hv]
            · simp [cu, q]
          rw [e]
          exact hM1
      | succ m ih =>
        intro i β τ1 hi hI1 hM1 hq hv f
        obtain ⟨τ2, y1, y2⟩ := ih (i + 1) (cu β 1 0 0 (β 1 0 0 + 1)) _ (by omega) (CI_tick hI1 hq.1 (β 1 0 0 + 1) (by omega)) (RM_tick hM1 hq.1 (β 1 0 0 + 1)) ⟨by simpa [cu] using hq.1, by simpa [cu] using hq.2⟩ (by simp [cu]; omega) f
        refine ⟨τ2, ?_, ?_⟩
        · rw [show f + (m + 1) + 1 = (f + m + 1) + 1 by omega, cl_X10_ticks_29, if_neg (nI_ge (show i < n by omega) (by omega)), qu_M hI1 hM1 hq, nI_1]
          exact y1
        · have e : cu (cu β 1 0 0 (β 1 0 0 + 1)) 1 0 0 (α 1 0 0 + n) = cu β 1 0 0 (α 1 0 0 + n) := by
            funext x y z
            by_cases q : x = 1 ∧ y = 0 ∧ z = 0
            · simp [cu, q]
            · simp [cu, q]
          rw [e] at y2
          exact y2
    have key : ∀ m i β σ1 τ1, i + m = n → CI k β → RC β σ1 → RM β τ1 → β 1 0 0 = α 1 0 0 + i → ∀ f, ∃ γ σ2 τ2, (∀ K : ca_S → Option (Int32 × ca_S), cl_X9_ticks_36 (nI n) (nI (α 1 0 0 + n)) K (f + m + 1) σ1 (nI i) = K σ2) ∧ cl_X10_ticks_29 (nI n) (fun σ13 => (some ((σ13.1 (20, 0, 0) 1), σ13))) (f + m + 1) τ1 (nI i) = some (nI (α 1 0 0 + n), τ2) ∧ CI k γ ∧ RC γ (ca_st σ2 (0, 0, 0) 2 (nI (α 1 0 0 + n))) ∧ RM γ τ2 := by
      intro m
      induction m with
      | zero =>
        intro i β σ1 τ1 hi hI1 hC1 hM1 hv f
        have e : i = n := by omega
        subst e
        have e : cu β 1 0 0 (α 1 0 0 + i) = β := by
          funext x y z
          by_cases q : x = 1 ∧ y = 0 ∧ z = 0
          · simp [cu, q, hv]
          · simp [cu, q]
        have hc := RC_tick hC1 (α 1 0 0 + i)
        rw [e] at hc
        refine ⟨β, σ1, τ1, fun K => ?_, ?_, hI1, hc, hM1⟩
        · rw [cl_X9_ticks_36, if_pos (Int32.le_refl _)]
        · rw [cl_X10_ticks_29, if_pos (Int32.le_refl _), hM1.1.2.1, hv]
      | succ m ih =>
        intro i β σ1 τ1 hi hI1 hC1 hM1 hv f
        rcases qu_C hI1 (by omega) hC1 with ⟨q1, q2⟩ | q1
        · obtain ⟨τ2, y1, y2⟩ := alone (m + 1) i β τ1 hi hI1 hM1 q2 hv f
          refine ⟨cu β 1 0 0 (α 1 0 0 + n), σ1, τ2, fun K => ?_, y1, CI_tick hI1 q2.1 _ g, RC_tick hC1 _, y2⟩
          rw [cl_X9_ticks_36, if_neg (nI_ge (show i < n by omega) (by omega)), q1, cz_br, if_neg (show ¬ (1 : Int32) = 0 by decide)]
        · obtain ⟨δ, σ3, τ3, z1, z2, z3, z4, z5, z6⟩ := tk_CM hI1 (by omega) hC1 hM1 (by omega)
          obtain ⟨γ, σ2, τ2, y1, y2, y3⟩ := ih (i + 1) δ σ3 τ3 (by omega) z3 z4 z5 (by omega) f
          refine ⟨γ, σ2, τ2, fun K => ?_, ?_, y3⟩
          · rw [show f + (m + 1) + 1 = (f + m + 1) + 1 by omega, cl_X9_ticks_36, if_neg (nI_ge (show i < n by omega) (by omega)), q1, cz_br, if_pos rfl, z1, cz_bv, nI_1]
            exact y1 K
          · rw [show f + (m + 1) + 1 = (f + m + 1) + 1 by omega, cl_X10_ticks_29, if_neg (nI_ge (show i < n by omega) (by omega)), z2, cz_bv, nI_1]
            exact y2
    obtain ⟨γ, σ2, τ2, y1, y2, y3, y4, y5⟩ := key n 0 α σ τ (by omega) hI hC hM (by omega) (99999 - n)
    have e : ca_FU = 99999 - n + n + 1 := by
      rw [ca_FU_eq]
      omega
    rw [e]
    refine ⟨nI (α 1 0 0 + n), ca_st σ2 (0, 0, 0) 2 (nI (α 1 0 0 + n)), τ2, ?_, y2, γ, y3.mono (Nat.le_succ k), y4, y5⟩
    refine (y1 _).trans ?_
    simp only [cz_lt]
    simp [ca_st]
  · simp only [if_neg g]
    exact ⟨-3, σ, τ, rfl, rfl, hk⟩
