-- ===== ticks: the tries =====
theorem cz_for2 {S T ρ π : Type} (F : Nat → S → Int32 → Option ρ) (G : Nat → T → Int32 → Option π) (n : Nat) (I : Nat → S → T → Prop) (hs : ∀ i s t, i < n → I i s t → ∃ s' t', (∀ f, F (f + 1) s (nI i) = F f s' (nI (i + 1))) ∧ (∀ f, G (f + 1) t (nI i) = G f t' (nI (i + 1))) ∧ I (i + 1) s' t') : ∀ m i s t, i + m = n → I i s t → ∀ f, ∃ s' t', F (f + m) s (nI i) = F f s' (nI n) ∧ G (f + m) t (nI i) = G f t' (nI n) ∧ I n s' t' := by
  intro m
  induction m with
  | zero =>
    intro i s t h hi f
    have e : i = n := by omega
    subst e
    exact ⟨s, t, rfl, rfl, hi⟩
  | succ m ih =>
    intro i s t h hi f
    obtain ⟨s1, t1, h1, h2, h3⟩ := hs i s t (by omega) hi
    obtain ⟨s2, t2, h4, h5, h6⟩ := ih (i + 1) s1 t1 (by omega) h3 f
    refine ⟨s2, t2, ?_, ?_, h6⟩
    · have e : f + (m + 1) = (f + m) + 1 := by omega
      rw [e, h1, h4]
    · have e : f + (m + 1) = (f + m) + 1 := by omega
      rw [e, h2, h5]
theorem cz_loop2 {S T ρ π : Type} (F : Nat → S → Int32 → Option ρ) (G : Nat → T → Int32 → Option π) (n : Nat) (I : Nat → S → T → Prop) (hn : n < 99999) (hs : ∀ i s t, i < n → I i s t → ∃ s' t', (∀ f, F (f + 1) s (nI i) = F f s' (nI (i + 1))) ∧ (∀ f, G (f + 1) t (nI i) = G f t' (nI (i + 1))) ∧ I (i + 1) s' t') (s : S) (t : T) (h0 : I 0 s t) : ∃ s' t' f, F ca_FU s 0 = F (f + 1) s' (nI n) ∧ G ca_FU t 0 = G (f + 1) t' (nI n) ∧ I n s' t' := by
  obtain ⟨s', t', h1, h2, h3⟩ := cz_for2 F G n I hs n 0 s t (by omega) h0 (99999 - n + 1)
  have e : ca_FU = 99999 - n + 1 + n := by
    rw [ca_FU_eq]
    omega
  refine ⟨s', t', 99999 - n, ?_, ?_, h3⟩
  · rw [e]
    exact h1
  · rw [e]
    exact h2
def TI (k hi : Nat) (α : ca_A) : Prop := CI1 α ∧ CI2 k α ∧ CI3 α ∧ CI4 hi (α 1 0 0) α ∧ CI5 α
abbrev cz_lost (α : ca_A) (b j : Nat) : Prop := ((nI (α 30 b j) >>> (nI (α 31 b j) &&& 31)) &&& 1) = 1
def cz_t1 (α : ca_A) (b j : Nat) : ca_A := cu (cu (cu α 12 0 0 (α 12 0 0 + 1)) 31 b j ((α 31 b j + 1) % 16)) 36 b j (α 36 b j + 1)
def cz_t2 (α : ca_A) (b j : Nat) : ca_A := cu (cu (cu (cu (cu (cu (cu (cu (cz_t1 α b j) 40 (α 8 0 0) 0 (α 1 0 0 + α 32 b j)) 41 (α 8 0 0) 0 b) 42 (α 8 0 0) 0 j) 43 (α 8 0 0) 0 (α 21 b 0)) 44 (α 8 0 0) 0 (α 20 b 0)) 45 (α 8 0 0) 0 (α 22 b 0)) 46 (α 8 0 0) 0 (32 * α 1 0 0 + 2 * b + j)) 8 0 0 (α 8 0 0 + 1)
def cz_try (α : ca_A) (b j : Nat) : ca_A := if cz_lost α b j then cz_t1 α b j else cz_t2 α b j
def RM2t (α : ca_A) (τ : ca_S) : Prop := ∀ b, b < 16 → τ.1 (21, 12, 0) b = nI (α 20 b 0) ∧ τ.1 (21, 13, 0) b = nI (α 21 b 0) ∧ τ.1 (21, 14, 0) b = nI (α 22 b 0) ∧ (∀ j, j < 2 → τ.1 (21, 5, 0) (2 * b + j) = nI (α 36 b j)) ∧ τ.1 (21, 15, 0) b = nI (α 24 b 0)
def RMt (α : ca_A) (τ : ca_S) : Prop := RM1 α τ ∧ RM2t α τ ∧ RM3 α τ ∧ RM4 α τ ∧ RM5 α τ
theorem lo_C {α : ca_A} {σ : ca_S} {b j : Nat} (e0 : σ.1 (4, b, j) 0 = nI (α 30 b j)) (e1 : σ.1 (4, b, j) 1 = nI (α 31 b j)) (hp : α 31 b j < 16) : cf_X8_losesNext σ b j = some (if cz_lost α b j then 1 else 0, ca_st σ (4, b, j) 1 (nI ((α 31 b j + 1) % 16))) := by
  have e : (nI (α 31 b j) + 1) &&& 15 = nI ((α 31 b j + 1) % 16) := by
    rw [nI_1]
    exact pk_andN (by omega) 4 (by decide)
  unfold cf_X8_losesNext cj_X8_losesNext_20
  rw [e0, e1, e]
  by_cases g : cz_lost α b j
  · rw [if_pos g, if_pos g]
    rfl
  · rw [if_neg g, if_neg g]
    rfl
def cz_put (σ : ca_S) (L : Nat) (x1 x2 x3 y3 y2 y4 : Int32) : ca_S := ca_st (ca_st (ca_st (ca_st (ca_st (ca_st (ca_st σ (9, 0, 0) L x1) (9, 1, 0) L x2) (9, 2, 0) L x3) (9, 3, 0) L y3) (9, 4, 0) L y2) (9, 5, 0) L y4) (8, 0, 0) 6 (nI (L + 1))
theorem put_C {σ : ca_S} {L b : Nat} (x1 x2 x3 : Int32) (hL : L < 320) (e : σ.1 (8, 0, 0) 6 = nI L) : cf_X6_put σ x1 x2 x3 b = some (cz_put σ L x1 x2 x3 (σ.1 (2, b, 0) 3) (σ.1 (2, b, 0) 2) (σ.1 (2, b, 0) 4)) := by
  unfold cf_X6_put cz_put
  have g : nI L < (320 : Int32) := by
    rw [show (320 : Int32) = nI 320 from rfl, nI_ltI (by omega) (by decide)]
    exact hL
  simp [cz_br, cz_bi, cz_bv, cz_gd, cz_lt, ca_st, e, if_pos g, cz_in hL (by decide), nI_clamp (show L < 2 ^ 31 by omega), nI_succ]
theorem tr_C {α : ca_A} {σ : ca_S} (hC : RC α σ) {b j : Nat} (hb : b < 16) (hj : j < 2) (hL : α 8 0 0 < 320) (hp : α 31 b j < 16) (K : ca_S → Option ca_S) : ∃ σ', (∀ f, cl_X9_tryBothRoads_19 (nI b) b K (f + 1) σ (nI j) = cl_X9_tryBothRoads_19 (nI b) b K f σ' (nI (j + 1))) ∧ RC (cz_try α b j) σ' := by
  obtain ⟨c1, c2, c3, c4, c5, c6, c7, c8, c9, c10, c11, c12, c13⟩ := hC.1
  have h3 := hC.2.2.1 b j hb hj
  have h2 := hC.2.1 b hb
  have hlo : cf_X8_losesNext (ca_st σ (0, 0, 0) 5 (nI (α 12 0 0 + 1))) b j = _ := lo_C (α := α) (σ := ca_st σ (0, 0, 0) 5 (nI (α 12 0 0 + 1))) (b := b) (j := j) (by simpa [ca_st] using h3.1) (by simpa [ca_st] using h3.2.1) hp
  unfold cz_try
  by_cases g : cz_lost α b j
  · rw [if_pos g] at hlo
    rw [if_pos g]
    refine ⟨ca_st (ca_st σ (0, 0, 0) 5 (nI (α 12 0 0 + 1))) (4, b, j) 1 (nI ((α 31 b j + 1) % 16)), fun f => ?_, ?_, fun b hb => by have := hC.2.1 b hb; simpa [ca_st, ca_sl, cu, cz_mk, cz_t1] using this, ?_, fun l hl => by have := hC.2.2.2.1 l (by simpa [cu, cz_t1] using hl); simpa [ca_st, ca_sl, cu, cz_mk, cz_t1] using this, fun i b hi hb => by have := hC.2.2.2.2 i b (by simpa [cu, cz_t1] using hi) hb; simpa [ca_st, ca_sl, cu, cz_mk, cz_t1] using this⟩
    · rw [cl_X9_tryBothRoads_19, if_neg (show ¬ (2 : Int32) ≤ nI j from nI_ge (b := 2) hj (by decide)), cz_in hj (by decide), nI_clamp (show j < 2 ^ 31 by omega), c5, nI_1, nI_1]
      simp only [cz_br, cz_bi, cz_bv, cz_gd, cz_lt, hlo, if_neg (show ¬ (1 : Int32) = 0 by decide)]
    · simp [RC1, ca_st, cu, cz_t1]
      exact ⟨c1, c2, c3, c4, c6, c7, c8, c9, c10, c11, c12, c13⟩
    · intro b2 j2 hb3 hj3
      have := hC.2.2.1 b2 j2 hb3 hj3
      by_cases q : b2 = b ∧ j2 = j
      · obtain ⟨rfl, rfl⟩ := q
        simp [cu, ca_st, cz_t1] at this ⊢
        exact ⟨this.1, this.2.2.1, this.2.2.2.1, this.2.2.2.2.1, this.2.2.2.2.2⟩
      · simpa [cu, ca_st, q, cz_t1] using this
  · rw [if_neg g] at hlo
    rw [if_neg g]
    have hput : cf_X6_put (ca_st (ca_st σ (0, 0, 0) 5 (nI (α 12 0 0 + 1))) (4, b, j) 1 (nI ((α 31 b j + 1) % 16))) (nI (α 1 0 0 + α 32 b j)) (nI b) (nI j) b = some (cz_put (ca_st (ca_st σ (0, 0, 0) 5 (nI (α 12 0 0 + 1))) (4, b, j) 1 (nI ((α 31 b j + 1) % 16))) (α 8 0 0) (nI (α 1 0 0 + α 32 b j)) (nI b) (nI j) (nI (α 21 b 0)) (nI (α 20 b 0)) (nI (α 22 b 0))) := by
      rw [put_C (σ := ca_st (ca_st σ (0, 0, 0) 5 (nI (α 12 0 0 + 1))) (4, b, j) 1 (nI ((α 31 b j + 1) % 16))) (L := α 8 0 0) (b := b) (nI (α 1 0 0 + α 32 b j)) (nI b) (nI j) hL (by simpa [ca_st] using c10)]
      simp [ca_st, h2.1, h2.2.1, h2.2.2.1]
    refine ⟨cz_put (ca_st (ca_st σ (0, 0, 0) 5 (nI (α 12 0 0 + 1))) (4, b, j) 1 (nI ((α 31 b j + 1) % 16))) (α 8 0 0) (nI (α 1 0 0 + α 32 b j)) (nI b) (nI j) (nI (α 21 b 0)) (nI (α 20 b 0)) (nI (α 22 b 0)), fun f => ?_, ?_, ?_, ?_, ?_, ?_⟩
    · rw [cl_X9_tryBothRoads_19, if_neg (show ¬ (2 : Int32) ≤ nI j from nI_ge (b := 2) hj (by decide)), cz_in hj (by decide), nI_clamp (show j < 2 ^ 31 by omega), c5, nI_1, nI_1]
      simp only [cz_br, cz_bi, cz_bv, cz_gd, cz_lt, hlo, if_pos (show (0 : Int32) = 0 from rfl)]
      have ea : (ca_st (ca_st σ (0, 0, 0) 5 (nI (α 12 0 0 + 1))) (4, b, j) 1 (nI ((α 31 b j + 1) % 16))).1 (0, 0, 0) 2 + (ca_st (ca_st σ (0, 0, 0) 5 (nI (α 12 0 0 + 1))) (4, b, j) 1 (nI ((α 31 b j + 1) % 16))).1 (4, b, j) 2 = nI (α 1 0 0 + α 32 b j) := by
        simp [ca_st, c2, h3.2.2.1, nI_add]
      rw [ea, hput]
      rfl
    · simp [RC1, ca_st, cu, cz_t1, cz_t2, cz_put]
      exact ⟨c1, c2, c3, c4, c6, c7, c8, c9, c11, c12, c13⟩
    · intro b2 hb3
      have := hC.2.1 b2 hb3
      simpa [ca_st, cu, cz_mk, cz_t1, cz_t2, cz_put] using this
    · intro b2 j2 hb3 hj3
      have := hC.2.2.1 b2 j2 hb3 hj3
      by_cases q : b2 = b ∧ j2 = j
      · obtain ⟨rfl, rfl⟩ := q
        simp [cu, ca_st, cz_t1, cz_t2, cz_put] at this ⊢
        exact ⟨this.1, this.2.2.1, this.2.2.2.1, this.2.2.2.2.1, this.2.2.2.2.2⟩
      · simpa [cu, ca_st, q, cz_t1, cz_t2, cz_put] using this
    · intro l hl
      by_cases q : l = α 8 0 0
      · subst q
        simp [cu, ca_st, cz_t1, cz_t2, cz_put]
      · have hl2 : l < α 8 0 0 := by
          simp [cu, cz_t2] at hl
          omega
        have := hC.2.2.2.1 l hl2
        simpa [cu, ca_st, q, cz_t1, cz_t2, cz_put] using this
    · intro i b2 hi hb3
      have := hC.2.2.2.2 i b2 (by simpa [cu, cz_t1, cz_t2] using hi) hb3
      simpa [cu, ca_st, cz_t1, cz_t2, cz_put] using this
def cz_putM (τ : ca_S) (L : Nat) (x1 x2 x3 x4 x5 : Int32) : ca_S := ca_st (ca_st (ca_st (ca_st (ca_st (ca_st τ (21, 21, 0) L x1) (21, 22, 0) L x2) (21, 23, 0) L x3) (21, 24, 0) L x4) (21, 25, 0) L x5) (20, 0, 0) 20 (nI (L + 1))
theorem tr_M {α : ca_A} {τ : ca_S} (hM : RMt α τ) {b j : Nat} (hb : b < 16) (hj : j < 2) (hL : α 8 0 0 < 320) (hp : α 31 b j < 16) (ht : α 36 b j < 5) : ∃ τ', cf_X10_tryBy τ (nI (2 * b + j)) = some τ' ∧ RMt (cz_try α b j) τ' := by
  obtain ⟨m1, m2, m3, m4, m5, m6, m7, m8, m9, m10, m11, m12, m13⟩ := hM.1
  have h3 := hM.2.2.1 b j hb hj
  have h2 := hM.2.1 b hb
  have e5 : ¬ nI (α 36 b j) = 5 := by
    rw [show (5 : Int32) = nI 5 from rfl, nI_eq (by omega) (by decide)]
    omega
  have er : nI (α 31 b j) + 1 - (nI (α 31 b j) + 1) / 16 * 16 = nI ((α 31 b j + 1) % 16) := by
    rw [nI_1]
    exact pk_rem (d := 16) (by omega) (by decide) (by decide)
  have ed : nI (2 * b + j) / 2 = nI b := by
    rw [show (2 : Int32) = nI 2 from rfl, pk_div (by omega) (by decide) (by decide)]
    congr 1
    omega
  have hin := cz_in (show 2 * b + j < 32 by omega) (show 32 < 2 ^ 31 by decide)
  have hcl := nI_clamp (show 2 * b + j < 2 ^ 31 by omega)
  have hinb := cz_in hb (show 16 < 2 ^ 31 by decide)
  have hclb := nI_clamp (show b < 2 ^ 31 by omega)
  have hinL := cz_in (show α 8 0 0 < 400 by omega) (show 400 < 2 ^ 31 by decide)
  have hclL := nI_clamp (show α 8 0 0 < 2 ^ 31 by omega)
  unfold cz_try
  by_cases g : cz_lost α b j
  · rw [if_pos g]
    refine ⟨ca_st (ca_st (ca_st τ (21, 5, 0) (2 * b + j) (nI (α 36 b j + 1))) (20, 0, 0) 26 (nI (α 12 0 0 + 1))) (21, 4, 0) (2 * b + j) (nI ((α 31 b j + 1) % 16)), ?_, ?_, ?_, ?_, ?_, ?_⟩
    · unfold cf_X10_tryBy cj_X10_tryBy_55
      rw [hin, hcl, h2.2.2.2.1 j hj, if_neg e5, nI_1]
      simp only [cz_br, cz_bi, cz_bv, cz_gd, cz_lt]
      have ex : (((ca_st (ca_st τ (21, 5, 0) (2 * b + j) (nI (α 36 b j + 1))) (20, 0, 0) 26 ((ca_st τ (21, 5, 0) (2 * b + j) (nI (α 36 b j + 1))).1 (20, 0, 0) 26 + 1)).1 (21, 2, 0) (2 * b + j) >>> ((ca_st (ca_st τ (21, 5, 0) (2 * b + j) (nI (α 36 b j + 1))) (20, 0, 0) 26 ((ca_st τ (21, 5, 0) (2 * b + j) (nI (α 36 b j + 1))).1 (20, 0, 0) 26 + 1)).1 (21, 4, 0) (2 * b + j) &&& 31)) &&& 1) = 1 := by
        have := g
        unfold cz_lost at this
        simpa [ca_st, h3.1, h3.2.1] using this
      rw [if_pos ex]
      simp [ca_st, m5, h3.2.1, er, nI_succ]
    · simp [RM1, ca_st, cu, cz_t1]
      exact ⟨m1, m2, m3, m4, m6, m7, m8, m9, m10, m11, m12, m13⟩
    · intro b2 hb3
      have := hM.2.1 b2 hb3
      simp [ca_st, cu, cz_t1]
      refine ⟨this.1, this.2.1, this.2.2.1, fun j2 hj2 => ?_, this.2.2.2.2⟩
      have q1 := this.2.2.2.1 j2 hj2
      simp only [cz_par hj hj2]
      by_cases q : b2 = b ∧ j2 = j
      · simp [q]
      · simpa [q] using q1
    · intro b2 j2 hb3 hj3
      have := hM.2.2.1 b2 j2 hb3 hj3
      simp only [ca_st, cu, cz_t1, Prod.mk.injEq, cz_par hj hj3] at this ⊢
      by_cases q : b2 = b ∧ j2 = j
      · obtain ⟨rfl, rfl⟩ := q
        simp
        exact ⟨this.1, this.2.2.1, this.2.2.2.1, this.2.2.2.2.1, this.2.2.2.2.2.1, this.2.2.2.2.2.2⟩
      · simpa [q] using this
    · intro l hl
      have := hM.2.2.2.1 l (by simpa [cu, cz_t1] using hl)
      simpa [cu, ca_st, cz_t1] using this
    · intro i b2 hi hb3
      have := hM.2.2.2.2 i b2 (by simpa [cu, cz_t1] using hi) hb3
      simpa [cu, ca_st, cz_t1] using this
  · rw [if_neg g]
    refine ⟨cz_putM (ca_st (ca_st (ca_st τ (21, 5, 0) (2 * b + j) (nI (α 36 b j + 1))) (20, 0, 0) 26 (nI (α 12 0 0 + 1))) (21, 4, 0) (2 * b + j) (nI ((α 31 b j + 1) % 16))) (α 8 0 0) (nI (α 1 0 0 + α 32 b j)) (nI (2 * b + j)) (nI (α 20 b 0)) (nI (α 21 b 0)) (nI (α 22 b 0)), ?_, ?_, ?_, ?_, ?_, ?_⟩
    · unfold cf_X10_tryBy cj_X10_tryBy_55
      rw [hin, hcl, h2.2.2.2.1 j hj, if_neg e5, nI_1]
      simp only [cz_br, cz_bi, cz_bv, cz_gd, cz_lt]
      have ex : ¬ (((ca_st (ca_st τ (21, 5, 0) (2 * b + j) (nI (α 36 b j + 1))) (20, 0, 0) 26 ((ca_st τ (21, 5, 0) (2 * b + j) (nI (α 36 b j + 1))).1 (20, 0, 0) 26 + 1)).1 (21, 2, 0) (2 * b + j) >>> ((ca_st (ca_st τ (21, 5, 0) (2 * b + j) (nI (α 36 b j + 1))) (20, 0, 0) 26 ((ca_st τ (21, 5, 0) (2 * b + j) (nI (α 36 b j + 1))).1 (20, 0, 0) 26 + 1)).1 (21, 4, 0) (2 * b + j) &&& 31)) &&& 1) = 1 := by
        have := g
        unfold cz_lost at this
        simpa [ca_st, h3.1, h3.2.1] using this
      rw [if_neg ex]
      simp [cz_br, cz_bi, cz_bv, cz_gd, cz_lt, ca_st, cz_putM, m2, m5, m10, hinL, hclL, ed, hinb, hclb, h2.1, h2.2.1, h2.2.2.1, h3.2.1, h3.2.2.1, er, nI_succ, nI_add (α 1 0 0) (α 32 b j)]
    · simp [RM1, ca_st, cu, cz_t1, cz_t2, cz_putM]
      exact ⟨m1, m2, m3, m4, m6, m7, m8, m9, m11, m12, m13⟩
    · intro b2 hb3
      have := hM.2.1 b2 hb3
      simp [ca_st, cu, cz_t1, cz_t2, cz_putM]
      refine ⟨this.1, this.2.1, this.2.2.1, fun j2 hj2 => ?_, this.2.2.2.2⟩
      have q1 := this.2.2.2.1 j2 hj2
      simp only [cz_par hj hj2]
      by_cases q : b2 = b ∧ j2 = j
      · simp [q]
      · simpa [q] using q1
    · intro b2 j2 hb3 hj3
      have := hM.2.2.1 b2 j2 hb3 hj3
      simp only [ca_st, cu, cz_t1, cz_t2, cz_putM, Prod.mk.injEq, cz_par hj hj3] at this ⊢
      by_cases q : b2 = b ∧ j2 = j
      · obtain ⟨rfl, rfl⟩ := q
        simp
        exact ⟨this.1, this.2.2.1, this.2.2.2.1, this.2.2.2.2.1, this.2.2.2.2.2.1, this.2.2.2.2.2.2⟩
      · simpa [q] using this
    · intro l hl
      by_cases q : l = α 8 0 0
      · subst q
        simp [cu, ca_st, cz_t1, cz_t2, cz_putM]
      · have hl2 : l < α 8 0 0 := by
          simp [cu, cz_t2] at hl
          omega
        have := hM.2.2.2.1 l hl2
        simpa [cu, ca_st, q, cz_t1, cz_t2, cz_putM] using this
    · intro i b2 hi hb3
      have := hM.2.2.2.2 i b2 (by simpa [cu, cz_t1, cz_t2] using hi) hb3
      simpa [cu, ca_st, cz_t1, cz_t2, cz_putM] using this
