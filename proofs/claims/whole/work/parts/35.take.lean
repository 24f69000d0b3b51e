-- ===== ticks: what comes =====
def cz_tk0 (α : ca_A) (b j a c bl sn : Nat) : ca_A := if bl ≤ sn then cu α 35 b j (max (α 35 b j) c) else if c ≤ α 34 b j then α else cu (cu α 34 b j c) 33 b j a
def cz_tk (α : ca_A) (b j a c bl sn : Nat) : ca_A := cu (cz_tk0 α b j a c bl sn) 24 b 0 (if c = α 20 b 0 then 1 else α 24 b 0)
theorem RC_24 {α : ca_A} {σ : ca_S} (hC : RC α σ) (b v : Nat) : RC (cu α 24 b 0 v) σ := by
  refine ⟨?_, fun b hb => by have := hC.2.1 b hb; simpa [ca_st, ca_sl, cu, cz_mk] using this, fun b j hb hj => by have := hC.2.2.1 b j hb hj; simpa [ca_st, ca_sl, cu, cz_mk] using this, fun l hl => by have := hC.2.2.2.1 l (by simpa [cu] using hl); simpa [ca_st, ca_sl, cu, cz_mk] using this, fun i b hi hb => by have := hC.2.2.2.2 i b (by simpa [cu] using hi) hb; simpa [ca_st, ca_sl, cu, cz_mk] using this⟩
  simpa [RC1, cu] using hC.1
theorem tk_C {α : ca_A} {σ : ca_S} (hC : RC α σ) {b j a c bl sn : Nat} (hb : b < 16) (hj : j < 2) (hc : c ≤ 512) (h34 : α 34 b j ≤ 512) (h35 : α 35 b j ≤ 512) (x : Int32) (hx : x = if bl ≤ sn then 0 else 1) : ∃ σ', cf_X2_take σ b j (nI a) (nI c) x = some σ' ∧ RC (cz_tk α b j a c bl sn) σ' := by
  have h3 := hC.2.2.1 b j hb hj
  unfold cf_X2_take cz_tk cz_tk0
  rw [h3.2.2.2.2.1, h3.2.2.2.2.2]
  simp only [cz_ltn (show α 35 b j ≤ 200000 by omega) (show c ≤ 200000 by omega), cz_len (show c ≤ 200000 by omega) (show α 34 b j ≤ 200000 by omega)]
  by_cases g : bl ≤ sn
  · rw [if_pos g] at hx
    subst hx
    rw [if_pos rfl, if_pos g]
    have e : (if α 35 b j < c then nI c else nI (α 35 b j)) = nI (max (α 35 b j) c) := by
      by_cases q : α 35 b j < c
      · rw [if_pos q, Nat.max_eq_right (by omega)]
      · rw [if_neg q, Nat.max_eq_left (by omega)]
    rw [e]
    refine ⟨_, rfl, RC_24 (α := cu α 35 b j (max (α 35 b j) c)) ⟨?_, fun b hb => by have := hC.2.1 b hb; simpa [ca_st, ca_sl, cu, cz_mk] using this, ?_, fun l hl => by have := hC.2.2.2.1 l (by simpa [cu] using hl); simpa [ca_st, ca_sl, cu, cz_mk] using this, fun i b hi hb => by have := hC.2.2.2.2 i b (by simpa [cu] using hi) hb; simpa [ca_st, ca_sl, cu, cz_mk] using this⟩ _ _⟩
    · simpa [RC1, ca_st, cu] using hC.1
    · intro b2 j2 hb3 hj3
      have := hC.2.2.1 b2 j2 hb3 hj3
      by_cases q : b2 = b ∧ j2 = j
      · obtain ⟨rfl, rfl⟩ := q
        simp [cu, ca_st] at this ⊢
        exact ⟨this.1, this.2.1, this.2.2.1, this.2.2.2.1, this.2.2.2.2.1⟩
      · simpa [cu, ca_st, q] using this
  · rw [if_neg g] at hx
    subst hx
    rw [if_neg (by decide), if_neg g]
    by_cases g2 : c ≤ α 34 b j
    · rw [if_pos g2, if_pos g2]
      exact ⟨σ, rfl, RC_24 hC _ _⟩
    · rw [if_neg g2, if_neg g2]
      refine ⟨_, rfl, RC_24 (α := cu (cu α 34 b j c) 33 b j a) ⟨?_, fun b hb => by have := hC.2.1 b hb; simpa [ca_st, ca_sl, cu, cz_mk] using this, ?_, fun l hl => by have := hC.2.2.2.1 l (by simpa [cu] using hl); simpa [ca_st, ca_sl, cu, cz_mk] using this, fun i b hi hb => by have := hC.2.2.2.2 i b (by simpa [cu] using hi) hb; simpa [ca_st, ca_sl, cu, cz_mk] using this⟩ _ _⟩
      · simpa [RC1, ca_st, cu] using hC.1
      · intro b2 j2 hb3 hj3
        have := hC.2.2.1 b2 j2 hb3 hj3
        by_cases q : b2 = b ∧ j2 = j
        · obtain ⟨rfl, rfl⟩ := q
          simp [cu, ca_st] at this ⊢
          exact ⟨this.1, this.2.1, this.2.2.1, this.2.2.2.2.2⟩
        · simpa [cu, ca_st, q] using this
theorem kn_M {α : ca_A} {τ : ca_S} (hM : RM α τ) {b j c : Nat} (hb : b < 16) (hj : j < 2) (hc : c ≤ 512) (h20 : α 20 b 0 ≤ 512) : ∃ τ', cj_X10_comes_111 τ (nI (2 * b + j)) (nI c) = some τ' ∧ RM (cu α 24 b 0 (if c = α 20 b 0 then 1 else α 24 b 0)) τ' := by
  have ed : nI (2 * b + j) / 2 = nI b := by
    rw [show (2 : Int32) = nI 2 from rfl, pk_div (by omega) (by decide) (by decide)]
    congr 1
    omega
  have h2 := hM.2.1 b hb
  unfold cj_X10_comes_111
  rw [ed, nI_clamp (show b < 2 ^ 31 by omega), cz_in hb (by decide), h2.1]
  simp only [cz_br, cz_bi, cz_bv, cz_gd, cz_lt, if_neg (show ¬ (2 : Int32) = 0 by decide), cz_eqn (show c ≤ 200000 by omega) (show α 20 b 0 ≤ 200000 by omega)]
  by_cases g : c = α 20 b 0
  · rw [if_pos g, if_pos g]
    refine ⟨_, rfl, ?_, ?_, fun b j hb hj => by have := hM.2.2.1 b j hb hj; simpa [ca_st, ca_sl, cu, cz_mk] using this, fun l hl => by have := hM.2.2.2.1 l (by simpa [cu] using hl); simpa [ca_st, ca_sl, cu, cz_mk] using this, fun i b hi hb => by have := hM.2.2.2.2 i b (by simpa [cu] using hi) hb; simpa [ca_st, ca_sl, cu, cz_mk] using this⟩
    · simpa [RM1, ca_st, cu] using hM.1
    · intro b2 hb3
      have := hM.2.1 b2 hb3
      by_cases q : b2 = b
      · subst q
        simp [ca_st, cu] at this ⊢
        exact ⟨this.1, this.2.1, this.2.2.1, this.2.2.2.1, this.2.2.2.2.1, rfl⟩
      · simpa [ca_st, cu, q] using this
  · rw [if_neg g, if_neg g]
    refine ⟨_, rfl, ?_, ?_, fun b j hb hj => by have := hM.2.2.1 b j hb hj; simpa [ca_st, ca_sl, cu, cz_mk] using this, fun l hl => by have := hM.2.2.2.1 l (by simpa [cu] using hl); simpa [ca_st, ca_sl, cu, cz_mk] using this, fun i b hi hb => by have := hM.2.2.2.2 i b (by simpa [cu] using hi) hb; simpa [ca_st, ca_sl, cu, cz_mk] using this⟩
    · simpa [RM1, ca_st, cu] using hM.1
    · intro b2 hb3
      have := hM.2.1 b2 hb3
      by_cases q : b2 = b
      · subst q
        simpa [ca_st, cu] using this
      · simpa [ca_st, cu, q] using this
theorem co_M {α : ca_A} {τ : ca_S} (hM : RM α τ) {b j a c l bl sn : Nat} (hb : b < 16) (hj : j < 2) (hc : c ≤ 512) (h20 : α 20 b 0 ≤ 512) (h34 : α 34 b j ≤ 512) (h35 : α 35 b j ≤ 512) (hl : l < α 8 0 0) (hL : α 8 0 0 ≤ 320) (e1 : α 41 l 0 = b) (e2 : α 42 l 0 = j) (e3 : α 43 l 0 = a) (e4 : α 44 l 0 = c) (e5 : α 45 l 0 = sn) (e6 : α 7 0 0 = bl) (hbl : bl ≤ 100000) (hsn : sn ≤ 100000) : ∃ τ', cf_X10_comes τ (nI l) = some τ' ∧ RM (cz_tk α b j a c bl sn) τ' := by
  obtain ⟨m1, m2, m3, m4, m5, m6, m7, m8, m9, m10, m11, m12, m13⟩ := hM.1
  have h3 := hM.2.2.1 b j hb hj
  have h4 := hM.2.2.2.1 l hl
  rw [e1, e2, e3, e4, e5] at h4
  rw [e6] at m9
  have hin := cz_in (show 2 * b + j < 32 by omega) (show 32 < 2 ^ 31 by decide)
  have hcl := nI_clamp (show 2 * b + j < 2 ^ 31 by omega)
  have hinl := cz_in (show l < 400 by omega) (show 400 < 2 ^ 31 by decide)
  have hcll := nI_clamp (show l < 2 ^ 31 by omega)
  -- the greatest
  obtain ⟨τ1, hτ1⟩ : ∃ τ1, τ1 = ca_st τ (21, 19, 0) (2 * b + j) (nI (max (max (α 34 b j) (α 35 b j)) c)) := ⟨_, rfl⟩
  have key : cf_X10_comes τ (nI l) = (if nI bl ≤ nI sn then (if nI c ≤ nI (α 35 b j) then cj_X10_comes_111 (ca_st τ1 (21, 18, 0) (2 * b + j) (nI (α 35 b j))) (nI (2 * b + j)) (nI c) else cj_X10_comes_111 (ca_st τ1 (21, 18, 0) (2 * b + j) (nI c)) (nI (2 * b + j)) (nI c)) else (if nI c ≤ nI (α 34 b j) then cj_X10_comes_111 τ1 (nI (2 * b + j)) (nI c) else cj_X10_comes_111 (ca_st (ca_st τ1 (21, 17, 0) (2 * b + j) (nI c)) (21, 16, 0) (2 * b + j) (nI a)) (nI (2 * b + j)) (nI c))) := by
    unfold cf_X10_comes cj_X10_comes_39
    rw [hinl, hcll, h4.2.1, h4.2.2.2.1]
    simp only [cz_br, cz_bi, cz_bv, cz_gd, cz_lt, hin, hcl, hinl, hcll, h3.2.2.2.2.2.2]
    have f1 : ∀ v, (ca_st τ (21, 19, 0) (2 * b + j) v).1 (20, 0, 0) 11 = nI bl := by simp [ca_st, m9]
    have f2 : ∀ v, (ca_st τ (21, 19, 0) (2 * b + j) v).1 (21, 25, 0) l = nI sn := by simp [ca_st, h4.2.2.2.2]
    have f3 : ∀ v, (ca_st τ (21, 19, 0) (2 * b + j) v).1 (21, 18, 0) (2 * b + j) = nI (α 35 b j) := by simp [ca_st, h3.2.2.2.2.2.1]
    have f4 : ∀ v, (ca_st τ (21, 19, 0) (2 * b + j) v).1 (21, 17, 0) (2 * b + j) = nI (α 34 b j) := by simp [ca_st, h3.2.2.2.2.1]
    have f5 : ∀ v w, (ca_st (ca_st τ (21, 19, 0) (2 * b + j) v) (21, 17, 0) (2 * b + j) w).1 (21, 24, 0) l = nI a := by simp [ca_st, h4.2.2.1]
    simp only [f1, f2, f3, f4, f5]
    rw [hτ1]
    simp only [cz_len (show c ≤ 200000 by omega) (show max (α 34 b j) (α 35 b j) ≤ 200000 by omega)]
    by_cases q : c ≤ max (α 34 b j) (α 35 b j)
    · simp only [if_pos q, Nat.max_eq_left q]
    · simp only [if_neg q, Nat.max_eq_right (show max (α 34 b j) (α 35 b j) ≤ c by omega)]
  rw [key]
  simp only [cz_len (show bl ≤ 200000 by omega) (show sn ≤ 200000 by omega), cz_len (show c ≤ 200000 by omega) (show α 34 b j ≤ 200000 by omega), cz_len (show c ≤ 200000 by omega) (show α 35 b j ≤ 200000 by omega)]
  unfold cz_tk cz_tk0
  by_cases g : bl ≤ sn
  · simp only [if_pos g]
    have e : (if c ≤ α 35 b j then cj_X10_comes_111 (ca_st τ1 (21, 18, 0) (2 * b + j) (nI (α 35 b j))) (nI (2 * b + j)) (nI c) else cj_X10_comes_111 (ca_st τ1 (21, 18, 0) (2 * b + j) (nI c)) (nI (2 * b + j)) (nI c)) = cj_X10_comes_111 (ca_st τ1 (21, 18, 0) (2 * b + j) (nI (max (α 35 b j) c))) (nI (2 * b + j)) (nI c) := by
      by_cases q : c ≤ α 35 b j
      · rw [if_pos q, Nat.max_eq_left q]
      · rw [if_neg q, Nat.max_eq_right (by omega)]
    rw [e]
    have hr : RM (cu α 35 b j (max (α 35 b j) c)) (ca_st τ1 (21, 18, 0) (2 * b + j) (nI (max (α 35 b j) c))) := by
      subst hτ1
      refine ⟨?_, fun b hb => by have := hM.2.1 b hb; simpa [ca_st, ca_sl, cu, cz_mk] using this, ?_, fun l hl => by have := hM.2.2.2.1 l (by simpa [cu] using hl); simpa [ca_st, ca_sl, cu, cz_mk] using this, fun i b hi hb => by have := hM.2.2.2.2 i b (by simpa [cu] using hi) hb; simpa [ca_st, ca_sl, cu, cz_mk] using this⟩
      · simpa [RM1, ca_st, cu] using hM.1
      · intro b2 j2 hb3 hj3
        have := hM.2.2.1 b2 j2 hb3 hj3
        simp only [ca_st, cu, Prod.mk.injEq, cz_par hj hj3] at this ⊢
        by_cases q : b2 = b ∧ j2 = j
        · obtain ⟨rfl, rfl⟩ := q
          simp
          exact ⟨this.1, this.2.1, this.2.2.1, this.2.2.2.1, this.2.2.2.2.1⟩
        · simpa [q] using this
    have := kn_M hr (b := b) (j := j) (c := c) hb hj hc (by simpa [cu] using h20)
    simpa [cu] using this
  · simp only [if_neg g]
    by_cases g2 : c ≤ α 34 b j
    · simp only [if_pos g2]
      have e : τ1 = τ := by
        rw [hτ1, Nat.max_eq_left (show c ≤ max (α 34 b j) (α 35 b j) by omega)]
        unfold ca_st
        have : (fun c' k' => if c' = (21, 19, 0) ∧ k' = 2 * b + j then nI (max (α 34 b j) (α 35 b j)) else τ.1 c' k') = τ.1 := by
          funext c' k'
          by_cases q : c' = (21, 19, 0) ∧ k' = 2 * b + j
          · rw [if_pos q, q.1, q.2]
            exact h3.2.2.2.2.2.2.symm
          · rw [if_neg q]
        rw [this]
      rw [e]
      exact kn_M hM hb hj hc h20
    · simp only [if_neg g2]
      have hr : RM (cu (cu α 34 b j c) 33 b j a) (ca_st (ca_st τ1 (21, 17, 0) (2 * b + j) (nI c)) (21, 16, 0) (2 * b + j) (nI a)) := by
        subst hτ1
        refine ⟨?_, fun b hb => by have := hM.2.1 b hb; simpa [ca_st, ca_sl, cu, cz_mk] using this, ?_, fun l hl => by have := hM.2.2.2.1 l (by simpa [cu] using hl); simpa [ca_st, ca_sl, cu, cz_mk] using this, fun i b hi hb => by have := hM.2.2.2.2 i b (by simpa [cu] using hi) hb; simpa [ca_st, ca_sl, cu, cz_mk] using this⟩
        · simpa [RM1, ca_st, cu] using hM.1
        · intro b2 j2 hb3 hj3
          have := hM.2.2.1 b2 j2 hb3 hj3
          simp only [ca_st, cu, Prod.mk.injEq, cz_par hj hj3] at this ⊢
          by_cases q : b2 = b ∧ j2 = j
          · obtain ⟨rfl, rfl⟩ := q
            simp
            refine ⟨this.1, this.2.1, this.2.2.1, this.2.2.2.2.2.1, ?_⟩
            congr 1
            omega
          · simpa [q] using this
      have := kn_M hr (b := b) (j := j) (c := c) hb hj hc (by simpa [cu] using h20)
      simpa [cu] using this
