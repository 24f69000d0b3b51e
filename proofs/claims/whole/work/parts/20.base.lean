-- ===== the pure side: what both objects hold, in plain numbers =====
abbrev ca_A : Type := Nat → Nat → Nat → Nat
def cu (α : ca_A) (f i j v : Nat) : ca_A := fun f' i' j' => if f' = f ∧ i' = i ∧ j' = j then v else α f' i' j'
theorem cz_br {ρ : Type} (r : Int32) (f : Int32 → Option ρ) : ca_br (some r) f = f r := rfl
theorem cz_bi {ρ : Type} (q : Int32 × ca_S) (f : Int32 → ca_S → Option ρ) : ca_bi (some q) f = f q.1 q.2 := rfl
theorem cz_bv {ρ : Type} (r : ca_S) (f : ca_S → Option ρ) : ca_bv (some r) f = f r := rfl
theorem cz_gd {ρ : Type} (X : Option ρ) : ca_gd true X = X := rfl
theorem cz_lt {α ρ : Type} (a : α) (f : α → Option ρ) : ca_lt a f = f a := rfl
theorem cz_in {k n : Nat} (h : k < n) (hn : n < 2 ^ 31) : ca_in (nI k) n = true := by
  have h1 : ¬ nI k < 0 := nI_pos (by omega)
  have h2 : (nI k).toNatClampNeg = k := nI_clamp (by omega)
  simp [ca_in, h1, h2, h]
theorem cz_bo0 : ca_bo 0 = true := rfl
theorem cz_bo1 : ca_bo 1 = true := rfl
/-- a number between two others, or not: both sides say it alike -/
theorem cw_C (x : Int32) (lo hi : Nat) (a b : Int32) (ha : a = nI lo) (hb : b = nI hi) (h : lo ≤ hi) (hh : hi < 2 ^ 31) : (cf_X9_isWithin x a b = some 0 ∧ cf_X10_in x a b = some 0 ∧ ∀ j : Nat, lo ≤ j → j ≤ hi → x ≠ nI j) ∨ ∃ j : Nat, lo ≤ j ∧ j ≤ hi ∧ x = nI j ∧ cf_X9_isWithin x a b = some 1 ∧ cf_X10_in x a b = some 1 := by
  subst ha
  subst hb
  unfold cf_X9_isWithin cf_X10_in
  have e1 : (nI lo).toInt = lo := nI_toInt (by omega)
  have e2 : (nI hi).toInt = hi := nI_toInt (by omega)
  by_cases h1 : x < nI lo
  · refine Or.inl ⟨by rw [if_pos h1], by rw [if_pos h1], fun j j1 j2 e => ?_⟩
    rw [e, Int32.lt_iff_toInt_lt, nI_toInt (by omega), e1] at h1
    omega
  · by_cases h2 : nI hi < x
    · refine Or.inl ⟨by rw [if_neg h1, if_pos h2], by rw [if_neg h1, if_pos h2], fun j j1 j2 e => ?_⟩
      rw [e, Int32.lt_iff_toInt_lt, e2, nI_toInt (by omega)] at h2
      omega
    · rw [Int32.lt_iff_toInt_lt, e1] at h1
      rw [Int32.lt_iff_toInt_lt, e2] at h2
      have e3 : x = nI x.toInt.toNat := by
        apply Int32.toInt_inj.mp
        rw [nI_toInt (by omega)]
        omega
      refine Or.inr ⟨x.toInt.toNat, by omega, by omega, e3, ?_⟩
      have g1 : ¬ x < nI lo := by rw [Int32.lt_iff_toInt_lt, e1]; exact h1
      have g2 : ¬ nI hi < x := by rw [Int32.lt_iff_toInt_lt, e2]; exact h2
      constructor
      · rw [if_neg g1, if_neg g2]
      · rw [if_neg g1, if_neg g2]
theorem cw_base (x : Int32) : (cf_X9_isBase x = some 0 ∧ cf_X10_isBase x = some 0) ∨ ∃ j : Nat, j < 2 ∧ x = nI j ∧ cf_X9_isBase x = some 1 ∧ cf_X10_isBase x = some 1 := by
  rcases cw_C x 0 1 0 1 rfl rfl (by decide) (by decide) with ⟨h1, h2, h3⟩ | ⟨j, -, hj, rfl, h1, h2⟩
  · refine Or.inl ⟨?_, by unfold cf_X10_isBase; rw [h2]; rfl⟩
    unfold cf_X9_isBase
    by_cases g : x < 0
    · rw [if_pos g]
    · rw [if_neg g, if_pos]
      rcases pk_ix x (n := 2) (by decide) with q | q | ⟨j, hj, q⟩
      · exact absurd q g
      · exact q
      · exact absurd q (h3 j (Nat.zero_le _) (by omega))
  · refine Or.inr ⟨j, by omega, rfl, ?_, by unfold cf_X10_isBase; rw [h2]; rfl⟩
    unfold cf_X9_isBase
    rw [if_neg (nI_pos (by omega)), if_neg]
    exact nI_ge (b := 2) (by omega) (by decide)
/-- loops: a counter from i to n -/
theorem cz_for {S ρ : Type} (F : Nat → S → Int32 → Option ρ) (n : Nat) (I : Nat → S → Prop) (hs : ∀ i s, i < n → I i s → ∃ s', (∀ f, F (f + 1) s (nI i) = F f s' (nI (i + 1))) ∧ I (i + 1) s') : ∀ m i s, i + m = n → I i s → ∀ f, ∃ s', F (f + m) s (nI i) = F f s' (nI n) ∧ I n s' := by
  intro m
  induction m with
  | zero =>
    intro i s h hi f
    have e : i = n := by omega
    subst e
    exact ⟨s, rfl, hi⟩
  | succ m ih =>
    intro i s h hi f
    obtain ⟨s1, h1, h2⟩ := hs i s (by omega) hi
    obtain ⟨s2, h3, h4⟩ := ih (i + 1) s1 (by omega) h2 f
    refine ⟨s2, ?_, h4⟩
    have e : f + (m + 1) = (f + m) + 1 := by omega
    rw [e, h1, h3]
theorem cz_loop {S ρ : Type} (F : Nat → S → Int32 → Option ρ) (n i0 : Nat) (I : Nat → S → Prop) (K : S → Option ρ) (hi : i0 ≤ n) (hn : n < 99999) (hs : ∀ i s, i0 ≤ i → i < n → I i s → ∃ s', (∀ f, F (f + 1) s (nI i) = F f s' (nI (i + 1))) ∧ I (i + 1) s') (hx : ∀ f s, I n s → F (f + 1) s (nI n) = K s) (s : S) (h0 : I i0 s) : ∃ s', F ca_FU s (nI i0) = K s' ∧ I n s' := by
  obtain ⟨s', h1, h2⟩ := cz_for F n (fun i s => i0 ≤ i ∧ I i s) (fun i s h1 h2 => by
    obtain ⟨s', a, b⟩ := hs i s h2.1 h1 h2.2
    exact ⟨s', a, by omega, b⟩) (n - i0) i0 s (by omega) ⟨Nat.le_refl _, h0⟩ (99999 - (n - i0) + 1)
  have e : ca_FU = 99999 - (n - i0) + 1 + (n - i0) := by
    rw [ca_FU_eq]
    omega
  refine ⟨s', ?_, h2.2⟩
  rw [e, h1, hx _ s' h2.2]
def cz_ct (p : Nat → Bool) : Nat → Nat
  | 0 => 0
  | n + 1 => cz_ct p n + (if p n then 1 else 0)
theorem cz_ct_le (p : Nat → Bool) : ∀ n, cz_ct p n ≤ n
  | 0 => Nat.le_refl _
  | n + 1 => by
    have := cz_ct_le p n
    unfold cz_ct
    split <;> omega
theorem cz_ct_congr {p q : Nat → Bool} : ∀ {n : Nat}, (∀ i, i < n → p i = q i) → cz_ct p n = cz_ct q n
  | 0, _ => rfl
  | n + 1, h => by
    unfold cz_ct
    rw [cz_ct_congr (fun i hi => h i (by omega)), h n (by omega)]
/-- the marks of a box: how often the book says right -/
def cz_mk (α : ca_A) (b : Nat) : Nat := cz_ct (fun i => α 50 i b == 2) (α 9 0 0)
def cz_enc (v : Nat) : Int32 := if v = 2 then 1 else if v = 1 then 0 else -1
theorem cz_enc1 (v : Nat) : cz_enc v = 1 ↔ v = 2 := by
  unfold cz_enc
  by_cases h : v = 2
  · simp [h]
  · by_cases h1 : v = 1
    · simp [h1]
    · simp [h, h1]
theorem cz_enc0 (v : Nat) : cz_enc v = 0 ↔ v = 1 := by
  unfold cz_enc
  by_cases h : v = 2
  · simp [h]
  · by_cases h1 : v = 1
    · simp [h1]
    · simp [h, h1]
def cz_seen (a : Nat) : Nat → Nat
  | 0 => 0
  | i + 1 => cz_seen a i ||| 2 ^ (a / 8 ^ i % 8)
/-- an answer of a kind -/
def cz_ok (kd th a : Nat) : Prop := a ≤ 100000 ∧ (kd = 0 → a ≤ 7) ∧ (kd = 2 → a < 8 ^ th ∧ cz_seen a th = 2 ^ th - 1)
def cz_gr (α : ca_A) (b : Nat) : Nat := max (max (α 34 b 0) (α 35 b 0)) (max (α 34 b 1) (α 35 b 1))
-- the class's cells
def RC1 (α : ca_A) (σ : ca_S) : Prop := σ.1 (0, 0, 0) 1 = nI (α 0 0 0) ∧ σ.1 (0, 0, 0) 2 = nI (α 1 0 0) ∧ σ.1 (0, 0, 0) 3 = nI (α 2 0 0) ∧ σ.1 (0, 0, 0) 4 = nI (α 3 0 0) ∧ σ.1 (0, 0, 0) 5 = nI (α 12 0 0) ∧ σ.1 (7, 0, 0) 0 = nI (α 4 0 0) ∧ σ.1 (7, 0, 0) 1 = nI (α 5 0 0) ∧ (α 5 0 0 = 2 → σ.1 (7, 0, 0) 2 = nI (α 6 0 0)) ∧ σ.1 (7, 0, 0) 3 = nI (α 7 0 0) ∧ σ.1 (8, 0, 0) 6 = nI (α 8 0 0) ∧ σ.1 (10, 0, 0) 1 = nI (α 9 0 0) ∧ σ.1 (13, 0, 0) 1 = nI (α 10 0 0) ∧ σ.2 = lN (α 11 0 0)
def RC2 (α : ca_A) (σ : ca_S) : Prop := ∀ b, b < 16 → σ.1 (2, b, 0) 2 = nI (α 20 b 0) ∧ σ.1 (2, b, 0) 3 = nI (α 21 b 0) ∧ σ.1 (2, b, 0) 4 = nI (α 22 b 0) ∧ σ.1 (2, b, 0) 5 = nI (α 23 b 0) ∧ σ.1 (2, b, 0) 6 = nI (cz_mk α b)
def RC3 (α : ca_A) (σ : ca_S) : Prop := ∀ b j, b < 16 → j < 2 → σ.1 (4, b, j) 0 = nI (α 30 b j) ∧ σ.1 (4, b, j) 1 = nI (α 31 b j) ∧ σ.1 (4, b, j) 2 = nI (α 32 b j) ∧ (0 < α 34 b j → σ.1 (6, b, j) 0 = nI (α 33 b j)) ∧ σ.1 (6, b, j) 1 = nI (α 34 b j) ∧ σ.1 (6, b, j) 2 = nI (α 35 b j)
def RC4 (α : ca_A) (σ : ca_S) : Prop := ∀ l, l < α 8 0 0 → σ.1 (9, 0, 0) l = nI (α 40 l 0) ∧ σ.1 (9, 1, 0) l = nI (α 41 l 0) ∧ σ.1 (9, 2, 0) l = nI (α 42 l 0) ∧ σ.1 (9, 3, 0) l = nI (α 43 l 0) ∧ σ.1 (9, 4, 0) l = nI (α 44 l 0) ∧ σ.1 (9, 5, 0) l = nI (α 45 l 0)
def RC5 (α : ca_A) (σ : ca_S) : Prop := ∀ i b, i < α 9 0 0 → b < 16 → σ.1 (12, i, 0) b = cz_enc (α 50 i b)
def RC (α : ca_A) (σ : ca_S) : Prop := RC1 α σ ∧ RC2 α σ ∧ RC3 α σ ∧ RC4 α σ ∧ RC5 α σ
-- the reference's
def RM1 (α : ca_A) (τ : ca_S) : Prop := τ.1 (20, 0, 0) 0 = nI (α 0 0 0) ∧ τ.1 (20, 0, 0) 1 = nI (α 1 0 0) ∧ τ.1 (20, 0, 0) 6 = nI (α 2 0 0) ∧ τ.1 (20, 0, 0) 7 = nI (α 3 0 0) ∧ τ.1 (20, 0, 0) 26 = nI (α 12 0 0) ∧ τ.1 (20, 0, 0) 8 = nI (α 4 0 0) ∧ τ.1 (20, 0, 0) 9 = nI (α 5 0 0) ∧ (α 5 0 0 = 2 → τ.1 (20, 0, 0) 10 = nI (α 6 0 0)) ∧ τ.1 (20, 0, 0) 11 = nI (α 7 0 0) ∧ τ.1 (20, 0, 0) 20 = nI (α 8 0 0) ∧ τ.1 (20, 0, 0) 27 = nI (α 9 0 0) ∧ τ.1 (20, 0, 0) 30 = nI (α 10 0 0) ∧ τ.2 = lN (α 11 0 0)
def RM2 (α : ca_A) (τ : ca_S) : Prop := ∀ b, b < 16 → τ.1 (21, 12, 0) b = nI (α 20 b 0) ∧ τ.1 (21, 13, 0) b = nI (α 21 b 0) ∧ τ.1 (21, 14, 0) b = nI (α 22 b 0) ∧ τ.1 (21, 5, 0) (2 * b) = nI (α 23 b 0) ∧ τ.1 (21, 5, 0) (2 * b + 1) = nI (α 23 b 0) ∧ τ.1 (21, 15, 0) b = nI (α 24 b 0)
def RM3 (α : ca_A) (τ : ca_S) : Prop := ∀ b j, b < 16 → j < 2 → τ.1 (21, 2, 0) (2 * b + j) = nI (α 30 b j) ∧ τ.1 (21, 4, 0) (2 * b + j) = nI (α 31 b j) ∧ τ.1 (21, 3, 0) (2 * b + j) = nI (α 32 b j) ∧ (0 < α 34 b j → τ.1 (21, 16, 0) (2 * b + j) = nI (α 33 b j)) ∧ τ.1 (21, 17, 0) (2 * b + j) = nI (α 34 b j) ∧ τ.1 (21, 18, 0) (2 * b + j) = nI (α 35 b j) ∧ τ.1 (21, 19, 0) (2 * b + j) = nI (max (α 34 b j) (α 35 b j))
def RM4 (α : ca_A) (τ : ca_S) : Prop := ∀ l, l < α 8 0 0 → τ.1 (21, 21, 0) l = nI (α 40 l 0) ∧ τ.1 (21, 22, 0) l = nI (2 * α 41 l 0 + α 42 l 0) ∧ τ.1 (21, 24, 0) l = nI (α 43 l 0) ∧ τ.1 (21, 23, 0) l = nI (α 44 l 0) ∧ τ.1 (21, 25, 0) l = nI (α 45 l 0)
def RM5 (α : ca_A) (τ : ca_S) : Prop := ∀ i b, i < α 9 0 0 → b < 16 → τ.1 (21, 28, 0) (16 * i + b) = cz_enc (α 50 i b)
def RM (α : ca_A) (τ : ca_S) : Prop := RM1 α τ ∧ RM2 α τ ∧ RM3 α τ ∧ RM4 α τ ∧ RM5 α τ
-- what holds of the numbers
def CI1 (α : ca_A) : Prop := α 0 0 0 ≤ 16 ∧ α 1 0 0 ≤ 100000 ∧ α 2 0 0 ≤ 1 ∧ α 3 0 0 ≤ 16 ∧ α 4 0 0 ≤ 1 ∧ α 5 0 0 ≤ 2 ∧ (α 5 0 0 = 2 → 2 ≤ α 6 0 0 ∧ α 6 0 0 ≤ 5) ∧ α 7 0 0 ≤ 100000 ∧ α 9 0 0 ≤ 20 ∧ α 10 0 0 < 2 ^ α 0 0 0 ∧ α 11 0 0 < 2147483647
def CI2 (k : Nat) (α : ca_A) : Prop := ∀ b, b < 16 → α 20 b 0 ≤ k ∧ α 22 b 0 ≤ 100000 ∧ α 23 b 0 ≤ 5 ∧ α 24 b 0 ≤ 1 ∧ (0 < α 20 b 0 → cz_ok (α 5 0 0) (α 6 0 0) (α 21 b 0)) ∧ (0 < α 20 b 0 → (α 24 b 0 = 1 ↔ cz_gr α b = α 20 b 0)) ∧ (α 4 0 0 = 1 → α 20 b 0 = 0 → α 24 b 0 = 1) ∧ (α 0 0 0 ≤ b → α 20 b 0 = 0 ∧ α 23 b 0 = 0)
def CI3 (α : ca_A) : Prop := ∀ b j, b < 16 → j < 2 → α 31 b j < 16 ∧ α 32 b j ≤ 9 ∧ α 34 b j ≤ α 20 b 0 ∧ α 35 b j ≤ α 20 b 0 ∧ (0 < α 34 b j → cz_ok (α 5 0 0) (α 6 0 0) (α 33 b j))
/-- the letters under way: hi bounds the order of their tries, now the tick below which none is due -/
def CI4 (hi now : Nat) (α : ca_A) : Prop := (α 4 0 0 = 0 → α 8 0 0 = 0) ∧ (∀ l, l < α 8 0 0 → α 41 l 0 < α 0 0 0 ∧ α 42 l 0 < 2 ∧ 1 ≤ α 44 l 0 ∧ α 44 l 0 ≤ α 20 (α 41 l 0) 0 ∧ cz_ok (α 5 0 0) (α 6 0 0) (α 43 l 0) ∧ α 45 l 0 ≤ 100000 ∧ now ≤ α 40 l 0 ∧ α 40 l 0 ≤ α 46 l 0 / 32 + 9 ∧ α 46 l 0 < hi) ∧ (∀ l l', l < l' → l' < α 8 0 0 → α 46 l 0 < α 46 l' 0)
def CI5 (α : ca_A) : Prop := ∀ i b, i < α 9 0 0 → b < 16 → α 50 i b ≤ 2
def CI (k : Nat) (α : ca_A) : Prop := CI1 α ∧ CI2 k α ∧ CI3 α ∧ CI4 (32 * α 1 0 0) (α 1 0 0) α ∧ CI5 α
def ca_R (k : Nat) (σ τ : ca_S) : Prop := ∃ α : ca_A, CI k α ∧ RC α σ ∧ RM α τ
theorem CI2.mono {k k' : Nat} {α : ca_A} (h : CI2 k α) (hk : k ≤ k') : CI2 k' α := fun b hb => ⟨Nat.le_trans (h b hb).1 hk, (h b hb).2⟩
theorem CI.mono {k k' : Nat} {α : ca_A} (h : CI k α) (hk : k ≤ k') : CI k' α := ⟨h.1, h.2.1.mono hk, h.2.2.1, h.2.2.2.1, h.2.2.2.2⟩
theorem ca_R.mono {k k' : Nat} {σ τ : ca_S} (h : ca_R k σ τ) (hk : k ≤ k') : ca_R k' σ τ := by
  obtain ⟨α, h1, h2, h3⟩ := h
  exact ⟨α, h1.mono hk, h2, h3⟩
theorem ca_R0 : ca_R 0 (fun _ _ => 0, 0) (fun _ _ => 0, 0) := by
  refine ⟨fun _ _ _ => 0, ⟨?_, ?_, ?_, ?_, ?_⟩, ⟨?_, ?_, ?_, ?_, ?_⟩, ⟨?_, ?_, ?_, ?_, ?_⟩⟩
  · simp [CI1]
  · intro b hb
    simp [cz_gr]
  · intro b j hb hj
    simp
  · refine ⟨fun _ => rfl, fun l hl => by simp at hl, fun l l' h1 h2 => by simp at h2⟩
  · intro i b hi hb
    simp
  · refine ⟨rfl, rfl, rfl, rfl, rfl, rfl, rfl, fun _ => rfl, rfl, rfl, rfl, rfl, rfl⟩
  · intro b hb
    exact ⟨rfl, rfl, rfl, rfl, rfl⟩
  · intro b j hb hj
    exact ⟨rfl, rfl, rfl, fun _ => rfl, rfl, rfl⟩
  · intro l hl
    simp at hl
  · intro i b hi hb
    simp at hi
  · refine ⟨rfl, rfl, rfl, rfl, rfl, rfl, rfl, fun _ => rfl, rfl, rfl, rfl, rfl, rfl⟩
  · intro b hb
    exact ⟨rfl, rfl, rfl, rfl, rfl, rfl⟩
  · intro b j hb hj
    exact ⟨rfl, rfl, rfl, fun _ => rfl, rfl, rfl, rfl⟩
  · intro l hl
    simp at hl
  · intro i b hi hb
    simp at hi
theorem cw_box {α : ca_A} {σ τ : ca_S} (hC : RC α σ) (hM : RM α τ) (hn : α 0 0 0 ≤ 16) (x : Int32) : (cf_X9_isBox σ x = some 0 ∧ cf_X10_isBox τ x = some 0) ∨ ∃ b : Nat, b < α 0 0 0 ∧ b < 16 ∧ x = nI b ∧ cf_X9_isBox σ x = some 1 ∧ cf_X10_isBox τ x = some 1 := by
  have e1 : σ.1 (0, 0, 0) 1 = nI (α 0 0 0) := hC.1.1
  have e2 : τ.1 (20, 0, 0) 0 = nI (α 0 0 0) := hM.1.1
  unfold cf_X9_isBox cf_X10_isBox
  rw [e1, e2]
  rcases pk_ix x (n := α 0 0 0) (by omega) with h | h | ⟨b, hb, rfl⟩
  · refine Or.inl ⟨by rw [if_pos h], ?_⟩
    unfold cf_X10_in
    rw [if_pos h]
    rfl
  · by_cases g : x < 0
    · refine Or.inl ⟨by rw [if_pos g], ?_⟩
      unfold cf_X10_in
      rw [if_pos g]
      rfl
    · refine Or.inl ⟨by rw [if_neg g, if_pos h], ?_⟩
      unfold cf_X10_in
      have h2 : nI (α 0 0 0) - 1 < x := by
        rw [Int32.lt_iff_toInt_lt]
        have a1 : (nI (α 0 0 0) - nI 1).toInt = (α 0 0 0 : Int) - (1 : Nat) := pk_sub_toInt (by omega) (by decide)
        have a2 : (nI (α 0 0 0) - 1).toInt = (α 0 0 0 : Int) - (1 : Nat) := a1
        have a3 := Int32.le_iff_toInt_le.mp h
        rw [nI_toInt (by omega)] at a3
        omega
      rw [if_neg g, if_pos h2]
      rfl
  · refine Or.inr ⟨b, hb, by omega, rfl, ?_, ?_⟩
    · rw [if_neg (nI_pos (by omega)), if_neg (nI_ge hb (by omega))]
    · unfold cf_X10_in
      have h2 : ¬ nI (α 0 0 0) - 1 < nI b := by
        rw [Int32.lt_iff_toInt_lt]
        have a1 : (nI (α 0 0 0) - nI 1).toInt = (α 0 0 0 : Int) - (1 : Nat) := pk_sub_toInt (by omega) (by decide)
        have a2 : (nI (α 0 0 0) - 1).toInt = (α 0 0 0 : Int) - (1 : Nat) := a1
        rw [nI_toInt (by omega)]
        omega
      rw [if_neg (nI_pos (by omega)), if_neg h2]
      rfl
