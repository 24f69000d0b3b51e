-- ===== the class joins =====
def cz_T (α : ca_A) (th n c : Nat) : Nat := cz_sm (fun b => match cz_ao α b with
  | none => 0
  | some a => cz_tu2 th (cz_mx th c) (cz_mx th a)) n
theorem cz_tu2_le (th mc m : Nat) (h : th ≤ 5) : cz_tu2 th mc m ≤ 25 := by
  have h1 : cz_tu2 th mc m ≤ (1 * th) * th := cz_sm_le (fun x _ => cz_sm_le (fun y _ => by
    cases Nat.blt x y with
    | false => exact Nat.zero_le _
    | true =>
      show Nat.mod _ 2 ≤ 1
      have : Nat.mod (Nat.add (cz_bt mc x y) (cz_bt m x y)) 2 < 2 := Nat.mod_lt _ (by decide)
      omega))
  have h2 : (1 * th) * th ≤ 5 * 5 := Nat.mul_le_mul (by omega) h
  omega
theorem cz_T_le (α : ca_A) (th n c : Nat) (h : th ≤ 5) (hn : n ≤ 16) : cz_T α th n c ≤ 400 := by
  have h1 : cz_T α th n c ≤ 25 * n := cz_sm_le (fun b _ => by
    cases cz_ao α b with
    | none => exact Nat.zero_le _
    | some a => exact cz_tu2_le _ _ _ h)
  omega
theorem cz_T_eq {k : Nat} {α : ca_A} (hI : CI k α) (hq : α 5 0 0 = 2) {w : Nat} (hw : w < cz_fa (α 6 0 0)) : cz_sm (fun i => cz_sm (fun j => bif Nat.blt i j then cz_A α (α 6 0 0) (α 0 0 0) (cz_dg (cz_cc (α 6 0 0) w) j) (cz_dg (cz_cc (α 6 0 0) w) i) else 0) (α 6 0 0)) (α 6 0 0) = cz_T α (α 6 0 0) (α 0 0 0) (cz_cc (α 6 0 0) w) := by
  have i1 := hI.1.1
  have ht := hI.1.2.2.2.2.2.2.1 hq
  have e1 : ∀ i j, (bif Nat.blt i j then cz_A α (α 6 0 0) (α 0 0 0) (cz_dg (cz_cc (α 6 0 0) w) j) (cz_dg (cz_cc (α 6 0 0) w) i) else 0) = cz_sm (fun b => bif Nat.blt i j then (match cz_ao α b with
    | none => 0
    | some a => cz_bt (cz_mx (α 6 0 0) a) (cz_dg (cz_cc (α 6 0 0) w) j) (cz_dg (cz_cc (α 6 0 0) w) i)) else 0) (α 0 0 0) := fun i j => by
    cases Nat.blt i j with
    | false => exact (cz_sm_0 _).symm
    | true => rfl
  have e2 : ∀ i, cz_sm (fun j => bif Nat.blt i j then cz_A α (α 6 0 0) (α 0 0 0) (cz_dg (cz_cc (α 6 0 0) w) j) (cz_dg (cz_cc (α 6 0 0) w) i) else 0) (α 6 0 0) = cz_sm (fun b => cz_sm (fun j => bif Nat.blt i j then (match cz_ao α b with
    | none => 0
    | some a => cz_bt (cz_mx (α 6 0 0) a) (cz_dg (cz_cc (α 6 0 0) w) j) (cz_dg (cz_cc (α 6 0 0) w) i)) else 0) (α 6 0 0)) (α 0 0 0) := fun i => by
    rw [cz_sm_congr (fun j _ => e1 i j)]
    exact cz_sm_swap _ _ _
  rw [cz_sm_congr (fun i _ => e2 i), cz_sm_swap]
  unfold cz_T
  apply cz_sm_congr
  intro b hb
  cases e : cz_ao α b with
  | none =>
    refine Eq.trans (cz_sm_congr (g := fun _ => 0) (fun i _ => Eq.trans (cz_sm_congr (g := fun _ => 0) (fun j _ => ?_)) (cz_sm_0 _))) (cz_sm_0 _)
    cases Nat.blt i j <;> rfl
  | some a =>
    obtain ⟨v, hv, ev⟩ := cz_way hI hq (show b < 16 by omega) e
    have := cz_w2a ht.1 ht.2 hw hv
    rw [ev] at this
    exact this
theorem jn_C {k : Nat} {α : ca_A} {σ : ca_S} (hI : CI k α) (hk : k ≤ 512) (hC : RC α σ) (hq : α 5 0 0 = 2) : ∃ σ' w0, cf_X1_join σ (nI (α 0 0 0)) (nI (α 6 0 0)) = some σ' ∧ w0 < cz_fa (α 6 0 0) ∧ σ'.1 (16, 0, 0) 3 = nI (cz_T α (α 6 0 0) (α 0 0 0) (cz_cc (α 6 0 0) w0)) ∧ σ'.1 (16, 0, 0) 2 = nI (cz_cc (α 6 0 0) w0) ∧ (∀ w, w < cz_fa (α 6 0 0) → cz_T α (α 6 0 0) (α 0 0 0) (cz_cc (α 6 0 0) w0) ≤ cz_T α (α 6 0 0) (α 0 0 0) (cz_cc (α 6 0 0) w)) ∧ (∀ w, w < w0 → cz_T α (α 6 0 0) (α 0 0 0) (cz_cc (α 6 0 0) w0) < cz_T α (α 6 0 0) (α 0 0 0) (cz_cc (α 6 0 0) w)) ∧ (∀ c k, c.1 < 14 → σ'.1 c k = σ.1 c k) ∧ σ'.2 = σ.2 := by
  have i1 := hI.1.1
  have ht := hI.1.2.2.2.2.2.2.1 hq
  have fb := cz_fab (α 6 0 0) (by omega)
  obtain ⟨T, hT⟩ : ∃ T : Nat → Nat, ∀ w, T w = cz_T α (α 6 0 0) (α 0 0 0) (cz_cc (α 6 0 0) w) := ⟨_, fun _ => rfl⟩
  have bT : ∀ w, T w ≤ 400 := fun w => by
    rw [hT]
    exact cz_T_le _ _ _ _ ht.2 i1
  simp only [← hT]
  unfold cf_X1_join
  obtain ⟨σ1, p1, p2, p3, p4⟩ := cp_C hI hk hC hq
  have iw : cf_X9_isWithin (nI (α 6 0 0)) 2 5 = some 1 := by
    rcases cw_C (nI (α 6 0 0)) 2 5 2 5 rfl rfl (by decide) (by decide) with ⟨-, -, h⟩ | ⟨-, -, -, -, h, -⟩
    · exact absurd rfl (h (α 6 0 0) ht.1 ht.2)
    · exact h
  rw [iw, cz_br, if_neg (show ¬ (1 : Int32) = 0 by decide), p1, cz_bv, cz_lt]
  obtain ⟨σ2, u1, u2, u3, u4⟩ := cz_loopK (fun (K : ca_S → Option ca_S) f (s : ca_S) x => cl_X1_join_26 (nI (α 6 0 0)) K f s x) (α 6 0 0) 0 (fun i s => cz_r19 s i (fun j => j) ∧ (∀ c k, c ≠ (19, 0, 0) → s.1 c k = (ca_st σ1 (16, 0, 0) 3 2147483647).1 c k) ∧ s.2 = σ1.2) (Nat.zero_le _) (by omega) (fun i s _ hi hs => by
    obtain ⟨r1, r2, r3⟩ := hs
    refine ⟨ca_st s (19, 0, 0) i (nI i), fun K f => ?_, fun j hj => ?_, fun c k hc => ?_, r3⟩
    · show cl_X1_join_26 (nI (α 6 0 0)) K (f + 1) s (nI i) = _
      rw [cl_X1_join_26, if_neg (nI_ge hi (by omega)), cz_in (show i < 5 by omega) (by decide), nI_clamp (show i < 2 ^ 31 by omega), cz_gd, cz_lt, nI_1]
    · by_cases z : j = i
      · simp [ca_st, z]
      · have := r1 j (by omega)
        simpa [ca_st, z] using this
    · have := r2 c k hc
      simpa [ca_st, hc] using this) (fun K f s hs => by
    show cl_X1_join_26 (nI (α 6 0 0)) K (f + 1) s (nI (α 6 0 0)) = _
    rw [cl_X1_join_26, if_pos (Int32.le_refl _)]) (ca_st σ1 (16, 0, 0) 3 2147483647) ⟨fun j hj => by omega, fun _ _ _ => rfl, rfl⟩
  have u1 : ∀ K : ca_S → Option ca_S, cl_X1_join_26 (nI (α 6 0 0)) K ca_FU (ca_st σ1 (16, 0, 0) 3 2147483647) 0 = K σ2 := u1
  rw [u1]
  obtain ⟨s', q1, q2, q3, q4, -, q5⟩ := cz_loop (fun f (s : ca_S × Int32) x => cl_X1_join_53 (nI (α 6 0 0)) (fun σ35 => (some σ35)) f s.1 s.2 x) (cz_fa (α 6 0 0)) 0 (fun w s => cz_cl18 s.1 (α 6 0 0) (cz_A α (α 6 0 0) (α 0 0 0)) ∧ (∀ c k, c.1 < 14 → s.1.1 c k = σ.1 c k) ∧ s.1.2 = σ.2 ∧ ((w < cz_fa (α 6 0 0) → s.2 = 1 ∧ cz_r19 s.1 (α 6 0 0) (cz_dg (cz_cc (α 6 0 0) w))) ∧ (w = cz_fa (α 6 0 0) → s.2 = 0)) ∧ ((w = 0 ∧ s.1.1 (16, 0, 0) 3 = 2147483647) ∨ ∃ w0, w0 < w ∧ s.1.1 (16, 0, 0) 3 = nI (T w0) ∧ s.1.1 (16, 0, 0) 2 = nI (cz_cc (α 6 0 0) w0) ∧ (∀ v, v < w → T w0 ≤ T v) ∧ (∀ v, v < w0 → T w0 < T v))) (fun s => some s.1) (Nat.zero_le _) (by omega) (fun w s _ hw hs => by
    obtain ⟨s, fl⟩ := s
    obtain ⟨r1, r2, r3, ⟨r0, -⟩, r4⟩ := hs
    simp only at r1 r2 r3 r0 r4
    obtain ⟨rf, rr⟩ := r0 hw
    subst rf
    have tp := tp_C ht.1 ht.2 hw r1 rr
    rw [cz_T_eq hI hq hw, ← hT] at tp
    have bw := bT w
    have aa : cf_X1_asAnswer (ca_st s (16, 0, 0) 3 (nI (T w))) (nI (α 6 0 0)) = some (nI (cz_cc (α 6 0 0) w)) := aa_C ht.1 ht.2 hw (fun i hi => by
      have := rr i hi
      simpa [ca_st] using this)
    obtain ⟨ja, sa, a1, a2, a3, a4, a5⟩ := nx_C ht.1 ht.2 hw rr
    obtain ⟨jb, sb, b1, b2, b3, b4, b5⟩ := nx_C (σ := ca_st (ca_st s (16, 0, 0) 3 (nI (T w))) (16, 0, 0) 2 (nI (cz_cc (α 6 0 0) w))) ht.1 ht.2 hw (fun i hi => by
      have := rr i hi
      simpa [ca_st] using this)
    have n120 : ¬ (120 : Int32) ≤ nI w := nI_ge (b := 120) (by omega) (by decide)
    have unf : ∀ f, cl_X1_join_53 (nI (α 6 0 0)) (fun σ35 => (some σ35)) (f + 1) s 1 (nI w) = if s.1 (16, 0, 0) 3 ≤ nI (T w) then cl_X1_join_53 (nI (α 6 0 0)) (fun σ35 => (some σ35)) f sa ja (nI (w + 1)) else cl_X1_join_53 (nI (α 6 0 0)) (fun σ35 => (some σ35)) f sb jb (nI (w + 1)) := fun f => by
      rw [cl_X1_join_53, if_neg (show ¬ (1 : Int32) = 0 by decide), if_neg n120, tp, cz_br, a1, cz_bi, cz_lt, aa, cz_br, cz_lt, b1, cz_bi, nI_1]
    have ca : cz_cl18 sa (α 6 0 0) (cz_A α (α 6 0 0) (α 0 0 0)) := fun x y hx hy => by
      rw [a4 (18, x, 0) y (by simp)]
      exact r1 x y hx hy
    have cb : cz_cl18 sb (α 6 0 0) (cz_A α (α 6 0 0) (α 0 0 0)) := fun x y hx hy => by
      rw [b4 (18, x, 0) y (by simp)]
      have := r1 x y hx hy
      simpa [ca_st] using this
    have ga : ∀ c k, c.1 < 14 → sa.1 c k = σ.1 c k := fun c k hc => by
      rw [a4 c k (fun z => by rw [z] at hc; simp at hc)]
      exact r2 c k hc
    have gb : ∀ c k, c.1 < 14 → sb.1 c k = σ.1 c k := fun c k hc => by
      rw [b4 c k (fun z => by rw [z] at hc; simp at hc)]
      have n : ¬ c = (16, 0, 0) := fun z => by rw [z] at hc; simp at hc
      have := r2 c k hc
      simpa [ca_st, n] using this
    have b16 : sb.1 (16, 0, 0) 3 = nI (T w) ∧ sb.1 (16, 0, 0) 2 = nI (cz_cc (α 6 0 0) w) := by
      rw [b4 _ _ (by simp), b4 _ _ (by simp)]
      simp [ca_st]
    rcases r4 with ⟨z, r5⟩ | ⟨w0, r5, r6, r7, r8, r9⟩
    · subst z
      have ng : ¬ s.1 (16, 0, 0) 3 ≤ nI (T 0) := by
        rw [r5]
        exact nI_ge (b := 2147483647) (by omega) (by decide)
      refine ⟨(sb, jb), fun f => (unf f).trans (if_neg ng), cb, gb, b5.trans r3, ⟨b2, b3⟩, Or.inr ⟨0, by omega, b16.1, b16.2, fun v hv => ?_, fun v hv => by omega⟩⟩
      rw [show v = 0 by omega]
      exact Nat.le_refl _
    · have b0 := bT w0
      by_cases g : T w0 ≤ T w
      · have yg : s.1 (16, 0, 0) 3 ≤ nI (T w) := by
          rw [r6, cz_len (by omega) (by omega)]
          exact g
        refine ⟨(sa, ja), fun f => (unf f).trans (if_pos yg), ca, ga, a5.trans r3, ⟨a2, a3⟩, Or.inr ⟨w0, by omega, (a4 _ _ (by simp)).trans r6, (a4 _ _ (by simp)).trans r7, fun v hv => ?_, r9⟩⟩
        rcases Nat.lt_or_ge v w with q | q
        · exact r8 v q
        · rw [show v = w by omega]
          exact g
      · have ng : ¬ s.1 (16, 0, 0) 3 ≤ nI (T w) := by
          rw [r6, cz_len (by omega) (by omega)]
          exact g
        refine ⟨(sb, jb), fun f => (unf f).trans (if_neg ng), cb, gb, b5.trans r3, ⟨b2, b3⟩, Or.inr ⟨w, by omega, b16.1, b16.2, fun v hv => ?_, fun v hv => ?_⟩⟩
        · rcases Nat.lt_or_ge v w with q | q
          · have := r8 v q
            omega
          · rw [show v = w by omega]
            exact Nat.le_refl _
        · have := r8 v hv
          omega) (fun f s hs => by
    show cl_X1_join_53 (nI (α 6 0 0)) _ (f + 1) s.1 s.2 (nI (cz_fa (α 6 0 0))) = _
    rw [cl_X1_join_53, if_pos (hs.2.2.2.1.2 rfl)]) (σ2, 1) ⟨fun x y hx hy => by
      have := p2 x y hx hy
      show σ2.1 _ _ = _
      rw [u3 (18, x, 0) y (by simp)]
      simpa [ca_st] using this, fun c k hc => by
      have n : ¬ c = (16, 0, 0) := fun z => by rw [z] at hc; simp at hc
      have := p3 c k (by omega)
      show σ2.1 _ _ = _
      rw [u3 c k (fun z => by rw [z] at hc; simp at hc)]
      simpa [ca_st, n] using this, u4.trans p4, ⟨fun _ => ⟨rfl, fun i hi => by
        rw [cz_cc0 (α 6 0 0) (by omega) ht.1 i hi]
        exact u2 i hi⟩, fun h => by omega⟩, Or.inl ⟨rfl, by
        show σ2.1 _ _ = _
        rw [u3 (16, 0, 0) 3 (by simp)]
        simp [ca_st]⟩⟩
  rcases q5 with ⟨z, -⟩ | ⟨w0, t1, t2, t3, t4, t5⟩
  · omega
  · exact ⟨s'.1, w0, q1, t1, t2, t3, t4, t5, q3, q4⟩
