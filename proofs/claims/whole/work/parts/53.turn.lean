/-- the two ways to count the turned pairs of two orders -/
def cz_w2 (th w v : Nat) : Bool := Nat.beq (cz_tu1 th (cz_cc th w) (cz_mx th (cz_cc th v))) (cz_tu2 th (cz_mx th (cz_cc th w)) (cz_mx th (cz_cc th v)))
theorem cz_w2_2 : ∀ w, w < cz_fa 2 → ∀ v, v < cz_fa 2 → cz_w2 2 w v = true := by decide +kernel
theorem cz_w2_3 : ∀ w, w < cz_fa 3 → ∀ v, v < cz_fa 3 → cz_w2 3 w v = true := by decide +kernel
theorem cz_w2_4 : ∀ w, w < cz_fa 4 → ∀ v, v < cz_fa 4 → cz_w2 4 w v = true := by decide +kernel
theorem cz_w2_5_0 : ∀ w, w < 10 → ∀ v, v < 120 → cz_w2 5 (Nat.add 0 w) v = true := by decide +kernel
theorem cz_w2_5_1 : ∀ w, w < 10 → ∀ v, v < 120 → cz_w2 5 (Nat.add 10 w) v = true := by decide +kernel
theorem cz_w2_5_2 : ∀ w, w < 10 → ∀ v, v < 120 → cz_w2 5 (Nat.add 20 w) v = true := by decide +kernel
theorem cz_w2_5_3 : ∀ w, w < 10 → ∀ v, v < 120 → cz_w2 5 (Nat.add 30 w) v = true := by decide +kernel
theorem cz_w2_5_4 : ∀ w, w < 10 → ∀ v, v < 120 → cz_w2 5 (Nat.add 40 w) v = true := by decide +kernel
theorem cz_w2_5_5 : ∀ w, w < 10 → ∀ v, v < 120 → cz_w2 5 (Nat.add 50 w) v = true := by decide +kernel
theorem cz_w2_5_6 : ∀ w, w < 10 → ∀ v, v < 120 → cz_w2 5 (Nat.add 60 w) v = true := by decide +kernel
theorem cz_w2_5_7 : ∀ w, w < 10 → ∀ v, v < 120 → cz_w2 5 (Nat.add 70 w) v = true := by decide +kernel
theorem cz_w2_5_8 : ∀ w, w < 10 → ∀ v, v < 120 → cz_w2 5 (Nat.add 80 w) v = true := by decide +kernel
theorem cz_w2_5_9 : ∀ w, w < 10 → ∀ v, v < 120 → cz_w2 5 (Nat.add 90 w) v = true := by decide +kernel
theorem cz_w2_5_10 : ∀ w, w < 10 → ∀ v, v < 120 → cz_w2 5 (Nat.add 100 w) v = true := by decide +kernel
theorem cz_w2_5_11 : ∀ w, w < 10 → ∀ v, v < 120 → cz_w2 5 (Nat.add 110 w) v = true := by decide +kernel
theorem cz_w2_5 (w : Nat) (hw : w < 120) (v : Nat) (hv : v < 120) : cz_w2 5 w v = true := by
  rcases (show (∃ u, u < 10 ∧ w = 0 + u) ∨ (∃ u, u < 10 ∧ w = 10 + u) ∨ (∃ u, u < 10 ∧ w = 20 + u) ∨ (∃ u, u < 10 ∧ w = 30 + u) ∨ (∃ u, u < 10 ∧ w = 40 + u) ∨ (∃ u, u < 10 ∧ w = 50 + u) ∨ (∃ u, u < 10 ∧ w = 60 + u) ∨ (∃ u, u < 10 ∧ w = 70 + u) ∨ (∃ u, u < 10 ∧ w = 80 + u) ∨ (∃ u, u < 10 ∧ w = 90 + u) ∨ (∃ u, u < 10 ∧ w = 100 + u) ∨ (∃ u, u < 10 ∧ w = 110 + u) by
    have e : w = 10 * (w / 10) + w % 10 := by omega
    have l : w % 10 < 10 := by omega
    have q : w / 10 < 12 := by omega
    generalize w / 10 = d at e q
    generalize w % 10 = u at e l
    subst e
    rcases (show d = 0 ∨ d = 1 ∨ d = 2 ∨ d = 3 ∨ d = 4 ∨ d = 5 ∨ d = 6 ∨ d = 7 ∨ d = 8 ∨ d = 9 ∨ d = 10 ∨ d = 11 by omega) with rfl | rfl | rfl | rfl | rfl | rfl | rfl | rfl | rfl | rfl | rfl | rfl
    · exact Or.inl ⟨u, l, rfl⟩
    · exact Or.inr (Or.inl ⟨u, l, rfl⟩)
    · exact Or.inr (Or.inr (Or.inl ⟨u, l, rfl⟩))
    · exact Or.inr (Or.inr (Or.inr (Or.inl ⟨u, l, rfl⟩)))
    · exact Or.inr (Or.inr (Or.inr (Or.inr (Or.inl ⟨u, l, rfl⟩))))
    · exact Or.inr (Or.inr (Or.inr (Or.inr (Or.inr (Or.inl ⟨u, l, rfl⟩)))))
    · exact Or.inr (Or.inr (Or.inr (Or.inr (Or.inr (Or.inr (Or.inl ⟨u, l, rfl⟩))))))
    · exact Or.inr (Or.inr (Or.inr (Or.inr (Or.inr (Or.inr (Or.inr (Or.inl ⟨u, l, rfl⟩)))))))
    · exact Or.inr (Or.inr (Or.inr (Or.inr (Or.inr (Or.inr (Or.inr (Or.inr (Or.inl ⟨u, l, rfl⟩))))))))
    · exact Or.inr (Or.inr (Or.inr (Or.inr (Or.inr (Or.inr (Or.inr (Or.inr (Or.inr (Or.inl ⟨u, l, rfl⟩)))))))))
    · exact Or.inr (Or.inr (Or.inr (Or.inr (Or.inr (Or.inr (Or.inr (Or.inr (Or.inr (Or.inr (Or.inl ⟨u, l, rfl⟩))))))))))
    · exact Or.inr (Or.inr (Or.inr (Or.inr (Or.inr (Or.inr (Or.inr (Or.inr (Or.inr (Or.inr (Or.inr (⟨u, l, rfl⟩)))))))))))) with ⟨u, hu, rfl⟩ | ⟨u, hu, rfl⟩ | ⟨u, hu, rfl⟩ | ⟨u, hu, rfl⟩ | ⟨u, hu, rfl⟩ | ⟨u, hu, rfl⟩ | ⟨u, hu, rfl⟩ | ⟨u, hu, rfl⟩ | ⟨u, hu, rfl⟩ | ⟨u, hu, rfl⟩ | ⟨u, hu, rfl⟩ | ⟨u, hu, rfl⟩
  · exact cz_w2_5_0 u hu v hv
  · exact cz_w2_5_1 u hu v hv
  · exact cz_w2_5_2 u hu v hv
  · exact cz_w2_5_3 u hu v hv
  · exact cz_w2_5_4 u hu v hv
  · exact cz_w2_5_5 u hu v hv
  · exact cz_w2_5_6 u hu v hv
  · exact cz_w2_5_7 u hu v hv
  · exact cz_w2_5_8 u hu v hv
  · exact cz_w2_5_9 u hu v hv
  · exact cz_w2_5_10 u hu v hv
  · exact cz_w2_5_11 u hu v hv
theorem cz_w2a {th w v : Nat} (h1 : 2 ≤ th) (h2 : th ≤ 5) (hw : w < cz_fa th) (hv : v < cz_fa th) : cz_tu1 th (cz_cc th w) (cz_mx th (cz_cc th v)) = cz_tu2 th (cz_mx th (cz_cc th w)) (cz_mx th (cz_cc th v)) := by
  apply Nat.eq_of_beq_eq_true
  rcases (show th = 2 ∨ th = 3 ∨ th = 4 ∨ th = 5 by omega) with rfl | rfl | rfl | rfl
  · exact cz_w2_2 w hw v hv
  · exact cz_w2_3 w hw v hv
  · exact cz_w2_4 w hw v hv
  · exact cz_w2_5 w hw v hv
