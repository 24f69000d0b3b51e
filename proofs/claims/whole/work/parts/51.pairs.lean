def cz_ex (th c : Nat) : Nat → Bool
  | 0 => false
  | w + 1 => Nat.beq (cz_cc th w) c || cz_ex th c w
theorem cz_ex_of (th c : Nat) : ∀ n, cz_ex th c n = true → ∃ w, w < n ∧ cz_cc th w = c
  | 0, h => by cases h
  | w + 1, h => by
    have h' : (Nat.beq (cz_cc th w) c || cz_ex th c w) = true := h
    rw [Bool.or_eq_true] at h'
    rcases h' with q | q
    · exact ⟨w, by omega, Nat.eq_of_beq_eq_true q⟩
    · obtain ⟨w', a, b⟩ := cz_ex_of th c w q
      exact ⟨w', by omega, b⟩
def cz_v2 (th c : Nat) : Bool := if Nat.beq (cz_seen c th) (Nat.sub (Nat.pow 2 th) 1) then cz_ex th c (cz_fa th) else true
theorem cz_wf2_2 : cz_all (cz_v2 2) 6 0 = true := by decide +kernel
theorem cz_wf2_3 : cz_all (cz_v2 3) 9 0 = true := by decide +kernel
theorem cz_wf2_4 : cz_all (cz_v2 4) 12 0 = true := by decide +kernel
theorem cz_wf2_5 : cz_all (cz_v2 5) 15 0 = true := by decide +kernel
theorem cz_wf2 {th c : Nat} (h1 : 2 ≤ th) (h2 : th ≤ 5) (hc : c < 8 ^ th) (hs : cz_seen c th = 2 ^ th - 1) : ∃ w, w < cz_fa th ∧ cz_cc th w = c := by
  have key : cz_v2 th c = true := by
    rcases (show th = 2 ∨ th = 3 ∨ th = 4 ∨ th = 5 by omega) with rfl | rfl | rfl | rfl
    · have := cz_all_of _ 6 0 cz_wf2_2 c hc
      rwa [Nat.zero_add] at this
    · have := cz_all_of _ 9 0 cz_wf2_3 c hc
      rwa [Nat.zero_add] at this
    · have := cz_all_of _ 12 0 cz_wf2_4 c hc
      rwa [Nat.zero_add] at this
    · have := cz_all_of _ 15 0 cz_wf2_5 c hc
      rwa [Nat.zero_add] at this
  unfold cz_v2 at key
  have e : Nat.beq (cz_seen c th) (Nat.sub (Nat.pow 2 th) 1) = true := by
    show Nat.beq (cz_seen c th) (2 ^ th - 1) = true
    rw [hs]
    exact Nat.beq_refl _
  rw [if_pos e] at key
  exact cz_ex_of th c _ key
