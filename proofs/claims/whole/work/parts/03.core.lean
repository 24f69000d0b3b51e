-- ===== the two worlds: cells by name (kind, place, place), their numbers as one function =====
abbrev ca_I : Type := Nat × Nat × Nat
abbrev ca_S : Type := (ca_I → Nat → Int32) × Int64
def ca_st (σ : ca_S) (c : ca_I) (k : Nat) (x : Int32) : ca_S := (fun c' k' => if c' = c ∧ k' = k then x else σ.1 c' k', σ.2)
def ca_sl (σ : ca_S) (v : Int64) : ca_S := (σ.1, v)
abbrev ca_G : Type := va_G × (ca_I → Nat) × (Nat → ClassId) × Nat
/-- objects: the number of the class in vwCl, how many fields -/
def ca_ob (t : Nat) : Option (Nat × Nat) := match t with
  | 0 => some (9, 12)
  | 2 => some (0, 7)
  | 4 => some (8, 3)
  | 6 => some (2, 3)
  | 7 => some (7, 4)
  | 8 => some (6, 7)
  | 10 => some (3, 2)
  | 13 => some (4, 2)
  | 14 => some (5, 4)
  | 16 => some (1, 4)
  | 20 => some (10, 32)
  | _ => none
/-- arrays of references: type, length -/
def ca_ra (t : Nat) : Option (Nat × Nat) := match t with
  | 1 => some (2, 16)
  | 3 => some (3, 2)
  | 5 => some (4, 2)
  | 11 => some (5, 20)
  | 17 => some (5, 5)
  | _ => none
def ca_ch (c : ca_I) (i : Nat) : ca_I := match c.1 with
  | 1 => (2, i, 0)
  | 3 => (4, c.2.1, i)
  | 5 => (6, c.2.1, i)
  | 11 => (12, i, 0)
  | _ => (18, i, 0)
/-- the model's arrays: the slot of their field, their length (0: none) -/
def ca_ml (k : Nat) : Nat := [0, 0, 32, 32, 32, 32, 0, 0, 0, 0, 0, 0, 16, 16, 16, 16, 32, 32, 32, 32, 0, 400, 400, 400, 400, 400, 0, 0, 320, 0, 0, 16].getD k 0
def ca_ia (c : ca_I) : Nat × Nat := match c.1 with
  | 9 => (0, 320)
  | 12 => (0, 16)
  | 15 => (0, 16)
  | 18 => (0, 5)
  | 19 => (0, 5)
  | _ => (bif Nat.beq c.2.1 15 then 1 else 0, ca_ml c.2.1)
/-- fields that hold references -/
def ca_rf (c : ca_I) (k : Nat) : Option ca_I := match c.1 with
  | 0 => [some (1, 0, 0), none, none, none, none, none, some (7, 0, 0), some (8, 0, 0), some (10, 0, 0), some (13, 0, 0), some (14, 0, 0), some (16, 0, 0)].getD k none
  | 2 => [some (3, c.2.1, 0), some (5, c.2.1, 0)].getD k none
  | 8 => bif Nat.blt k 6 then some (9, k, 0) else none
  | 10 => [some (11, 0, 0)].getD k none
  | 14 => [some (15, 0, 0)].getD k none
  | 16 => [some (17, 0, 0), some (19, 0, 0)].getD k none
  | 20 => bif Nat.blt 0 (ca_ml k) then some (21, k, 0) else none
  | _ => none
def ca_lg (c : ca_I) (k : Nat) : Bool := (Nat.beq c.1 13 && Nat.beq k 0) || (Nat.beq c.1 20 && Nat.beq k 29)
def ca_fv (Γ : ca_G) (σ : ca_S) (c : ca_I) (k : Nat) : Value := match ca_rf c k with
  | some d => .ref (Γ.2.1 d)
  | none => bif ca_lg c k then .long σ.2 else .int (σ.1 c k)
def ca_E (Γ : ca_G) (σ : ca_S) (c : ca_I) : va_E := match ca_ob c.1 with
  | some q => .inr (q.1, (List.range q.2).map (ca_fv Γ σ c))
  | none => match ca_ra c.1 with
    | some q => .inl (Γ.2.2.1 q.1, q.2, .inr (.inr (.inr (.inr (fun i => some (Γ.2.1 (ca_ch c i)))))))
    | none => .inl (Γ.2.2.1 (ca_ia c).1, (ca_ia c).2, .inl (σ.1 c))
def ca_lay (Γ : ca_G) (cs : List ca_I) (σ : ca_S) : va_W := cs.map (fun c => (Γ.2.1 c, ca_E Γ σ c))
def ca_Ad (Γ : ca_G) (cs : List ca_I) : Nat → Prop := fun q => ∃ c ∈ cs, Γ.2.1 c = q
/-- the class's cells, the reference's cells -/
def ca_cC : List ca_I := [(0, 0, 0), (1, 0, 0), (7, 0, 0), (8, 0, 0), (10, 0, 0), (11, 0, 0), (13, 0, 0), (14, 0, 0), (15, 0, 0), (16, 0, 0), (17, 0, 0), (19, 0, 0)] ++ ((List.range 6).map (fun k => (9, k, 0)) ++ ((List.range 20).map (fun k => (12, k, 0)) ++ ((List.range 5).map (fun k => (18, k, 0)) ++ (List.range 16).flatMap (fun i => [(2, i, 0), (3, i, 0), (5, i, 0), (4, i, 0), (4, i, 1), (6, i, 0), (6, i, 1)]))))
def ca_cM : List ca_I := (20, 0, 0) :: ([2, 3, 4, 5, 12, 13, 14, 15, 16, 17, 18, 19, 21, 22, 23, 24, 25, 28, 31].map (fun k => (21, k, 0)))
theorem ca_st_ne {σ : ca_S} {c d : ca_I} {k : Nat} {x : Int32} (h : d ≠ c) : (ca_st σ c k x).1 d = σ.1 d := by
  funext j
  simp [ca_st, h]
theorem ca_st_eq {σ : ca_S} {c : ca_I} {k : Nat} {x : Int32} : (ca_st σ c k x).1 c = fun j => if j = k then x else σ.1 c j := by
  funext j
  simp [ca_st]
theorem ca_E_ne {Γ : ca_G} {σ : ca_S} {c d : ca_I} {k : Nat} {x : Int32} (h : d ≠ c) : ca_E Γ (ca_st σ c k x) d = ca_E Γ σ d := by
  have h1 : (ca_st σ c k x).1 d = σ.1 d := ca_st_ne h
  have h2 : (ca_st σ c k x).2 = σ.2 := rfl
  have h3 : ca_fv Γ (ca_st σ c k x) d = ca_fv Γ σ d := by
    funext j
    simp only [ca_fv, h1, h2]
  simp only [ca_E, h1, h3]
theorem ca_E_sl {Γ : ca_G} {σ : ca_S} {d : ca_I} {v : Int64} (h : d.1 ≠ 13) (h2 : d.1 ≠ 20) : ca_E Γ (ca_sl σ v) d = ca_E Γ σ d := by
  have h3 : ca_fv Γ (ca_sl σ v) d = ca_fv Γ σ d := by
    funext j
    have h4 : ca_lg d j = false := by simp [ca_lg, h, h2]
    simp only [ca_fv, h4]
    rfl
  simp only [ca_E, h3]
  rfl
theorem ca_E_ob {Γ : ca_G} {σ : ca_S} {c : ca_I} {ci N : Nat} (h : ca_ob c.1 = some (ci, N)) : ca_E Γ σ c = .inr (ci, (List.range N).map (ca_fv Γ σ c)) := by
  simp only [ca_E, h]
theorem ca_map_set {α : Type} (N : Nat) (g g' : Nat → α) (k : Nat) (h : ∀ j, j ≠ k → g' j = g j) : ((List.range N).map g).set k (g' k) = (List.range N).map g' := by
  apply List.ext_getElem?
  intro j
  by_cases hj : j < N
  · by_cases e : k = j
    · subst e
      rw [List.getElem?_set_self (by simp; exact hj)]
      simp [hj]
    · rw [List.getElem?_set_ne e]
      simp [hj, h j (fun q => e q.symm)]
  · have h1 : ((List.range N).map g').length ≤ j := by simp; omega
    have h2 : (((List.range N).map g).set k (g' k)).length ≤ j := by simp; omega
    rw [List.getElem?_eq_none h1, List.getElem?_eq_none h2]
theorem ca_E_put {Γ : ca_G} {σ : ca_S} {c : ca_I} {ci N k : Nat} {x : Int32} (h : ca_ob c.1 = some (ci, N)) (hr : ca_rf c k = none) (hl : ca_lg c k = false) : ca_E Γ (ca_st σ c k x) c = .inr (ci, ((List.range N).map (ca_fv Γ σ c)).set k (.int x)) := by
  rw [ca_E_ob h]
  have e : ca_fv Γ (ca_st σ c k x) c k = .int x := by
    simp only [ca_fv, hr, hl, ca_st_eq]
    simp
  rw [← e, ca_map_set N (ca_fv Γ σ c) (ca_fv Γ (ca_st σ c k x) c) k (fun j hj => by
    have h2 : (ca_st σ c k x).2 = σ.2 := rfl
    simp only [ca_fv, ca_st_eq, if_neg hj, h2])]
theorem ca_E_putL {Γ : ca_G} {σ : ca_S} {c : ca_I} {ci N k : Nat} {v : Int64} (h : ca_ob c.1 = some (ci, N)) (hr : ca_rf c k = none) (hl : ca_lg c k = true) (hu : ∀ j, j ≠ k → ca_lg c j = false) : ca_E Γ (ca_sl σ v) c = .inr (ci, ((List.range N).map (ca_fv Γ σ c)).set k (.long v)) := by
  rw [ca_E_ob h]
  have e : ca_fv Γ (ca_sl σ v) c k = .long v := by
    simp only [ca_fv, hr, hl]
    rfl
  rw [← e, ca_map_set N (ca_fv Γ σ c) (ca_fv Γ (ca_sl σ v) c) k (fun j hj => by
    simp only [ca_fv, hu j hj]
    rfl)]
theorem ca_E_ia {Γ : ca_G} {σ : ca_S} {c : ca_I} (h : ca_ob c.1 = none) (h2 : ca_ra c.1 = none) : ca_E Γ σ c = .inl (Γ.2.2.1 (ca_ia c).1, (ca_ia c).2, .inl (σ.1 c)) := by
  simp only [ca_E, h, h2]
theorem ca_E_ra {Γ : ca_G} {σ : ca_S} {c : ca_I} {t n : Nat} (h : ca_ob c.1 = none) (h2 : ca_ra c.1 = some (t, n)) : ca_E Γ σ c = .inl (Γ.2.2.1 t, n, .inr (.inr (.inr (.inr (fun i => some (Γ.2.1 (ca_ch c i))))))) := by
  simp only [ca_E, h, h2]
theorem ca_nd_inj {α : Type} {l : List α} (hn : l.Nodup) {i j : Nat} {a : α} (hi : l[i]? = some a) (hj : l[j]? = some a) : i = j := by
  obtain ⟨h1, h2⟩ := List.getElem?_eq_some_iff.mp hi
  obtain ⟨h3, h4⟩ := List.getElem?_eq_some_iff.mp hj
  rcases Nat.lt_trichotomy i j with h | h | h
  · exact absurd (h2.trans h4.symm) (List.pairwise_iff_getElem.mp hn i j h1 h3 h)
  · exact h
  · exact absurd (h4.trans h2.symm) (List.pairwise_iff_getElem.mp hn j i h3 h1 h)
theorem ca_lay_get {Γ : ca_G} {cs : List ca_I} (σ : ca_S) {c : ca_I} (h : c ∈ cs) : ∃ k : Nat, (ca_lay Γ cs σ)[k]? = some (Γ.2.1 c, ca_E Γ σ c) ∧ cs[k]? = some c := by
  obtain ⟨k, hk⟩ := List.getElem?_of_mem h
  exact ⟨k, by simp [ca_lay, hk], hk⟩
theorem ca_lay_set {Γ : ca_G} {cs : List ca_I} {σ σ' : ca_S} {c : ca_I} {k : Nat} (hn : cs.Nodup) (hk : cs[k]? = some c) (h : ∀ d ∈ cs, d ≠ c → ca_E Γ σ' d = ca_E Γ σ d) : (ca_lay Γ cs σ).set k (Γ.2.1 c, ca_E Γ σ' c) = ca_lay Γ cs σ' := by
  have hl : k < cs.length := (List.getElem?_eq_some_iff.mp hk).1
  apply List.ext_getElem?
  intro j
  by_cases e : k = j
  · subst e
    rw [List.getElem?_set_self (by simp [ca_lay]; exact hl)]
    simp [ca_lay, hk]
  · rw [List.getElem?_set_ne e]
    simp only [ca_lay, List.getElem?_map]
    cases hj : cs[j]? with
    | none => rfl
    | some d =>
      have hd : d ≠ c := by
        intro q
        subst q
        exact e (ca_nd_inj hn hk hj)
      have := h d (List.mem_of_getElem? hj) hd
      simp [this]
theorem ca_lay_D {Γ : ca_G} {cs : List ca_I} (σ : ca_S) (hn : cs.Nodup) (hi : ∀ c ∈ cs, ∀ d ∈ cs, Γ.2.1 c = Γ.2.1 d → c = d) : va_D (ca_Ad Γ cs) (ca_lay Γ cs σ) := by
  have key : ∀ (k : Nat) (q : Nat × va_E), (ca_lay Γ cs σ)[k]? = some q → ∃ c, cs[k]? = some c ∧ q.1 = Γ.2.1 c := by
    intro k q hk
    simp only [ca_lay, List.getElem?_map] at hk
    cases hc : cs[k]? with
    | none => rw [hc] at hk; cases hk
    | some c => rw [hc] at hk; cases hk; exact ⟨c, rfl, rfl⟩
  refine ⟨fun i j x y hx hy hxy => ?_, fun k q hk => ?_⟩
  · obtain ⟨c, h1, h2⟩ := key i x hx
    obtain ⟨d, h3, h4⟩ := key j y hy
    have e := hi c (List.mem_of_getElem? h1) d (List.mem_of_getElem? h3) (h2.symm.trans (hxy.trans h4))
    subst e
    exact ca_nd_inj hn h1 h3
  · obtain ⟨c, h1, h2⟩ := key k q hk
    exact ⟨c, List.mem_of_getElem? h1, h2.symm⟩
-- ===== what stands still: the tables' words, the classes (constant rows: none) =====
def ca_ok (w : Cond) : Bool := goodWord w || (match w with
  | .fieldLinkNest _ _ _ _ _ _ => true
  | .methodLinkNest _ _ _ _ => true
  | _ => false)
def ca_Ws (U : State) : Prop := ∀ w ∈ lw_tbl, ca_ok w = true → w.before #[] U = true
theorem ca_Ws.warm {s U : State} (hW : s.WarmedH U.vm) (h : ca_Ws s) : ca_Ws U := by
  intro w hw hk
  have h1 := h w hw hk
  unfold ca_ok at hk
  rcases (Bool.or_eq_true _ _).mp hk with hg | hn
  · exact word_at hW (good_of_word hg) h1
  · cases w <;> first | (exact va_Nw.warmF hW h1) | (exact va_Nw.warmM hW h1) | (simp at hn)
abbrev ca_tys (Γ : ca_G) : List (ClassId × FieldType) := [(Γ.2.2.1 0, .int), (Γ.2.2.1 1, .boolean), (Γ.2.2.1 2, .object "ClassAnswers$Box"), (Γ.2.2.1 3, .object "ClassAnswers$Road"), (Γ.2.2.1 4, .object "ClassAnswers$Kept"), (Γ.2.2.1 5, .array .int)]
def ca_SF (_ : ca_G) (_ : List ca_I) (_ : State) : Prop := True
def ca_X (Γ : ca_G) (cs : List ca_I) (U : State) : Prop := ca_Ws U ∧ va_K Γ.1 vwCl (ca_tys Γ) U ∧ (cs.Nodup ∧ ∀ c ∈ cs, ∀ d ∈ cs, Γ.2.1 c = Γ.2.1 d → c = d) ∧ ca_SF Γ cs U
theorem ca_X.warm {Γ : ca_G} {cs : List ca_I} {s U : State} (hW : s.WarmedH U.vm) (_ : ∀ q : Nat, q < s.heap.size → ¬ ca_Ad Γ cs q → U.heap[q]? = s.heap[q]?) (h : ca_X Γ cs s) : ca_X Γ cs U :=
  ⟨h.1.warm hW, va_K.moved hW.alike h.2.1, h.2.2.1, trivial⟩
-- ===== the judgement: the machine, at a place of a method, comes to the end that X tells =====
abbrev ca_K : Type := ca_G × List ca_I × Program × Launch × Env × Room × State × MethodId × Array Value × List Frame × Method × Code × Nat
def ca_a (κ : ca_K) (c : ca_I) : Nat := κ.1.2.1 c
def ca_C (κ : ca_K) (cs : List ca_I) (cc : ByteArray) (nL : Nat) (own : String) (ret : Option FieldType) (fr lo : Nat) : Prop := match κ with
  | (Γ, cs', p, _, _, R, s, m, _, _, meth, c, nL') => cs' = cs ∧ nL' = nL ∧ p.tables.exec = Jvm.exec ∧ c.code = cc ∧ c.maxLocals = nL' ∧ s.vm.findClass own = some m.cls ∧ ca_X Γ cs' s ∧ meth.locks = false ∧ meth.sig.returnType = ret ∧ fr ≤ R.frames ∧ lo ≤ R.locals
def ca_T {ρ : Type} (κ : ca_K) (Z : ρ → State → Prop) (σ : ca_S) (pc : Nat) (lv : List (Nat × Value)) (st : List Value) (X : Option ρ) : Prop := match κ with
  | (Γ, cs, p, l, e, R, s, m, args, below, meth, c, nL) => ∀ r, X = some r → ∀ (H : Heap) (locs : List Loc) (ls : Array Slot), va_P Γ.1 vwCl (ca_lay Γ cs σ) H → va_S (ca_Ad Γ cs) s.heap H locs → lv_has ls nL lv → W p l e R s m args below meth c H locs 0 0 (Z r) (F0 m pc ls st)
def ca_Qi (Γ : ca_G) (cs : List ca_I) (q : Int32 × ca_S) : Array Value → State → Outcome → State → Prop := va_Qi (S := Unit) (fun x _ => x = q.1) (fun _ t => va_P Γ.1 vwCl (ca_lay Γ cs q.2) t.heap) (ca_Ad Γ cs)
def ca_Qv (Γ : ca_G) (cs : List ca_I) (σ : ca_S) : Array Value → State → Outcome → State → Prop := va_Qv (S := Unit) (fun _ => True) (fun _ t => va_P Γ.1 vwCl (ca_lay Γ cs σ) t.heap) (ca_Ad Γ cs)
def ca_Z {ρ : Type} (Q : ρ → Array Value → State → Outcome → State → Prop) (κ : ca_K) (r : ρ) : State → Prop := match κ with
  | (Γ, cs, _, _, _, _, s, _, args, below, _, _, _) => MQ below (Q r) args s 0 0 (ca_Ad Γ cs)
def ca_Zi (κ : ca_K) : Int32 × ca_S → State → Prop := ca_Z (ca_Qi κ.1 κ.2.1) κ
def ca_Zr (κ : ca_K) (σ : ca_S) : Int32 → State → Prop := ca_Z (fun r => ca_Qi κ.1 κ.2.1 (r, σ)) κ
def ca_Zv (κ : ca_K) : ca_S → State → Prop := ca_Z (ca_Qv κ.1 κ.2.1) κ
/-- a method's contract: where X tells an answer, the method gives it -/
def ca_M {ρ : Type} (Q : ρ → Array Value → State → Outcome → State → Prop) (Γ : ca_G) (cs : List ca_I) (l : Launch) (y : MethodName) (cc : ByteArray) (nL : Nat) (ret : Option FieldType) (fr lo : Nat) (av : List Value) (σ : ca_S) (X : Option ρ) : Prop :=
  ∀ r, X = some r → Met l y [.code y cc nL ret] { frames := fr, cells := 0, slots := 0, locals := lo } (va_Pc av (fun U => ca_X Γ cs U ∧ va_P Γ.1 vwCl (ca_lay Γ cs σ) U.heap)) (Q r) 0 0 (ca_Ad Γ cs)
abbrev ca_Mi (Γ : ca_G) (cs : List ca_I) := ca_M (ca_Qi Γ cs) Γ cs
abbrev ca_Mv (Γ : ca_G) (cs : List ca_I) := ca_M (ca_Qv Γ cs) Γ cs
abbrev ca_Mr (Γ : ca_G) (cs : List ca_I) (l : Launch) (y : MethodName) (cc : ByteArray) (nL : Nat) (ret : Option FieldType) (fr lo : Nat) (av : List Value) (σ : ca_S) (X : Option Int32) : Prop := ca_M (fun r => ca_Qi Γ cs (r, σ)) Γ cs l y cc nL ret fr lo av σ X
def ca_bi {ρ : Type} (o : Option (Int32 × ca_S)) (f : Int32 → ca_S → Option ρ) : Option ρ := match o with
  | some q => f q.1 q.2
  | none => none
def ca_br {ρ : Type} (o : Option Int32) (f : Int32 → Option ρ) : Option ρ := match o with
  | some r => f r
  | none => none
def ca_bv {ρ : Type} (o : Option ca_S) (f : ca_S → Option ρ) : Option ρ := match o with
  | some r => f r
  | none => none
def ca_gd {ρ : Type} (b : Bool) (X : Option ρ) : Option ρ := match b with
  | true => X
  | false => none
def ca_in (i : Int32) (n : Nat) : Bool := decide (¬ i < 0) && decide (i.toNatClampNeg < n)
theorem ca_in_vp {i : Int32} {n : Nat} (h : ca_in i n = true) : vp_in i n := by
  simp only [ca_in, Bool.and_eq_true, decide_eq_true_eq] at h
  exact fun q => q.elim h.1 (fun q => Nat.not_le.mpr h.2 q)
theorem ca_in_lt {i : Int32} {n : Nat} (h : ca_in i n = true) : i.toNatClampNeg < n := by
  simp only [ca_in, Bool.and_eq_true, decide_eq_true_eq] at h
  exact h.2
theorem ca_FUx : ∃ n : Nat, n = 100000 := ⟨_, rfl⟩
noncomputable def ca_FU : Nat := Classical.choose ca_FUx
theorem ca_FU_eq : ca_FU = 100000 := Classical.choose_spec ca_FUx
def ca_lt {α ρ : Type} (a : α) (f : α → Option ρ) : Option ρ := f a
theorem ca_let {ρ : Type} {κ : ca_K} {Z : ρ → State → Prop} {a : ca_S} {pc : Nat} {lv : List (Nat × Value)} {st : List Value} {f : ca_S → Option ρ} (k : ∀ s, s = a → ca_T κ Z s pc lv st (f s)) : ca_T κ Z a pc lv st (ca_lt a f) := k a rfl
theorem ca_letv {α ρ : Type} {P : α → Option ρ → Prop} (a : α) {f : α → Option ρ} (k : ∀ v, v = a → P v (f v)) : P a (ca_lt a f) := k a rfl
theorem ca_beqf {a b : Nat} (h : a ≠ b) : Nat.beq a b = false := by
  cases e : Nat.beq a b with
  | false => rfl
  | true => exact absurd (Nat.eq_of_beq_eq_true e) h
