theorem vr_outer (c : ClassId) (N h0 : Nat) : ∀ i : Nat, Jvm.Free.Multi.outerC c N h0 i = arrV c N (fun j => va_rf (if j < i then some (h0 + 1 + j) else none))
  | 0 => by
    show ({ cls := c, slots := Array.replicate N .null, vm := .none } : Cell) = _
    rw [arrV_new]
    refine congrArg (arrV c N) (funext fun j => ?_)
    simp [va_rf]
  | i + 1 => by
    show (Jvm.Free.Multi.outerC c N h0 i).setSlot i (.ref (h0 + 1 + i)) = _
    rw [vr_outer c N h0 i, arrV_store]
    refine congrArg (arrV c N) (funext fun j => ?_)
    by_cases e : j = i
    · subst e
      simp [updV, va_rf]
    · by_cases h : j < i
      · simp [updV, e, h, Nat.lt_succ_of_lt h]
      · simp [updV, e, h, show ¬ j < i + 1 by omega]
-- ===== the cells' places: the n-th that is made lies at the base + n =====
def ca_off (c : ca_I) : Nat := match c.1 with
  | 0 => 0
  | 1 => 1
  | 2 => 43 + 7 * c.2.1
  | 3 => 44 + 7 * c.2.1
  | 4 => 46 + 7 * c.2.1 + 2 * c.2.2
  | 5 => 45 + 7 * c.2.1
  | 6 => 47 + 7 * c.2.1 + 2 * c.2.2
  | 7 => 2
  | 8 => 3
  | 9 => 4 + c.2.1
  | 10 => 10
  | 11 => 11
  | 12 => 12 + c.2.1
  | 13 => 32
  | 14 => 33
  | 15 => 34
  | 16 => 35
  | 17 => 36
  | 18 => 37 + c.2.1
  | 19 => 42
  | 20 => 155
  | _ => 156 + [0, 0, 0, 1, 2, 3, 0, 0, 0, 0, 0, 0, 4, 5, 6, 7, 8, 9, 10, 11, 0, 12, 13, 14, 15, 16, 0, 0, 17, 0, 0, 18].getD c.2.1 0
/-- a cell while the world is made: numbers are 0, a reference is null unless its place is listed in lk -/
def ca_fv0 (Γ : ca_G) (lk : List (ca_I × Nat)) (c : ca_I) (k : Nat) : Value := match ca_rf c k with
  | some d => if (c, k) ∈ lk then .ref (Γ.2.1 d) else .null
  | none => bif ca_lg c k then .long 0 else .int 0
def ca_E0 (Γ : ca_G) (lk : List (ca_I × Nat)) (c : ca_I) : va_E := match ca_ob c.1 with
  | some q => .inr (q.1, (List.range q.2).map (ca_fv0 Γ lk c))
  | none => match ca_ra c.1 with
    | some q => .inl (Γ.2.2.1 q.1, q.2, .inr (.inr (.inr (.inr (fun i => if (c, i) ∈ lk then some (Γ.2.1 (ca_ch c i)) else none)))))
    | none => .inl (Γ.2.2.1 (ca_ia c).1, (ca_ia c).2, .inl (fun _ => 0))
def ca_lay0 (Γ : ca_G) (cs : List ca_I) (lk : List (ca_I × Nat)) : va_W := cs.map (fun c => (Γ.2.1 c, ca_E0 Γ lk c))
/-- cs begins with place b0 -/
def ca_NW (Γ : ca_G) (b0 : Nat) (cs : List ca_I) (lk : List (ca_I × Nat)) (bs : Nat) (H : Heap) : Prop := va_P Γ.1 vwCl (ca_lay0 Γ cs lk) H ∧ H.size = bs + (b0 + cs.length) ∧ ∀ (k : Nat) (c : ca_I), cs[k]? = some c → ca_off c = b0 + k
def ca_AOA (U : State) : Prop := (Cond.arrayOver (.array .int)).before #[] U = true
def ca_X0 (Γ : ca_G) (bs : Nat) (U : State) : Prop := ca_Ws U ∧ va_K Γ.1 vwCl (ca_tys Γ) U ∧ (∀ c, Γ.2.1 c = bs + ca_off c) ∧ va_AO "ClassAnswers$Box" U ∧ va_AO "ClassAnswers$Road" U ∧ va_AO "ClassAnswers$Kept" U ∧ ca_AOA U
theorem ca_X0.warm {Γ : ca_G} {bs : Nat} {s U : State} (hW : s.WarmedH U.vm) (h : ca_X0 Γ bs s) : ca_X0 Γ bs U :=
  ⟨h.1.warm hW, va_K.moved hW.alike h.2.1, h.2.2.1, h.2.2.2.1.moved hW.alike, h.2.2.2.2.1.moved hW.alike, h.2.2.2.2.2.1.moved hW.alike, Jvm.Stand.arrayOver_alikeB hW.alike h.2.2.2.2.2.2⟩
theorem ca_NW.nd {Γ : ca_G} {b0 : Nat} {cs : List ca_I} {lk : List (ca_I × Nat)} {bs : Nat} {H : Heap} (h : ca_NW Γ b0 cs lk bs H) {i j : Nat} {c : ca_I} (hi : cs[i]? = some c) (hj : cs[j]? = some c) : i = j := by
  have a := h.2.2 i c hi
  have b := h.2.2 j c hj
  omega
theorem ca_lay0_at {Γ : ca_G} {cs : List ca_I} {lk : List (ca_I × Nat)} {k : Nat} {c : ca_I} (h : cs[k]? = some c) : (ca_lay0 Γ cs lk)[k]? = some (Γ.2.1 c, ca_E0 Γ lk c) := by
  simp [ca_lay0, h]
theorem ca_NW.D {Γ : ca_G} {b0 : Nat} {cs : List ca_I} {lk : List (ca_I × Nat)} {bs : Nat} {H : Heap} (h : ca_NW Γ b0 cs lk bs H) (had : ∀ c, Γ.2.1 c = bs + ca_off c) {A : Nat → Prop} (hA : ∀ q, bs + b0 ≤ q → A q) : va_D A (ca_lay0 Γ cs lk) := by
  have key : ∀ (k : Nat) (q : Nat × va_E), (ca_lay0 Γ cs lk)[k]? = some q → q.1 = bs + (b0 + k) := by
    intro k q hk
    simp only [ca_lay0, List.getElem?_map] at hk
    cases hc : cs[k]? with
    | none => rw [hc] at hk; cases hk
    | some c =>
      rw [hc] at hk
      cases hk
      show Γ.2.1 c = _
      rw [had, h.2.2 k c hc]
  refine ⟨fun i j x y hx hy hxy => ?_, fun k q hk => ?_⟩
  · have a := key i x hx
    have b := key j y hy
    omega
  · rw [key k q hk]
    exact hA _ (by omega)
theorem ca_lay0_set {Γ : ca_G} {b0 : Nat} {cs : List ca_I} {lk lk' : List (ca_I × Nat)} {bs : Nat} {H : Heap} (hN : ca_NW Γ b0 cs lk bs H) {c : ca_I} {k : Nat} (hk : cs[k]? = some c) (h : ∀ d, d ≠ c → ca_E0 Γ lk' d = ca_E0 Γ lk d) : (ca_lay0 Γ cs lk).set k (Γ.2.1 c, ca_E0 Γ lk' c) = ca_lay0 Γ cs lk' := by
  have hl : k < cs.length := (List.getElem?_eq_some_iff.mp hk).1
  apply List.ext_getElem?
  intro j
  by_cases e : k = j
  · subst e
    rw [List.getElem?_set_self (by simp [ca_lay0]; exact hl)]
    simp [ca_lay0, hk]
  · rw [List.getElem?_set_ne e]
    simp only [ca_lay0, List.getElem?_map]
    cases hj : cs[j]? with
    | none => rfl
    | some d =>
      have hd : d ≠ c := fun q => e (hN.nd hk (by rw [← q]; exact hj))
      simp [h d hd]
theorem ca_E0_ne {Γ : ca_G} {lk : List (ca_I × Nat)} {c d : ca_I} {k : Nat} (h : d ≠ c) : ca_E0 Γ (lk ++ [(c, k)]) d = ca_E0 Γ lk d := by
  have h1 : ∀ j : Nat, ((d, j) ∈ lk ++ [(c, k)]) = ((d, j) ∈ lk) := fun j => by
    simp [h]
  have h2 : ca_fv0 Γ (lk ++ [(c, k)]) d = ca_fv0 Γ lk d := by
    funext j
    simp only [ca_fv0, h1]
  simp only [ca_E0, h1, h2]
/-- a new cell behind the others -/
theorem ca_NW.push {Γ : ca_G} {b0 : Nat} {cs : List ca_I} {lk : List (ca_I × Nat)} {bs : Nat} {H H1 : Heap} (hN : ca_NW Γ b0 cs lk bs H) (had : ∀ c, Γ.2.1 c = bs + ca_off c) {c : ca_I} (ho : ca_off c = b0 + cs.length) (hat : va_at Γ.1 vwCl (Γ.2.1 c, ca_E0 Γ lk c) H1) (z : H1.size = H.size + 1) (o : ∀ q : Nat, q < H.size → H1[q]? = H[q]?) : ca_NW Γ b0 (cs ++ [c]) lk bs H1 := by
  refine ⟨?_, ?_, ?_⟩
  · have e : ca_lay0 Γ (cs ++ [c]) lk = ca_lay0 Γ cs lk ++ [(Γ.2.1 c, ca_E0 Γ lk c)] := by simp [ca_lay0]
    rw [e]
    refine (hN.1.kept (fun k x hx => o x.1 ((hN.1 k x hx).lt))).app (fun k x hx => ?_)
    have hz : k < 1 := (List.getElem?_eq_some_iff.mp hx).1
    rw [show k = 0 by omega] at hx
    cases hx
    exact hat
  · rw [z, hN.2.1]
    simp
    omega
  · intro k d hk
    by_cases hl : k < cs.length
    · rw [List.getElem?_append_left hl] at hk
      exact hN.2.2 k d hk
    · rw [List.getElem?_append_right (by omega)] at hk
      have hz : k - cs.length < 1 := (List.getElem?_eq_some_iff.mp hk).1
      have e : k = cs.length := by omega
      subst e
      rw [Nat.sub_self] at hk
      cases hk
      exact ho
section CN
variable {p : Program} {l : Launch} {e : Env} {R : Room} {s : State} {m : MethodId} {args : Array Value} {below : List Frame} {meth : Method} {c : Code} {H : Heap} {locs : List Loc} {cells slots : Nat} {Q : State → Prop}
variable {cc : ByteArray} {pc : Nat} {ls : Array Slot} {rest : List Value} {Γ : ca_G} {b0 : Nat} {cs : List ca_I} {lk : List (ca_I × Nat)} {bs : Nat} {own : String}
theorem cn_tsl {C : String} {T : u_T} {N : Nat} {args : Array Value} {s : State} (hW : ca_Ws s) (hin : ∀ w ∈ u_ws C T N, w ∈ lw_tbl) (hlay : ∀ k, k < N → ca_ok (u_lay C T k) = true) : ∀ w ∈ u_ws C T N, w.before args s = true := fun w h => by
  obtain ⟨k1, h1, h2⟩ := List.mem_map.mp h
  have hk1 := List.mem_range.mp h1
  have ho : (u_lay C T k1).onTables = true := by
    unfold u_lay
    split <;> rfl
  rw [← h2]
  exact va_Nw.use ho (hW _ (hin _ (by rw [h2]; exact h)) (hlay k1 hk1))
theorem cn_S1 {A : Nat → Prop} {H0 H H1 : Heap} {locs : List Loc} (h : va_S A H0 H locs) (z : H.size ≤ H1.size) (o : ∀ q : Nat, q < H.size → H1[q]? = H[q]?) : va_S A H0 H1 locs := ⟨Nat.le_trans h.1 z, fun q h1 h2 => (o q (Nat.lt_of_lt_of_le h1 h.1)).trans (h.2.1 q h1 h2), h.2.2⟩
theorem cn_new {A : Nat → Prop} {C : String} {T : u_T} {N ci i : Nat} {c0 : ca_I} (ty : Nat → FieldType) (hx : p.tables.exec = Jvm.exec) (hb : c.code = cc) (hown : s.vm.findClass own = some m.cls) (hX : ca_X0 Γ bs s) (hin : ∀ w ∈ u_ws C T N, w ∈ lw_tbl) (hlay : ∀ k, k < N → ca_ok (u_lay C T k) = true) (hty : ∀ k, k < N → parseFieldDescriptor (T k).2.2.1 = some (ty k)) (w1 : ca_Yw (.classLink own i C)) (w2 : ca_Yw (.instantiable C N)) (w3 : ca_Yw (.initialized C)) (hcl : vwCl[ci]? = some (C, T, N)) (ho : ca_ob c0.1 = some (ci, N)) (hoff : ca_off c0 = b0 + cs.length) (hdef : ∀ j, j < N → defaultValue (ty j) = ca_fv0 Γ lk c0 j) (hN : ca_NW Γ b0 cs lk bs H) (hS : va_S A s.heap H locs) (hcells : cells + 1 ≤ R.cells) (hslots : slots + N ≤ R.slots) (hd : decode cc pc = .ok (.new i, 3))
    (kk : ∀ H1 : Heap, ca_NW Γ b0 (cs ++ [c0]) lk bs H1 → va_S A s.heap H1 locs → W p l e R s m args below meth c H1 locs (cells + 1) (slots + N) Q (F0 m (pc + 3) ls (.ref (Γ.2.1 c0) :: rest))) : W p l e R s m args below meth c H locs cells slots Q (F0 m pc ls rest) := by
  have hKn := hX.2.1.1 ci _ hcl
  have hh : H.size = Γ.2.1 c0 := by rw [hX.2.2.1, hoff, hN.2.1]
  refine W.newcK hx hb hown (w1.use rfl hX.1) (w2.use rfl hX.1) (w3.use rfl hX.1) rfl hd hcells hslots hKn.2.1 hh fun H1 kC hkC e1 z1 o1 => ?_
  have o2 : ∀ q : Nat, q < H.size → H1[q]? = H[q]? := fun q h => o1 q (by rw [← hh]; exact h)
  refine kk H1 (hN.push hX.2.2.1 hoff ?_ (by rw [z1, hh]) o2) (cn_S1 hS (by rw [z1, hh]; omega) o2)
  simp only [ca_E0, ho]
  refine ⟨_, hcl, (u_born ty (cn_tsl (args := args) hX.1 hin hlay) (fun w h => h) hKn hkC e1 hty).to (fun j hj => ?_)⟩
  rw [hdef j hj]
  simp [vp_V, hj]
theorem cn_newa {A : Nat → Prop} {c0 : ca_I} {atype : ArrayType} {n : Int32} {t N : Nat} {ty : FieldType} (hx : p.tables.exec = Jvm.exec) (hb : c.code = cc) (hX : ca_X0 Γ bs s) (w1 : ca_Yw (.arrayClass (newarray.typeOf atype))) (hty : newarray.typeOf atype = ty) (hdv : defaultValue ty = .int 0) (hty2 : va_RA s (Γ.2.2.1 t) ty = (s.vm.findClass ("[" ++ ty.toString) = some (Γ.2.2.1 t))) (ht : (ca_tys Γ)[t]? = some (Γ.2.2.1 t, ty)) (h1 : ca_ob c0.1 = none) (h2 : ca_ra c0.1 = none) (h3 : ca_ia c0 = (t, N)) (hoff : ca_off c0 = b0 + cs.length) (hn : ¬ n < 0) (hn2 : n.toNatClampNeg = N) (hby : N * componentBytes ty ≤ 536870912) (hN : ca_NW Γ b0 cs lk bs H) (hS : va_S A s.heap H locs) (hcells : cells + 1 ≤ R.cells) (hslots : slots + N ≤ R.slots) (hd : decode cc pc = .ok (.newarray atype, 2))
    (kk : ∀ H1 : Heap, ca_NW Γ b0 (cs ++ [c0]) lk bs H1 → va_S A s.heap H1 locs → W p l e R s m args below meth c H1 locs (cells + 1) (slots + N) Q (F0 m (pc + 2) ls (.ref (Γ.2.1 c0) :: rest))) : W p l e R s m args below meth c H locs cells slots Q (F0 m pc ls (.int n :: rest)) := by
  have hh : H.size = Γ.2.1 c0 := by rw [hX.2.2.1, hoff, hN.2.1]
  have hac : (Cond.arrayClass (newarray.typeOf atype)).before args s = true := word_at (State.WarmedH.refl s) (Or.inr ⟨_, rfl⟩) (hX.1 _ w1.1 w1.2)
  refine va_newaK hx hb hac rfl hd rfl hn hn2 (by rw [hty]; exact hby) hcells hslots hh fun H1 cA e1 z1 o1 hAr hNm => ?_
  have o2 : ∀ q : Nat, q < H.size → H1[q]? = H[q]? := fun q h => o1 q (by rw [← hh]; exact h)
  have ec : cA = Γ.2.2.1 t := by
    have a := (hX.2.1.2 t _ ht).2
    rw [hty2] at a
    rw [hty, a] at hNm
    exact (Option.some.inj hNm).symm
  refine kk H1 (hN.push hX.2.2.1 hoff ?_ (by rw [z1, hh]) o2) (cn_S1 hS (by rw [z1, hh]; omega) o2)
  simp only [ca_E0, h1, h2, h3]
  show H1[Γ.2.1 c0]? = some (vp_cell _ _)
  rw [vp_cell_i, e1, ec, hty, hdv]
theorem cn_anew {A : Nat → Prop} {c0 : ca_I} {n : Int32} {t N i : Nat} {C : String} (hx : p.tables.exec = Jvm.exec) (hb : c.code = cc) (hown : s.vm.findClass own = some m.cls) (hX : ca_X0 Γ bs s) (w1 : ca_Yw (.classLink own i C)) (hover : va_AO C s) (ht : (ca_tys Γ)[t]? = some (Γ.2.2.1 t, .object C)) (h1 : ca_ob c0.1 = none) (h2 : ca_ra c0.1 = some (t, N)) (hfr : ∀ j : Nat, (c0, j) ∉ lk) (hoff : ca_off c0 = b0 + cs.length) (hn : ¬ n < 0) (hn2 : n.toNatClampNeg = N) (hby : N * 4 ≤ 536870912) (hN : ca_NW Γ b0 cs lk bs H) (hS : va_S A s.heap H locs) (hcells : cells + 1 ≤ R.cells) (hslots : slots + N ≤ R.slots) (hd : decode cc pc = .ok (.anewarray i, 3))
    (kk : ∀ H1 : Heap, ca_NW Γ b0 (cs ++ [c0]) lk bs H1 → va_S A s.heap H1 locs → W p l e R s m args below meth c H1 locs (cells + 1) (slots + N) Q (F0 m (pc + 3) ls (.ref (Γ.2.1 c0) :: rest))) : W p l e R s m args below meth c H locs cells slots Q (F0 m pc ls (.int n :: rest)) := by
  have hh : H.size = Γ.2.1 c0 := by rw [hX.2.2.1, hoff, hN.2.1]
  subst hn2
  refine W.anew hx hb hown (w1.use rfl hX.1) (va_AO.use hover) rfl hd rfl hn hby hcells hslots fun cA kA comp f1 f2 f3 f4 => ?_
  generalize hH1 : H.push ({ cls := cA, slots := Array.replicate n.toNatClampNeg .null, vm := .none } : Cell) = H1
  have z1 : H1.size = H.size + 1 := by rw [← hH1, Array.size_push]
  have e1 : H1[H.size]? = some (arrV cA n.toNatClampNeg (fun _ => .null)) := by rw [← hH1, Array.getElem?_push_size, ← arrV_new]
  have o1 : ∀ q : Nat, q < H.size → H1[q]? = H[q]? := fun q hq => by rw [← hH1, Array.getElem?_push, if_neg (Nat.ne_of_lt hq)]
  have ec : cA = Γ.2.2.1 t := by
    obtain ⟨kA2, comp2, a1, a2, a3, a4⟩ := (hX.2.1.2 t _ ht).2
    rw [a4] at f1
    exact (Option.some.inj f1).symm
  rw [hh]
  refine kk H1 (hN.push hX.2.2.1 hoff ?_ z1 o1) (cn_S1 hS (by omega) o1)
  simp only [ca_E0, h1, h2]
  show H1[Γ.2.1 c0]? = some (vp_cell _ _)
  rw [vp_cell_q, ← hh, e1, ec]
  simp [hfr, va_rf]
/-- new int[n][k] -/
theorem cn_mna {A : Nat → Prop} {c0 : ca_I} {n k : Int32} {N M i : Nat} (hx : p.tables.exec = Jvm.exec) (hb : c.code = cc) (hown : s.vm.findClass own = some m.cls) (hX : ca_X0 Γ bs s) (w1 : ca_Yw (.classLink own i "[[I")) (w2 : ca_Yw (.arrayClass .int)) (h1 : ca_ob c0.1 = none) (h2 : ca_ra c0.1 = some (5, N)) (hfr : ∀ j : Nat, (c0, j) ∉ lk) (hch : ∀ j : Nat, j < N → ca_ob (ca_ch c0 j).1 = none ∧ ca_ra (ca_ch c0 j).1 = none ∧ ca_ia (ca_ch c0 j) = (0, M) ∧ ca_off (ca_ch c0 j) = ca_off c0 + 1 + j ∧ ca_ch c0 j ≠ c0 ∧ ca_ob c0.1 = none) (hoff : ca_off c0 = b0 + cs.length) (hn : ¬ n < 0) (hk : ¬ k < 0) (hn2 : n.toNatClampNeg = N) (hk2 : k.toNatClampNeg = M) (hb1 : N * 4 ≤ 536870912) (hb2 : M * componentBytes .int ≤ 536870912) (hb3 : M ≤ 536870912) (hN : ca_NW Γ b0 cs lk bs H) (hS : va_S A s.heap H locs) (hcells : cells + (1 + N) ≤ R.cells) (hslots : slots + (N + N * M) ≤ R.slots) (hd : decode cc pc = .ok (.multianewarray i 2, 4))
    (kk : ∀ H1 : Heap, ca_NW Γ b0 (cs ++ c0 :: (List.range N).map (ca_ch c0)) (lk ++ (List.range N).map (fun j => (c0, j))) bs H1 → va_S A s.heap H1 locs → W p l e R s m args below meth c H1 locs (cells + (1 + N)) (slots + (N + N * M)) Q (F0 m (pc + 4) ls (.ref (Γ.2.1 c0) :: rest))) : W p l e R s m args below meth c H locs cells slots Q (F0 m pc ls (.int k :: .int n :: rest)) := by
  have hh : H.size = Γ.2.1 c0 := by rw [hX.2.2.1, hoff, hN.2.1]
  subst hn2
  subst hk2
  intro T hT Xs
  have hac : (Cond.arrayClass .int).before args s = true := word_at (State.WarmedH.refl s) (Or.inr ⟨_, rfl⟩) (hX.1 _ w2.1 w2.2)
  obtain ⟨vm₁, cA, comp, -, fA, fC, hO, -, X', step⟩ := Xs.multianewarray2F hx (ty := .int) hown (w1.use rfl hX.1) hX.2.2.2.2.2.2 hac (g := F0 m pc ls (.int k :: .int n :: rest)) rfl (by rw [hb]; exact hd) rfl hn hk hb1 hb2 hb3 rfl rfl hcells hslots
  have ec : cA = Γ.2.2.1 5 := by
    have a := (hX.2.1.2 5 (Γ.2.2.1 5, .array .int) rfl).2
    have a2 : s.vm.findClass ("[" ++ (FieldType.array .int).toString) = some (Γ.2.2.1 5) := a
    rw [a2] at fA
    exact (Option.some.inj fA).symm
  have ec2 : comp = Γ.2.2.1 0 := by
    have a := (hX.2.1.2 0 (Γ.2.2.1 0, .int) rfl).2
    have a2 : s.vm.findClass (FieldType.array .int).toString = some (Γ.2.2.1 0) := a
    rw [a2] at fC
    exact (Option.some.inj fC).symm
  generalize hF : Jvm.Free.Multi.fill (T.setVm vm₁) cA comp n.toNatClampNeg k.toNatClampNeg (defaultValue .int) n.toNatClampNeg = F at X' step
  have hTh : (T.setVm vm₁).heap = H := hT
  obtain ⟨f1, f2, -, -⟩ := Jvm.Free.Multi.fill_facts (T.setVm vm₁) cA comp n.toNatClampNeg k.toNatClampNeg (defaultValue .int) n.toNatClampNeg
  rw [hF, hTh] at f1 f2
  have hold : ∀ x : Nat, x < H.size → F.heap[x]? = H[x]? := fun x hx => by
    have := Jvm.Free.Multi.fill_old (T.setVm vm₁) cA comp n.toNatClampNeg k.toNatClampNeg (defaultValue .int) (a := x) (by rw [hTh]; exact hx) n.toNatClampNeg
    rw [hF, hTh] at this
    exact this
  have hrow : ∀ j : Nat, j < n.toNatClampNeg → F.heap[H.size + 1 + j]? = some (Jvm.Free.Multi.innerC comp k.toNatClampNeg (defaultValue .int)) := fun j hj => by
    have := Jvm.Free.Multi.fill_inner (T.setVm vm₁) cA comp n.toNatClampNeg k.toNatClampNeg (defaultValue .int) n.toNatClampNeg j hj
    rw [hF, hTh] at this
    exact this
  have hinn : Jvm.Free.Multi.innerC comp k.toNatClampNeg (defaultValue .int) = vp_cell comp (k.toNatClampNeg, .inl (fun _ => 0)) := by
    rw [vp_cell_i]
    show ({ cls := comp, slots := Array.replicate k.toNatClampNeg (.int 0), vm := .none } : Cell) = _
    rw [arrV_new]
  have hlkd : ∀ (d : ca_I) (j : Nat), d ≠ c0 → (((d, j) ∈ lk ++ (List.range n.toNatClampNeg).map (fun j => (c0, j))) = ((d, j) ∈ lk)) := fun d j h => by
    simp [Ne.symm h]
  have hEd : ∀ d : ca_I, d ≠ c0 → ca_E0 Γ (lk ++ (List.range n.toNatClampNeg).map (fun j => (c0, j))) d = ca_E0 Γ lk d := fun d h => by
    have g2 : ca_fv0 Γ (lk ++ (List.range n.toNatClampNeg).map (fun j => (c0, j))) d = ca_fv0 Γ lk d := by
      funext j
      simp only [ca_fv0, hlkd d j h]
    simp only [ca_E0, g2, hlkd d _ h]
  have hc0 : ∀ j : Nat, cs[j]? = some c0 → False := fun j hj => by
    have a := hN.2.2 j c0 hj
    have b := (List.getElem?_eq_some_iff.mp hj).1
    omega
  have hkk := kk F.heap ⟨?_, ?_, ?_⟩ (cn_S1 hS (by rw [f1]; omega) hold) F rfl (by
    have := X'
    simpa only [Nat.add_assoc] using this)
  · obtain ⟨t, a1, b1⟩ := hkk
    exact ⟨t, step t (by rw [← hh, ← hT] at a1; exact a1), b1⟩
  · intro k1 x hx1
    simp only [ca_lay0, List.getElem?_map] at hx1
    by_cases hl : k1 < cs.length
    · rw [List.getElem?_append_left hl] at hx1
      cases hc : cs[k1]? with
      | none => rw [hc] at hx1; cases hx1
      | some d =>
        rw [hc] at hx1
        cases hx1
        have hd0 : d ≠ c0 := fun q => hc0 k1 (by rw [← q]; exact hc)
        show va_at Γ.1 vwCl (Γ.2.1 d, ca_E0 Γ _ d) F.heap
        rw [hEd d hd0]
        have g := hN.1 k1 _ (ca_lay0_at hc)
        exact g.kept (hold _ g.lt)
    · rw [List.getElem?_append_right (by omega)] at hx1
      cases hz : k1 - cs.length with
      | zero =>
        rw [hz] at hx1
        cases hx1
        simp only [ca_E0, h1, h2]
        show F.heap[Γ.2.1 c0]? = some (vp_cell _ _)
        rw [vp_cell_q, ← hh, f2, vr_outer, ec]
        congr 2
        funext j
        have hm : ((c0, j) ∈ lk ++ (List.range n.toNatClampNeg).map (fun j => (c0, j))) = (j < n.toNatClampNeg) := by
          simp [hfr j]
        by_cases hj : j < n.toNatClampNeg
        · simp only [hm, hj, if_true]
          congr 1
          have a := (hch j hj).2.2.2.1
          rw [hX.2.2.1, a, hN.2.1, hoff]
          congr 1
          omega
        · simp only [hm, hj, if_false]
      | succ j =>
        rw [hz, List.getElem?_cons_succ, List.getElem?_map] at hx1
        by_cases hj : j < n.toNatClampNeg
        · rw [List.getElem?_range hj] at hx1
          cases hx1
          obtain ⟨g1, g2, g3, g4, g5, -⟩ := hch j hj
          have hne : ca_ch c0 j ≠ c0 := g5
          show va_at Γ.1 vwCl (Γ.2.1 (ca_ch c0 j), ca_E0 Γ _ (ca_ch c0 j)) F.heap
          rw [hEd _ hne]
          simp only [ca_E0, g1, g2, g3]
          show F.heap[Γ.2.1 (ca_ch c0 j)]? = some (vp_cell _ _)
          have ea : Γ.2.1 (ca_ch c0 j) = H.size + 1 + j := by
            rw [hX.2.2.1, g4, hN.2.1, hoff]
            omega
          rw [ea, hrow j hj, hinn, ec2]
        · have hn0 : (List.range n.toNatClampNeg)[j]? = none := List.getElem?_eq_none (by rw [List.length_range]; omega)
          rw [hn0] at hx1
          cases hx1
  · rw [f1, hN.2.1]
    simp
    omega
  · intro k1 d hk1
    by_cases hl : k1 < cs.length
    · rw [List.getElem?_append_left hl] at hk1
      exact hN.2.2 k1 d hk1
    · rw [List.getElem?_append_right (by omega)] at hk1
      cases hz : k1 - cs.length with
      | zero =>
        rw [hz] at hk1
        cases hk1
        omega
      | succ j =>
        rw [hz, List.getElem?_cons_succ, List.getElem?_map] at hk1
        by_cases hj : j < n.toNatClampNeg
        · rw [List.getElem?_range hj] at hk1
          cases hk1
          have a := (hch j hj).2.2.2.1
          omega
        · have hn0 : (List.range n.toNatClampNeg)[j]? = none := List.getElem?_eq_none (by rw [List.length_range]; omega)
          rw [hn0] at hk1
          cases hk1
/-- a final field that holds a reference is set by its constructor -/
theorem cn_putF {A : Nat → Prop} {C : String} {T : u_T} {N ci i j : Nat} {c0 d : ca_I} (ty0 : Nat → FieldType) (hx : p.tables.exec = Jvm.exec) (hb : c.code = cc) (hown : s.vm.findClass own = some m.cls) (hin2 : meth.name = "<init>") (hX : ca_X0 Γ bs s) (hA : ∀ q, bs + b0 ≤ q → A q) (hin : ∀ w ∈ u_ws C T N, w ∈ lw_tbl) (hlay : ∀ k, k < N → ca_ok (u_lay C T k) = true) (hty : ∀ k, k < N → parseFieldDescriptor (T k).2.2.1 = some (ty0 k)) (hnm : ∀ a, a < N → ∀ b, b < N → a ≠ b → (T a).2.1 ≠ (T b).2.1) (hcl : vwCl[ci]? = some (C, T, N)) (ho : ca_ob c0.1 = some (ci, N)) (hj : j < N) (hr0 : (T j).1 = own) (hf : (T j).2.2.2 = true) (w1 : ca_Yw (.fieldLink own i own (T j).2.1 (T j).2.2.1)) (hn : narrow (ty0 j) (.ref (Γ.2.1 d)) = .ref (Γ.2.1 d)) (hfit : fits (ty0 j) (.ref (Γ.2.1 d)) = true) (hrf : ca_rf c0 j = some d) (hm : c0 ∈ cs) (hN : ca_NW Γ b0 cs lk bs H) (hS : va_S A s.heap H locs) (hd : decode cc pc = .ok (.putfield i, 3))
    (kk : ∀ (H1 : Heap) (locs1 : List Loc), ca_NW Γ b0 cs (lk ++ [(c0, j)]) bs H1 → va_S A s.heap H1 locs1 → W p l e R s m args below meth c H1 locs1 cells slots Q (F0 m (pc + 3) ls rest)) : W p l e R s m args below meth c H locs cells slots Q (F0 m pc ls (.ref (Γ.2.1 d) :: .ref (Γ.2.1 c0) :: rest)) := by
  obtain ⟨k0, hk⟩ := List.getElem?_of_mem hm
  have hts := cn_tsl (args := args) hX.1 hin hlay
  have hD := hN.D hX.2.2.1 hA
  have hk0 := ca_lay0_at (Γ := Γ) (lk := lk) hk
  have hE0 : ca_E0 Γ lk c0 = .inr (ci, (List.range N).map (ca_fv0 Γ lk c0)) := by simp only [ca_E0, ho]
  rw [hE0] at hk0
  have hap := va_apart (own := own) hts (fun w h => h) ty0 hty hnm hX.2.1 hcl
  obtain ⟨r, h1, cell, q1, q2, q3, q4⟩ := hN.1 k0 _ hk0
  have hr : r = (C, T, N) := Option.some.inj (h1.symm.trans hcl)
  subst hr
  obtain ⟨hSl, hfc, kC, hkC, hkind⟩ := hX.2.1.1 ci _ hcl
  obtain ⟨cf, kf, fi, f, hi, hsl⟩ := hSl j hj
  have hlay1 := hts _ (u_in_lay hj)
  unfold u_lay at hlay1
  rw [if_pos hf] at hlay1
  have hst := (u_facts hfc hkC (u_lays hts (fun w h => h) hj) hi).1
  have hcf : m.cls = cf := by
    obtain ⟨_, _, c', _, _, _, -, -, hf', -, -, -, hown2, -⟩ := Cond.laysFinal_spec hlay1
    have e1 : c' = cf := by have := hi.symm.trans hf'; simp at this; exact this.1.symm
    rw [hr0] at hown2
    rw [← e1]; exact Option.some.inj (hown.symm.trans hown2)
  have h6 := u_fits hfc hkC hkind (Or.inr hlay1) hi (hty j hj) hn hfit
  refine W.putFinK hx hb hown (w1.use rfl hX.1) (by rw [← hr0]; exact hi) hst hcf hin2 (by rw [q2]; exact h6) q1 q3 (by rw [hsl]; exact k2_hasslot (q4 j hj)) rfl rfl hd fun H' e1 e2 e3 => ?_
  rw [hsl] at e1 ⊢
  have hset := ca_lay0_set (lk' := lk ++ [(c0, j)]) hN hk (fun d h => ca_E0_ne h)
  have hE1 : ca_E0 Γ (lk ++ [(c0, j)]) c0 = .inr (ci, ((List.range N).map (ca_fv0 Γ lk c0)).set j (.ref (Γ.2.1 d))) := by
    simp only [ca_E0, ho]
    have ev : ca_fv0 Γ (lk ++ [(c0, j)]) c0 j = .ref (Γ.2.1 d) := by simp [ca_fv0, hrf]
    rw [← ev, ca_map_set N (ca_fv0 Γ lk c0) (ca_fv0 Γ (lk ++ [(c0, j)]) c0) j (fun k hk => by
      have hm : ((c0, k) ∈ lk ++ [(c0, j)]) = ((c0, k) ∈ lk) := by simp [hk]
      simp only [ca_fv0, hm])]
  rw [hE1] at hset
  refine kk H' _ ⟨?_, by rw [e2]; exact hN.2.1, hN.2.2⟩ (hS.put e2 e3 (hD.2 k0 _ hk0))
  rw [← hset]
  exact hN.1.set hD hk0 ⟨_, hcl, t_OB.to (V := updV (vp_V ((List.range N).map (ca_fv0 Γ lk c0))) j (.ref (Γ.2.1 d))) ⟨_, e1, q2, q3, t_set q4 hap hj _⟩ (fun k _ => vp_updV_set (by simp; exact hj) _ k)⟩ e3
/-- an object comes into an array of references -/
theorem cn_aast {A : Nat → Prop} {C : String} {T : u_T} {N ci t n : Nat} {c0 d : ca_I} {x : Int32} (hx : p.tables.exec = Jvm.exec) (hb : c.code = cc) (hX : ca_X0 Γ bs s) (hA : ∀ q, bs + b0 ≤ q → A q) (hcl : vwCl[ci]? = some (C, T, N)) (ho : ca_ob d.1 = some (ci, N)) (h1 : ca_ob c0.1 = none) (h2 : ca_ra c0.1 = some (t, n)) (ht : (ca_tys Γ)[t]? = some (Γ.2.2.1 t, .object C)) (hch : ca_ch c0 x.toNatClampNeg = d) (hin : vp_in x n) (hm : c0 ∈ cs) (hm1 : d ∈ cs) (hN : ca_NW Γ b0 cs lk bs H) (hS : va_S A s.heap H locs) (hd : decode cc pc = .ok (.aastore, 1))
    (kk : ∀ (H1 : Heap) (locs1 : List Loc), ca_NW Γ b0 cs (lk ++ [(c0, x.toNatClampNeg)]) bs H1 → va_S A s.heap H1 locs1 → W p l e R s m args below meth c H1 locs1 cells slots Q (F0 m (pc + 1) ls rest)) : W p l e R s m args below meth c H locs cells slots Q (F0 m pc ls (.ref (Γ.2.1 d) :: .int x :: .ref (Γ.2.1 c0) :: rest)) := by
  obtain ⟨k0, hk⟩ := List.getElem?_of_mem hm
  obtain ⟨k1, hk1⟩ := List.getElem?_of_mem hm1
  have hD := hN.D hX.2.2.1 hA
  have hk0 := ca_lay0_at (Γ := Γ) (lk := lk) hk
  have hv := ca_lay0_at (Γ := Γ) (lk := lk) hk1
  have hE0 : ca_E0 Γ lk c0 = .inl (Γ.2.2.1 t, n, .inr (.inr (.inr (.inr (fun i => if (c0, i) ∈ lk then some (Γ.2.1 (ca_ch c0 i)) else none))))) := by simp only [ca_E0, h1, h2]
  have hEd : ca_E0 Γ lk d = .inr (ci, (List.range N).map (ca_fv0 Γ lk d)) := by simp only [ca_E0, ho]
  rw [hE0] at hk0
  rw [hEd] at hv
  have hlt : x.toNatClampNeg < n := Nat.not_le.mp fun q => hin (Or.inr q)
  have h0 : ¬ x < 0 := fun q => hin (Or.inl q)
  obtain ⟨r', hr', cellV, g1, g2, g3, -⟩ := hN.1 k1 _ hv
  have hcls := (hX.2.1.1 ci (C, T, N) hcl).2
  obtain ⟨kA, comp, a1, a2, a3, -⟩ := (hX.2.1.2 t _ ht).2
  have hcomp : comp = Γ.1.1 ci := Option.some.inj (a3.symm.trans hcls.1)
  subst hcomp
  obtain ⟨kC, hkC, -⟩ := hcls.2
  refine W.aast hx hb (hN.1 k0 _ hk0) (fun q h => by cases h) (fun h => by cases h) a1 a2 rfl hkC ⟨h0, by show _ < (arrV _ _ _).slots.size; rw [arrV_size]; exact hlt⟩ g1 (fun q h => by rw [g3] at h; cases h) (by rw [g2]; exact hkC) (by rw [g2]; exact va_assign hcls) rfl rfl hd fun H1 e z oq => ?_
  have hset := ca_lay0_set (lk' := lk ++ [(c0, x.toNatClampNeg)]) hN hk (fun d h => ca_E0_ne h)
  refine kk H1 _ ⟨?_, by rw [z]; exact hN.2.1, hN.2.2⟩ (hS.put z oq (hD.2 k0 _ hk0))
  rw [← hset]
  refine hN.1.set hD hk0 ?_ oq
  simp only [ca_E0, h1, h2]
  show H1[Γ.2.1 c0]? = some (vp_cell _ _)
  rw [e, vp_cell_q, vp_cell_q, arrV_store]
  congr 2
  funext q
  by_cases hq : q = x.toNatClampNeg
  · subst hq
    simp [updV, va_rf, hch]
  · have hm : ((c0, q) ∈ lk ++ [(c0, x.toNatClampNeg)]) = ((c0, q) ∈ lk) := by simp [hq]
    simp [updV, hq, hm]
end CN
/-- a constructor's contract -/
def ca_MB (Γ : ca_G) (bs b0 : Nat) (l : Launch) (y : MethodName) (cc : ByteArray) (nL fr lo mc ms : Nat) (av : List Value) (cs : List ca_I) (lk : List (ca_I × Nat)) (cs' : List ca_I) (lk' : List (ca_I × Nat)) : Prop :=
  Met l y [.code y cc nL none] { frames := fr, cells := mc, slots := ms, locals := lo } (va_Pc av (fun U => ca_X0 Γ bs U ∧ ca_NW Γ b0 cs lk bs U.heap)) (va_Qv (S := Unit) (fun _ => True) (fun _ t => ca_NW Γ b0 cs' lk' bs t.heap) (fun q => bs + b0 ≤ q)) mc ms (fun q => bs + b0 ≤ q)
theorem cn_met {Γ : ca_G} {bs b0 : Nat} {l : Launch} {y : MethodName} {cc : ByteArray} {nL fr lo mc ms : Nat} {av : List Value} {cs cs' : List ca_I} {lk lk' : List (ca_I × Nat)} (hy : plainName y.cls = true) (hy2 : y.name = "<init>") (hlen : (lg_sl av).length ≤ nL) {lv : List (Nat × Value)} (hlv : lv_args 0 av = lv)
    (body : ∀ (p : Program) (e : Env) (s : State) (m : MethodId) (args : Array Value) (below : List Frame) (meth : Method) (c : Code), p.tables.exec = Jvm.exec → c.code = cc → c.maxLocals = nL → s.vm.findClass y.cls = some m.cls → meth.name = "<init>" → meth.locks = false → meth.sig.returnType = none → ca_X0 Γ bs s → ∀ (H : Heap) (ls : Array Slot), ca_NW Γ b0 cs lk bs H → va_S (fun q => bs + b0 ≤ q) s.heap H [] → lv_has ls nL lv → W p l e { frames := fr, cells := mc, slots := ms, locals := lo } s m args below meth c H [] 0 0 (MQ below (va_Qv (S := Unit) (fun _ => True) (fun _ t => ca_NW Γ b0 cs' lk' bs t.heap) (fun q => bs + b0 ≤ q)) args s mc ms (fun q => bs + b0 ≤ q)) (F0 m 0 ls [])) : ca_MB Γ bs b0 l y cc nL fr lo mc ms av cs lk cs' lk' := by
  refine Met.ofW (cc := cc) (maxL := nL) (ret := none) hy rfl ?_
  intro p e s m args below meth c s₁ B hml hv
  obtain ⟨hav, hX, hP⟩ := hv
  subst hav
  rw [lg_entry_eq]
  exact body p e s m av.toArray below meth c B.exec B.bytes hml (findClass_of_methodNamed B.named) (by rw [← hy2]; exact (name_of_methodNamed B.named B.method).1) B.notSynchronized B.returns hX s.heap _ hP va_S.rf (hlv ▸ lv_entry av hlen)
theorem cn_ret {p : Program} {l : Launch} {e : Env} {R : Room} {s : State} {m : MethodId} {args : Array Value} {below : List Frame} {meth : Method} {c : Code} {H : Heap} {locs : List Loc} {cells slots mc ms : Nat} {cc : ByteArray} {pc : Nat} {ls : Array Slot} {Γ : ca_G} {b0 bs : Nat} {cs : List ca_I} {lk : List (ca_I × Nat)} (hx : p.tables.exec = Jvm.exec) (hb : c.code = cc) (hr : meth.sig.returnType = none) (hlk : meth.locks = false) (hc : cells ≤ mc) (hs : slots ≤ ms) (hN : ca_NW Γ b0 cs lk bs H) (hS : va_S (fun q => bs + b0 ≤ q) s.heap H locs) (hd : decode cc pc = .ok (.return_, 1)) : W p l e R s m args below meth c H locs cells slots (MQ below (va_Qv (S := Unit) (fun _ => True) (fun _ t => ca_NW Γ b0 cs lk bs t.heap) (fun q => bs + b0 ≤ q)) args s mc ms (fun q => bs + b0 ≤ q)) (F0 m pc ls []) := by
  refine W.widen (k := mc) (n := ms) hc hs ?_
  exact W.vret hx hb hr (fun t ht _ => ⟨⟨(), rfl, trivial, by show ca_NW _ _ _ _ _ t.heap; rw [ht]; exact hN⟩, hS.F ht⟩) hS.2.2 hd hlk
theorem cn_blind {Γ : ca_G} {bs b0 : Nat} {cs : List ca_I} {lk : List (ca_I × Nat)} {av : List Value} : FrameBlind (va_Pc av (fun U => ca_X0 Γ bs U ∧ ca_NW Γ b0 cs lk bs U.heap)) := by
  intro a U g mk h
  exact ⟨h.1, ca_X0.warm (U := U.calling g mk a) (State.WarmedH.refl U) h.2.1, h.2.2⟩
/-- a constructor is called -/
theorem cn_call {p : Program} {l : Launch} {e : Env} {R : Room} {s : State} {m : MethodId} {args : Array Value} {below : List Frame} {meth : Method} {c : Code} {H : Heap} {locs : List Loc} {cells slots : Nat} {Q : State → Prop} {cc : ByteArray} {pc nL : Nat} {ls : Array Slot} {rest : List Value} {lv : List (Nat × Value)} {Γ : ca_G} {b0 bs : Nat} {cs cs' : List ca_I} {lk lk' : List (ca_I × Nat)} {own : String} {y : MethodName} {bytes : ByteArray} {mL i f2 l2 mc ms : Nat} {d : ca_I} {A : Nat → Prop} (hx : p.tables.exec = Jvm.exec) (hb : c.code = cc) (hml : c.maxLocals = nL) (hown : s.vm.findClass own = some m.cls) (hX : ca_X0 Γ bs s) (hA : ∀ q, bs + b0 ≤ q → A q) (hM : ca_MB Γ bs b0 l y bytes mL f2 l2 mc ms [.ref (Γ.2.1 d)] cs lk cs' lk') (w1 : ca_Yw (.instanceMethod y)) (w2 : ca_Yw (.initialized y.cls)) (w3 : ca_Yw (.code y bytes mL none)) (hy : y.cls ≠ "java/lang/invoke/MethodHandle" ∧ y.cls ≠ "java/lang/invoke/VarHandle" ∧ (parseMethodDescriptor y.desc).map (fun d => d.parameters.length) = some 0) (hy2 : y.name = "<init>") (hL : ca_Yl own i y) (hc8 : (rest.map fun v => v.category).sum ≤ 8) (hR : f2 + 1 ≤ R.frames ∧ 8 + (mL + 11) + l2 ≤ R.locals) (hf : cells + mc ≤ R.cells ∧ slots + ms ≤ R.slots) (hN : ca_NW Γ b0 cs lk bs H) (hS : va_S A s.heap H locs) (hl : lv_has ls nL lv) (hd : decode cc pc = .ok (.invokespecial i, 3))
    (kk : ∀ (H1 : Heap) (locs1 : List Loc), ca_NW Γ b0 cs' lk' bs H1 → va_S A s.heap H1 locs1 → H.size ≤ H1.size → (∀ q : Nat, q < H.size → ¬ bs + b0 ≤ q → H1[q]? = H[q]?) → W p l e R s m args below meth c H1 locs1 (cells + mc) (slots + ms) Q (F0 m (pc + 3) ls rest)) : W p l e R s m args below meth c H locs cells slots Q (F0 m pc ls (.ref (Γ.2.1 d) :: rest)) := by
  have hpre : PreS s H (va_Pc [.ref (Γ.2.1 d)] (fun U => ca_X0 Γ bs U ∧ ca_NW Γ b0 cs lk bs U.heap)) [.ref (Γ.2.1 d)] := ⟨cn_blind, fun U hU hW => ⟨rfl, hX.warm hW, by rw [hU]; exact hN⟩⟩
  have hcode : (Cond.code y bytes mL none).before args s = true := w3.use rfl hX.1
  have hpay : ∀ w ∈ [Cond.code y bytes mL none], ∀ (a' : Array Value) (U : State), s.WarmedH U.vm → w.before a' U = true := fun w hw a' U hW => by
    rw [List.mem_singleton.mp hw]
    exact w3.use rfl (hX.1.warm hW)
  have hrun : va_Run p l e R s m args below meth c H locs cells slots mc ms (F0 m pc ls (.ref (Γ.2.1 d) :: rest)) rest (va_Qv (S := Unit) (fun _ => True) (fun _ t => ca_NW Γ b0 cs' lk' bs t.heap) (fun q => bs + b0 ≤ q) #[.ref (Γ.2.1 d)]) (fun q => bs + b0 ≤ q) := by
    rcases hL with hL | ⟨host, hL⟩
    · exact va_runI (Ts := []) (bytes := bytes) (maxL := mL) (As := []) ⟨hx, hb, hml, hown, fun _ h => by cases h⟩ hM ⟨⟨rfl, rfl, hR.1, hR.2, hpay, List.mem_singleton.mpr rfl, hcode, w2.use rfl hX.1, ⟨hy.1, hy.2.1⟩, ca_pln hy.2.2, hL.use rfl hX.1⟩, hy2, w1.use rfl hX.1⟩ hpre rfl rfl hl.1 rfl (lv_room hc8) hd hf
    · exact va_runIN (Ts := []) (bytes := bytes) (maxL := mL) (As := []) ⟨hx, hb, hml, hown, fun _ h => by cases h⟩ hM ⟨⟨⟨rfl, rfl, hR.1, hR.2, hpay, List.mem_singleton.mpr rfl⟩, hcode, w2.use rfl hX.1, ⟨hy.1, hy.2.1⟩, ca_pln hy.2.2, hL.use rfl hX.1⟩, hy2, w1.use rfl hX.1⟩ hpre rfl rfl hl.1 rfl (lv_room hc8) hd hf
  refine va_callv (A1 := fun q => bs + b0 ≤ q) hrun hS (fun q _ h => hA q h) hA (fun u t H1 locs1 ht hvm hp hB hz hk2 hS1 => ?_)
  exact kk H1 locs1 (ht ▸ hB) hS1 hz hk2
/-- a reference is read from a field that holds it -/
theorem cn_getr {p : Program} {l : Launch} {e : Env} {R : Room} {s : State} {m : MethodId} {args : Array Value} {below : List Frame} {meth : Method} {c : Code} {H : Heap} {locs : List Loc} {cells slots : Nat} {Q : State → Prop} {cc : ByteArray} {pc : Nat} {ls : Array Slot} {rest : List Value} {Γ : ca_G} {b0 : Nat} {cs : List ca_I} {lk : List (ca_I × Nat)} {bs : Nat} {own : String} {C : String} {T : u_T} {N ci i j : Nat} {c0 d : ca_I} (hx : p.tables.exec = Jvm.exec) (hb : c.code = cc) (hown : s.vm.findClass own = some m.cls) (hX : ca_X0 Γ bs s) (hin : ∀ w ∈ u_ws C T N, w ∈ lw_tbl) (hlay : ∀ k, k < N → ca_ok (u_lay C T k) = true) (hcl : vwCl[ci]? = some (C, T, N)) (ho : ca_ob c0.1 = some (ci, N)) (hj : j < N) (hr0 : (T j).1 = own) (w1 : ca_Yw (.fieldLink own i own (T j).2.1 (T j).2.2.1)) (hrf : ca_rf c0 j = some d) (hlk : (c0, j) ∈ lk) (hm : c0 ∈ cs) (hN : ca_NW Γ b0 cs lk bs H) (hd : decode cc pc = .ok (.getfield i, 3)) (kk : W p l e R s m args below meth c H locs cells slots Q (F0 m (pc + 3) ls (.ref (Γ.2.1 d) :: rest))) : W p l e R s m args below meth c H locs cells slots Q (F0 m pc ls (.ref (Γ.2.1 c0) :: rest)) := by
  obtain ⟨k0, hk⟩ := List.getElem?_of_mem hm
  have hts := cn_tsl (args := args) hX.1 hin hlay
  have hk0 := ca_lay0_at (Γ := Γ) (lk := lk) hk
  have hE0 : ca_E0 Γ lk c0 = .inr (ci, (List.range N).map (ca_fv0 Γ lk c0)) := by simp only [ca_E0, ho]
  rw [hE0] at hk0
  exact va_get hx hb hts (fun w h => h) hown hX.2.1 hN.1 k0 hk0 hcl j hj (w1.use rfl hX.1) (fun x h => by rw [← hr0]; exact h) (by rw [List.getElem?_map, List.getElem?_range hj]; simp [ca_fv0, hrf, hlk]) hd kk
