-- ===== words of the tables, one by one =====
def ca_Yw (w : Cond) : Prop := w ∈ lw_tbl ∧ ca_ok w = true
theorem ca_Yw.use {w : Cond} (h : ca_Yw w) (ho : w.onTables = true) {args : Array Value} {s : State} (hW : ca_Ws s) : w.before args s = true := va_Nw.use ho (hW w h.1 h.2)
theorem ca_no {ρ : Type} {κ : ca_K} {Z : ρ → State → Prop} {σ : ca_S} {pc : Nat} {lv : List (Nat × Value)} {st : List Value} : ca_T κ Z σ pc lv st none := by
  obtain ⟨Γ, cs', p, l, e, R, s, m, args, below, meth, c, nL'⟩ := κ
  intro r hr
  cases hr
theorem ca_pick {ρ : Type} {κ : ca_K} {Z : ρ → State → Prop} {σ : ca_S} {pc : Nat} {lv lv' : List (Nat × Value)} {st : List Value} {X : Option ρ} (ks : List Nat) (h : lv_pick lv ks = lv') (k : ca_T κ Z σ pc lv' st X) : ca_T κ Z σ pc lv st X := by
  obtain ⟨Γ, cs', p, l, e, R, s, m, args, below, meth, c, nL'⟩ := κ
  intro r hr H locs ls hP hS hl
  exact k r hr H locs ls hP hS (lv_sub hl ks h)
theorem ca_iconst {κ : ca_K} {cs : List ca_I} {cc : ByteArray} {nL : Nat} {own : String} {ret : Option FieldType} {fr lo : Nat} {ρ : Type} {Z : ρ → State → Prop} {σ : ca_S} {pc q : Nat} {lv : List (Nat × Value)} {st : List Value} {X : Option ρ} (hC : ca_C κ cs cc nL own ret fr lo) {n : Int} {v : Int32} (hd : decode cc pc = .ok (.iconst n, 1)) (hv : Int32.ofInt n = v) (hq : pc + 1 = q) (k : ca_T κ Z σ q lv (.int v :: st) X) : ca_T κ Z σ pc lv (st) X := by
  obtain ⟨Γ, cs', p, l, e, R, s, m, args, below, meth, c, nL'⟩ := κ
  obtain ⟨rfl, rfl, hx, hb, hml, hown, hX, -⟩ := hC
  subst hq
  intro r hr H locs ls hP hS hl
  exact lv_iconst hx hb hd hv (k r hr H locs ls hP hS hl)
theorem ca_bipush {κ : ca_K} {cs : List ca_I} {cc : ByteArray} {nL : Nat} {own : String} {ret : Option FieldType} {fr lo : Nat} {ρ : Type} {Z : ρ → State → Prop} {σ : ca_S} {pc q : Nat} {lv : List (Nat × Value)} {st : List Value} {X : Option ρ} (hC : ca_C κ cs cc nL own ret fr lo) {n : Int} {v : Int32} (hd : decode cc pc = .ok (.bipush n, 2)) (hv : (Int8.ofInt n).toInt32 = v) (hq : pc + 2 = q) (k : ca_T κ Z σ q lv (.int v :: st) X) : ca_T κ Z σ pc lv (st) X := by
  obtain ⟨Γ, cs', p, l, e, R, s, m, args, below, meth, c, nL'⟩ := κ
  obtain ⟨rfl, rfl, hx, hb, hml, hown, hX, -⟩ := hC
  subst hq
  intro r hr H locs ls hP hS hl
  exact lv_bipush hx hb hd hv (k r hr H locs ls hP hS hl)
theorem ca_sipush {κ : ca_K} {cs : List ca_I} {cc : ByteArray} {nL : Nat} {own : String} {ret : Option FieldType} {fr lo : Nat} {ρ : Type} {Z : ρ → State → Prop} {σ : ca_S} {pc q : Nat} {lv : List (Nat × Value)} {st : List Value} {X : Option ρ} (hC : ca_C κ cs cc nL own ret fr lo) {n : Int} {v : Int32} (hd : decode cc pc = .ok (.sipush n, 3)) (hv : (Int16.ofInt n).toInt32 = v) (hq : pc + 3 = q) (k : ca_T κ Z σ q lv (.int v :: st) X) : ca_T κ Z σ pc lv (st) X := by
  obtain ⟨Γ, cs', p, l, e, R, s, m, args, below, meth, c, nL'⟩ := κ
  obtain ⟨rfl, rfl, hx, hb, hml, hown, hX, -⟩ := hC
  subst hq
  intro r hr H locs ls hP hS hl
  exact lv_sipush hx hb hd hv (k r hr H locs ls hP hS hl)
theorem ca_lconst {κ : ca_K} {cs : List ca_I} {cc : ByteArray} {nL : Nat} {own : String} {ret : Option FieldType} {fr lo : Nat} {ρ : Type} {Z : ρ → State → Prop} {σ : ca_S} {pc q : Nat} {lv : List (Nat × Value)} {st : List Value} {X : Option ρ} (hC : ca_C κ cs cc nL own ret fr lo) {n : Fin 2} {v : Int64} (hd : decode cc pc = .ok (.lconst n, 1)) (hv : Int64.ofNat (n : Nat) = v) (hq : pc + 1 = q) (k : ca_T κ Z σ q lv (.long v :: st) X) : ca_T κ Z σ pc lv (st) X := by
  obtain ⟨Γ, cs', p, l, e, R, s, m, args, below, meth, c, nL'⟩ := κ
  obtain ⟨rfl, rfl, hx, hb, hml, hown, hX, -⟩ := hC
  subst hq
  intro r hr H locs ls hP hS hl
  exact lv_lconst hx hb hd hv (k r hr H locs ls hP hS hl)
theorem ca_iload_n {κ : ca_K} {cs : List ca_I} {cc : ByteArray} {nL : Nat} {own : String} {ret : Option FieldType} {fr lo : Nat} {ρ : Type} {Z : ρ → State → Prop} {σ : ca_S} {pc q : Nat} {lv : List (Nat × Value)} {st : List Value} {X : Option ρ} (hC : ca_C κ cs cc nL own ret fr lo) {k : Fin 4} (j : Nat) {i : Nat} {x : Int32} (hd : decode cc pc = .ok (.iload_n k, 1)) (hi : (k : Nat) = i) (hj : lv[j]? = some (i, .int x)) (hq : pc + 1 = q) (k : ca_T κ Z σ q lv (.int x :: st) X) : ca_T κ Z σ pc lv (st) X := by
  obtain ⟨Γ, cs', p, l, e, R, s, m, args, below, meth, c, nL'⟩ := κ
  obtain ⟨rfl, rfl, hx, hb, hml, hown, hX, -⟩ := hC
  subst hq
  intro r hr H locs ls hP hS hl
  exact lv_iload_n hx hb hd hi (lv_at hl j hj) (k r hr H locs ls hP hS hl)
theorem ca_iload {κ : ca_K} {cs : List ca_I} {cc : ByteArray} {nL : Nat} {own : String} {ret : Option FieldType} {fr lo : Nat} {ρ : Type} {Z : ρ → State → Prop} {σ : ca_S} {pc q : Nat} {lv : List (Nat × Value)} {st : List Value} {X : Option ρ} (hC : ca_C κ cs cc nL own ret fr lo) (j : Nat) {i : Nat} {x : Int32} (hd : decode cc pc = .ok (.iload i, 2)) (hj : lv[j]? = some (i, .int x)) (hq : pc + 2 = q) (k : ca_T κ Z σ q lv (.int x :: st) X) : ca_T κ Z σ pc lv (st) X := by
  obtain ⟨Γ, cs', p, l, e, R, s, m, args, below, meth, c, nL'⟩ := κ
  obtain ⟨rfl, rfl, hx, hb, hml, hown, hX, -⟩ := hC
  subst hq
  intro r hr H locs ls hP hS hl
  exact lv_iload hx hb hd (lv_at hl j hj) (k r hr H locs ls hP hS hl)
theorem ca_istore_n {κ : ca_K} {cs : List ca_I} {cc : ByteArray} {nL : Nat} {own : String} {ret : Option FieldType} {fr lo : Nat} {ρ : Type} {Z : ρ → State → Prop} {σ : ca_S} {pc q : Nat} {lv : List (Nat × Value)} {st : List Value} {X : Option ρ} (hC : ca_C κ cs cc nL own ret fr lo) {k : Fin 4} {i : Nat} {x : Int32} {lv' : List (Nat × Value)} (hd : decode cc pc = .ok (.istore_n k, 1)) (hi : (k : Nat) = i) (hn : i < nL) (hl' : (i, Value.int x) :: lv.filter (fun q => !(q.1 == i) && !(q.1 + 1 == i && q.2.category == 2)) = lv') (hq : pc + 1 = q) (k : ca_T κ Z σ q lv' (st) X) : ca_T κ Z σ pc lv (.int x :: st) X := by
  obtain ⟨Γ, cs', p, l, e, R, s, m, args, below, meth, c, nL'⟩ := κ
  obtain ⟨rfl, rfl, hx, hb, hml, hown, hX, -⟩ := hC
  subst hq
  intro r hr H locs ls hP hS hl
  exact lv_istore_n hx hb hd hi hl hn hl' (fun ls hl => k r hr H locs ls hP hS hl)
theorem ca_istore {κ : ca_K} {cs : List ca_I} {cc : ByteArray} {nL : Nat} {own : String} {ret : Option FieldType} {fr lo : Nat} {ρ : Type} {Z : ρ → State → Prop} {σ : ca_S} {pc q : Nat} {lv : List (Nat × Value)} {st : List Value} {X : Option ρ} (hC : ca_C κ cs cc nL own ret fr lo) {i : Nat} {x : Int32} {lv' : List (Nat × Value)} (hd : decode cc pc = .ok (.istore i, 2)) (hn : i < nL) (hl' : (i, Value.int x) :: lv.filter (fun q => !(q.1 == i) && !(q.1 + 1 == i && q.2.category == 2)) = lv') (hq : pc + 2 = q) (k : ca_T κ Z σ q lv' (st) X) : ca_T κ Z σ pc lv (.int x :: st) X := by
  obtain ⟨Γ, cs', p, l, e, R, s, m, args, below, meth, c, nL'⟩ := κ
  obtain ⟨rfl, rfl, hx, hb, hml, hown, hX, -⟩ := hC
  subst hq
  intro r hr H locs ls hP hS hl
  exact lv_istore hx hb hd hl hn hl' (fun ls hl => k r hr H locs ls hP hS hl)
theorem ca_aload_n {κ : ca_K} {cs : List ca_I} {cc : ByteArray} {nL : Nat} {own : String} {ret : Option FieldType} {fr lo : Nat} {ρ : Type} {Z : ρ → State → Prop} {σ : ca_S} {pc q : Nat} {lv : List (Nat × Value)} {st : List Value} {X : Option ρ} (hC : ca_C κ cs cc nL own ret fr lo) {k : Fin 4} (j : Nat) {i : Nat} {x : Nat} (hd : decode cc pc = .ok (.aload_n k, 1)) (hi : (k : Nat) = i) (hj : lv[j]? = some (i, .ref x)) (hq : pc + 1 = q) (k : ca_T κ Z σ q lv (.ref x :: st) X) : ca_T κ Z σ pc lv (st) X := by
  obtain ⟨Γ, cs', p, l, e, R, s, m, args, below, meth, c, nL'⟩ := κ
  obtain ⟨rfl, rfl, hx, hb, hml, hown, hX, -⟩ := hC
  subst hq
  intro r hr H locs ls hP hS hl
  exact lv_aload_n hx hb hd hi (lv_at hl j hj) (k r hr H locs ls hP hS hl)
theorem ca_aload {κ : ca_K} {cs : List ca_I} {cc : ByteArray} {nL : Nat} {own : String} {ret : Option FieldType} {fr lo : Nat} {ρ : Type} {Z : ρ → State → Prop} {σ : ca_S} {pc q : Nat} {lv : List (Nat × Value)} {st : List Value} {X : Option ρ} (hC : ca_C κ cs cc nL own ret fr lo) (j : Nat) {i : Nat} {x : Nat} (hd : decode cc pc = .ok (.aload i, 2)) (hj : lv[j]? = some (i, .ref x)) (hq : pc + 2 = q) (k : ca_T κ Z σ q lv (.ref x :: st) X) : ca_T κ Z σ pc lv (st) X := by
  obtain ⟨Γ, cs', p, l, e, R, s, m, args, below, meth, c, nL'⟩ := κ
  obtain ⟨rfl, rfl, hx, hb, hml, hown, hX, -⟩ := hC
  subst hq
  intro r hr H locs ls hP hS hl
  exact lv_aload hx hb hd (lv_at hl j hj) (k r hr H locs ls hP hS hl)
theorem ca_astore_n {κ : ca_K} {cs : List ca_I} {cc : ByteArray} {nL : Nat} {own : String} {ret : Option FieldType} {fr lo : Nat} {ρ : Type} {Z : ρ → State → Prop} {σ : ca_S} {pc q : Nat} {lv : List (Nat × Value)} {st : List Value} {X : Option ρ} (hC : ca_C κ cs cc nL own ret fr lo) {k : Fin 4} {i : Nat} {x : Nat} {lv' : List (Nat × Value)} (hd : decode cc pc = .ok (.astore_n k, 1)) (hi : (k : Nat) = i) (hn : i < nL) (hl' : (i, Value.ref x) :: lv.filter (fun q => !(q.1 == i) && !(q.1 + 1 == i && q.2.category == 2)) = lv') (hq : pc + 1 = q) (k : ca_T κ Z σ q lv' (st) X) : ca_T κ Z σ pc lv (.ref x :: st) X := by
  obtain ⟨Γ, cs', p, l, e, R, s, m, args, below, meth, c, nL'⟩ := κ
  obtain ⟨rfl, rfl, hx, hb, hml, hown, hX, -⟩ := hC
  subst hq
  intro r hr H locs ls hP hS hl
  exact lv_astore_n hx hb hd hi hl hn hl' (fun ls hl => k r hr H locs ls hP hS hl)
theorem ca_astore {κ : ca_K} {cs : List ca_I} {cc : ByteArray} {nL : Nat} {own : String} {ret : Option FieldType} {fr lo : Nat} {ρ : Type} {Z : ρ → State → Prop} {σ : ca_S} {pc q : Nat} {lv : List (Nat × Value)} {st : List Value} {X : Option ρ} (hC : ca_C κ cs cc nL own ret fr lo) {i : Nat} {x : Nat} {lv' : List (Nat × Value)} (hd : decode cc pc = .ok (.astore i, 2)) (hn : i < nL) (hl' : (i, Value.ref x) :: lv.filter (fun q => !(q.1 == i) && !(q.1 + 1 == i && q.2.category == 2)) = lv') (hq : pc + 2 = q) (k : ca_T κ Z σ q lv' (st) X) : ca_T κ Z σ pc lv (.ref x :: st) X := by
  obtain ⟨Γ, cs', p, l, e, R, s, m, args, below, meth, c, nL'⟩ := κ
  obtain ⟨rfl, rfl, hx, hb, hml, hown, hX, -⟩ := hC
  subst hq
  intro r hr H locs ls hP hS hl
  exact lv_astore hx hb hd hl hn hl' (fun ls hl => k r hr H locs ls hP hS hl)
theorem ca_iinc {κ : ca_K} {cs : List ca_I} {cc : ByteArray} {nL : Nat} {own : String} {ret : Option FieldType} {fr lo : Nat} {ρ : Type} {Z : ρ → State → Prop} {σ : ca_S} {pc q : Nat} {lv : List (Nat × Value)} {st : List Value} {X : Option ρ} (hC : ca_C κ cs cc nL own ret fr lo) (j : Nat) {i : Nat} {n : Int} {x v : Int32} {lv' : List (Nat × Value)} (hd : decode cc pc = .ok (.iinc i n, 3)) (hj : lv[j]? = some (i, .int x)) (hv : x + Int32.ofInt n = v) (hn : i < nL) (hl' : (i, Value.int v) :: lv.filter (fun q => !(q.1 == i) && !(q.1 + 1 == i && q.2.category == 2)) = lv') (hq : pc + 3 = q) (k : ca_T κ Z σ q lv' (st) X) : ca_T κ Z σ pc lv (st) X := by
  obtain ⟨Γ, cs', p, l, e, R, s, m, args, below, meth, c, nL'⟩ := κ
  obtain ⟨rfl, rfl, hx, hb, hml, hown, hX, -⟩ := hC
  subst hq
  intro r hr H locs ls hP hS hl
  exact lv_iinc hx hb hd hl hj hv hn hl' (fun ls hl => k r hr H locs ls hP hS hl)
theorem ca_iadd {κ : ca_K} {cs : List ca_I} {cc : ByteArray} {nL : Nat} {own : String} {ret : Option FieldType} {fr lo : Nat} {ρ : Type} {Z : ρ → State → Prop} {σ : ca_S} {pc q : Nat} {lv : List (Nat × Value)} {st : List Value} {X : Option ρ} (hC : ca_C κ cs cc nL own ret fr lo) {x y : Int32} (hd : decode cc pc = .ok (.iadd, 1)) (hq : pc + 1 = q) (k : ca_T κ Z σ q lv (.int (x + y) :: st) X) : ca_T κ Z σ pc lv (.int y :: .int x :: st) X := by
  obtain ⟨Γ, cs', p, l, e, R, s, m, args, below, meth, c, nL'⟩ := κ
  obtain ⟨rfl, rfl, hx, hb, hml, hown, hX, -⟩ := hC
  subst hq
  intro r hr H locs ls hP hS hl
  exact lv_iadd hx hb hd (k r hr H locs ls hP hS hl)
theorem ca_isub {κ : ca_K} {cs : List ca_I} {cc : ByteArray} {nL : Nat} {own : String} {ret : Option FieldType} {fr lo : Nat} {ρ : Type} {Z : ρ → State → Prop} {σ : ca_S} {pc q : Nat} {lv : List (Nat × Value)} {st : List Value} {X : Option ρ} (hC : ca_C κ cs cc nL own ret fr lo) {x y : Int32} (hd : decode cc pc = .ok (.isub, 1)) (hq : pc + 1 = q) (k : ca_T κ Z σ q lv (.int (x - y) :: st) X) : ca_T κ Z σ pc lv (.int y :: .int x :: st) X := by
  obtain ⟨Γ, cs', p, l, e, R, s, m, args, below, meth, c, nL'⟩ := κ
  obtain ⟨rfl, rfl, hx, hb, hml, hown, hX, -⟩ := hC
  subst hq
  intro r hr H locs ls hP hS hl
  exact lv_isub hx hb hd (k r hr H locs ls hP hS hl)
theorem ca_imul {κ : ca_K} {cs : List ca_I} {cc : ByteArray} {nL : Nat} {own : String} {ret : Option FieldType} {fr lo : Nat} {ρ : Type} {Z : ρ → State → Prop} {σ : ca_S} {pc q : Nat} {lv : List (Nat × Value)} {st : List Value} {X : Option ρ} (hC : ca_C κ cs cc nL own ret fr lo) {x y : Int32} (hd : decode cc pc = .ok (.imul, 1)) (hq : pc + 1 = q) (k : ca_T κ Z σ q lv (.int (x * y) :: st) X) : ca_T κ Z σ pc lv (.int y :: .int x :: st) X := by
  obtain ⟨Γ, cs', p, l, e, R, s, m, args, below, meth, c, nL'⟩ := κ
  obtain ⟨rfl, rfl, hx, hb, hml, hown, hX, -⟩ := hC
  subst hq
  intro r hr H locs ls hP hS hl
  exact lv_imul hx hb hd (k r hr H locs ls hP hS hl)
theorem ca_iand {κ : ca_K} {cs : List ca_I} {cc : ByteArray} {nL : Nat} {own : String} {ret : Option FieldType} {fr lo : Nat} {ρ : Type} {Z : ρ → State → Prop} {σ : ca_S} {pc q : Nat} {lv : List (Nat × Value)} {st : List Value} {X : Option ρ} (hC : ca_C κ cs cc nL own ret fr lo) {x y : Int32} (hd : decode cc pc = .ok (.iand, 1)) (hq : pc + 1 = q) (k : ca_T κ Z σ q lv (.int (x &&& y) :: st) X) : ca_T κ Z σ pc lv (.int y :: .int x :: st) X := by
  obtain ⟨Γ, cs', p, l, e, R, s, m, args, below, meth, c, nL'⟩ := κ
  obtain ⟨rfl, rfl, hx, hb, hml, hown, hX, -⟩ := hC
  subst hq
  intro r hr H locs ls hP hS hl
  exact lv_iand hx hb hd (k r hr H locs ls hP hS hl)
theorem ca_ior {κ : ca_K} {cs : List ca_I} {cc : ByteArray} {nL : Nat} {own : String} {ret : Option FieldType} {fr lo : Nat} {ρ : Type} {Z : ρ → State → Prop} {σ : ca_S} {pc q : Nat} {lv : List (Nat × Value)} {st : List Value} {X : Option ρ} (hC : ca_C κ cs cc nL own ret fr lo) {x y : Int32} (hd : decode cc pc = .ok (.ior, 1)) (hq : pc + 1 = q) (k : ca_T κ Z σ q lv (.int (x ||| y) :: st) X) : ca_T κ Z σ pc lv (.int y :: .int x :: st) X := by
  obtain ⟨Γ, cs', p, l, e, R, s, m, args, below, meth, c, nL'⟩ := κ
  obtain ⟨rfl, rfl, hx, hb, hml, hown, hX, -⟩ := hC
  subst hq
  intro r hr H locs ls hP hS hl
  exact lv_ior hx hb hd (k r hr H locs ls hP hS hl)
theorem ca_ixor {κ : ca_K} {cs : List ca_I} {cc : ByteArray} {nL : Nat} {own : String} {ret : Option FieldType} {fr lo : Nat} {ρ : Type} {Z : ρ → State → Prop} {σ : ca_S} {pc q : Nat} {lv : List (Nat × Value)} {st : List Value} {X : Option ρ} (hC : ca_C κ cs cc nL own ret fr lo) {x y : Int32} (hd : decode cc pc = .ok (.ixor, 1)) (hq : pc + 1 = q) (k : ca_T κ Z σ q lv (.int (x ^^^ y) :: st) X) : ca_T κ Z σ pc lv (.int y :: .int x :: st) X := by
  obtain ⟨Γ, cs', p, l, e, R, s, m, args, below, meth, c, nL'⟩ := κ
  obtain ⟨rfl, rfl, hx, hb, hml, hown, hX, -⟩ := hC
  subst hq
  intro r hr H locs ls hP hS hl
  exact lv_ixor hx hb hd (k r hr H locs ls hP hS hl)
theorem ca_ishl {κ : ca_K} {cs : List ca_I} {cc : ByteArray} {nL : Nat} {own : String} {ret : Option FieldType} {fr lo : Nat} {ρ : Type} {Z : ρ → State → Prop} {σ : ca_S} {pc q : Nat} {lv : List (Nat × Value)} {st : List Value} {X : Option ρ} (hC : ca_C κ cs cc nL own ret fr lo) {x y : Int32} (hd : decode cc pc = .ok (.ishl, 1)) (hq : pc + 1 = q) (k : ca_T κ Z σ q lv (.int (x <<< (y &&& 31)) :: st) X) : ca_T κ Z σ pc lv (.int y :: .int x :: st) X := by
  obtain ⟨Γ, cs', p, l, e, R, s, m, args, below, meth, c, nL'⟩ := κ
  obtain ⟨rfl, rfl, hx, hb, hml, hown, hX, -⟩ := hC
  subst hq
  intro r hr H locs ls hP hS hl
  exact lv_ishl hx hb hd (k r hr H locs ls hP hS hl)
theorem ca_ishr {κ : ca_K} {cs : List ca_I} {cc : ByteArray} {nL : Nat} {own : String} {ret : Option FieldType} {fr lo : Nat} {ρ : Type} {Z : ρ → State → Prop} {σ : ca_S} {pc q : Nat} {lv : List (Nat × Value)} {st : List Value} {X : Option ρ} (hC : ca_C κ cs cc nL own ret fr lo) {x y : Int32} (hd : decode cc pc = .ok (.ishr, 1)) (hq : pc + 1 = q) (k : ca_T κ Z σ q lv (.int (x >>> (y &&& 31)) :: st) X) : ca_T κ Z σ pc lv (.int y :: .int x :: st) X := by
  obtain ⟨Γ, cs', p, l, e, R, s, m, args, below, meth, c, nL'⟩ := κ
  obtain ⟨rfl, rfl, hx, hb, hml, hown, hX, -⟩ := hC
  subst hq
  intro r hr H locs ls hP hS hl
  exact lv_ishr hx hb hd (k r hr H locs ls hP hS hl)
theorem ca_iushr {κ : ca_K} {cs : List ca_I} {cc : ByteArray} {nL : Nat} {own : String} {ret : Option FieldType} {fr lo : Nat} {ρ : Type} {Z : ρ → State → Prop} {σ : ca_S} {pc q : Nat} {lv : List (Nat × Value)} {st : List Value} {X : Option ρ} (hC : ca_C κ cs cc nL own ret fr lo) {x y : Int32} (hd : decode cc pc = .ok (.iushr, 1)) (hq : pc + 1 = q) (k : ca_T κ Z σ q lv (.int (x.toUInt32 >>> (y.toUInt32 &&& Int32.toUInt32 31)).toInt32 :: st) X) : ca_T κ Z σ pc lv (.int y :: .int x :: st) X := by
  obtain ⟨Γ, cs', p, l, e, R, s, m, args, below, meth, c, nL'⟩ := κ
  obtain ⟨rfl, rfl, hx, hb, hml, hown, hX, -⟩ := hC
  subst hq
  intro r hr H locs ls hP hS hl
  exact lv_iushr hx hb hd rfl (k r hr H locs ls hP hS hl)
theorem ca_ineg {κ : ca_K} {cs : List ca_I} {cc : ByteArray} {nL : Nat} {own : String} {ret : Option FieldType} {fr lo : Nat} {ρ : Type} {Z : ρ → State → Prop} {σ : ca_S} {pc q : Nat} {lv : List (Nat × Value)} {st : List Value} {X : Option ρ} (hC : ca_C κ cs cc nL own ret fr lo) {x : Int32} (hd : decode cc pc = .ok (.ineg, 1)) (hq : pc + 1 = q) (k : ca_T κ Z σ q lv (.int (-x) :: st) X) : ca_T κ Z σ pc lv (.int x :: st) X := by
  obtain ⟨Γ, cs', p, l, e, R, s, m, args, below, meth, c, nL'⟩ := κ
  obtain ⟨rfl, rfl, hx, hb, hml, hown, hX, -⟩ := hC
  subst hq
  intro r hr H locs ls hP hS hl
  exact lv_ineg hx hb hd (k r hr H locs ls hP hS hl)
theorem ca_i2l {κ : ca_K} {cs : List ca_I} {cc : ByteArray} {nL : Nat} {own : String} {ret : Option FieldType} {fr lo : Nat} {ρ : Type} {Z : ρ → State → Prop} {σ : ca_S} {pc q : Nat} {lv : List (Nat × Value)} {st : List Value} {X : Option ρ} (hC : ca_C κ cs cc nL own ret fr lo) {x : Int32} (hd : decode cc pc = .ok (.i2l, 1)) (hq : pc + 1 = q) (k : ca_T κ Z σ q lv (.long x.toInt64 :: st) X) : ca_T κ Z σ pc lv (.int x :: st) X := by
  obtain ⟨Γ, cs', p, l, e, R, s, m, args, below, meth, c, nL'⟩ := κ
  obtain ⟨rfl, rfl, hx, hb, hml, hown, hX, -⟩ := hC
  subst hq
  intro r hr H locs ls hP hS hl
  exact lv_i2l hx hb hd rfl (k r hr H locs ls hP hS hl)
theorem ca_l2i {κ : ca_K} {cs : List ca_I} {cc : ByteArray} {nL : Nat} {own : String} {ret : Option FieldType} {fr lo : Nat} {ρ : Type} {Z : ρ → State → Prop} {σ : ca_S} {pc q : Nat} {lv : List (Nat × Value)} {st : List Value} {X : Option ρ} (hC : ca_C κ cs cc nL own ret fr lo) {x : Int64} (hd : decode cc pc = .ok (.l2i, 1)) (hq : pc + 1 = q) (k : ca_T κ Z σ q lv (.int x.toInt32 :: st) X) : ca_T κ Z σ pc lv (.long x :: st) X := by
  obtain ⟨Γ, cs', p, l, e, R, s, m, args, below, meth, c, nL'⟩ := κ
  obtain ⟨rfl, rfl, hx, hb, hml, hown, hX, -⟩ := hC
  subst hq
  intro r hr H locs ls hP hS hl
  exact lv_l2i hx hb hd rfl (k r hr H locs ls hP hS hl)
theorem ca_lmul {κ : ca_K} {cs : List ca_I} {cc : ByteArray} {nL : Nat} {own : String} {ret : Option FieldType} {fr lo : Nat} {ρ : Type} {Z : ρ → State → Prop} {σ : ca_S} {pc q : Nat} {lv : List (Nat × Value)} {st : List Value} {X : Option ρ} (hC : ca_C κ cs cc nL own ret fr lo) {x y : Int64} (hd : decode cc pc = .ok (.lmul, 1)) (hq : pc + 1 = q) (k : ca_T κ Z σ q lv (.long (x * y) :: st) X) : ca_T κ Z σ pc lv (.long y :: .long x :: st) X := by
  obtain ⟨Γ, cs', p, l, e, R, s, m, args, below, meth, c, nL'⟩ := κ
  obtain ⟨rfl, rfl, hx, hb, hml, hown, hX, -⟩ := hC
  subst hq
  intro r hr H locs ls hP hS hl
  exact lv_lmul hx hb hd (k r hr H locs ls hP hS hl)
theorem ca_dup {κ : ca_K} {cs : List ca_I} {cc : ByteArray} {nL : Nat} {own : String} {ret : Option FieldType} {fr lo : Nat} {ρ : Type} {Z : ρ → State → Prop} {σ : ca_S} {pc q : Nat} {lv : List (Nat × Value)} {st : List Value} {X : Option ρ} (hC : ca_C κ cs cc nL own ret fr lo) {va : Value} (hd : decode cc pc = .ok (.dup, 1)) (hv : va.category = 1) (hq : pc + 1 = q) (k : ca_T κ Z σ q lv (va :: va :: st) X) : ca_T κ Z σ pc lv (va :: st) X := by
  obtain ⟨Γ, cs', p, l, e, R, s, m, args, below, meth, c, nL'⟩ := κ
  obtain ⟨rfl, rfl, hx, hb, hml, hown, hX, -⟩ := hC
  subst hq
  intro r hr H locs ls hP hS hl
  exact lv_dup hx hb hd hv (k r hr H locs ls hP hS hl)
theorem ca_dup2 {κ : ca_K} {cs : List ca_I} {cc : ByteArray} {nL : Nat} {own : String} {ret : Option FieldType} {fr lo : Nat} {ρ : Type} {Z : ρ → State → Prop} {σ : ca_S} {pc q : Nat} {lv : List (Nat × Value)} {st : List Value} {X : Option ρ} (hC : ca_C κ cs cc nL own ret fr lo) {va vb : Value} (hd : decode cc pc = .ok (.dup2, 1)) (hv : va.category = 1) (hw : vb.category = 1) (hq : pc + 1 = q) (k : ca_T κ Z σ q lv (va :: vb :: va :: vb :: st) X) : ca_T κ Z σ pc lv (va :: vb :: st) X := by
  obtain ⟨Γ, cs', p, l, e, R, s, m, args, below, meth, c, nL'⟩ := κ
  obtain ⟨rfl, rfl, hx, hb, hml, hown, hX, -⟩ := hC
  subst hq
  intro r hr H locs ls hP hS hl
  exact lv_dup2_11 hx hb hd hv hw (k r hr H locs ls hP hS hl)
theorem ca_ldc {κ : ca_K} {cs : List ca_I} {cc : ByteArray} {nL : Nat} {own : String} {ret : Option FieldType} {fr lo : Nat} {ρ : Type} {Z : ρ → State → Prop} {σ : ca_S} {pc q : Nat} {lv : List (Nat × Value)} {st : List Value} {X : Option ρ} (hC : ca_C κ cs cc nL own ret fr lo) {i : Nat} {v : Int32} (hw : ca_Yw (.constant own i v)) (hd : decode cc pc = .ok (.ldc i, 2)) (hq : pc + 2 = q) (k : ca_T κ Z σ q lv (.int v :: st) X) : ca_T κ Z σ pc lv (st) X := by
  obtain ⟨Γ, cs', p, l, e, R, s, m, args, below, meth, c, nL'⟩ := κ
  obtain ⟨rfl, rfl, hx, hb, hml, hown, hX, -⟩ := hC
  subst hq
  intro r hr H locs ls hP hS hl
  exact lv_ldc hx hb hown (hw.use rfl hX.1) hd (k r hr H locs ls hP hS hl)
theorem ca_ldcw {κ : ca_K} {cs : List ca_I} {cc : ByteArray} {nL : Nat} {own : String} {ret : Option FieldType} {fr lo : Nat} {ρ : Type} {Z : ρ → State → Prop} {σ : ca_S} {pc q : Nat} {lv : List (Nat × Value)} {st : List Value} {X : Option ρ} (hC : ca_C κ cs cc nL own ret fr lo) {i : Nat} {v : Int32} (hw : ca_Yw (.constant own i v)) (hd : decode cc pc = .ok (.ldc_w i, 3)) (hq : pc + 3 = q) (k : ca_T κ Z σ q lv (.int v :: st) X) : ca_T κ Z σ pc lv (st) X := by
  obtain ⟨Γ, cs', p, l, e, R, s, m, args, below, meth, c, nL'⟩ := κ
  obtain ⟨rfl, rfl, hx, hb, hml, hown, hX, -⟩ := hC
  subst hq
  intro r hr H locs ls hP hS hl
  exact lv_ldcw hx hb hown (hw.use rfl hX.1) hd (k r hr H locs ls hP hS hl)
theorem ca_ldc2 {κ : ca_K} {cs : List ca_I} {cc : ByteArray} {nL : Nat} {own : String} {ret : Option FieldType} {fr lo : Nat} {ρ : Type} {Z : ρ → State → Prop} {σ : ca_S} {pc q : Nat} {lv : List (Nat × Value)} {st : List Value} {X : Option ρ} (hC : ca_C κ cs cc nL own ret fr lo) {i : Nat} {v : Int64} (hw : ca_Yw (.constantLong own i v)) (hd : decode cc pc = .ok (.ldc2_w i, 3)) (hq : pc + 3 = q) (k : ca_T κ Z σ q lv (.long v :: st) X) : ca_T κ Z σ pc lv (st) X := by
  obtain ⟨Γ, cs', p, l, e, R, s, m, args, below, meth, c, nL'⟩ := κ
  obtain ⟨rfl, rfl, hx, hb, hml, hown, hX, -⟩ := hC
  subst hq
  intro r hr H locs ls hP hS hl
  exact lv_ldc2 hx hb hown (hw.use rfl hX.1) hd (k r hr H locs ls hP hS hl)
theorem ca_goto {κ : ca_K} {cs : List ca_I} {cc : ByteArray} {nL : Nat} {own : String} {ret : Option FieldType} {fr lo : Nat} {ρ : Type} {Z : ρ → State → Prop} {σ : ca_S} {pc q : Nat} {lv : List (Nat × Value)} {st : List Value} {X : Option ρ} (hC : ca_C κ cs cc nL own ret fr lo) {off : Int} (hd : decode cc pc = .ok (.goto off, 3)) (hq : (pc : Int) + off = (q : Int)) (k : ca_T κ Z σ q lv st X) : ca_T κ Z σ pc lv st X := by
  obtain ⟨Γ, cs', p, l, e, R, s, m, args, below, meth, c, nL'⟩ := κ
  obtain ⟨rfl, rfl, hx, hb, hml, hown, hX, -⟩ := hC
  intro r hr H locs ls hP hS hl
  exact lv_goto hx hb hd hq (k r hr H locs ls hP hS hl)
theorem ca_if_ne {κ : ca_K} {cs : List ca_I} {cc : ByteArray} {nL : Nat} {own : String} {ret : Option FieldType} {fr lo : Nat} {ρ : Type} {Z : ρ → State → Prop} {σ : ca_S} {pc q t : Nat} {lv : List (Nat × Value)} {st : List Value} {X Y : Option ρ} (hC : ca_C κ cs cc nL own ret fr lo) {x : Int32} {off : Int} (hd : decode cc pc = .ok (.ifCond .ne off, 3)) (ht : (pc : Int) + off = (t : Int)) (hq : pc + 3 = q) (kt : ¬ (x = 0) → ca_T κ Z σ t lv st Y) (kf : (x = 0) → ca_T κ Z σ q lv st X) : ca_T κ Z σ pc lv (.int x :: st) (if (x = 0) then X else Y) := by
  obtain ⟨Γ, cs', p, l, e, R, s, m, args, below, meth, c, nL'⟩ := κ
  obtain ⟨rfl, rfl, hx, hb, hml, hown, hX, -⟩ := hC
  subst hq
  intro r hr H locs ls hP hS hl
  refine lv_if_ne hx hb hd ht (fun h => ?_) (fun h => ?_)
  · rw [if_neg h] at hr
    exact kt h r hr H locs ls hP hS hl
  · rw [if_pos h] at hr
    exact kf h r hr H locs ls hP hS hl
theorem ca_icmp_ne {κ : ca_K} {cs : List ca_I} {cc : ByteArray} {nL : Nat} {own : String} {ret : Option FieldType} {fr lo : Nat} {ρ : Type} {Z : ρ → State → Prop} {σ : ca_S} {pc q t : Nat} {lv : List (Nat × Value)} {st : List Value} {X Y : Option ρ} (hC : ca_C κ cs cc nL own ret fr lo) {x y : Int32} {off : Int} (hd : decode cc pc = .ok (.if_icmp .ne off, 3)) (ht : (pc : Int) + off = (t : Int)) (hq : pc + 3 = q) (kt : ¬ (x = y) → ca_T κ Z σ t lv st Y) (kf : (x = y) → ca_T κ Z σ q lv st X) : ca_T κ Z σ pc lv (.int y :: .int x :: st) (if (x = y) then X else Y) := by
  obtain ⟨Γ, cs', p, l, e, R, s, m, args, below, meth, c, nL'⟩ := κ
  obtain ⟨rfl, rfl, hx, hb, hml, hown, hX, -⟩ := hC
  subst hq
  intro r hr H locs ls hP hS hl
  refine lv_icmp_ne hx hb hd ht (fun h => ?_) (fun h => ?_)
  · rw [if_neg h] at hr
    exact kt h r hr H locs ls hP hS hl
  · rw [if_pos h] at hr
    exact kf h r hr H locs ls hP hS hl
theorem ca_if_eq {κ : ca_K} {cs : List ca_I} {cc : ByteArray} {nL : Nat} {own : String} {ret : Option FieldType} {fr lo : Nat} {ρ : Type} {Z : ρ → State → Prop} {σ : ca_S} {pc q t : Nat} {lv : List (Nat × Value)} {st : List Value} {X Y : Option ρ} (hC : ca_C κ cs cc nL own ret fr lo) {x : Int32} {off : Int} (hd : decode cc pc = .ok (.ifCond .eq off, 3)) (ht : (pc : Int) + off = (t : Int)) (hq : pc + 3 = q) (kt : (x = 0) → ca_T κ Z σ t lv st X) (kf : ¬ (x = 0) → ca_T κ Z σ q lv st Y) : ca_T κ Z σ pc lv (.int x :: st) (if (x = 0) then X else Y) := by
  obtain ⟨Γ, cs', p, l, e, R, s, m, args, below, meth, c, nL'⟩ := κ
  obtain ⟨rfl, rfl, hx, hb, hml, hown, hX, -⟩ := hC
  subst hq
  intro r hr H locs ls hP hS hl
  refine lv_if_eq hx hb hd ht (fun h => ?_) (fun h => ?_)
  · rw [if_pos h] at hr
    exact kt h r hr H locs ls hP hS hl
  · rw [if_neg h] at hr
    exact kf h r hr H locs ls hP hS hl
theorem ca_if_lt {κ : ca_K} {cs : List ca_I} {cc : ByteArray} {nL : Nat} {own : String} {ret : Option FieldType} {fr lo : Nat} {ρ : Type} {Z : ρ → State → Prop} {σ : ca_S} {pc q t : Nat} {lv : List (Nat × Value)} {st : List Value} {X Y : Option ρ} (hC : ca_C κ cs cc nL own ret fr lo) {x : Int32} {off : Int} (hd : decode cc pc = .ok (.ifCond .lt off, 3)) (ht : (pc : Int) + off = (t : Int)) (hq : pc + 3 = q) (kt : (x < 0) → ca_T κ Z σ t lv st X) (kf : ¬ (x < 0) → ca_T κ Z σ q lv st Y) : ca_T κ Z σ pc lv (.int x :: st) (if (x < 0) then X else Y) := by
  obtain ⟨Γ, cs', p, l, e, R, s, m, args, below, meth, c, nL'⟩ := κ
  obtain ⟨rfl, rfl, hx, hb, hml, hown, hX, -⟩ := hC
  subst hq
  intro r hr H locs ls hP hS hl
  refine lv_if_lt hx hb hd ht (fun h => ?_) (fun h => ?_)
  · rw [if_pos h] at hr
    exact kt h r hr H locs ls hP hS hl
  · rw [if_neg h] at hr
    exact kf h r hr H locs ls hP hS hl
theorem ca_if_ge {κ : ca_K} {cs : List ca_I} {cc : ByteArray} {nL : Nat} {own : String} {ret : Option FieldType} {fr lo : Nat} {ρ : Type} {Z : ρ → State → Prop} {σ : ca_S} {pc q t : Nat} {lv : List (Nat × Value)} {st : List Value} {X Y : Option ρ} (hC : ca_C κ cs cc nL own ret fr lo) {x : Int32} {off : Int} (hd : decode cc pc = .ok (.ifCond .ge off, 3)) (ht : (pc : Int) + off = (t : Int)) (hq : pc + 3 = q) (kt : (0 ≤ x) → ca_T κ Z σ t lv st X) (kf : ¬ (0 ≤ x) → ca_T κ Z σ q lv st Y) : ca_T κ Z σ pc lv (.int x :: st) (if (0 ≤ x) then X else Y) := by
  obtain ⟨Γ, cs', p, l, e, R, s, m, args, below, meth, c, nL'⟩ := κ
  obtain ⟨rfl, rfl, hx, hb, hml, hown, hX, -⟩ := hC
  subst hq
  intro r hr H locs ls hP hS hl
  refine lv_if_ge hx hb hd ht (fun h => ?_) (fun h => ?_)
  · rw [if_pos h] at hr
    exact kt h r hr H locs ls hP hS hl
  · rw [if_neg h] at hr
    exact kf h r hr H locs ls hP hS hl
theorem ca_if_gt {κ : ca_K} {cs : List ca_I} {cc : ByteArray} {nL : Nat} {own : String} {ret : Option FieldType} {fr lo : Nat} {ρ : Type} {Z : ρ → State → Prop} {σ : ca_S} {pc q t : Nat} {lv : List (Nat × Value)} {st : List Value} {X Y : Option ρ} (hC : ca_C κ cs cc nL own ret fr lo) {x : Int32} {off : Int} (hd : decode cc pc = .ok (.ifCond .gt off, 3)) (ht : (pc : Int) + off = (t : Int)) (hq : pc + 3 = q) (kt : (0 < x) → ca_T κ Z σ t lv st X) (kf : ¬ (0 < x) → ca_T κ Z σ q lv st Y) : ca_T κ Z σ pc lv (.int x :: st) (if (0 < x) then X else Y) := by
  obtain ⟨Γ, cs', p, l, e, R, s, m, args, below, meth, c, nL'⟩ := κ
  obtain ⟨rfl, rfl, hx, hb, hml, hown, hX, -⟩ := hC
  subst hq
  intro r hr H locs ls hP hS hl
  refine lv_if_gt hx hb hd ht (fun h => ?_) (fun h => ?_)
  · rw [if_pos h] at hr
    exact kt h r hr H locs ls hP hS hl
  · rw [if_neg h] at hr
    exact kf h r hr H locs ls hP hS hl
theorem ca_if_le {κ : ca_K} {cs : List ca_I} {cc : ByteArray} {nL : Nat} {own : String} {ret : Option FieldType} {fr lo : Nat} {ρ : Type} {Z : ρ → State → Prop} {σ : ca_S} {pc q t : Nat} {lv : List (Nat × Value)} {st : List Value} {X Y : Option ρ} (hC : ca_C κ cs cc nL own ret fr lo) {x : Int32} {off : Int} (hd : decode cc pc = .ok (.ifCond .le off, 3)) (ht : (pc : Int) + off = (t : Int)) (hq : pc + 3 = q) (kt : (x ≤ 0) → ca_T κ Z σ t lv st X) (kf : ¬ (x ≤ 0) → ca_T κ Z σ q lv st Y) : ca_T κ Z σ pc lv (.int x :: st) (if (x ≤ 0) then X else Y) := by
  obtain ⟨Γ, cs', p, l, e, R, s, m, args, below, meth, c, nL'⟩ := κ
  obtain ⟨rfl, rfl, hx, hb, hml, hown, hX, -⟩ := hC
  subst hq
  intro r hr H locs ls hP hS hl
  refine lv_if_le hx hb hd ht (fun h => ?_) (fun h => ?_)
  · rw [if_pos h] at hr
    exact kt h r hr H locs ls hP hS hl
  · rw [if_neg h] at hr
    exact kf h r hr H locs ls hP hS hl
theorem ca_icmp_eq {κ : ca_K} {cs : List ca_I} {cc : ByteArray} {nL : Nat} {own : String} {ret : Option FieldType} {fr lo : Nat} {ρ : Type} {Z : ρ → State → Prop} {σ : ca_S} {pc q t : Nat} {lv : List (Nat × Value)} {st : List Value} {X Y : Option ρ} (hC : ca_C κ cs cc nL own ret fr lo) {x y : Int32} {off : Int} (hd : decode cc pc = .ok (.if_icmp .eq off, 3)) (ht : (pc : Int) + off = (t : Int)) (hq : pc + 3 = q) (kt : (x = y) → ca_T κ Z σ t lv st X) (kf : ¬ (x = y) → ca_T κ Z σ q lv st Y) : ca_T κ Z σ pc lv (.int y :: .int x :: st) (if (x = y) then X else Y) := by
  obtain ⟨Γ, cs', p, l, e, R, s, m, args, below, meth, c, nL'⟩ := κ
  obtain ⟨rfl, rfl, hx, hb, hml, hown, hX, -⟩ := hC
  subst hq
  intro r hr H locs ls hP hS hl
  refine lv_icmp_eq hx hb hd ht (fun h => ?_) (fun h => ?_)
  · rw [if_pos h] at hr
    exact kt h r hr H locs ls hP hS hl
  · rw [if_neg h] at hr
    exact kf h r hr H locs ls hP hS hl
theorem ca_icmp_lt {κ : ca_K} {cs : List ca_I} {cc : ByteArray} {nL : Nat} {own : String} {ret : Option FieldType} {fr lo : Nat} {ρ : Type} {Z : ρ → State → Prop} {σ : ca_S} {pc q t : Nat} {lv : List (Nat × Value)} {st : List Value} {X Y : Option ρ} (hC : ca_C κ cs cc nL own ret fr lo) {x y : Int32} {off : Int} (hd : decode cc pc = .ok (.if_icmp .lt off, 3)) (ht : (pc : Int) + off = (t : Int)) (hq : pc + 3 = q) (kt : (x < y) → ca_T κ Z σ t lv st X) (kf : ¬ (x < y) → ca_T κ Z σ q lv st Y) : ca_T κ Z σ pc lv (.int y :: .int x :: st) (if (x < y) then X else Y) := by
  obtain ⟨Γ, cs', p, l, e, R, s, m, args, below, meth, c, nL'⟩ := κ
  obtain ⟨rfl, rfl, hx, hb, hml, hown, hX, -⟩ := hC
  subst hq
  intro r hr H locs ls hP hS hl
  refine lv_icmp_lt hx hb hd ht (fun h => ?_) (fun h => ?_)
  · rw [if_pos h] at hr
    exact kt h r hr H locs ls hP hS hl
  · rw [if_neg h] at hr
    exact kf h r hr H locs ls hP hS hl
theorem ca_icmp_ge {κ : ca_K} {cs : List ca_I} {cc : ByteArray} {nL : Nat} {own : String} {ret : Option FieldType} {fr lo : Nat} {ρ : Type} {Z : ρ → State → Prop} {σ : ca_S} {pc q t : Nat} {lv : List (Nat × Value)} {st : List Value} {X Y : Option ρ} (hC : ca_C κ cs cc nL own ret fr lo) {x y : Int32} {off : Int} (hd : decode cc pc = .ok (.if_icmp .ge off, 3)) (ht : (pc : Int) + off = (t : Int)) (hq : pc + 3 = q) (kt : (y ≤ x) → ca_T κ Z σ t lv st X) (kf : ¬ (y ≤ x) → ca_T κ Z σ q lv st Y) : ca_T κ Z σ pc lv (.int y :: .int x :: st) (if (y ≤ x) then X else Y) := by
  obtain ⟨Γ, cs', p, l, e, R, s, m, args, below, meth, c, nL'⟩ := κ
  obtain ⟨rfl, rfl, hx, hb, hml, hown, hX, -⟩ := hC
  subst hq
  intro r hr H locs ls hP hS hl
  refine lv_icmp_ge hx hb hd ht (fun h => ?_) (fun h => ?_)
  · rw [if_pos h] at hr
    exact kt h r hr H locs ls hP hS hl
  · rw [if_neg h] at hr
    exact kf h r hr H locs ls hP hS hl
theorem ca_icmp_gt {κ : ca_K} {cs : List ca_I} {cc : ByteArray} {nL : Nat} {own : String} {ret : Option FieldType} {fr lo : Nat} {ρ : Type} {Z : ρ → State → Prop} {σ : ca_S} {pc q t : Nat} {lv : List (Nat × Value)} {st : List Value} {X Y : Option ρ} (hC : ca_C κ cs cc nL own ret fr lo) {x y : Int32} {off : Int} (hd : decode cc pc = .ok (.if_icmp .gt off, 3)) (ht : (pc : Int) + off = (t : Int)) (hq : pc + 3 = q) (kt : (y < x) → ca_T κ Z σ t lv st X) (kf : ¬ (y < x) → ca_T κ Z σ q lv st Y) : ca_T κ Z σ pc lv (.int y :: .int x :: st) (if (y < x) then X else Y) := by
  obtain ⟨Γ, cs', p, l, e, R, s, m, args, below, meth, c, nL'⟩ := κ
  obtain ⟨rfl, rfl, hx, hb, hml, hown, hX, -⟩ := hC
  subst hq
  intro r hr H locs ls hP hS hl
  refine lv_icmp_gt hx hb hd ht (fun h => ?_) (fun h => ?_)
  · rw [if_pos h] at hr
    exact kt h r hr H locs ls hP hS hl
  · rw [if_neg h] at hr
    exact kf h r hr H locs ls hP hS hl
theorem ca_icmp_le {κ : ca_K} {cs : List ca_I} {cc : ByteArray} {nL : Nat} {own : String} {ret : Option FieldType} {fr lo : Nat} {ρ : Type} {Z : ρ → State → Prop} {σ : ca_S} {pc q t : Nat} {lv : List (Nat × Value)} {st : List Value} {X Y : Option ρ} (hC : ca_C κ cs cc nL own ret fr lo) {x y : Int32} {off : Int} (hd : decode cc pc = .ok (.if_icmp .le off, 3)) (ht : (pc : Int) + off = (t : Int)) (hq : pc + 3 = q) (kt : (x ≤ y) → ca_T κ Z σ t lv st X) (kf : ¬ (x ≤ y) → ca_T κ Z σ q lv st Y) : ca_T κ Z σ pc lv (.int y :: .int x :: st) (if (x ≤ y) then X else Y) := by
  obtain ⟨Γ, cs', p, l, e, R, s, m, args, below, meth, c, nL'⟩ := κ
  obtain ⟨rfl, rfl, hx, hb, hml, hown, hX, -⟩ := hC
  subst hq
  intro r hr H locs ls hP hS hl
  refine lv_icmp_le hx hb hd ht (fun h => ?_) (fun h => ?_)
  · rw [if_pos h] at hr
    exact kt h r hr H locs ls hP hS hl
  · rw [if_neg h] at hr
    exact kf h r hr H locs ls hP hS hl
theorem ca_idiv {κ : ca_K} {cs : List ca_I} {cc : ByteArray} {nL : Nat} {own : String} {ret : Option FieldType} {fr lo : Nat} {ρ : Type} {Z : ρ → State → Prop} {σ : ca_S} {pc q : Nat} {lv : List (Nat × Value)} {st : List Value} {X : Option ρ} (hC : ca_C κ cs cc nL own ret fr lo) {x y : Int32} (hd : decode cc pc = .ok (.idiv, 1)) (hq : pc + 1 = q) (k : ¬ y = 0 → ca_T κ Z σ q lv (.int (x / y) :: st) X) : ca_T κ Z σ pc lv (.int y :: .int x :: st) (if y = 0 then none else X) := by
  obtain ⟨Γ, cs', p, l, e, R, s, m, args, below, meth, c, nL'⟩ := κ
  obtain ⟨rfl, rfl, hx, hb, hml, hown, hX, -⟩ := hC
  subst hq
  intro r hr H locs ls hP hS hl
  by_cases h : y = 0
  · rw [if_pos h] at hr; cases hr
  · rw [if_neg h] at hr
    exact lv_idiv hx hb hd h (k h r hr H locs ls hP hS hl)
theorem ca_irem {κ : ca_K} {cs : List ca_I} {cc : ByteArray} {nL : Nat} {own : String} {ret : Option FieldType} {fr lo : Nat} {ρ : Type} {Z : ρ → State → Prop} {σ : ca_S} {pc q : Nat} {lv : List (Nat × Value)} {st : List Value} {X : Option ρ} (hC : ca_C κ cs cc nL own ret fr lo) {x y : Int32} (hd : decode cc pc = .ok (.irem, 1)) (hq : pc + 1 = q) (k : ¬ y = 0 → ca_T κ Z σ q lv (.int (x - x / y * y) :: st) X) : ca_T κ Z σ pc lv (.int y :: .int x :: st) (if y = 0 then none else X) := by
  obtain ⟨Γ, cs', p, l, e, R, s, m, args, below, meth, c, nL'⟩ := κ
  obtain ⟨rfl, rfl, hx, hb, hml, hown, hX, -⟩ := hC
  subst hq
  intro r hr H locs ls hP hS hl
  by_cases h : y = 0
  · rw [if_pos h] at hr; cases hr
  · rw [if_neg h] at hr
    exact lv_irem hx hb hd h (k h r hr H locs ls hP hS hl)
theorem ca_lrem {κ : ca_K} {cs : List ca_I} {cc : ByteArray} {nL : Nat} {own : String} {ret : Option FieldType} {fr lo : Nat} {ρ : Type} {Z : ρ → State → Prop} {σ : ca_S} {pc q : Nat} {lv : List (Nat × Value)} {st : List Value} {X : Option ρ} (hC : ca_C κ cs cc nL own ret fr lo) {x y : Int64} (hd : decode cc pc = .ok (.lrem, 1)) (hq : pc + 1 = q) (k : ¬ y = 0 → ca_T κ Z σ q lv (.long (x - x / y * y) :: st) X) : ca_T κ Z σ pc lv (.long y :: .long x :: st) (if y = 0 then none else X) := by
  obtain ⟨Γ, cs', p, l, e, R, s, m, args, below, meth, c, nL'⟩ := κ
  obtain ⟨rfl, rfl, hx, hb, hml, hown, hX, -⟩ := hC
  subst hq
  intro r hr H locs ls hP hS hl
  by_cases h : y = 0
  · rw [if_pos h] at hr; cases hr
  · rw [if_neg h] at hr
    exact lv_lrem hx hb hd h (k h r hr H locs ls hP hS hl)
theorem ca_ifs {ρ : Type} {κ : ca_K} {Z : ρ → State → Prop} {σ : ca_S} {pc : Nat} {lv : List (Nat × Value)} {st : List Value} {X Y : Option ρ} (b : Prop) [Decidable b] (k1 : b → ca_T κ Z σ pc lv st X) (k2 : ¬ b → ca_T κ Z σ pc lv st Y) : ca_T κ Z σ pc lv st (if b then X else Y) := by
  by_cases h : b
  · rw [if_pos h]; exact k1 h
  · rw [if_neg h]; exact k2 h
theorem ca_tin {κ : ca_K} {cs : List ca_I} {cc : ByteArray} {nL : Nat} {own : String} {ret : Option FieldType} {fr lo : Nat} {ρ : Type} {Z : ρ → State → Prop} {σ : ca_S} {pc q : Nat} {lv : List (Nat × Value)} {st : List Value} {X : Option ρ} (hC : ca_C κ cs cc nL own ret fr lo) {dflt lw hi off : Int} {offs : Array Int} {len : Nat} {x v : Int32} (hd : decode cc pc = .ok (.tableswitch dflt lw hi offs, len)) (hxv : x = v) (h1 : ¬ v.toInt < lw) (h2 : ¬ hi < v.toInt) (ho : offs[(v.toInt - lw).toNat]? = some off) (hq : (pc : Int) + off = (q : Int)) (k : ca_T κ Z σ q lv st X) : ca_T κ Z σ pc lv (.int x :: st) X := by
  obtain ⟨Γ, cs', p, l, e, R, s, m, args, below, meth, c, nL'⟩ := κ
  obtain ⟨rfl, rfl, hx, hb, hml, hown, hX, -⟩ := hC
  subst hxv
  intro r hr H locs ls hP hS hl
  exact lv_tableIn hx hb hd h1 h2 ho hq (k r hr H locs ls hP hS hl)
theorem ca_tout {κ : ca_K} {cs : List ca_I} {cc : ByteArray} {nL : Nat} {own : String} {ret : Option FieldType} {fr lo : Nat} {ρ : Type} {Z : ρ → State → Prop} {σ : ca_S} {pc q : Nat} {lv : List (Nat × Value)} {st : List Value} {X : Option ρ} (hC : ca_C κ cs cc nL own ret fr lo) {dflt lw hi : Int} {offs : Array Int} {len : Nat} {x : Int32} (hd : decode cc pc = .ok (.tableswitch dflt lw hi offs, len)) (h : ∀ z : Int, lw ≤ z → z ≤ hi → x ≠ Int32.ofInt z) (hq : (pc : Int) + dflt = (q : Int)) (k : ca_T κ Z σ q lv st X) : ca_T κ Z σ pc lv (.int x :: st) X := by
  obtain ⟨Γ, cs', p, l, e, R, s, m, args, below, meth, c, nL'⟩ := κ
  obtain ⟨rfl, rfl, hx, hb, hml, hown, hX, -⟩ := hC
  intro r hr H locs ls hP hS hl
  refine lv_tableOut hx hb hd ?_ hq (k r hr H locs ls hP hS hl)
  by_cases h1 : x.toInt < lw
  · exact Or.inl h1
  · by_cases h2 : hi < x.toInt
    · exact Or.inr h2
    · exact absurd (Int32.ofInt_toInt x).symm (h x.toInt (Int.not_lt.mp h1) (Int.not_lt.mp h2))
theorem ca_look {κ : ca_K} {cs : List ca_I} {cc : ByteArray} {nL : Nat} {own : String} {ret : Option FieldType} {fr lo : Nat} {ρ : Type} {Z : ρ → State → Prop} {σ : ca_S} {pc q : Nat} {lv : List (Nat × Value)} {st : List Value} {X : Option ρ} (hC : ca_C κ cs cc nL own ret fr lo) {dflt off : Int} {ps : Array (Int × Int)} {len : Nat} {x : Int32} (hd : decode cc pc = .ok (.lookupswitch dflt ps, len)) (hp : (ps.toList.zip (ps.toList.drop 1)).all (fun (a, next) => a.1 < next.1) = true) (ho : Op.lookupswitch.offset ps.toList dflt x.toInt = off) (hq : (pc : Int) + off = (q : Int)) (k : ca_T κ Z σ q lv st X) : ca_T κ Z σ pc lv (.int x :: st) X := by
  obtain ⟨Γ, cs', p, l, e, R, s, m, args, below, meth, c, nL'⟩ := κ
  obtain ⟨rfl, rfl, hx, hb, hml, hown, hX, -⟩ := hC
  intro r hr H locs ls hP hS hl
  exact lv_lookup hx hb hd hp ho hq (k r hr H locs ls hP hS hl)
theorem ca_nei {x : Int32} {v : Int32} (h : ¬ x = v) : ¬ x.toInt = v.toInt := fun e => h (Int32.toInt_inj.mp e)

-- ===== the heap's rows =====
theorem ca_lcmp {κ : ca_K} {cs : List ca_I} {cc : ByteArray} {nL : Nat} {own : String} {ret : Option FieldType} {fr lo : Nat} {ρ : Type} {Z : ρ → State → Prop} {σ : ca_S} {pc q t u : Nat} {lv : List (Nat × Value)} {st : List Value} {X Y : Option ρ} (hC : ca_C κ cs cc nL own ret fr lo) {x y : Int64} {off : Int} (hd : decode cc pc = .ok (.lcmp, 1)) (hq : pc + 1 = q) (hd2 : decode cc q = .ok (.ifCond .ne off, 3)) (ht : (q : Int) + off = (t : Int)) (hu : q + 3 = u) (kt : ¬ x = y → ca_T κ Z σ t lv st Y) (kf : x = y → ca_T κ Z σ u lv st X) : ca_T κ Z σ pc lv (.long y :: .long x :: st) (if x = y then X else Y) := by
  obtain ⟨Γ, cs', p, l, e, R, s, m, args, below, meth, c, nL'⟩ := κ
  obtain ⟨rfl, rfl, hx, hb, hml, hown, hX, -⟩ := hC
  subst hq
  subst hu
  intro r hr H locs ls hP hS hl
  refine W.lcmp hx hb hd ?_
  refine lv_if_ne hx hb hd2 ht (fun h => ?_) (fun h => ?_)
  · have hn : ¬ x = y := by
      intro e
      subst e
      exact h (by simp [lg_cmp])
    rw [if_neg hn] at hr
    exact kt hn r hr H locs ls hP hS hl
  · have hn : x = y := by
      by_cases e : x = y
      · exact e
      · exfalso
        unfold lg_cmp at h
        split at h
        · exact absurd h (by decide)
        · exact absurd h (by decide)
    rw [if_pos hn] at hr
    exact kf hn r hr H locs ls hP hS hl
theorem ca_get {κ : ca_K} {cs : List ca_I} {cc : ByteArray} {nL : Nat} {own : String} {ret : Option FieldType} {fr lo : Nat} {ρ : Type} {Z : ρ → State → Prop} {σ : ca_S} {pc q : Nat} {lv : List (Nat × Value)} {st : List Value} {X : Option ρ} (hC : ca_C κ cs cc nL own ret fr lo) {C ref : String} {T : u_T} {N ci i j : Nat} {c0 : ca_I} {v : Value} (hin : ∀ w ∈ u_ws C T N, w ∈ lw_tbl) (hcl : vwCl[ci]? = some (C, T, N)) (hlay : ∀ k, k < N → ca_ok (u_lay C T k) = true) (hm : c0 ∈ cs) (ho : ca_ob c0.1 = some (ci, N)) (hj : j < N) (hr0 : (T j).1 = ref) (hw : ca_Yw (.fieldLink own i ref (T j).2.1 (T j).2.2.1) ∨ ∃ host, ca_Yw (.fieldLinkNest own i ref (T j).2.1 (T j).2.2.1 host)) (hv : ca_fv κ.1 σ c0 j = v) (hd : decode cc pc = .ok (.getfield i, 3)) (hq : pc + 3 = q) (k : ca_T κ Z σ q lv (v :: st) X) : ca_T κ Z σ pc lv (.ref (ca_a κ c0) :: st) X := by
  obtain ⟨Γ, cs', p, l, e, R, s, m, args, below, meth, c, nL'⟩ := κ
  obtain ⟨rfl, rfl, hx, hb, hml, hown, hX, -⟩ := hC
  subst hq
  intro r hr H locs ls hP hS hl
  obtain ⟨k0, hk0, -⟩ := ca_lay_get (Γ := Γ) σ hm
  rw [ca_E_ob ho] at hk0
  have hts : ∀ w ∈ u_ws C T N, w.before args s = true := fun w h => by
    obtain ⟨k1, h1, h2⟩ := List.mem_map.mp h
    have hk1 := List.mem_range.mp h1
    have ho : (u_lay C T k1).onTables = true := by
      unfold u_lay
      split <;> rfl
    rw [← h2]
    exact va_Nw.use ho (hX.1 _ (hin _ (by rw [h2]; exact h)) (hlay k1 hk1))
  have hvv : ((List.range N).map (ca_fv Γ σ c0))[j]? = some v := by
    rw [List.getElem?_map, List.getElem?_range hj]
    exact congrArg some hv
  rcases hw with hw | ⟨host, hw⟩
  · exact va_get hx hb hts (fun w h => h) hown hX.2.1 hP k0 hk0 hcl j hj (hw.use rfl hX.1) (fun x h => by rw [← hr0]; exact h) hvv hd (k r hr H locs ls hP hS hl)
  · exact va_getN hx hb hts (fun w h => h) hown hX.2.1 hP k0 hk0 hcl j hj (hw.use rfl hX.1) (fun x h => by rw [← hr0]; exact h) hvv hd (k r hr H locs ls hP hS hl)
/-- a number is put into a field, the cell's picture behind it given -/
theorem ca_put0 {κ : ca_K} {cs : List ca_I} {cc : ByteArray} {nL : Nat} {own : String} {ret : Option FieldType} {fr lo : Nat} {ρ : Type} {Z : ρ → State → Prop} {σ σ' : ca_S} {pc q : Nat} {lv : List (Nat × Value)} {st : List Value} {X : Option ρ} (hC : ca_C κ cs cc nL own ret fr lo) {C ref : String} {T : u_T} {N ci i j : Nat} {c0 : ca_I} {v : Value} {ty0 : Nat → FieldType} (hin : ∀ w ∈ u_ws C T N, w ∈ lw_tbl) (hty : ∀ k, k < N → parseFieldDescriptor (T k).2.2.1 = some (ty0 k)) (hnm : ∀ a, a < N → ∀ b, b < N → a ≠ b → (T a).2.1 ≠ (T b).2.1) (hcl : vwCl[ci]? = some (C, T, N)) (hlay : ∀ k, k < N → ca_ok (u_lay C T k) = true) (hm : c0 ∈ cs) (ho : ca_ob c0.1 = some (ci, N)) (hj : j < N) (hr0 : (T j).1 = ref) (hf : (T j).2.2.2 = false) (hw : ca_Yw (.fieldLink own i ref (T j).2.1 (T j).2.2.1) ∨ ∃ host, ca_Yw (.fieldLinkNest own i ref (T j).2.1 (T j).2.2.1 host)) (hn : narrow (ty0 j) v = v) (hfit : fits (ty0 j) v = true) (hE : ca_E κ.1 σ' c0 = .inr (ci, ((List.range N).map (ca_fv κ.1 σ c0)).set j v)) (hne : ∀ d ∈ cs, d ≠ c0 → ca_E κ.1 σ' d = ca_E κ.1 σ d) (hd : decode cc pc = .ok (.putfield i, 3)) (hq : pc + 3 = q) (k : ca_T κ Z σ' q lv st X) : ca_T κ Z σ pc lv (v :: .ref (ca_a κ c0) :: st) X := by
  obtain ⟨Γ, cs', p, l, e, R, s, m, args, below, meth, c, nL'⟩ := κ
  obtain ⟨rfl, rfl, hx, hb, hml, hown, hX, -⟩ := hC
  subst hq
  intro r hr H locs ls hP hS hl
  obtain ⟨k0, hk0, hk1⟩ := ca_lay_get (Γ := Γ) σ hm
  have hset := ca_lay_set (Γ := Γ) (σ := σ) (σ' := σ') hX.2.2.1.1 hk1 hne
  have hE' : ca_E Γ σ' c0 = .inr (ci, ((List.range N).map (ca_fv Γ σ c0)).set j v) := hE
  rw [ca_E_ob ho] at hk0
  rw [hE'] at hset
  have hts : ∀ w ∈ u_ws C T N, w.before args s = true := fun w h => by
    obtain ⟨k1, h1, h2⟩ := List.mem_map.mp h
    have hk1 := List.mem_range.mp h1
    have ho : (u_lay C T k1).onTables = true := by
      unfold u_lay
      split <;> rfl
    rw [← h2]
    exact va_Nw.use ho (hX.1 _ (hin _ (by rw [h2]; exact h)) (hlay k1 hk1))
  have hD := ca_lay_D (Γ := Γ) σ hX.2.2.1.1 hX.2.2.1.2
  rcases hw with hw | ⟨host, hw⟩
  · refine va_put hx hb hts (fun w h => h) ty0 hty hnm hown hX.2.1 hP hD hS k0 hk0 hcl j hj (hw.use rfl hX.1) (fun x h => by rw [← hr0]; exact h) hf (hty j hj) hn hfit (by simp; exact hj) hd (fun H1 locs1 hP1 hD1 hS1 => ?_)
    exact k r hr H1 locs1 ls (hset ▸ hP1) hS1 hl
  · refine va_putN hx hb hts (fun w h => h) ty0 hty hnm hown hX.2.1 hP hD hS k0 hk0 hcl j hj (hw.use rfl hX.1) (fun x h => by rw [← hr0]; exact h) hf (hty j hj) hn hfit (by simp; exact hj) hd (fun H1 locs1 hP1 hD1 hS1 => ?_)
    exact k r hr H1 locs1 ls (hset ▸ hP1) hS1 hl
theorem ca_put {κ : ca_K} {cs : List ca_I} {cc : ByteArray} {nL : Nat} {own : String} {ret : Option FieldType} {fr lo : Nat} {ρ : Type} {Z : ρ → State → Prop} {σ : ca_S} {pc q : Nat} {lv : List (Nat × Value)} {st : List Value} {X : Option ρ} (hC : ca_C κ cs cc nL own ret fr lo) {C ref : String} {T : u_T} {N ci i j : Nat} {c0 : ca_I} {x : Int32} {ty0 : Nat → FieldType} (hin : ∀ w ∈ u_ws C T N, w ∈ lw_tbl) (hty : ∀ k, k < N → parseFieldDescriptor (T k).2.2.1 = some (ty0 k)) (hnm : ∀ a, a < N → ∀ b, b < N → a ≠ b → (T a).2.1 ≠ (T b).2.1) (hcl : vwCl[ci]? = some (C, T, N)) (hlay : ∀ k, k < N → ca_ok (u_lay C T k) = true) (hm : c0 ∈ cs) (ho : ca_ob c0.1 = some (ci, N)) (hj : j < N) (hr0 : (T j).1 = ref) (hf : (T j).2.2.2 = false) (hw : ca_Yw (.fieldLink own i ref (T j).2.1 (T j).2.2.1) ∨ ∃ host, ca_Yw (.fieldLinkNest own i ref (T j).2.1 (T j).2.2.1 host)) (hrf : ca_rf c0 j = none) (hlg : ca_lg c0 j = false) (hn : narrow (ty0 j) (.int x) = .int x) (hfit : fits (ty0 j) (.int x) = true) (hd : decode cc pc = .ok (.putfield i, 3)) (hq : pc + 3 = q) (k : ca_T κ Z (ca_st σ c0 j x) q lv st X) : ca_T κ Z σ pc lv (.int x :: .ref (ca_a κ c0) :: st) X :=
  ca_put0 hC hin hty hnm hcl hlay hm ho hj hr0 hf hw hn hfit (ca_E_put ho hrf hlg) (fun _ _ h => ca_E_ne h) hd hq k
theorem ca_ildQ {κ : ca_K} {cs : List ca_I} {cc : ByteArray} {nL : Nat} {own : String} {ret : Option FieldType} {fr lo : Nat} {ρ : Type} {Z : ρ → State → Prop} {σ : ca_S} {pc q : Nat} {lv : List (Nat × Value)} {st : List Value} {X : Option ρ} (hC : ca_C κ cs cc nL own ret fr lo) {c0 : ca_I} {n : Nat} {x : Int32} (hm : c0 ∈ cs) (h1 : ca_ob c0.1 = none) (h2 : ca_ra c0.1 = none) (h3 : ca_ia c0 = (0, n)) (hd : decode cc pc = .ok (.iaload, 1)) (hq : pc + 1 = q) (k : ca_in x n = true → ca_T κ Z σ q lv (.int (σ.1 c0 x.toNatClampNeg) :: st) X) : ca_T κ Z σ pc lv (.int x :: .ref (ca_a κ c0) :: st) (ca_gd (ca_in x n) X) := by
  obtain ⟨Γ, cs', p, l, e, R, s, m, args, below, meth, c, nL'⟩ := κ
  obtain ⟨rfl, rfl, hx, hb, hml, hown, hX, -⟩ := hC
  subst hq
  intro r hr H locs ls hP hS hl
  cases hg : ca_in x n with
  | false => rw [hg] at hr; cases hr
  | true =>
    rw [hg] at hr
    obtain ⟨k0, hk0, -⟩ := ca_lay_get (Γ := Γ) σ hm
    rw [ca_E_ia h1 h2, h3] at hk0
    exact va_iald hx hb hX.2.1 hP k0 0 hk0 rfl (ca_in_vp hg) hd (k hg r hr H locs ls hP hS hl)
theorem ca_zldQ {κ : ca_K} {cs : List ca_I} {cc : ByteArray} {nL : Nat} {own : String} {ret : Option FieldType} {fr lo : Nat} {ρ : Type} {Z : ρ → State → Prop} {σ : ca_S} {pc q : Nat} {lv : List (Nat × Value)} {st : List Value} {X : Option ρ} (hC : ca_C κ cs cc nL own ret fr lo) {c0 : ca_I} {n : Nat} {x : Int32} (hm : c0 ∈ cs) (h1 : ca_ob c0.1 = none) (h2 : ca_ra c0.1 = none) (h3 : ca_ia c0 = (1, n)) (hd : decode cc pc = .ok (.baload, 1)) (hq : pc + 1 = q) (k : ca_in x n = true → ca_T κ Z σ q lv (.int (σ.1 c0 x.toNatClampNeg) :: st) X) : ca_T κ Z σ pc lv (.int x :: .ref (ca_a κ c0) :: st) (ca_gd (ca_in x n) X) := by
  obtain ⟨Γ, cs', p, l, e, R, s, m, args, below, meth, c, nL'⟩ := κ
  obtain ⟨rfl, rfl, hx, hb, hml, hown, hX, -⟩ := hC
  subst hq
  intro r hr H locs ls hP hS hl
  cases hg : ca_in x n with
  | false => rw [hg] at hr; cases hr
  | true =>
    rw [hg] at hr
    obtain ⟨k0, hk0, -⟩ := ca_lay_get (Γ := Γ) σ hm
    rw [ca_E_ia h1 h2, h3] at hk0
    exact va_zald hx hb hX.2.1 hP k0 1 hk0 rfl (ca_in_vp hg) hd (k hg r hr H locs ls hP hS hl)
theorem ca_istQ {κ : ca_K} {cs : List ca_I} {cc : ByteArray} {nL : Nat} {own : String} {ret : Option FieldType} {fr lo : Nat} {ρ : Type} {Z : ρ → State → Prop} {σ : ca_S} {pc q : Nat} {lv : List (Nat × Value)} {st : List Value} {X : Option ρ} (hC : ca_C κ cs cc nL own ret fr lo) {c0 : ca_I} {n : Nat} {x v : Int32} (hm : c0 ∈ cs) (h1 : ca_ob c0.1 = none) (h2 : ca_ra c0.1 = none) (h3 : ca_ia c0 = (0, n)) (hd : decode cc pc = .ok (.iastore, 1)) (hq : pc + 1 = q) (k : ca_in x n = true → ca_T κ Z (ca_st σ c0 x.toNatClampNeg v) q lv st X) : ca_T κ Z σ pc lv (.int v :: .int x :: .ref (ca_a κ c0) :: st) (ca_gd (ca_in x n) X) := by
  obtain ⟨Γ, cs', p, l, e, R, s, m, args, below, meth, c, nL'⟩ := κ
  obtain ⟨rfl, rfl, hx, hb, hml, hown, hX, -⟩ := hC
  subst hq
  intro r hr H locs ls hP hS hl
  cases hg : ca_in x n with
  | false => rw [hg] at hr; cases hr
  | true =>
    rw [hg] at hr
    obtain ⟨k0, hk0, hk1⟩ := ca_lay_get (Γ := Γ) σ hm
    have hset := ca_lay_set (Γ := Γ) (σ := σ) (σ' := ca_st σ c0 x.toNatClampNeg v) hX.2.2.1.1 hk1 (fun _ _ h => ca_E_ne h)
    rw [ca_E_ia h1 h2, h3] at hk0 hset
    have hD := ca_lay_D (Γ := Γ) σ hX.2.2.1.1 hX.2.2.1.2
    refine va_iast hx hb hX.2.1 hP hD hS k0 0 hk0 rfl (ca_in_vp hg) hd (fun H1 locs1 hP1 hD1 hS1 => ?_)
    have e1 : (ca_st σ c0 x.toNatClampNeg v).1 c0 = upd (σ.1 c0) x.toNatClampNeg v := by
      rw [ca_st_eq]
      rfl
    rw [e1] at hset
    exact k hg r hr H1 locs1 ls (hset ▸ hP1) hS1 hl
theorem ca_zstQ {κ : ca_K} {cs : List ca_I} {cc : ByteArray} {nL : Nat} {own : String} {ret : Option FieldType} {fr lo : Nat} {ρ : Type} {Z : ρ → State → Prop} {σ : ca_S} {pc q : Nat} {lv : List (Nat × Value)} {st : List Value} {X : Option ρ} (hC : ca_C κ cs cc nL own ret fr lo) {c0 : ca_I} {n : Nat} {x v : Int32} (hm : c0 ∈ cs) (h1 : ca_ob c0.1 = none) (h2 : ca_ra c0.1 = none) (h3 : ca_ia c0 = (1, n)) (hv : vp_nar .boolean v = v) (hd : decode cc pc = .ok (.bastore, 1)) (hq : pc + 1 = q) (k : ca_in x n = true → ca_T κ Z (ca_st σ c0 x.toNatClampNeg v) q lv st X) : ca_T κ Z σ pc lv (.int v :: .int x :: .ref (ca_a κ c0) :: st) (ca_gd (ca_in x n) X) := by
  obtain ⟨Γ, cs', p, l, e, R, s, m, args, below, meth, c, nL'⟩ := κ
  obtain ⟨rfl, rfl, hx, hb, hml, hown, hX, -⟩ := hC
  subst hq
  intro r hr H locs ls hP hS hl
  cases hg : ca_in x n with
  | false => rw [hg] at hr; cases hr
  | true =>
    rw [hg] at hr
    obtain ⟨k0, hk0, hk1⟩ := ca_lay_get (Γ := Γ) σ hm
    have hset := ca_lay_set (Γ := Γ) (σ := σ) (σ' := ca_st σ c0 x.toNatClampNeg v) hX.2.2.1.1 hk1 (fun _ _ h => ca_E_ne h)
    rw [ca_E_ia h1 h2, h3] at hk0 hset
    have hD := ca_lay_D (Γ := Γ) σ hX.2.2.1.1 hX.2.2.1.2
    refine va_zast hx hb hX.2.1 hP hD hS k0 1 hk0 rfl (ca_in_vp hg) hd (fun H1 locs1 hP1 hD1 hS1 => ?_)
    rw [hv] at hP1
    have e1 : (ca_st σ c0 x.toNatClampNeg v).1 c0 = upd (σ.1 c0) x.toNatClampNeg v := by
      rw [ca_st_eq]
      rfl
    rw [e1] at hset
    exact k hg r hr H1 locs1 ls (hset ▸ hP1) hS1 hl
theorem ca_aldQ {κ : ca_K} {cs : List ca_I} {cc : ByteArray} {nL : Nat} {own : String} {ret : Option FieldType} {fr lo : Nat} {ρ : Type} {Z : ρ → State → Prop} {σ : ca_S} {pc q : Nat} {lv : List (Nat × Value)} {st : List Value} {X : Option ρ} (hC : ca_C κ cs cc nL own ret fr lo) {c0 : ca_I} {t n : Nat} {x : Int32} (hm : c0 ∈ cs) (h1 : ca_ob c0.1 = none) (h2 : ca_ra c0.1 = some (t, n)) (ty : FieldType) (hty : ty.isReference = true) (ht : (ca_tys κ.1)[t]? = some (κ.1.2.2.1 t, ty)) (hd : decode cc pc = .ok (.aaload, 1)) (hq : pc + 1 = q) (k : ca_in x n = true → ca_T κ Z σ q lv (.ref (ca_a κ (ca_ch c0 x.toNatClampNeg)) :: st) X) : ca_T κ Z σ pc lv (.int x :: .ref (ca_a κ c0) :: st) (ca_gd (ca_in x n) X) := by
  obtain ⟨Γ, cs', p, l, e, R, s, m, args, below, meth, c, nL'⟩ := κ
  obtain ⟨rfl, rfl, hx, hb, hml, hown, hX, -⟩ := hC
  subst hq
  intro r hr H locs ls hP hS hl
  cases hg : ca_in x n with
  | false => rw [hg] at hr; cases hr
  | true =>
    rw [hg] at hr
    obtain ⟨k0, hk0, -⟩ := ca_lay_get (Γ := Γ) σ hm
    rw [ca_E_ra h1 h2] at hk0
    have hin := ca_in_vp hg
    have hlt := ca_in_lt hg
    exact W.aald (v := va_rf ((fun i => some (Γ.2.1 (ca_ch c0 i))) x.toNatClampNeg)) (ty := ty) hx hb (hP k0 _ hk0) ((hX.2.1.2 t _ ht).1 n (fun j => va_rf ((fun i => some (Γ.2.1 (ca_ch c0 i))) j))) hty (fun q => by cases q) (by show ¬ (x < 0 ∨ (arrV _ _ _).slots.size ≤ _); rw [arrV_size]; exact hin) (by show (arrV _ _ _).slots[_]? = _; rw [arrV_read _ _ hlt]) rfl rfl hd (k hg r hr H locs ls hP hS hl)
-- ===== ends =====
theorem ca_ireti {κ : ca_K} {cs : List ca_I} {cc : ByteArray} {nL : Nat} {own : String} {ty : FieldType} {fr lo : Nat} {σ : ca_S} {pc : Nat} {lv : List (Nat × Value)} (hC : ca_C κ cs cc nL own (some ty) fr lo) {x : Int32} (hd : decode cc pc = .ok (.ireturn, 1)) (hn : narrow ty (.int x) = .int x) : ca_T κ (ca_Zi κ) σ pc lv [.int x] (some (x, σ)) := by
  obtain ⟨Γ, cs', p, l, e, R, s, m, args, below, meth, c, nL'⟩ := κ
  obtain ⟨rfl, rfl, hx, hb, hml, hown, hX, hlk, hrt, -⟩ := hC
  intro r hr H locs ls hP hS hl
  cases hr
  exact W.zret (Qc := ca_Qi Γ cs' (x, σ)) hx hb hrt hn (fun t ht _ => ⟨⟨x, (), rfl, rfl, by show va_P _ _ _ t.heap; rw [ht]; exact hP⟩, hS.F ht⟩) hS.2.2 hd hlk
theorem ca_iretr {κ : ca_K} {cs : List ca_I} {cc : ByteArray} {nL : Nat} {own : String} {ty : FieldType} {fr lo : Nat} {σ : ca_S} {pc : Nat} {lv : List (Nat × Value)} (hC : ca_C κ cs cc nL own (some ty) fr lo) {x : Int32} (hd : decode cc pc = .ok (.ireturn, 1)) (hn : narrow ty (.int x) = .int x) : ca_T κ (ca_Zr κ σ) σ pc lv [.int x] (some x) := by
  obtain ⟨Γ, cs', p, l, e, R, s, m, args, below, meth, c, nL'⟩ := κ
  obtain ⟨rfl, rfl, hx, hb, hml, hown, hX, hlk, hrt, -⟩ := hC
  intro r hr H locs ls hP hS hl
  cases hr
  exact W.zret (Qc := ca_Qi Γ cs' (x, σ)) hx hb hrt hn (fun t ht _ => ⟨⟨x, (), rfl, rfl, by show va_P _ _ _ t.heap; rw [ht]; exact hP⟩, hS.F ht⟩) hS.2.2 hd hlk
/-- a truth value: 0 or 1 -/
def ca_bo (x : Int32) : Bool := decide (x = 0) || decide (x = 1)
theorem ca_bo_n {x : Int32} (h : ca_bo x = true) : narrow .boolean (.int x) = .int x := by
  simp only [ca_bo, Bool.or_eq_true, decide_eq_true_eq] at h
  rcases h with rfl | rfl <;> rfl
theorem ca_bo_f {x : Int32} (h : ca_bo x = true) : fits .boolean (.int x) = true := by
  simp only [ca_bo, Bool.or_eq_true, decide_eq_true_eq] at h
  rcases h with rfl | rfl <;> rfl
theorem ca_grd {ρ : Type} {κ : ca_K} {Z : ρ → State → Prop} {σ : ca_S} {pc : Nat} {lv : List (Nat × Value)} {st : List Value} {X : Option ρ} {b : Bool} (k : b = true → ca_T κ Z σ pc lv st X) : ca_T κ Z σ pc lv st (ca_gd b X) := by
  cases b with
  | false => exact ca_no
  | true => exact k rfl
theorem ca_vret {κ : ca_K} {cs : List ca_I} {cc : ByteArray} {nL : Nat} {own : String} {fr lo : Nat} {σ : ca_S} {pc : Nat} {lv : List (Nat × Value)} (hC : ca_C κ cs cc nL own none fr lo) (hd : decode cc pc = .ok (.return_, 1)) : ca_T κ (ca_Zv κ) σ pc lv [] (some σ) := by
  obtain ⟨Γ, cs', p, l, e, R, s, m, args, below, meth, c, nL'⟩ := κ
  obtain ⟨rfl, rfl, hx, hb, hml, hown, hX, hlk, hrt, -⟩ := hC
  intro r hr H locs ls hP hS hl
  cases hr
  exact W.vret (Qc := ca_Qv Γ cs' σ) hx hb hrt (fun t ht _ => ⟨⟨(), rfl, trivial, by show va_P _ _ _ t.heap; rw [ht]; exact hP⟩, hS.F ht⟩) hS.2.2 hd hlk
/-- a method's contract out of its walk -/
theorem ca_met {ρ : Type} {Q : ρ → Array Value → State → Outcome → State → Prop} {Γ : ca_G} {cs : List ca_I} {l : Launch} {y : MethodName} {cc : ByteArray} {nL : Nat} {ret : Option FieldType} {fr lo : Nat} {av : List Value} {σ : ca_S} {X : Option ρ} (hy : plainName y.cls = true) (hlen : (lg_sl av).length ≤ nL) {lv : List (Nat × Value)} (hlv : lv_args 0 av = lv) (body : ∀ κ : ca_K, κ.1 = Γ → κ.2.1 = cs → ca_C κ cs cc nL y.cls ret fr lo → ca_T κ (ca_Z Q κ) σ 0 lv [] X) : ca_M Q Γ cs l y cc nL ret fr lo av σ X := by
  intro r hr
  refine Met.ofW (cc := cc) (maxL := nL) (ret := ret) hy rfl ?_
  intro p e s m args below meth c s₁ B hml hv
  obtain ⟨hav, hX, hP⟩ := hv
  subst hav
  have hb := body (Γ, cs, p, l, e, (headSpec [Cond.code y cc nL ret] { frames := fr, cells := 0, slots := 0, locals := lo }).room, s, m, av.toArray, below, meth, c, nL) rfl rfl ⟨rfl, rfl, B.exec, B.bytes, hml, findClass_of_methodNamed B.named, hX, B.notSynchronized, B.returns, Nat.le_refl _, Nat.le_refl _⟩
  rw [lg_entry_eq]
  exact hb r hr s.heap [] _ hP va_S.rf (hlv ▸ lv_entry av hlen)
-- ===== calls =====
def ca_Yv (y : MethodName) (C : String) (cc : ByteArray) (nL : Nat) (ret : Option FieldType) (n : Nat) : Prop := ca_Yw (.instanceMethod y) ∧ ca_Yw (.selects C y y) ∧ ca_Yw (.initialized y.cls) ∧ ca_Yw (.code y cc nL ret) ∧ y.cls ≠ "java/lang/invoke/MethodHandle" ∧ y.cls ≠ "java/lang/invoke/VarHandle" ∧ (parseMethodDescriptor y.desc).map (fun d => d.parameters.length) = some n
def ca_Ys (y : MethodName) (cc : ByteArray) (nL : Nat) (ret : Option FieldType) (n : Nat) : Prop := ca_Yw (.static y) ∧ ca_Yw (.initialized y.cls) ∧ ca_Yw (.code y cc nL ret) ∧ y.cls ≠ "java/lang/invoke/MethodHandle" ∧ y.cls ≠ "java/lang/invoke/VarHandle" ∧ (parseMethodDescriptor y.desc).map (fun d => d.parameters.length) = some n
def ca_Yl (own : String) (i : Nat) (y : MethodName) : Prop := ca_Yw (.methodLink own i y) ∨ ∃ host, ca_Yw (.methodLinkNest own i y host)
theorem ca_pln {y : MethodName} {n : Nat} (h : (parseMethodDescriptor y.desc).map (fun d => d.parameters.length) = some n) : ∀ sig, parseMethodDescriptor y.desc = some sig → n = sig.parameters.length := by
  intro sig hs
  rw [hs] at h
  exact (Option.some.inj h).symm
theorem ca_blind {Γ : ca_G} {cs : List ca_I} {σ : ca_S} {av : List Value} : FrameBlind (va_Pc av (fun U => ca_X Γ cs U ∧ va_P Γ.1 vwCl (ca_lay Γ cs σ) U.heap)) := by
  intro a U g mk h
  exact ⟨h.1, ca_X.warm (U := U.calling g mk a) (State.WarmedH.refl U) (fun _ _ _ => rfl) h.2.1, h.2.2⟩
/-- a call of a method of an object: the run -/
theorem ca_runV {Γ : ca_G} {cs : List ca_I} {p : Program} {l : Launch} {e : Env} {R : Room} {s : State} {m : MethodId} {args : Array Value} {below : List Frame} {meth : Method} {c : Code} {nL : Nat} {cc : ByteArray} {own : String} {H : Heap} {locs : List Loc} {cells slots pc : Nat} {ls : Array Slot} {stk : List Value} {lv : List (Nat × Value)} {σ : ca_S} {Qr : Array Value → State → Outcome → State → Prop} {y : MethodName} {C : String} {T : u_T} {N : Nat} {bytes : ByteArray} {mL n i f2 l2 ci : Nat} {rt : Option FieldType} {c0 : ca_I} {As rest : List Value} (hx : p.tables.exec = Jvm.exec) (hb : c.code = cc) (hml : c.maxLocals = nL) (hown : s.vm.findClass own = some m.cls) (hX : ca_X Γ cs s) (hP : va_P Γ.1 vwCl (ca_lay Γ cs σ) H) (hS : ∀ q : Nat, q < s.heap.size → ¬ ca_Ad Γ cs q → H[q]? = s.heap[q]?) (hl : lv_has ls nL lv)
    (hM : Met l y [.code y bytes mL rt] { frames := f2, cells := 0, slots := 0, locals := l2 } (va_Pc (.ref (Γ.2.1 c0) :: As) (fun U => ca_X Γ cs U ∧ va_P Γ.1 vwCl (ca_lay Γ cs σ) U.heap)) Qr 0 0 (ca_Ad Γ cs)) (hY : ca_Yv y C bytes mL rt n) (hL : ca_Yl own i y) (hm : c0 ∈ cs) (ho : ca_ob c0.1 = some (ci, N)) (hcl : vwCl[ci]? = some (C, T, N)) (hn : As.length = n) (hstk : stk = As.reverse ++ .ref (Γ.2.1 c0) :: rest) (hc8 : (rest.map fun v => v.category).sum ≤ 8) (hR : f2 + 1 ≤ R.frames ∧ 8 + (mL + 11) + l2 ≤ R.locals) (hf : cells + 0 ≤ R.cells ∧ slots + 0 ≤ R.slots) (hd : decode cc pc = .ok (.invokevirtual i, 3)) :
    va_Run p l e R s m args below meth c H locs cells slots 0 0 (F0 m pc ls stk) rest (Qr (Value.ref (Γ.2.1 c0) :: As).toArray) (ca_Ad Γ cs) := by
  obtain ⟨k0, hk0, -⟩ := ca_lay_get (Γ := Γ) σ hm
  rw [ca_E_ob ho] at hk0
  obtain ⟨h1, h2, h3, h4, h5, h6, h7⟩ := hY
  have hpre : PreV s H C (Γ.2.1 c0) (va_Pc (.ref (Γ.2.1 c0) :: As) (fun U => ca_X Γ cs U ∧ va_P Γ.1 vwCl (ca_lay Γ cs σ) U.heap)) As := ⟨ca_blind, va_recv hX.2.1 hP hcl hk0, fun U hU hW => ⟨rfl, ca_X.warm hW (fun q g1 g2 => by rw [hU]; exact hS q g1 g2) hX, by rw [hU]; exact hP⟩⟩
  have hcode : (Cond.code y bytes mL rt).before args s = true := h4.use rfl hX.1
  have hpay : ∀ w ∈ [Cond.code y bytes mL rt], ∀ (a' : Array Value) (U : State), s.WarmedH U.vm → w.before a' U = true := fun w hw a' U hW => by
    rw [List.mem_singleton.mp hw]
    exact h4.use rfl (hX.1.warm hW)
  rcases hL with hL | ⟨host, hL⟩
  · exact va_runV (Ts := []) (bytes := bytes) (maxL := mL) (ret := rt) ⟨hx, hb, hml, hown, fun _ h => by cases h⟩ hM ⟨⟨rfl, rfl, hR.1, hR.2, hpay, List.mem_singleton.mpr rfl, hcode, h3.use rfl hX.1, ⟨h5, h6⟩, ca_pln h7, hL.use rfl hX.1⟩, h1.use rfl hX.1, h2.use rfl hX.1⟩ hpre rfl hn hl.1 hstk (lv_room hc8) hd hf
  · exact va_runVN (Ts := []) (bytes := bytes) (maxL := mL) (ret := rt) ⟨hx, hb, hml, hown, fun _ h => by cases h⟩ hM ⟨⟨⟨rfl, rfl, hR.1, hR.2, hpay, List.mem_singleton.mpr rfl⟩, hcode, h3.use rfl hX.1, ⟨h5, h6⟩, ca_pln h7, hL.use rfl hX.1⟩, h1.use rfl hX.1, h2.use rfl hX.1⟩ hpre rfl hn hl.1 hstk (lv_room hc8) hd hf
theorem ca_runS {Γ : ca_G} {cs : List ca_I} {p : Program} {l : Launch} {e : Env} {R : Room} {s : State} {m : MethodId} {args : Array Value} {below : List Frame} {meth : Method} {c : Code} {nL : Nat} {cc : ByteArray} {own : String} {H : Heap} {locs : List Loc} {cells slots pc : Nat} {ls : Array Slot} {stk : List Value} {lv : List (Nat × Value)} {σ : ca_S} {Qr : Array Value → State → Outcome → State → Prop} {y : MethodName} {bytes : ByteArray} {mL n i f2 l2 : Nat} {rt : Option FieldType} {As rest : List Value} (hx : p.tables.exec = Jvm.exec) (hb : c.code = cc) (hml : c.maxLocals = nL) (hown : s.vm.findClass own = some m.cls) (hX : ca_X Γ cs s) (hP : va_P Γ.1 vwCl (ca_lay Γ cs σ) H) (hS : ∀ q : Nat, q < s.heap.size → ¬ ca_Ad Γ cs q → H[q]? = s.heap[q]?) (hl : lv_has ls nL lv)
    (hM : Met l y [.code y bytes mL rt] { frames := f2, cells := 0, slots := 0, locals := l2 } (va_Pc As (fun U => ca_X Γ cs U ∧ va_P Γ.1 vwCl (ca_lay Γ cs σ) U.heap)) Qr 0 0 (ca_Ad Γ cs)) (hY : ca_Ys y bytes mL rt n) (hL : ca_Yl own i y) (hn : As.length = n) (hstk : stk = As.reverse ++ rest) (hc8 : (rest.map fun v => v.category).sum ≤ 8) (hR : f2 + 1 ≤ R.frames ∧ 8 + (mL + 11) + l2 ≤ R.locals) (hf : cells + 0 ≤ R.cells ∧ slots + 0 ≤ R.slots) (hd : decode cc pc = .ok (.invokestatic i, 3)) :
    va_Run p l e R s m args below meth c H locs cells slots 0 0 (F0 m pc ls stk) rest (Qr As.toArray) (ca_Ad Γ cs) := by
  obtain ⟨h1, h3, h4, h5, h6, h7⟩ := hY
  have hpre : PreS s H (va_Pc As (fun U => ca_X Γ cs U ∧ va_P Γ.1 vwCl (ca_lay Γ cs σ) U.heap)) As := ⟨ca_blind, fun U hU hW => ⟨rfl, ca_X.warm hW (fun q g1 g2 => by rw [hU]; exact hS q g1 g2) hX, by rw [hU]; exact hP⟩⟩
  have hcode : (Cond.code y bytes mL rt).before args s = true := h4.use rfl hX.1
  have hpay : ∀ w ∈ [Cond.code y bytes mL rt], ∀ (a' : Array Value) (U : State), s.WarmedH U.vm → w.before a' U = true := fun w hw a' U hW => by
    rw [List.mem_singleton.mp hw]
    exact h4.use rfl (hX.1.warm hW)
  rcases hL with hL | ⟨host, hL⟩
  · exact va_runS (Ts := []) (bytes := bytes) (maxL := mL) (ret := rt) ⟨hx, hb, hml, hown, fun _ h => by cases h⟩ hM ⟨⟨rfl, rfl, hR.1, hR.2, hpay, List.mem_singleton.mpr rfl, hcode, h3.use rfl hX.1, ⟨h5, h6⟩, ca_pln h7, hL.use rfl hX.1⟩, h1.use rfl hX.1⟩ hpre rfl hn hl.1 hstk (lv_room hc8) hd hf
  · exact va_runSN (Ts := []) (bytes := bytes) (maxL := mL) (ret := rt) ⟨hx, hb, hml, hown, fun _ h => by cases h⟩ hM ⟨⟨⟨rfl, rfl, hR.1, hR.2, hpay, List.mem_singleton.mpr rfl⟩, hcode, h3.use rfl hX.1, ⟨h5, h6⟩, ca_pln h7, hL.use rfl hX.1⟩, h1.use rfl hX.1, trivial⟩ hpre rfl hn hl.1 hstk (lv_room hc8) hd hf
theorem ca_callVi {κ : ca_K} {cs : List ca_I} {cc : ByteArray} {nL : Nat} {own : String} {ret : Option FieldType} {fr lo : Nat} {ρ : Type} {Z : ρ → State → Prop} {σ : ca_S} {pc q : Nat} {lv : List (Nat × Value)} {rest stk : List Value} (hC : ca_C κ cs cc nL own ret fr lo) {y : MethodName} {bytes : ByteArray} {mL n i f2 l2 : Nat} {rt : Option FieldType} {As : List Value} {C : String} {T : u_T} {N ci : Nat} {c0 : ca_I} {Xc : Option (Int32 × ca_S)} {X : Int32 → ca_S → Option ρ} (hM : ca_Mi κ.1 cs κ.2.2.2.1 y bytes mL rt f2 l2 (.ref (ca_a κ c0) :: As) σ Xc) (hY : ca_Yv y C bytes mL rt n) (hL : ca_Yl own i y) (hm : c0 ∈ cs) (ho : ca_ob c0.1 = some (ci, N)) (hcl : vwCl[ci]? = some (C, T, N)) (hn : As.length = n) (hstk : stk = As.reverse ++ .ref (ca_a κ c0) :: rest) (hc8 : (rest.map fun v => v.category).sum ≤ 8) (hR : f2 + 1 ≤ fr ∧ 8 + (mL + 11) + l2 ≤ lo) (hd : decode cc pc = .ok (.invokevirtual i, 3)) (hq : pc + 3 = q) (k : ∀ r σ', Xc = some (r, σ') → ca_T κ Z σ' q lv (.int r :: rest) (X r σ')) : ca_T κ Z σ pc lv stk (ca_bi Xc X) := by
  obtain ⟨Γ, cs', p, l, e, R, s, m, args, below, meth, c, nL'⟩ := κ
  obtain ⟨rfl, rfl, hx, hb, hml, hown, hX, hlk, hrt, hfr, hlo⟩ := hC
  subst hq
  intro r hr H locs ls hP hS hl
  cases hc : Xc with
  | none => rw [hc] at hr; cases hr
  | some rc =>
    rw [hc] at hr
    refine va_calli (A1 := ca_Ad Γ cs') (ca_runV hx hb hml hown hX hP hS.2.1 hl (hM rc hc) hY hL hm ho hcl hn hstk hc8 ⟨Nat.le_trans hR.1 hfr, Nat.le_trans hR.2 hlo⟩ ⟨Nat.zero_le _, Nat.zero_le _⟩ hd) hS (fun q _ h => h) (fun q h => h) (fun r2 u t H1 locs1 ht hvm hp hB hz hk2 hS1 => ?_)
    subst hp
    exact k rc.1 rc.2 hc r hr H1 locs1 ls (ht ▸ hB) hS1 hl
theorem ca_callVr {κ : ca_K} {cs : List ca_I} {cc : ByteArray} {nL : Nat} {own : String} {ret : Option FieldType} {fr lo : Nat} {ρ : Type} {Z : ρ → State → Prop} {σ : ca_S} {pc q : Nat} {lv : List (Nat × Value)} {rest stk : List Value} (hC : ca_C κ cs cc nL own ret fr lo) {y : MethodName} {bytes : ByteArray} {mL n i f2 l2 : Nat} {rt : Option FieldType} {As : List Value} {C : String} {T : u_T} {N ci : Nat} {c0 : ca_I} {Xc : Option Int32} {X : Int32 → Option ρ} (hM : ca_Mr κ.1 cs κ.2.2.2.1 y bytes mL rt f2 l2 (.ref (ca_a κ c0) :: As) σ Xc) (hY : ca_Yv y C bytes mL rt n) (hL : ca_Yl own i y) (hm : c0 ∈ cs) (ho : ca_ob c0.1 = some (ci, N)) (hcl : vwCl[ci]? = some (C, T, N)) (hn : As.length = n) (hstk : stk = As.reverse ++ .ref (ca_a κ c0) :: rest) (hc8 : (rest.map fun v => v.category).sum ≤ 8) (hR : f2 + 1 ≤ fr ∧ 8 + (mL + 11) + l2 ≤ lo) (hd : decode cc pc = .ok (.invokevirtual i, 3)) (hq : pc + 3 = q) (k : ∀ r, Xc = some r → ca_T κ Z σ q lv (.int r :: rest) (X r)) : ca_T κ Z σ pc lv stk (ca_br Xc X) := by
  obtain ⟨Γ, cs', p, l, e, R, s, m, args, below, meth, c, nL'⟩ := κ
  obtain ⟨rfl, rfl, hx, hb, hml, hown, hX, hlk, hrt, hfr, hlo⟩ := hC
  subst hq
  intro r hr H locs ls hP hS hl
  cases hc : Xc with
  | none => rw [hc] at hr; cases hr
  | some rc =>
    rw [hc] at hr
    refine va_calli (A1 := ca_Ad Γ cs') (ca_runV hx hb hml hown hX hP hS.2.1 hl (hM rc hc) hY hL hm ho hcl hn hstk hc8 ⟨Nat.le_trans hR.1 hfr, Nat.le_trans hR.2 hlo⟩ ⟨Nat.zero_le _, Nat.zero_le _⟩ hd) hS (fun q _ h => h) (fun q h => h) (fun r2 u t H1 locs1 ht hvm hp hB hz hk2 hS1 => ?_)
    have hp : r2 = rc := hp
    rw [hp]
    exact k rc hc r hr H1 locs1 ls (ht ▸ hB) hS1 hl
theorem ca_callVv {κ : ca_K} {cs : List ca_I} {cc : ByteArray} {nL : Nat} {own : String} {ret : Option FieldType} {fr lo : Nat} {ρ : Type} {Z : ρ → State → Prop} {σ : ca_S} {pc q : Nat} {lv : List (Nat × Value)} {rest stk : List Value} (hC : ca_C κ cs cc nL own ret fr lo) {y : MethodName} {bytes : ByteArray} {mL n i f2 l2 : Nat} {rt : Option FieldType} {As : List Value} {C : String} {T : u_T} {N ci : Nat} {c0 : ca_I} {Xc : Option ca_S} {X : ca_S → Option ρ} (hM : ca_Mv κ.1 cs κ.2.2.2.1 y bytes mL rt f2 l2 (.ref (ca_a κ c0) :: As) σ Xc) (hY : ca_Yv y C bytes mL rt n) (hL : ca_Yl own i y) (hm : c0 ∈ cs) (ho : ca_ob c0.1 = some (ci, N)) (hcl : vwCl[ci]? = some (C, T, N)) (hn : As.length = n) (hstk : stk = As.reverse ++ .ref (ca_a κ c0) :: rest) (hc8 : (rest.map fun v => v.category).sum ≤ 8) (hR : f2 + 1 ≤ fr ∧ 8 + (mL + 11) + l2 ≤ lo) (hd : decode cc pc = .ok (.invokevirtual i, 3)) (hq : pc + 3 = q) (k : ∀ σ', Xc = some σ' → ca_T κ Z σ' q lv rest (X σ')) : ca_T κ Z σ pc lv stk (ca_bv Xc X) := by
  obtain ⟨Γ, cs', p, l, e, R, s, m, args, below, meth, c, nL'⟩ := κ
  obtain ⟨rfl, rfl, hx, hb, hml, hown, hX, hlk, hrt, hfr, hlo⟩ := hC
  subst hq
  intro r hr H locs ls hP hS hl
  cases hc : Xc with
  | none => rw [hc] at hr; cases hr
  | some rc =>
    rw [hc] at hr
    refine va_callv (A1 := ca_Ad Γ cs') (ca_runV hx hb hml hown hX hP hS.2.1 hl (hM rc hc) hY hL hm ho hcl hn hstk hc8 ⟨Nat.le_trans hR.1 hfr, Nat.le_trans hR.2 hlo⟩ ⟨Nat.zero_le _, Nat.zero_le _⟩ hd) hS (fun q _ h => h) (fun q h => h) (fun u t H1 locs1 ht hvm hp hB hz hk2 hS1 => ?_)
    exact k rc hc r hr H1 locs1 ls (ht ▸ hB) hS1 hl
theorem ca_callSi {κ : ca_K} {cs : List ca_I} {cc : ByteArray} {nL : Nat} {own : String} {ret : Option FieldType} {fr lo : Nat} {ρ : Type} {Z : ρ → State → Prop} {σ : ca_S} {pc q : Nat} {lv : List (Nat × Value)} {rest stk : List Value} (hC : ca_C κ cs cc nL own ret fr lo) {y : MethodName} {bytes : ByteArray} {mL n i f2 l2 : Nat} {rt : Option FieldType} {As : List Value}  {Xc : Option (Int32 × ca_S)} {X : Int32 → ca_S → Option ρ} (hM : ca_Mi κ.1 cs κ.2.2.2.1 y bytes mL rt f2 l2 As σ Xc) (hY : ca_Ys y bytes mL rt n) (hL : ca_Yl own i y) (hn : As.length = n) (hstk : stk = As.reverse ++ rest) (hc8 : (rest.map fun v => v.category).sum ≤ 8) (hR : f2 + 1 ≤ fr ∧ 8 + (mL + 11) + l2 ≤ lo) (hd : decode cc pc = .ok (.invokestatic i, 3)) (hq : pc + 3 = q) (k : ∀ r σ', Xc = some (r, σ') → ca_T κ Z σ' q lv (.int r :: rest) (X r σ')) : ca_T κ Z σ pc lv stk (ca_bi Xc X) := by
  obtain ⟨Γ, cs', p, l, e, R, s, m, args, below, meth, c, nL'⟩ := κ
  obtain ⟨rfl, rfl, hx, hb, hml, hown, hX, hlk, hrt, hfr, hlo⟩ := hC
  subst hq
  intro r hr H locs ls hP hS hl
  cases hc : Xc with
  | none => rw [hc] at hr; cases hr
  | some rc =>
    rw [hc] at hr
    refine va_calli (A1 := ca_Ad Γ cs') (ca_runS hx hb hml hown hX hP hS.2.1 hl (hM rc hc) hY hL hn hstk hc8 ⟨Nat.le_trans hR.1 hfr, Nat.le_trans hR.2 hlo⟩ ⟨Nat.zero_le _, Nat.zero_le _⟩ hd) hS (fun q _ h => h) (fun q h => h) (fun r2 u t H1 locs1 ht hvm hp hB hz hk2 hS1 => ?_)
    subst hp
    exact k rc.1 rc.2 hc r hr H1 locs1 ls (ht ▸ hB) hS1 hl
theorem ca_callSr {κ : ca_K} {cs : List ca_I} {cc : ByteArray} {nL : Nat} {own : String} {ret : Option FieldType} {fr lo : Nat} {ρ : Type} {Z : ρ → State → Prop} {σ : ca_S} {pc q : Nat} {lv : List (Nat × Value)} {rest stk : List Value} (hC : ca_C κ cs cc nL own ret fr lo) {y : MethodName} {bytes : ByteArray} {mL n i f2 l2 : Nat} {rt : Option FieldType} {As : List Value}  {Xc : Option Int32} {X : Int32 → Option ρ} (hM : ca_Mr κ.1 cs κ.2.2.2.1 y bytes mL rt f2 l2 As σ Xc) (hY : ca_Ys y bytes mL rt n) (hL : ca_Yl own i y) (hn : As.length = n) (hstk : stk = As.reverse ++ rest) (hc8 : (rest.map fun v => v.category).sum ≤ 8) (hR : f2 + 1 ≤ fr ∧ 8 + (mL + 11) + l2 ≤ lo) (hd : decode cc pc = .ok (.invokestatic i, 3)) (hq : pc + 3 = q) (k : ∀ r, Xc = some r → ca_T κ Z σ q lv (.int r :: rest) (X r)) : ca_T κ Z σ pc lv stk (ca_br Xc X) := by
  obtain ⟨Γ, cs', p, l, e, R, s, m, args, below, meth, c, nL'⟩ := κ
  obtain ⟨rfl, rfl, hx, hb, hml, hown, hX, hlk, hrt, hfr, hlo⟩ := hC
  subst hq
  intro r hr H locs ls hP hS hl
  cases hc : Xc with
  | none => rw [hc] at hr; cases hr
  | some rc =>
    rw [hc] at hr
    refine va_calli (A1 := ca_Ad Γ cs') (ca_runS hx hb hml hown hX hP hS.2.1 hl (hM rc hc) hY hL hn hstk hc8 ⟨Nat.le_trans hR.1 hfr, Nat.le_trans hR.2 hlo⟩ ⟨Nat.zero_le _, Nat.zero_le _⟩ hd) hS (fun q _ h => h) (fun q h => h) (fun r2 u t H1 locs1 ht hvm hp hB hz hk2 hS1 => ?_)
    have hp : r2 = rc := hp
    rw [hp]
    exact k rc hc r hr H1 locs1 ls (ht ▸ hB) hS1 hl
theorem ca_callSv {κ : ca_K} {cs : List ca_I} {cc : ByteArray} {nL : Nat} {own : String} {ret : Option FieldType} {fr lo : Nat} {ρ : Type} {Z : ρ → State → Prop} {σ : ca_S} {pc q : Nat} {lv : List (Nat × Value)} {rest stk : List Value} (hC : ca_C κ cs cc nL own ret fr lo) {y : MethodName} {bytes : ByteArray} {mL n i f2 l2 : Nat} {rt : Option FieldType} {As : List Value}  {Xc : Option ca_S} {X : ca_S → Option ρ} (hM : ca_Mv κ.1 cs κ.2.2.2.1 y bytes mL rt f2 l2 As σ Xc) (hY : ca_Ys y bytes mL rt n) (hL : ca_Yl own i y) (hn : As.length = n) (hstk : stk = As.reverse ++ rest) (hc8 : (rest.map fun v => v.category).sum ≤ 8) (hR : f2 + 1 ≤ fr ∧ 8 + (mL + 11) + l2 ≤ lo) (hd : decode cc pc = .ok (.invokestatic i, 3)) (hq : pc + 3 = q) (k : ∀ σ', Xc = some σ' → ca_T κ Z σ' q lv rest (X σ')) : ca_T κ Z σ pc lv stk (ca_bv Xc X) := by
  obtain ⟨Γ, cs', p, l, e, R, s, m, args, below, meth, c, nL'⟩ := κ
  obtain ⟨rfl, rfl, hx, hb, hml, hown, hX, hlk, hrt, hfr, hlo⟩ := hC
  subst hq
  intro r hr H locs ls hP hS hl
  cases hc : Xc with
  | none => rw [hc] at hr; cases hr
  | some rc =>
    rw [hc] at hr
    refine va_callv (A1 := ca_Ad Γ cs') (ca_runS hx hb hml hown hX hP hS.2.1 hl (hM rc hc) hY hL hn hstk hc8 ⟨Nat.le_trans hR.1 hfr, Nat.le_trans hR.2 hlo⟩ ⟨Nat.zero_le _, Nat.zero_le _⟩ hd) hS (fun q _ h => h) (fun q h => h) (fun u t H1 locs1 ht hvm hp hB hz hk2 hS1 => ?_)
    exact k rc hc r hr H1 locs1 ls (ht ▸ hB) hS1 hl
theorem ca_mmax {κ : ca_K} {cs : List ca_I} {cc : ByteArray} {nL : Nat} {own : String} {ret : Option FieldType} {fr lo : Nat} {ρ : Type} {Z : ρ → State → Prop} {σ : ca_S} {pc q : Nat} {lv : List (Nat × Value)} {st : List Value} {X : Option ρ} (hC : ca_C κ cs cc nL own ret fr lo) {x y : Int32} {i : Nat} (hw : ca_Yw (.methodLink own i Lib.Math.max.name)) (hw2 : ca_Yw (.static Lib.Math.max.name)) (hw3 : ca_Yw (.initialized "java/lang/Math")) (hw4 : ca_Yw (.code Lib.Math.max.name Lib.Math.max.code 2 (some .int))) (hfr2 : 1 ≤ fr) (hlo2 : (st.map fun v => v.category).sum + 13 ≤ lo) (hd : decode cc pc = .ok (.invokestatic i, 3)) (hq : pc + 3 = q) (k : ca_T κ Z σ q lv (.int (if x < y then y else x) :: st) X) : ca_T κ Z σ pc lv (.int y :: .int x :: st) X := by
  obtain ⟨Γ, cs', p, l, e, R, s, m, args, below, meth, c, nL'⟩ := κ
  obtain ⟨rfl, rfl, hx, hb, hml, hown, hX, hlk, hrt, hfr, hlo⟩ := hC
  subst hq
  intro r hr H locs ls hP hS hl
  exact va_mmax hx hb (hml.trans hl.1.symm) hown (hw.use rfl hX.1) (hw2.use rfl hX.1) (hw3.use rfl hX.1) (hw4.use rfl hX.1) (Nat.le_trans hfr2 hfr) (Nat.le_trans hlo2 hlo) (Nat.zero_le _) (Nat.zero_le _) hd (k r hr H locs ls hP hS hl)
theorem ca_mmin {κ : ca_K} {cs : List ca_I} {cc : ByteArray} {nL : Nat} {own : String} {ret : Option FieldType} {fr lo : Nat} {ρ : Type} {Z : ρ → State → Prop} {σ : ca_S} {pc q : Nat} {lv : List (Nat × Value)} {st : List Value} {X : Option ρ} (hC : ca_C κ cs cc nL own ret fr lo) {x y : Int32} {i : Nat} (hw : ca_Yw (.methodLink own i Lib.Math.min.name)) (hw2 : ca_Yw (.static Lib.Math.min.name)) (hw3 : ca_Yw (.initialized "java/lang/Math")) (hw4 : ca_Yw (.code Lib.Math.min.name Lib.Math.min.code 2 (some .int))) (hfr2 : 1 ≤ fr) (hlo2 : (st.map fun v => v.category).sum + 13 ≤ lo) (hd : decode cc pc = .ok (.invokestatic i, 3)) (hq : pc + 3 = q) (k : ca_T κ Z σ q lv (.int (if y < x then y else x) :: st) X) : ca_T κ Z σ pc lv (.int y :: .int x :: st) X := by
  obtain ⟨Γ, cs', p, l, e, R, s, m, args, below, meth, c, nL'⟩ := κ
  obtain ⟨rfl, rfl, hx, hb, hml, hown, hX, hlk, hrt, hfr, hlo⟩ := hC
  subst hq
  intro r hr H locs ls hP hS hl
  exact va_mmin hx hb (hml.trans hl.1.symm) hown (hw.use rfl hX.1) (hw2.use rfl hX.1) (hw3.use rfl hX.1) (hw4.use rfl hX.1) (Nat.le_trans hfr2 hfr) (Nat.le_trans hlo2 hlo) (Nat.zero_le _) (Nat.zero_le _) hd (k r hr H locs ls hP hS hl)
theorem ca_mabs {κ : ca_K} {cs : List ca_I} {cc : ByteArray} {nL : Nat} {own : String} {ret : Option FieldType} {fr lo : Nat} {ρ : Type} {Z : ρ → State → Prop} {σ : ca_S} {pc q : Nat} {lv : List (Nat × Value)} {st : List Value} {X : Option ρ} (hC : ca_C κ cs cc nL own ret fr lo) {x : Int32} {i : Nat} (hw : ca_Yw (.methodLink own i Lib.Math.abs.name)) (hw2 : ca_Yw (.static Lib.Math.abs.name)) (hw3 : ca_Yw (.initialized "java/lang/Math")) (hw4 : ca_Yw (.code Lib.Math.abs.name Lib.Math.abs.code 1 (some .int))) (hfr2 : 1 ≤ fr) (hlo2 : (st.map fun v => v.category).sum + 13 ≤ lo) (hd : decode cc pc = .ok (.invokestatic i, 3)) (hq : pc + 3 = q) (k : ca_T κ Z σ q lv (.int (if 0 ≤ x then x else 0 - x) :: st) X) : ca_T κ Z σ pc lv (.int x :: st) X := by
  obtain ⟨Γ, cs', p, l, e, R, s, m, args, below, meth, c, nL'⟩ := κ
  obtain ⟨rfl, rfl, hx, hb, hml, hown, hX, hlk, hrt, hfr, hlo⟩ := hC
  subst hq
  intro r hr H locs ls hP hS hl
  exact va_mabs hx hb (hml.trans hl.1.symm) hown (hw.use rfl hX.1) (hw2.use rfl hX.1) (hw3.use rfl hX.1) (hw4.use rfl hX.1) (Nat.le_trans hfr2 hfr) (Nat.le_trans hlo2 hlo) (Nat.zero_le _) (Nat.zero_le _) hd (k r hr H locs ls hP hS hl)
