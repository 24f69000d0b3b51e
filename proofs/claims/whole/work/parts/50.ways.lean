-- ===== the ways to lay out th things, in plain numbers =====
def cz_fa : Nat → Nat
  | 0 => 1
  | n + 1 => Nat.mul (n + 1) (cz_fa n)
def cz_dg (a i : Nat) : Nat := Nat.mod (Nat.div a (Nat.pow 8 i)) 8
def cz_clr (D : Nat) : Nat → Nat → Nat → Nat
  | 0, _, b => b
  | k + 1, pl, b => if Nat.beq (Nat.mod (Nat.div D (Nat.pow 2 b)) 2) 1 then cz_clr D k pl (Nat.add b 1) else if Nat.beq pl 0 then b else cz_clr D k (Nat.sub pl 1) (Nat.add b 1)
def cz_ls (th w : Nat) : Nat → Nat × Nat × Nat
  | 0 => (0, w, 0)
  | i + 1 =>
    let s := cz_ls th w i
    let v := cz_fa (Nat.sub (Nat.sub th 1) i)
    let b := cz_clr s.1 8 (Nat.div s.2.1 v) 0
    (Nat.add s.1 (Nat.pow 2 b), Nat.mod s.2.1 v, Nat.add s.2.2 (Nat.mul b (Nat.pow 8 i)))
def cz_cc (th w : Nat) : Nat := (cz_ls th w th).2.2
def cz_rev (th c : Nat) : Nat → Nat
  | 0 => 0
  | i + 1 => Nat.add (Nat.mul (cz_rev th c i) 8) (cz_dg c i)
def cz_lk (th w i : Nat) : Bool :=
  let s := cz_ls th w i
  let v := cz_fa (Nat.sub (Nat.sub th 1) i)
  let pl := Nat.div s.2.1 v
  let b := cz_clr s.1 8 pl 0
  Nat.blt b th && Nat.beq (Nat.mod (Nat.div s.1 (Nat.pow 2 b)) 2) 0 && Nat.beq (cz_ct (fun j => Nat.beq (Nat.mod (Nat.div s.1 (Nat.pow 2 j)) 2) 0) b) pl && Nat.blt s.1 32 && Nat.blt s.2.1 1000 && Nat.beq (cz_dg (cz_cc th w) i) b
theorem cz_lk_all : ∀ th, th < 6 → 2 ≤ th → ∀ w, w < cz_fa th → ∀ i, i < th → cz_lk th w i = true := by decide +kernel
theorem cz_wf1 : ∀ th, th < 6 → 2 ≤ th → ∀ w, w < cz_fa th → (Nat.blt (cz_cc th w) (8 ^ th) && Nat.beq (cz_seen (cz_cc th w) th) (2 ^ th - 1)) = true := by decide +kernel
theorem cz_wf3 : ∀ th, th < 6 → 2 ≤ th → ∀ w, w < cz_fa th - 1 → Nat.blt (cz_rev th (cz_cc th w) th) (cz_rev th (cz_cc th (w + 1)) th) = true := by decide +kernel
