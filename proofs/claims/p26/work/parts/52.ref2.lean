theorem ix_ll (a k : Nat) : (no_index (OfNat.ofNat a) : Int32) + nI k = nI (OfNat.ofNat a + k) := ix_ar k a
theorem ud_ne {f : Nat → Int32} {k j : Nat} {v : Int32} (h : j ≠ k) : upd f k v j = f j := if_neg h
abbrev gbit (x : Int32) (k : Nat) : Prop := ¬ (((x >>> (nI k &&& 31)) &&& 1) = 0)
def pit {α : Type} (F : Nat → α → α) : Nat → α → α
  | 0, a => a
  | b + 1, a => F b (pit F b a)
/-! the pure picture: g is the reference's row, its first 707 places are the oven -/
def gBelt (g : Nat → Int32) : Int32 := (((((0 + g (0 + 4 * 0 + 0)) + g (0 + 4 * 1 + 0)) + g (0 + 4 * 2 + 0)) + g (0 + 4 * 3 + 0)) + g (0 + 4 * 4 + 0)) + g (0 + 4 * 5 + 0)
def gMany (g : Nat → Int32) (s : Int32) (l : Nat) : Int32 := pit (fun b a => a + if g (56 + 21 * b + 2) = s then 1 else 0) l 0
def gFault (g : Nat → Int32) (x : Int32) (b k : Nat) (c : Int32) : Nat → Int32 := if x = 0 then g else if gbit (g (56 + 21 * b + 8)) k then g else upd (upd (upd g (56 + 21 * b + 8) (g (56 + 21 * b + 8) ||| ((1 : Int32) <<< (nI k &&& 31)))) (56 + 21 * b + (11 + k)) c) (56 + 21 * b + (16 + k)) (g 52)
