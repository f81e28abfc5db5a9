def gcv (g : Nat → Int32) (b : Nat) : Nat := (g (56 + 21 * b + 0)).toNatClampNeg
def gC (g : Nat → Int32) (b k : Nat) : Int32 := g (24 + 6 * gcv g b + k)
theorem gcv_eq {g : Nat → Int32} {b c : Nat} (h : g (56 + 21 * b + 0) = nI c) (h4 : c < 4) : gcv g b = c := by
  unfold gcv
  rw [h, ix_cl (by omega)]
theorem gFault_ne {g : Nat → Int32} {x c : Int32} {b k j : Nat} (h1 : j ≠ 56 + 21 * b + 8) (h2 : j ≠ 56 + 21 * b + (11 + k)) (h3 : j ≠ 56 + 21 * b + (16 + k)) : gFault g x b k c j = g j := by
  unfold gFault
  split
  · rfl
  split
  · rfl
  rw [ud_ne h3, ud_ne h2, ud_ne h1]
def gLeft (g : Nat → Int32) (b : Nat) (e : Int32) : Nat → Int32 := gFault (gFault (upd (upd g (56 + 21 * b + 2) 1) (56 + 21 * b + 10) (g 52)) (if gC g b 2 ≤ g (56 + 21 * b + 7) then 0 else 1) b 3 e) (if gC g b 4 ≤ g (56 + 21 * b + 6) then 0 else 1) b 4 e
def gGoOn (g : Nat → Int32) (b : Nat) : Nat → Int32 := if g (56 + 21 * b + 3) + g 48 < gBelt g then upd g (56 + 21 * b + 3) (g (56 + 21 * b + 3) + g 48) else gLeft (upd g (56 + 21 * b + 3) (g (56 + 21 * b + 3) + g 48)) b (gBelt g)
/-- a zone's warmth, by the weight in it -/
def gNew (w t q : Int32) : Int32 := if t ≤ (if 20 ≤ w then w else 20) then (if (if 20 ≤ w then w else 20) - q ≤ t then t else (if 20 ≤ w then w else 20) - q) else if t ≤ (if 20 ≤ w then w else 20) + q then t else (if 20 ≤ w then w else 20) + q
def gHeat (l : Nat) (z : Nat) (g : Nat → Int32) : Nat → Int32 := upd g (0 + 4 * z + 3) (gNew (g (0 + 4 * z + 3) - g 51 * gW g z l / 5) (g (0 + 4 * z + 1)) (g (0 + 4 * z + 2)))
