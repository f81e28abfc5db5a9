def gLe (x y : Int32) : Int32 := if x ≤ y then 0 else 1
def gWarmA (g : Nat → Int32) (b c : Nat) (rise deg : Int32) : Nat → Int32 := upd (upd (upd (upd g (56 + 21 * b + 5) rise) (56 + 21 * b + 4) deg) (56 + 21 * b + 6) (if deg ≤ g (56 + 21 * b + 6) then g (56 + 21 * b + 6) else deg)) (56 + 21 * b + 7) (g (56 + 21 * b + 7) + gLe deg (g (24 + 6 * c + 1)))
def gPlea (steep long : Int32) : Int32 := if steep = 0 then (if long = 0 then 0 else 2) else 1
def gWarmB (G : Nat → Int32) (b c : Nat) (cell deg steep long : Int32) : Nat → Int32 := upd (gFault (gFault (gFault G steep b 0 cell) long b 1 cell) (gLe deg (G (24 + 6 * c + 5))) b 2 cell) (56 + 21 * b + 9) (gPlea steep long)
def gRise (g : Nat → Int32) (b : Nat) : Int32 := (g (0 + 4 * gZone g (gcell g b) + 3) - g (56 + 21 * b + 4)) / (g (56 + 21 * b + 1) + 1)
def gWarm (b : Nat) (g : Nat → Int32) : Nat → Int32 := gWarmB (gWarmA g b (gcv g b) (gRise g b) (g (56 + 21 * b + 4) + gRise g b)) b (gcv g b) (g (56 + 21 * b + 3)) (g (56 + 21 * b + 4) + gRise g b) (gLe (gRise g b) (g (24 + 6 * gcv g b + 0))) (gLe (g (56 + 21 * b + 7) + gLe (g (56 + 21 * b + 4) + gRise g b) (g (24 + 6 * gcv g b + 1))) (g (24 + 6 * gcv g b + 3)))
theorem gLe_p {x y : Int32} (h : x ≤ y) : gLe x y = 0 := if_pos h
theorem gLe_n {x y : Int32} (h : ¬ x ≤ y) : gLe x y = 1 := if_neg h
theorem i32_ne0 {w : Nat} (h : w < 100) : (nI (w + 1) = 0) = False := by
  rw [show (0 : Int32) = nI 0 from rfl, ix_eq (by omega) (by omega)]
  exact eq_false (by omega)
