/-! the class reads a line: what it is -/
/-- a law's line on a draft -/
def lawD (B : BT) (D : DR) (w : Nat) (t : TKN) : DLR := match lawLP B w t with
  | .inl e => .inl e
  | .inr (t', l) => .inr (t', setLaw D w l)
/-- a line without its end -/
def itemP (B : BT) (D : DR) (t : TKN) : DLR := if wB B.1 t (wsOf 4) = true then cordP B D t else if wB B.1 t (wsOf 5) = true then callP B D t else if wB B.1 t (wsOf 9) = true then lawD B D 0 t else if wB B.1 t (wsOf 15) = true then lawD B D 1 t else if wB B.1 t (wsOf 19) = true then lawD B D 2 t else if wB B.1 t (wsOf 14) = true then minP B D t else .inl (rf t 2)
def dth (r : DLR) (f : TKN → DR → DLR) : DLR := match r with
  | .inl e => .inl e
  | .inr (t, D) => f t D
def endP (B : BT) (t : TKN) (D : DR) : DLR := if sgB B.1 t 59 = true then .inr (nx B t, ((dW D, dM D, dT D + 1), D.2)) else .inl (rf t 2)
def lineP (B : BT) (D : DR) (t : TKN) : DLR := dth (itemP B D t) (endP B)
def linesP (B : BT) : Nat → TKN → DR → DLR
  | 0, t, D => .inr (t, D)
  | r + 1, t, D => if t.2.2 = 0 then .inr (t, D) else dth (lineP B D t) (fun t' D' => linesP B r t' D')
/-- a whole text -/
def textP (B : BT) (D0 : DR) : DLR := dth (dth (headP B D0 (lx B.1 B.2 0)) (endP B)) (fun t D => linesP B 900 t D)
