/-- one count of refs, entries, slots; the same values, statuses, steps, updates; the ring against the row; the pack -/
def i_Rel (k : Nat) (u : SX) (v : SY) : Prop :=
  ∃ (R L S b n p : Nat) (pk pd cr : Int32) (va ss sn su ur ue un xr xo xn yr yo yn : Nat → Int32), u = (nI R, nI L, nI S, nI b, nI n, nI p, cr, va, ss, sn, su, ur, ue, un, xr, xo, xn) ∧ v = (nI R, nI L, nI S, nI n, pk, pd, cr, va, yr, yo, yn, ss, su, sn, ur, ue, un) ∧ rx_K R L S b n p pk pd ss sn su ur xr xo xn yr yo yn
theorem i_up {k : Nat} {u : SX} {v : SY} (h : i_Rel k u v) : i_Rel (k + 5) u v := h
