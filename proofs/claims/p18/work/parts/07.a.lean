section RX8
variable {R L S b n p : Nat} {pk pd cr : Int32} {va ss sn su ur ue un xr xo xn yr yo yn : Nat → Int32}
/-! is it a slot, a ref -/
theorem rx_xSl0 {post : Int32 → Prop} {x : Int32} (h : x < 0 ∨ nI S ≤ x) (hp : post 0) : wpX_isSlot post (nI R, nI L, nI S, nI b, nI n, nI p, cr, va, ss, sn, su, ur, ue, un, xr, xo, xn) x := br_c (fun _ => hp) (fun a => br_t (h.resolve_left a) hp)
theorem rx_xSl1 {post : Int32 → Prop} {s : Nat} (hs : s < S) (hS : S ≤ 4) (hp : post 1) : wpX_isSlot post (nI R, nI L, nI S, nI b, nI n, nI p, cr, va, ss, sn, su, ur, ue, un, xr, xo, xn) (nI s) := br_f (nI_pos (by omega)) (br_f (nI_ge hs (by omega)) hp)
theorem rx_xRf0 {post : Int32 → Prop} {x : Int32} (h : x < 0 ∨ nI R ≤ x) (hp : post 0) : wpX_isRef post (nI R, nI L, nI S, nI b, nI n, nI p, cr, va, ss, sn, su, ur, ue, un, xr, xo, xn) x := br_c (fun _ => hp) (fun a => br_t (h.resolve_left a) hp)
theorem rx_xRf1 {post : Int32 → Prop} {r : Nat} (hr : r < R) (hR : R ≤ 16) (hp : post 1) : wpX_isRef post (nI R, nI L, nI S, nI b, nI n, nI p, cr, va, ss, sn, su, ur, ue, un, xr, xo, xn) (nI r) := br_f (nI_pos (by omega)) (br_f (nI_ge hr (by omega)) hp)
/-! begin -/
theorem rx_xUse1 {post : Int32 → Prop} {s : Nat} (hs : s < 4) (h : ss s = 1 ∨ ss s = 2 ∨ ss s = 3) (hp : post 1) : wpX_isInUse post (nI R, nI L, nI S, nI b, nI n, nI p, cr, va, ss, sn, su, ur, ue, un, xr, xo, xn) (nI s) := by
  have hv : vp_in (nI s) 4 := vp_in_nI hs (by omega)
  have es : (nI s).toNatClampNeg = s := nI_clamp (by omega)
  by_cases a : ss s = 1
  · exact ⟨hv, br_t (by rw [es]; exact a) hp⟩
  · exact ⟨hv, br_f (by rw [es]; exact a) (rx_xRun1 hs (h.resolve_left a) (br_f (by decide) hp))⟩
theorem rx_xUse0 {post : Int32 → Prop} {s : Nat} (hs : s < 4) (h : ¬ (ss s = 1 ∨ ss s = 2 ∨ ss s = 3)) (hp : post 0) : wpX_isInUse post (nI R, nI L, nI S, nI b, nI n, nI p, cr, va, ss, sn, su, ur, ue, un, xr, xo, xn) (nI s) := by
  have hv : vp_in (nI s) 4 := vp_in_nI hs (by omega)
  have es : (nI s).toNatClampNeg = s := nI_clamp (by omega)
  exact ⟨hv, br_f (by rw [es]; exact fun z => h (Or.inl z)) (rx_xRun0 hs (fun z => h (Or.inr z)) (br_t rfl hp))⟩
/-! crash -/
theorem rx_xUnc1 {post : Int32 → Prop} {s : Nat} (hs : s < 4) (h : ss s = 1 ∨ ss s = 2) (hp : post 1) : wpX_isUncommitted post (nI R, nI L, nI S, nI b, nI n, nI p, cr, va, ss, sn, su, ur, ue, un, xr, xo, xn) (nI s) := by
  have hv : vp_in (nI s) 4 := vp_in_nI hs (by omega)
  have es : (nI s).toNatClampNeg = s := nI_clamp (by omega)
  by_cases a : ss s = 1
  · exact ⟨hv, br_t (by rw [es]; exact a) hp⟩
  · exact ⟨hv, br_f (by rw [es]; exact a) ⟨hv, br_t (by rw [es]; exact h.resolve_left a) hp⟩⟩
theorem rx_xUnc0 {post : Int32 → Prop} {s : Nat} (hs : s < 4) (h : ¬ (ss s = 1 ∨ ss s = 2)) (hp : post 0) : wpX_isUncommitted post (nI R, nI L, nI S, nI b, nI n, nI p, cr, va, ss, sn, su, ur, ue, un, xr, xo, xn) (nI s) := by
  have hv : vp_in (nI s) 4 := vp_in_nI hs (by omega)
  have es : (nI s).toNatClampNeg = s := nI_clamp (by omega)
  exact ⟨hv, br_f (by rw [es]; exact fun z => h (Or.inl z)) ⟨hv, br_f (by rw [es]; exact fun z => h (Or.inr z)) hp⟩⟩
theorem rx_xSet7 {post : St2 → Prop} {s : Nat} (hs : s < 4) (h : ss s = 1 ∨ ss s = 2) (hp : post (nI R, nI L, nI S, nI b, nI n, nI p, cr, va, upd ss s 7, sn, su, ur, ue, un, xr, xo, xn)) : wpX_settleAtCrash post (nI R, nI L, nI S, nI b, nI n, nI p, cr, va, ss, sn, su, ur, ue, un, xr, xo, xn) (nI s) := by
  have hv : vp_in (nI s) 4 := vp_in_nI hs (by omega)
  have es : (nI s).toNatClampNeg = s := nI_clamp (by omega)
  unfold wpX_settleAtCrash
  exact rx_xUnc1 hs h (br_f (by decide) ⟨hv, nm_r (e' := upd ss s 7) (by rw [es]) hp⟩)
theorem rx_xSet4 {post : St2 → Prop} {s k : Nat} (hs : s < 4) (h : ss s = 3) (ek : su s = nI k) (hp : post (nI R, nI L, nI S, nI b, nI n, nI p, cr, va, upd ss s 4, upd sn s (nI (2 * k + 2)), su, ur, ue, un, xr, xo, xn)) : wpX_settleAtCrash post (nI R, nI L, nI S, nI b, nI n, nI p, cr, va, ss, sn, su, ur, ue, un, xr, xo, xn) (nI s) := by
  have hv : vp_in (nI s) 4 := vp_in_nI hs (by omega)
  have es : (nI s).toNatClampNeg = s := nI_clamp (by omega)
  have eu : upd sn (nI s).toNatClampNeg (2 * su (nI s).toNatClampNeg + 2) = upd sn s (nI (2 * k + 2)) := by rw [es, ek, rx_l2]
  unfold wpX_settleAtCrash
  exact rx_xUnc0 hs (by rw [h]; decide) (br_t rfl ⟨hv, br_t (by rw [es]; exact h) ⟨hv, nm_r (e' := upd ss s 4) (by rw [es]) ⟨hv, hv, nm_r eu hp⟩⟩⟩)
theorem rx_xSetN {post : St2 → Prop} {s : Nat} (hs : s < 4) (h : ¬ (ss s = 1 ∨ ss s = 2)) (h3 : ¬ ss s = 3) (hp : post (nI R, nI L, nI S, nI b, nI n, nI p, cr, va, ss, sn, su, ur, ue, un, xr, xo, xn)) : wpX_settleAtCrash post (nI R, nI L, nI S, nI b, nI n, nI p, cr, va, ss, sn, su, ur, ue, un, xr, xo, xn) (nI s) := by
  have hv : vp_in (nI s) 4 := vp_in_nI hs (by omega)
  have es : (nI s).toNatClampNeg = s := nI_clamp (by omega)
  unfold wpX_settleAtCrash
  exact rx_xUnc0 hs h (br_t rfl ⟨hv, br_f (by rw [es]; exact h3) hp⟩)
end RX8
