section RX6
variable {R L S b n p : Nat} {pk pd cr : Int32} {va ss sn su ur ue un xr xo xn yr yo yn : Nat → Int32}
theorem rx_l2 (k : Nat) : (2 : Int32) * nI k + 2 = nI (2 * k + 2) := by
  rw [show (2 : Int32) * nI k = nI (2 * k) from pk_mul 2 k]
  exact nI_add (2 * k) 2
theorem rx_l1 (k : Nat) : (2 : Int32) * nI k + 1 = nI (2 * k + 1) := by
  rw [show (2 : Int32) * nI k = nI (2 * k) from pk_mul 2 k]
  exact nI_add (2 * k) 1
theorem rx_ne {a c : Nat} (ha : a < 100) (hc : c < 100) (h : a ≠ c) : ¬ nI a = nI c := fun e => h ((nI_eq (by omega) (by omega)).mp e)
theorem rx_ne1 {a c : Nat} (ha : a < 100) (hc : c < 99) (h : a ≠ c + 1) : ¬ nI a = nI c + 1 := by rw [nI_1]; exact rx_ne ha (by omega) h
/-! one step: X -/
theorem rx_xStepL {post : St2 → Prop} {s t k : Nat} (hs : s < 4) (hS : S ≤ 4) (hR : R ≤ 16) (hI : ∀ s, s < 4 → rx_SI R ss sn su ur s) (et : sn s = nI t) (ek : su s = nI k) (hk : k ≤ 4) (htk : t < k) (hf : rx_RF R ur s k)
    (h5 : rx_Ot S ss sn su ur (ur (s * 4 + t)) s → post (nI R, nI L, nI S, nI b, nI n, nI p, cr, va, upd ss s 5, sn, su, ur, ue, un, xr, xo, xn))
    (h6 : ¬ rx_Ot S ss sn su ur (ur (s * 4 + t)) s → ¬ ue (s * 4 + t) = -1 → ¬ ue (s * 4 + t) = va (ur (s * 4 + t)).toNatClampNeg → post (nI R, nI L, nI S, nI b, nI n, nI p, cr, va, upd ss s 6, sn, su, ur, ue, un, xr, xo, xn))
    (h0 : ¬ rx_Ot S ss sn su ur (ur (s * 4 + t)) s → (ue (s * 4 + t) = -1 ∨ ue (s * 4 + t) = va (ur (s * 4 + t)).toNatClampNeg) → post (nI R, nI L, nI S, nI b, nI n, nI p, cr, va, ss, upd sn s (nI (t + 1)), su, ur, ue, un, xr, xo, xn)) :
    wpX_takeStep post (nI R, nI L, nI S, nI b, nI n, nI p, cr, va, ss, sn, su, ur, ue, un, xr, xo, xn) (nI s) := by
  have hv : vp_in (nI s) 4 := vp_in_nI hs (by omega)
  have es : (nI s).toNatClampNeg = s := nI_clamp (by omega)
  have e2 : su (nI s).toNatClampNeg = nI k := by rw [es]; exact ek
  have e3 : sn (nI s).toNatClampNeg + 1 = nI (t + 1) := by rw [es, et, nI_1]
  have e4 : nI s * 4 + sn (nI s).toNatClampNeg = nI (s * 4 + t) := by rw [es, et, rx_i4]
  have e5 : upd sn (nI s).toNatClampNeg (sn (nI s).toNatClampNeg + 1) = upd sn s (nI (t + 1)) := by rw [e3, es]
  obtain ⟨r, hr, er⟩ := hf.1 t htk
  have ec : (nI (s * 4 + t)).toNatClampNeg = s * 4 + t := nI_clamp (by omega)
  have hw : vp_in (nI (s * 4 + t)) 16 := vp_in_nI (by omega) (by omega)
  have hvr : vp_in (ur (s * 4 + t)) 16 := by rw [er]; exact vp_in_nI (by omega) (by omega)
  refine ⟨hv, nm_r e2 ⟨hv, nm_r e3 (br_f (nI_nlt (by omega) (by omega)) ?_)⟩⟩
  refine ⟨hv, nm_r e4 ⟨hw, nm_r (e' := ur (s * 4 + t)) (by rw [ec]) ⟨hw, nm_r (e' := ue (s * 4 + t)) (by rw [ec]) (rx_xOther hS hs hI (fun ho => ?_) (fun ho => ?_))⟩⟩⟩
  · exact br_f (by decide) ⟨hv, nm_r (e' := upd ss s 5) (by rw [es]) (h5 ho)⟩
  · refine br_t rfl ?_
    by_cases a : ue (s * 4 + t) = -1
    · exact br_t a ⟨hv, hv, nm_r e5 (h0 ho (Or.inl a))⟩
    · by_cases c : ue (s * 4 + t) = va (ur (s * 4 + t)).toNatClampNeg
      · exact br_f a ⟨hvr, br_t c ⟨hv, hv, nm_r e5 (h0 ho (Or.inr c))⟩⟩
      · exact br_f a ⟨hvr, br_f c ⟨hv, nm_r (e' := upd ss s 6) (by rw [es]) (h6 ho a c)⟩⟩
theorem rx_xStepC {post : St2 → Prop} {s k : Nat} (hs : s < 4) (hk : k ≤ 4) (hR : R ≤ 16) (hL8 : 8 ≤ L) (hL : L ≤ 32) (hb : b < L) (hn : n ≤ L) (hf : rx_RF R ur s k) (et : sn s = nI k) (ek : su s = nI k)
    (hp : post (nI R, nI L, nI S, nI (rx_cb L b n k), nI (rx_cn L n k), nI p, cr, rx_vv ur un va s k, upd ss s 3, upd sn s (nI (k + 1)), su, ur, ue, un, rx_cx (rx_fr ur s) L b n xr k, rx_cx (rx_fo va ur s) L b n xo k, rx_cx (rx_fr un s) L b n xn k)) :
    wpX_takeStep post (nI R, nI L, nI S, nI b, nI n, nI p, cr, va, ss, sn, su, ur, ue, un, xr, xo, xn) (nI s) := by
  have hv : vp_in (nI s) 4 := vp_in_nI hs (by omega)
  have es : (nI s).toNatClampNeg = s := nI_clamp (by omega)
  have e2 : su (nI s).toNatClampNeg = nI k := by rw [es]; exact ek
  have e3 : sn (nI s).toNatClampNeg + 1 = nI (k + 1) := by rw [es, et, nI_1]
  exact ⟨hv, nm_r e2 ⟨hv, nm_r e3 (br_t (nI_lt (by omega) (by omega)) (br_t (nI_1 k).symm (rx_xCommit hs hk hR hL8 hL hb hn hf ek ⟨hv, nm_r (e' := upd sn s (nI (k + 1))) (by rw [es]) hp⟩)))⟩⟩
theorem rx_xStepA {post : St2 → Prop} {s t k : Nat} (hs : s < 4) (hk : k ≤ 4) (et : sn s = nI t) (ek : su s = nI k) (hkt : k < t) (ht : t ≤ 2 * k)
    (hp : post (nI R, nI L, nI S, nI b, nI n, nI p, cr, va, ss, upd sn s (nI (t + 1)), su, ur, ue, un, xr, xo, xn)) : wpX_takeStep post (nI R, nI L, nI S, nI b, nI n, nI p, cr, va, ss, sn, su, ur, ue, un, xr, xo, xn) (nI s) := by
  have hv : vp_in (nI s) 4 := vp_in_nI hs (by omega)
  have es : (nI s).toNatClampNeg = s := nI_clamp (by omega)
  have e2 : su (nI s).toNatClampNeg = nI k := by rw [es]; exact ek
  have e3 : sn (nI s).toNatClampNeg + 1 = nI (t + 1) := by rw [es, et, nI_1]
  exact ⟨hv, nm_r e2 ⟨hv, nm_r e3 (br_t (nI_lt (by omega) (by omega)) (br_f (rx_ne1 (by omega) (by omega) (by omega)) (br_f (by rw [rx_l2]; exact rx_ne (by omega) (by omega) (by omega)) ⟨hv, nm_r (e' := upd sn s (nI (t + 1))) (by rw [es]) hp⟩)))⟩⟩
theorem rx_xStepD {post : St2 → Prop} {s k : Nat} (hs : s < 4) (hk : k ≤ 4) (et : sn s = nI (2 * k + 1)) (ek : su s = nI k)
    (hp : post (nI R, nI L, nI S, nI b, nI n, nI p, cr, va, upd ss s 4, upd sn s (nI (2 * k + 2)), su, ur, ue, un, xr, xo, xn)) : wpX_takeStep post (nI R, nI L, nI S, nI b, nI n, nI p, cr, va, ss, sn, su, ur, ue, un, xr, xo, xn) (nI s) := by
  have hv : vp_in (nI s) 4 := vp_in_nI hs (by omega)
  have es : (nI s).toNatClampNeg = s := nI_clamp (by omega)
  have e2 : su (nI s).toNatClampNeg = nI k := by rw [es]; exact ek
  have e3 : sn (nI s).toNatClampNeg + 1 = nI (2 * k + 2) := by rw [es, et, nI_1]
  exact ⟨hv, nm_r e2 ⟨hv, nm_r e3 (br_t (nI_lt (by omega) (by omega)) (br_f (rx_ne1 (by omega) (by omega) (by omega)) (br_t (rx_l2 k).symm ⟨hv, nm_r (e' := upd ss s 4) (by rw [es]) ⟨hv, nm_r (e' := upd sn s (nI (2 * k + 2))) (by rw [es]) hp⟩⟩)))⟩⟩
end RX6
