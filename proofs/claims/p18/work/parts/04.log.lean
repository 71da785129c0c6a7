section RX5
variable {R L S b n p : Nat} {pk pd cr : Int32} {va ss sn su ur ue un xr xo xn yr yo yn : Nat → Int32}
/-! an entry appended: X's ring -/
theorem rx_xCell {post : Int32 → Prop} {i : Nat} (hL : L ≤ 32) (hb : b < L) (hi : i ≤ L) (hp : post (nI (rx_g L b i))) :
    wpX_logCell post (nI R, nI L, nI S, nI b, nI n, nI p, cr, va, ss, sn, su, ur, ue, un, xr, xo, xn) (nI i) := by
  refine nm_r (nI_add b i) ?_
  by_cases h : b + i < L
  · rw [show rx_g L b i = b + i from if_pos h] at hp
    exact br_f (nI_ge h (by omega)) hp
  · rw [show rx_g L b i = b + i - L from if_neg h] at hp
    exact br_t (nI_le (by omega) (by omega)) (by rw [pk_sub (by omega)]; exact hp)
theorem rx_xApp30 {post : St2 → Prop} {x1 x2 x3 : Int32} (hL : L ≤ 32) (hb : b < L) (hn : n < L)
    (hp : post (nI R, nI L, nI S, nI b, nI (n + 1), nI p, cr, va, ss, sn, su, ur, ue, un, upd xr (rx_g L b n) x1, upd xo (rx_g L b n) x2, upd xn (rx_g L b n) x3)) :
    wX_appendToLog_30 post x1 x2 x3 (nI R) (nI L) (nI S) (nI b) (nI n) (nI p) cr va ss sn su ur ue un xr xo xn := by
  refine rx_xCell hL hb (by omega) ?_
  have hc := rx_g_lt hb (show n ≤ L by omega)
  have hv : vp_in (nI (rx_g L b n)) 32 := vp_in_nI (by omega) (by omega)
  have ec : (nI (rx_g L b n)).toNatClampNeg = rx_g L b n := nI_clamp (by omega)
  exact ⟨hv, nm_r (e' := upd xr (rx_g L b n) x1) (by rw [ec]) ⟨hv, nm_r (e' := upd xo (rx_g L b n) x2) (by rw [ec]) ⟨hv, nm_r (e' := upd xn (rx_g L b n) x3) (by rw [ec]) (nm_r (nI_1 n) hp)⟩⟩⟩
theorem rx_xApp {post : St2 → Prop} {x1 x2 x3 : Int32} (hL8 : 8 ≤ L) (hL : L ≤ 32) (hb : b < L) (hn : n ≤ L)
    (hp : post (nI R, nI L, nI S, nI (rx_bb L b n), nI (rx_nn L n + 1), nI p, cr, va, ss, sn, su, ur, ue, un, upd xr (rx_g L (rx_bb L b n) (rx_nn L n)) x1, upd xo (rx_g L (rx_bb L b n) (rx_nn L n)) x2, upd xn (rx_g L (rx_bb L b n) (rx_nn L n)) x3)) :
    wpX_appendToLog post (nI R, nI L, nI S, nI b, nI n, nI p, cr, va, ss, sn, su, ur, ue, un, xr, xo, xn) x1 x2 x3 := by
  by_cases h : n < L
  · rw [show rx_bb L b n = b from if_pos h, show rx_nn L n = n from if_pos h] at hp
    exact br_f (fun e => by have := (nI_eq (by omega) (by omega)).mp e; omega) (rx_xApp30 hL hb h hp)
  · have e : n = L := by omega
    subst e
    rw [show rx_bb n b n = rx_g n b 1 from if_neg h, show rx_nn n n = n - 1 from if_neg h] at hp
    exact br_t rfl (rx_xCell (i := 1) hL hb (by omega) (nm_r (e' := nI (n - 1)) (pk_sub (b := 1) (by omega)) (rx_xApp30 (L := n) (b := rx_g n b 1) (n := n - 1) hL (rx_g_lt hb (by omega)) (by omega) hp)))
/-! the commit step: k entries, k values -/
def rx_fr (ur : Nat → Int32) (s : Nat) : Nat → Int32 := fun i => ur (s * 4 + i)
def rx_fo (va ur : Nat → Int32) (s : Nat) : Nat → Int32 := fun i => va (ur (s * 4 + i)).toNatClampNeg
theorem rx_xcm {post : St2 → Prop} {s k : Nat} (hs : s < 4) (hk : k ≤ 4) (hR : R ≤ 16) (hL8 : 8 ≤ L) (hL : L ≤ 32) (hb : b < L) (hn : n ≤ L) (hf : rx_RF R ur s k)
    (hp : post (nI R, nI L, nI S, nI (rx_cb L b n k), nI (rx_cn L n k), nI p, cr, rx_vv ur un va s k, upd ss s 3, sn, su, ur, ue, un, rx_cx (rx_fr ur s) L b n xr k, rx_cx (rx_fo va ur s) L b n xo k, rx_cx (rx_fr un s) L b n xn k)) : ∀ d i, i + d = k →
    wX_takeCommitStep_14 post (nI s) (nI (s * 4)) (nI k) (d + 1) (nI i) (nI R) (nI L) (nI S) (nI (rx_cb L b n i)) (nI (rx_cn L n i)) (nI p) cr (rx_vv ur un va s i) ss sn su ur ue un (rx_cx (rx_fr ur s) L b n xr i) (rx_cx (rx_fo va ur s) L b n xo i) (rx_cx (rx_fr un s) L b n xn i) := by
  have hv : vp_in (nI s) 4 := vp_in_nI hs (by omega)
  have es : (nI s).toNatClampNeg = s := nI_clamp (by omega)
  intro d
  induction d with
  | zero =>
    intro i hi
    obtain rfl : i = k := by omega
    exact br_t (nI_le (by omega) (by omega)) ⟨hv, nm_r (e' := upd ss s 3) (by rw [es]) hp⟩
  | succ d ih =>
    intro i hi
    obtain ⟨r, hr, er⟩ := hf.1 i (by omega)
    have ec : (nI (s * 4) + nI i).toNatClampNeg = s * 4 + i := rx_ci hs (by omega)
    have hw : vp_in (nI (s * 4) + nI i) 16 := by rw [nI_add]; exact vp_in_nI (by omega) (by omega)
    have hvr : vp_in (ur (s * 4 + i)) 16 := by rw [er]; exact vp_in_nI (by omega) (by omega)
    have eo := rx_vv_o (un := un) (va := va) hR hf i i (Nat.le_refl i) (by omega)
    refine br_f (nI_ge (by omega) (by omega)) ⟨hw, nm_r (e' := ur (s * 4 + i)) (by rw [ec]) ⟨hw, nm_r (e' := un (s * 4 + i)) (by rw [ec]) ⟨hvr, rx_xApp hL8 hL (rx_cb_lt (by omega) hb i) (rx_cn_le (by omega) hn i) ⟨hvr, nm_e (nm_r (nI_1 i) ?_)⟩⟩⟩⟩
    rw [eo]
    exact ih (i + 1) (by omega)
theorem rx_xCommit {post : St2 → Prop} {s k : Nat} (hs : s < 4) (hk : k ≤ 4) (hR : R ≤ 16) (hL8 : 8 ≤ L) (hL : L ≤ 32) (hb : b < L) (hn : n ≤ L) (hf : rx_RF R ur s k) (ek : su s = nI k)
    (hp : post (nI R, nI L, nI S, nI (rx_cb L b n k), nI (rx_cn L n k), nI p, cr, rx_vv ur un va s k, upd ss s 3, sn, su, ur, ue, un, rx_cx (rx_fr ur s) L b n xr k, rx_cx (rx_fo va ur s) L b n xo k, rx_cx (rx_fr un s) L b n xn k)) :
    wpX_takeCommitStep post (nI R, nI L, nI S, nI b, nI n, nI p, cr, va, ss, sn, su, ur, ue, un, xr, xo, xn) (nI s) :=
  nm_r rx_m4 ⟨vp_in_nI hs (by omega), nm_r (e' := nI k) (by rw [nI_clamp (by omega)]; exact ek) ⟨k + 1, rx_xcm hs hk hR hL8 hL hb hn hf hp k 0 (by omega)⟩⟩
end RX5
