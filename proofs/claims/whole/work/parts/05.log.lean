section RX5
variable {R L S b n p : Nat} {pk pd cr : Int32} {va ss sn su ur ue un xr xo xn yr yo yn : Nat → Int32}
/-! an entry appended: X's ring -/
theorem rx_xCell {post : Int32 → Prop} {i : Nat} (hL : L ≤ 32) (hb : b < L) (hi : i ≤ L) (hp : post (nI (rx_g L b i))) :
    wpX_logCell post (nI R, nI L, nI S, nI b, nI n, nI p, cr, va, ss, sn, su, ur, ue, un, xr, xo, xn) (nI i) := by
  refine nm_r (nI_add b i) ?_
  by_cases h : b + i < L
  · rw [show rx_g L b i = b + i from if_pos h] at hp
    exact br_f (nI_ge h (by omega)) hp
  · rw [show rx_g L b i = b + i - L from if_neg h] at hp
    exact br_t (nI_le (by omega) (by omega)) (by rw [pk_sub (by omega)]; exact hp)
theorem rx_xApp30 {post : SX → Prop} {x1 x2 x3 : Int32} (hL : L ≤ 32) (hb : b < L) (hn : n < L)
    (hp : post (nI R, nI L, nI S, nI b, nI (n + 1), nI p, cr, va, ss, sn, su, ur, ue, un, upd xr (rx_g L b n) x1, upd xo (rx_g L b n) x2, upd xn (rx_g L b n) x3)) :
    wX_appendToLog_30 post x1 x2 x3 (nI R) (nI L) (nI S) (nI b) (nI n) (nI p) cr va ss sn su ur ue un xr xo xn := by
  refine rx_xCell hL hb (by omega) ?_
  have hc := rx_g_lt hb (show n ≤ L by omega)
  have hv : vp_in (nI (rx_g L b n)) 32 := vp_in_nI (by omega) (by omega)
  have ec : (nI (rx_g L b n)).toNatClampNeg = rx_g L b n := nI_clamp (by omega)
  exact ⟨hv, nm_r (e' := upd xr (rx_g L b n) x1) (by rw [ec]) ⟨hv, nm_r (e' := upd xo (rx_g L b n) x2) (by rw [ec]) ⟨hv, nm_r (e' := upd xn (rx_g L b n) x3) (by rw [ec]) (nm_r (nI_1 n) hp)⟩⟩⟩
theorem rx_xApp {post : SX → Prop} {x1 x2 x3 : Int32} (hL8 : 8 ≤ L) (hL : L ≤ 32) (hb : b < L) (hn : n ≤ L)
    (hp : post (nI R, nI L, nI S, nI (rx_bb L b n), nI (rx_nn L n + 1), nI p, cr, va, ss, sn, su, ur, ue, un, upd xr (rx_g L (rx_bb L b n) (rx_nn L n)) x1, upd xo (rx_g L (rx_bb L b n) (rx_nn L n)) x2, upd xn (rx_g L (rx_bb L b n) (rx_nn L n)) x3)) :
    wpX_appendToLog post (nI R, nI L, nI S, nI b, nI n, nI p, cr, va, ss, sn, su, ur, ue, un, xr, xo, xn) x1 x2 x3 := by
  by_cases h : n < L
  · rw [show rx_bb L b n = b from if_pos h, show rx_nn L n = n from if_pos h] at hp
    exact br_f (fun e => by have := (nI_eq (by omega) (by omega)).mp e; omega) (rx_xApp30 hL hb h hp)
  · have e : n = L := by omega
    subst e
    rw [show rx_bb n b n = rx_g n b 1 from if_neg h, show rx_nn n n = n - 1 from if_neg h] at hp
    exact br_t rfl (rx_xCell (i := 1) hL hb (by omega) (nm_r (e' := nI (n - 1)) (pk_sub (b := 1) (by omega)) (rx_xApp30 (L := n) (b := rx_g n b 1) (n := n - 1) hL (rx_g_lt hb (by omega)) (by omega) hp)))
/-! .. and Y's row -/
theorem rx_yApp94 {post : SY → Prop} {x1 x2 x3 : Int32} (hn : n < 32) (hp : post (nI R, nI L, nI S, nI (n + 1), pk, pd, cr, va, upd yr n x1, upd yo n x2, upd yn n x3, ss, su, sn, ur, ue, un)) :
    wY_append_94 post x1 x2 x3 (nI R) (nI L) (nI S) (nI n) pk pd cr va yr yo yn ss su sn ur ue un := by
  have hv : vp_in (nI n) 32 := vp_in_nI hn (by omega)
  have ec : (nI n).toNatClampNeg = n := nI_clamp (by omega)
  exact br_f (nI_pos (by omega)) (br_f (nI_ge (b := 32) hn (by decide)) ⟨hv, nm_r (e' := upd yr n x1) (by rw [ec]) ⟨hv, nm_r (e' := upd yo n x2) (by rw [ec]) ⟨hv, nm_r (e' := upd yn n x3) (by rw [ec]) (nm_r (nI_1 n) hp)⟩⟩⟩)
theorem rx_she (a : Nat → Int32) {m : Nat} (hm : m < 100) : upd (rx_sh a (m + 1)) (nI (m + 1) - 1).toNatClampNeg (rx_sh a (m + 1) (nI (m + 1)).toNatClampNeg) = rx_sh a (m + 1 + 1) := by
  rw [nI_pred, nI_clamp (by omega), nI_clamp (by omega), rx_shi, rx_shs]
theorem rx_yap14 {post : SY → Prop} {x1 x2 x3 : Int32} (hn : n ≤ 32)
    (hp : post (nI R, nI L, nI S, nI n, pk, pd, cr, va, upd (rx_sh yr n) (n - 1) x1, upd (rx_sh yo n) (n - 1) x2, upd (rx_sh yn n) (n - 1) x3, ss, su, sn, ur, ue, un)) : ∀ d m, m + 1 + d = n →
    wY_append_14 post x1 x2 x3 (nI R) (nI L) (nI S) (nI n) pk pd cr (d + 1) (nI (m + 1)) va (rx_sh yr (m + 1)) (rx_sh yo (m + 1)) (rx_sh yn (m + 1)) ss su sn ur ue un := by
  intro d
  induction d with
  | zero =>
    intro m hm
    obtain rfl : n = m + 1 := by omega
    exact br_t (nI_le (by omega) (by omega)) (nm_r (nI_pred m) (rx_yApp94 (n := m) (by omega) hp))
  | succ d ih =>
    intro m hm
    have hv : vp_in (nI (m + 1)) 32 := vp_in_nI (by omega) (by omega)
    have hw : vp_in (nI (m + 1) - 1) 32 := by rw [nI_pred]; exact vp_in_nI (by omega) (by omega)
    exact br_f (nI_ge (by omega) (by omega)) (br_f (nI_ge (b := 32) (by omega) (by decide)) ⟨hv, hw, nm_r (rx_she yr (by omega)) ⟨hv, hw, nm_r (rx_she yo (by omega)) ⟨hv, hw, nm_r (rx_she yn (by omega)) (nm_r (nI_1 (m + 1)) (ih (m + 1) (by omega)))⟩⟩⟩)
theorem rx_yApp {post : SY → Prop} {x1 x2 x3 : Int32} (hL8 : 8 ≤ L) (hL : L ≤ 32) (hn : n ≤ L)
    (hp : post (nI R, nI L, nI S, nI (rx_nn L n + 1), pk, pd, cr, va, rx_ap yr L n x1, rx_ap yo L n x2, rx_ap yn L n x3, ss, su, sn, ur, ue, un)) :
    wpY_append post (nI R, nI L, nI S, nI n, pk, pd, cr, va, yr, yo, yn, ss, su, sn, ur, ue, un) x1 x2 x3 := by
  by_cases h : n < L
  · have e1 : rx_nn L n = n := if_pos h
    have ea : ∀ (y : Nat → Int32) (r : Int32), rx_ap y L n r = upd y n r := by
      intro y r
      unfold rx_ap
      rw [if_pos h, e1]
    rw [e1, ea, ea, ea] at hp
    exact br_t (nI_lt h (by omega)) (rx_yApp94 (by omega) hp)
  · have e : n = L := by omega
    subst e
    have e1 : rx_nn n n = n - 1 := if_neg h
    have ea : ∀ (y : Nat → Int32) (r : Int32), rx_ap y n n r = upd (rx_sh y n) (n - 1) r := by
      intro y r
      unfold rx_ap
      rw [if_neg h, e1]
    rw [e1, ea, ea, ea, show n - 1 + 1 = n by omega] at hp
    have t := rx_yap14 (by omega) hp (n - 1) 0 (by omega)
    rw [show rx_sh yr (0 + 1) = yr from rx_sh1 yr, show rx_sh yo (0 + 1) = yo from rx_sh1 yo, show rx_sh yn (0 + 1) = yn from rx_sh1 yn] at t
    exact br_f (nI_nlt (by omega) (by omega)) ⟨_, t⟩
/-! the commit step: k entries, k values -/
def rx_fr (ur : Nat → Int32) (s : Nat) : Nat → Int32 := fun i => ur (s * 4 + i)
def rx_fo (va ur : Nat → Int32) (s : Nat) : Nat → Int32 := fun i => va (ur (s * 4 + i)).toNatClampNeg
theorem rx_xcm {post : SX → Prop} {s k : Nat} (hs : s < 4) (hk : k ≤ 4) (hR : R ≤ 16) (hL8 : 8 ≤ L) (hL : L ≤ 32) (hb : b < L) (hn : n ≤ L) (hf : rx_RF R ur s k)
    (hp : post (nI R, nI L, nI S, nI (rx_cb L b n k), nI (rx_cn L n k), nI p, cr, rx_vv ur un va s k, upd ss s 3, sn, su, ur, ue, un, rx_cx (rx_fr ur s) L b n xr k, rx_cx (rx_fo va ur s) L b n xo k, rx_cx (rx_fr un s) L b n xn k)) : ∀ d i, i + d = k →
    wX_takeCommitStep_14 post (nI s) (nI (s * 4)) (nI k) (d + 1) (nI i) (nI R) (nI L) (nI S) (nI (rx_cb L b n i)) (nI (rx_cn L n i)) (nI p) cr (rx_vv ur un va s i) ss sn su ur ue un (rx_cx (rx_fr ur s) L b n xr i) (rx_cx (rx_fo va ur s) L b n xo i) (rx_cx (rx_fr un s) L b n xn i) := by
  have hv : vp_in (nI s) 4 := vp_in_nI hs (by omega)
  have es : (nI s).toNatClampNeg = s := nI_clamp (by omega)
  intro d
  induction d with
  | zero =>
    intro i hi
    obtain rfl : i = k := by omega
    exact br_t (nI_le (by omega) (by omega)) ⟨hv, nm_r (e' := upd ss s 3) (by rw [es]) hp⟩
  | succ d ih =>
    intro i hi
    obtain ⟨r, hr, er⟩ := hf.1 i (by omega)
    have ec : (nI (s * 4) + nI i).toNatClampNeg = s * 4 + i := rx_ci hs (by omega)
    have hw : vp_in (nI (s * 4) + nI i) 16 := by rw [nI_add]; exact vp_in_nI (by omega) (by omega)
    have hvr : vp_in (ur (s * 4 + i)) 16 := by rw [er]; exact vp_in_nI (by omega) (by omega)
    have eo := rx_vv_o (un := un) (va := va) hR hf i i (Nat.le_refl i) (by omega)
    refine br_f (nI_ge (by omega) (by omega)) ⟨hw, nm_r (e' := ur (s * 4 + i)) (by rw [ec]) ⟨hw, nm_r (e' := un (s * 4 + i)) (by rw [ec]) ⟨hvr, rx_xApp hL8 hL (rx_cb_lt (by omega) hb i) (rx_cn_le (by omega) hn i) ⟨hvr, nm_e (nm_r (nI_1 i) ?_)⟩⟩⟩⟩
    rw [eo]
    exact ih (i + 1) (by omega)
theorem rx_xCommit {post : SX → Prop} {s k : Nat} (hs : s < 4) (hk : k ≤ 4) (hR : R ≤ 16) (hL8 : 8 ≤ L) (hL : L ≤ 32) (hb : b < L) (hn : n ≤ L) (hf : rx_RF R ur s k) (ek : su s = nI k)
    (hp : post (nI R, nI L, nI S, nI (rx_cb L b n k), nI (rx_cn L n k), nI p, cr, rx_vv ur un va s k, upd ss s 3, sn, su, ur, ue, un, rx_cx (rx_fr ur s) L b n xr k, rx_cx (rx_fo va ur s) L b n xo k, rx_cx (rx_fr un s) L b n xn k)) :
    wpX_takeCommitStep post (nI R, nI L, nI S, nI b, nI n, nI p, cr, va, ss, sn, su, ur, ue, un, xr, xo, xn) (nI s) :=
  nm_r rx_m4 ⟨vp_in_nI hs (by omega), nm_r (e' := nI k) (by rw [nI_clamp (by omega)]; exact ek) ⟨k + 1, rx_xcm hs hk hR hL8 hL hb hn hf hp k 0 (by omega)⟩⟩
theorem rx_ycm2 {post : SY → Prop} {x3 : Int32} {s k : Nat} (hs : s < 4) (hk : k ≤ 4) (hR : R ≤ 16) (hf : rx_RF R ur s k)
    (hp : post (nI R, nI L, nI S, nI n, pk, pd, cr, rx_vv ur un va s k, yr, yo, yn, upd ss s 3, su, upd sn s x3, ur, ue, un)) : ∀ d i, i + d = k →
    wY_step_173 post (nI s) (nI k) x3 (nI R) (nI L) (nI S) (nI n) pk pd cr (d + 1) (nI i) (rx_vv ur un va s i) yr yo yn ss su sn ur ue un := by
  have hv : vp_in (nI s) 4 := vp_in_nI hs (by omega)
  have es : (nI s).toNatClampNeg = s := nI_clamp (by omega)
  intro d
  induction d with
  | zero =>
    intro i hi
    obtain rfl : i = k := by omega
    exact br_t (nI_le (by omega) (by omega)) ⟨hv, nm_r (e' := upd ss s 3) (by rw [es]) ⟨hv, nm_r (e' := upd sn s x3) (by rw [es]) hp⟩⟩
  | succ d ih =>
    intro i hi
    obtain ⟨r, hr, er⟩ := hf.1 i (by omega)
    have ec : (nI (s * 4 + i)).toNatClampNeg = s * 4 + i := nI_clamp (by omega)
    have hw : vp_in (nI (s * 4 + i)) 16 := vp_in_nI (by omega) (by omega)
    have hvr : vp_in (ur (nI (s * 4 + i)).toNatClampNeg) 16 := by rw [ec, er]; exact vp_in_nI (by omega) (by omega)
    exact br_f (nI_ge (by omega) (by omega)) (br_f (nI_ge (b := 4) (by omega) (by decide)) (nm_r rx_i4 ⟨hw, hw, hvr, nm_r (e' := rx_vv ur un va s (i + 1)) (by rw [ec]; rfl) (nm_r (nI_1 i) (ih (i + 1) (by omega)))⟩))
theorem rx_ycm1 {post : SY → Prop} {x3 : Int32} {s k : Nat} (hs : s < 4) (hk : k ≤ 4) (hR : R ≤ 16) (hL8 : 8 ≤ L) (hL : L ≤ 32) (hn : n ≤ L) (hf : rx_RF R ur s k)
    (hp : post (nI R, nI L, nI S, nI (rx_cn L n k), pk, pd, cr, rx_vv ur un va s k, rx_ca (rx_fr ur s) L n yr k, rx_ca (rx_fo va ur s) L n yo k, rx_ca (rx_fr un s) L n yn k, upd ss s 3, su, upd sn s x3, ur, ue, un)) : ∀ d i, i + d = k →
    wY_step_114 post (nI s) (nI k) x3 (d + 1) (nI i) (nI R) (nI L) (nI S) (nI (rx_cn L n i)) pk pd cr va (rx_ca (rx_fr ur s) L n yr i) (rx_ca (rx_fo va ur s) L n yo i) (rx_ca (rx_fr un s) L n yn i) ss su sn ur ue un := by
  intro d
  induction d with
  | zero =>
    intro i hi
    obtain rfl : i = k := by omega
    exact br_t (nI_le (by omega) (by omega)) ⟨i + 1, rx_ycm2 hs hk hR hf hp i 0 (by omega)⟩
  | succ d ih =>
    intro i hi
    obtain ⟨r, hr, er⟩ := hf.1 i (by omega)
    have ec : (nI (s * 4 + i)).toNatClampNeg = s * 4 + i := nI_clamp (by omega)
    have hw : vp_in (nI (s * 4 + i)) 16 := vp_in_nI (by omega) (by omega)
    have hvr : vp_in (ur (nI (s * 4 + i)).toNatClampNeg) 16 := by rw [ec, er]; exact vp_in_nI (by omega) (by omega)
    refine br_f (nI_ge (by omega) (by omega)) (br_f (nI_ge (b := 4) (by omega) (by decide)) (nm_r rx_i4 ⟨hw, hw, hvr, hw, rx_yApp hL8 hL (rx_cn_le (by omega) hn i) (nm_r (nI_1 i) ?_)⟩))
    rw [ec]
    exact ih (i + 1) (by omega)
end RX5
