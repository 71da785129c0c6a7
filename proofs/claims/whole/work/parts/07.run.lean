section RX7
variable {R L S b n p : Nat} {pk pd cr : Int32} {va ss sn su ur ue un xr xo xn yr yo yn : Nat → Int32}
theorem rx_d0 : rx_D9 0 := by unfold rx_D9; decide
theorem rx_d1 : rx_D9 1 := by unfold rx_D9; decide
theorem rx_d2 : rx_D9 2 := by unfold rx_D9; decide
theorem rx_d3 : rx_D9 3 := by unfold rx_D9; decide
theorem rx_d4 : rx_D9 4 := by unfold rx_D9; decide
theorem rx_d5 : rx_D9 5 := by unfold rx_D9; decide
theorem rx_d6 : rx_D9 6 := by unfold rx_D9; decide
theorem rx_d7 : rx_D9 7 := by unfold rx_D9; decide
theorem rx_d8 : rx_D9 8 := by unfold rx_D9; decide
theorem rx_SI_mk {s t k : Nat} {x : Int32} (ex : ss s = x) (et : sn s = nI t) (ek : su s = nI k) (hk : k ≤ 4) (ht : t ≤ 2 * k + 2) (hD : rx_D9 x) (h2 : x = 2 → t ≤ k) (h3 : x = 3 → k + 1 ≤ t ∧ t ≤ 2 * k + 1) (hf : rx_RF R ur s k) : rx_SI R ss sn su ur s :=
  ⟨t, k, et, ek, hk, ht, by rw [ex]; exact hD, by rw [ex]; exact h2, by rw [ex]; exact h3, hf⟩
theorem rx_K_up {ss' sn' su' ur' : Nat → Int32} (K : rx_K R L S b n p pk pd ss sn su ur xr xo xn yr yo yn) (s0 : Nat) (h0 : rx_SI R ss' sn' su' ur' s0)
    (ho : ∀ s, s ≠ s0 → ss' s = ss s ∧ sn' s = sn s ∧ su' s = su s ∧ ∀ i, i < 4 → ur' (s * 4 + i) = ur (s * 4 + i)) :
    rx_K R L S b n p pk pd ss' sn' su' ur' xr xo xn yr yo yn := by
  obtain ⟨k1, k2, k3, k4, k5, k6, k7, k8, k9, k10, k11, k12, k13⟩ := K
  exact ⟨k1, k2, k3, k4, k5, k6, k7, k8, k9, rx_SI_up k10 s0 h0 ho, k11, k12, k13⟩
theorem rx_K_log {b' n' : Nat} {xr' xo' xn' yr' yo' yn' : Nat → Int32} (K : rx_K R L S b n p pk pd ss sn su ur xr xo xn yr yo yn) (hb : b' < L) (hn : n' ≤ L)
    (h1 : rx_LG L b' n' xr' yr') (h2 : rx_LG L b' n' xo' yo') (h3 : rx_LG L b' n' xn' yn') :
    rx_K R L S b' n' p pk pd ss sn su ur xr' xo' xn' yr' yo' yn' := by
  obtain ⟨k1, k2, k3, k4, k5, k6, k7, k8, k9, k10, k11, k12, k13⟩ := K
  exact ⟨k1, k2, k3, k4, k5, k6, hb, hn, k9, k10, h1, h2, h3⟩
theorem rx_K_p {p' : Nat} {pk' pd' : Int32} (K : rx_K R L S b n p pk pd ss sn su ur xr xo xn yr yo yn) (h : rx_PK p' pk' pd') :
    rx_K R L S b n p' pk' pd' ss sn su ur xr xo xn yr yo yn := by
  obtain ⟨k1, k2, k3, k4, k5, k6, k7, k8, k9, k10, k11, k12, k13⟩ := K
  exact ⟨k1, k2, k3, k4, k5, k6, k7, k8, h, k10, k11, k12, k13⟩
/-- what a slot of k updates keeps of its steps -/
def rx_Tk (x : Int32) (t k : Nat) : Prop := t ≤ 2 * k + 2 ∧ (x = 2 → t ≤ k) ∧ (x = 3 → k + 1 ≤ t ∧ t ≤ 2 * k + 1)
/-- one step of a running slot: both sides take it, alike -/
theorem rx_step {s t k : Nat} (hs : s < S) (K : rx_K R L S b n p pk pd ss sn su ur xr xo xn yr yo yn) (hr : ss s = 2 ∨ ss s = 3) (et : sn s = nI t) (ek : su s = nI k) (hk : k ≤ 4) (hT : rx_Tk (ss s) t k) (hf : rx_RF R ur s k) :
    ∃ (b' n' : Nat) (va' ss' sn' xr' xo' xn' yr' yo' yn' : Nat → Int32) (t' : Nat),
      rx_K R L S b' n' p pk pd ss' sn' su ur xr' xo' xn' yr' yo' yn' ∧ sn' s = nI t' ∧ rx_Tk (ss' s) t' k ∧ ((ss' s = 2 ∨ ss' s = 3) → t' = t + 1) ∧
      (∀ post : SX → Prop, post (nI R, nI L, nI S, nI b', nI n', nI p, cr, va', ss', sn', su, ur, ue, un, xr', xo', xn') → wpX_takeStep post (nI R, nI L, nI S, nI b, nI n, nI p, cr, va, ss, sn, su, ur, ue, un, xr, xo, xn) (nI s)) ∧
      (∀ post : SY → Prop, post (nI R, nI L, nI S, nI n', pk, pd, cr, va', yr', yo', yn', ss', su, sn', ur, ue, un) → wpY_step post (nI R, nI L, nI S, nI n, pk, pd, cr, va, yr, yo, yn, ss, su, sn, ur, ue, un) (nI s)) := by
  have K0 := K
  obtain ⟨k1, k2, k3, k4, k5, k6, k7, k8, k9, k10, k11, k12, k13⟩ := K0
  have hs4 : s < 4 := by omega
  obtain ⟨T1, T2, T3⟩ := hT
  have up : ∀ (ss' sn' : Nat → Int32) (x : Int32) (t' : Nat), ss' s = x → sn' s = nI t' → rx_D9 x → rx_Tk x t' k → (∀ j, j ≠ s → ss' j = ss j ∧ sn' j = sn j) → rx_K R L S b n p pk pd ss' sn' su ur xr xo xn yr yo yn := by
    intro ss' sn' x t' ex et' hD hT' ho
    exact rx_K_up K s (rx_SI_mk ex et' ek hk hT'.1 hD hT'.2.1 hT'.2.2 hf) (fun j hj => ⟨(ho j hj).1, (ho j hj).2, rfl, fun _ _ => rfl⟩)
  by_cases c1 : t < k
  · have e2 : ss s = 2 := by
      rcases hr with z | z
      · exact z
      · have := T3 z; omega
    by_cases ho : rx_Ot S ss sn su ur (ur (s * 4 + t)) s
    · have hT' : rx_Tk 5 t k := ⟨T1, fun z => absurd z (by decide), fun z => absurd z (by decide)⟩
      refine ⟨b, n, va, upd ss s 5, sn, xr, xo, xn, yr, yo, yn, t, up (upd ss s 5) sn 5 t pk_us et rx_d5 hT' (fun j hj => ⟨pk_un hj, rfl⟩), et, by rw [pk_us]; exact hT', fun z => ?_, fun post hp => ?_, fun post hp => ?_⟩
      · rw [pk_us] at z; exact absurd z (by decide)
      · exact rx_xStepL hs4 k6 k2 k10 et ek hk c1 hf (fun _ => hp) (fun z => absurd ho z) (fun z => absurd ho z)
      · exact rx_yStepL hs4 k6 k2 k10 et ek hk c1 hf (fun _ => hp) (fun z => absurd ho z) (fun z => absurd ho z)
    · by_cases hm : ue (s * 4 + t) = -1 ∨ ue (s * 4 + t) = va (ur (s * 4 + t)).toNatClampNeg
      · have hT' : rx_Tk (ss s) (t + 1) k := ⟨by omega, fun _ => by omega, fun z => absurd (e2.symm.trans z) (by decide)⟩
        refine ⟨b, n, va, ss, upd sn s (nI (t + 1)), xr, xo, xn, yr, yo, yn, t + 1, up ss (upd sn s (nI (t + 1))) (ss s) (t + 1) rfl pk_us (by rw [e2]; exact rx_d2) hT' (fun j hj => ⟨rfl, pk_un hj⟩), pk_us, hT', fun _ => rfl, fun post hp => ?_, fun post hp => ?_⟩
        · exact rx_xStepL hs4 k6 k2 k10 et ek hk c1 hf (fun z => absurd z ho) (fun _ a c => absurd hm (fun z => z.elim a c)) (fun _ _ => hp)
        · exact rx_yStepL hs4 k6 k2 k10 et ek hk c1 hf (fun z => absurd z ho) (fun _ a c => absurd hm (fun z => z.elim a c)) (fun _ _ => hp)
      · have hT' : rx_Tk 6 t k := ⟨T1, fun z => absurd z (by decide), fun z => absurd z (by decide)⟩
        refine ⟨b, n, va, upd ss s 6, sn, xr, xo, xn, yr, yo, yn, t, up (upd ss s 6) sn 6 t pk_us et rx_d6 hT' (fun j hj => ⟨pk_un hj, rfl⟩), et, by rw [pk_us]; exact hT', fun z => ?_, fun post hp => ?_, fun post hp => ?_⟩
        · rw [pk_us] at z; exact absurd z (by decide)
        · exact rx_xStepL hs4 k6 k2 k10 et ek hk c1 hf (fun z => absurd z ho) (fun _ _ _ => hp) (fun _ z => absurd z hm)
        · exact rx_yStepL hs4 k6 k2 k10 et ek hk c1 hf (fun z => absurd z ho) (fun _ _ _ => hp) (fun _ z => absurd z hm)
  · by_cases c2 : t = k
    · subst c2
      have hT' : rx_Tk 3 (t + 1) t := ⟨by omega, fun z => absurd z (by decide), fun _ => by omega⟩
      refine ⟨rx_cb L b n t, rx_cn L n t, rx_vv ur un va s t, upd ss s 3, upd sn s (nI (t + 1)), rx_cx (rx_fr ur s) L b n xr t, rx_cx (rx_fo va ur s) L b n xo t, rx_cx (rx_fr un s) L b n xn t, rx_ca (rx_fr ur s) L n yr t, rx_ca (rx_fo va ur s) L n yo t, rx_ca (rx_fr un s) L n yn t, t + 1, ?_, pk_us, by rw [pk_us]; exact hT', fun _ => rfl, fun post hp => ?_, fun post hp => ?_⟩
      · exact rx_K_log (up (upd ss s 3) (upd sn s (nI (t + 1))) 3 (t + 1) pk_us pk_us rx_d3 hT' (fun j hj => ⟨pk_un hj, pk_un hj⟩)) (rx_cb_lt (by omega) k7 t) (rx_cn_le (by omega) k8 t) (rx_c_lg (by omega) k7 k8 k11 t) (rx_c_lg (by omega) k7 k8 k12 t) (rx_c_lg (by omega) k7 k8 k13 t)
      · exact rx_xStepC hs4 hk k2 k3 k4 k7 k8 hf et ek hp
      · exact rx_yStepC hs4 hk k2 k3 k4 k8 hf et ek hp
    · have e3 : ss s = 3 := by
        rcases hr with z | z
        · have := T2 z; omega
        · exact z
      have T3' := T3 e3
      by_cases c3 : t ≤ 2 * k
      · have hT' : rx_Tk (ss s) (t + 1) k := ⟨by omega, fun z => absurd (e3.symm.trans z) (by decide), fun _ => by omega⟩
        exact ⟨b, n, va, ss, upd sn s (nI (t + 1)), xr, xo, xn, yr, yo, yn, t + 1, up ss (upd sn s (nI (t + 1))) (ss s) (t + 1) rfl pk_us (by rw [e3]; exact rx_d3) hT' (fun j hj => ⟨rfl, pk_un hj⟩), pk_us, hT', fun _ => rfl, fun post hp => rx_xStepA hs4 hk et ek (by omega) c3 hp, fun post hp => rx_yStepA hs4 hk et ek (by omega) c3 hp⟩
      · obtain rfl : t = 2 * k + 1 := by omega
        have hT' : rx_Tk 4 (2 * k + 2) k := ⟨by omega, fun z => absurd z (by decide), fun z => absurd z (by decide)⟩
        refine ⟨b, n, va, upd ss s 4, upd sn s (nI (2 * k + 2)), xr, xo, xn, yr, yo, yn, 2 * k + 2, up (upd ss s 4) (upd sn s (nI (2 * k + 2))) 4 (2 * k + 2) pk_us pk_us rx_d4 hT' (fun j hj => ⟨pk_un hj, pk_un hj⟩), pk_us, by rw [pk_us]; exact hT', fun _ => rfl, fun post hp => rx_xStepD hs4 hk et ek hp, fun post hp => rx_yStepD hs4 hk et ek hp⟩
theorem rx_xRun1 {post : Int32 → Prop} {s : Nat} (hs : s < 4) (h : ss s = 2 ∨ ss s = 3) (hp : post 1) : wpX_isRunning post (nI R, nI L, nI S, nI b, nI n, nI p, cr, va, ss, sn, su, ur, ue, un, xr, xo, xn) (nI s) := by
  have hv : vp_in (nI s) 4 := vp_in_nI hs (by omega)
  unfold wpX_isRunning
  dsimp only
  rw [nI_clamp (show s < 2 ^ 31 by omega)]
  by_cases a : ss s = 2
  · exact ⟨hv, br_t a hp⟩
  · exact ⟨hv, br_f a ⟨hv, br_t (h.resolve_left a) hp⟩⟩
theorem rx_xRun0 {post : Int32 → Prop} {s : Nat} (hs : s < 4) (h : ¬ (ss s = 2 ∨ ss s = 3)) (hp : post 0) : wpX_isRunning post (nI R, nI L, nI S, nI b, nI n, nI p, cr, va, ss, sn, su, ur, ue, un, xr, xo, xn) (nI s) := by
  have hv : vp_in (nI s) 4 := vp_in_nI hs (by omega)
  unfold wpX_isRunning
  dsimp only
  rw [nI_clamp (show s < 2 ^ 31 by omega)]
  exact ⟨hv, br_f (fun z => h (Or.inl z)) ⟨hv, br_f (fun z => h (Or.inr z)) hp⟩⟩
/-- the run loop: both sides, in lockstep, to one end -/
theorem rx_run {s k c t0 m : Nat} (hs : s < S) (ek : su s = nI k) (hk : k ≤ 4) (hf : rx_RF R ur s k) (hc : c < 2 ^ 31) (hm : m ≤ c) (hm2 : m < 2 ^ 31) (hm3 : ∀ i, i < c → t0 + i < 2 * k + 2 → i < m) :
    ∀ (d i b n : Nat) (va ss sn xr xo xn yr yo yn : Nat → Int32) (t : Nat), rx_K R L S b n p pk pd ss sn su ur xr xo xn yr yo yn → sn s = nI t → rx_Tk (ss s) t k → ((ss s = 2 ∨ ss s = 3) → t + d = 2 * k + 2 ∧ t = t0 + i) → i + d ≤ 10 →
    ∃ (b' n' : Nat) (va' ss' sn' xr' xo' xn' yr' yo' yn' : Nat → Int32) (t' : Nat),
      rx_K R L S b' n' p pk pd ss' sn' su ur xr' xo' xn' yr' yo' yn' ∧
      (∀ post : Int32 → SX → Prop, post (nI t' - nI t0) (nI R, nI L, nI S, nI b', nI n', nI p, cr, va', ss', sn', su, ur, ue, un, xr', xo', xn') → wX_run_86 post (nI s) (nI t0) (nI m) (d + 1) (nI i) (nI R) (nI L) (nI S) (nI b) (nI n) (nI p) cr va ss sn su ur ue un xr xo xn) ∧
      (∀ post : Int32 → SY → Prop, post (nI t' - nI t0) (nI R, nI L, nI S, nI n', pk, pd, cr, va', yr', yo', yn', ss', su, sn', ur, ue, un) → wY_run_71 post (nI s) (nI c) (nI t0) (d + 1) (nI i) (nI R) (nI L) (nI S) (nI n) pk pd cr va yr yo yn ss su sn ur ue un) := by
  intro d
  induction d with
  | zero =>
    intro i b n va ss sn xr xo xn yr yo yn t K et hT hd hi
    have hs4 : s < 4 := by have := K.2.2.2.2.2.1; omega
    have hv : vp_in (nI s) 4 := vp_in_nI hs4 (by omega)
    have es : (nI s).toNatClampNeg = s := nI_clamp (by omega)
    have hr : ¬ (ss s = 2 ∨ ss s = 3) := by
      intro hr
      have h1 := hd hr
      rcases hr with z | z
      · have := hT.2.1 z; omega
      · have := hT.2.2 z; omega
    refine ⟨b, n, va, ss, sn, xr, xo, xn, yr, yo, yn, t, K, fun post hp => ?_, fun post hp => ?_⟩
    · have hp' : post (sn (nI s).toNatClampNeg - nI t0) (nI R, nI L, nI S, nI b, nI n, nI p, cr, va, ss, sn, su, ur, ue, un, xr, xo, xn) := by rw [es, et]; exact hp
      exact br_c (fun _ => ⟨hv, hp'⟩) (fun _ => rx_xRun0 hs4 hr (br_t rfl ⟨hv, hp'⟩))
    · have hp' : post (sn (nI s).toNatClampNeg - nI t0) (nI R, nI L, nI S, nI n, pk, pd, cr, va, yr, yo, yn, ss, su, sn, ur, ue, un) := by rw [es, et]; exact hp
      exact br_c (fun _ => ⟨hv, hp'⟩) (fun _ => br_c (fun _ => ⟨hv, hp'⟩) (fun _ => ⟨hv, br_f (by rw [es]; exact fun z => hr (Or.inl z)) ⟨hv, br_f (by rw [es]; exact fun z => hr (Or.inr z)) ⟨hv, hp'⟩⟩⟩))
  | succ d ih =>
    intro i b n va ss sn xr xo xn yr yo yn t K et hT hd hi
    have hs4 : s < 4 := by have := K.2.2.2.2.2.1; omega
    have hv : vp_in (nI s) 4 := vp_in_nI hs4 (by omega)
    have es : (nI s).toNatClampNeg = s := nI_clamp (by omega)
    by_cases hr : ss s = 2 ∨ ss s = 3
    · have h1 := hd hr
      by_cases hci : i < c
      · have hmi : i < m := hm3 i hci (by omega)
        obtain ⟨b1, n1, va1, ss1, sn1, xr1, xo1, xn1, yr1, yo1, yn1, t1, K1, et1, hT1, hd1, hX, hY⟩ := rx_step (cr := cr) (va := va) (ue := ue) (un := un) hs K hr et ek hk hT hf
        obtain ⟨b2, n2, va2, ss2, sn2, xr2, xo2, xn2, yr2, yo2, yn2, t2, K2, iX, iY⟩ := ih (i + 1) b1 n1 va1 ss1 sn1 xr1 xo1 xn1 yr1 yo1 yn1 t1 K1 et1 hT1 (fun z => by have := hd1 z; omega) (by omega)
        refine ⟨b2, n2, va2, ss2, sn2, xr2, xo2, xn2, yr2, yo2, yn2, t2, K2, fun post hp => ?_, fun post hp => ?_⟩
        · exact br_f (nI_ge hmi hm2) (rx_xRun1 hs4 hr (br_f (by decide) (hX _ (nm_r (nI_1 i) (iX post hp)))))
        · have st : wY_run_107 post (wY_run_71 post (nI s) (nI c) (nI t0) (d + 1)) (nI s) (nI c) (nI t0) (nI i) (nI R) (nI L) (nI S) (nI n) pk pd cr va yr yo yn ss su sn ur ue un := hY _ (nm_r (nI_1 i) (iY post hp))
          refine br_f (nI_ge hci hc) (br_f (nI_ge (b := 16) (by omega) (by decide)) ⟨hv, ?_⟩)
          by_cases a : ss s = 2
          · exact br_t (by rw [es]; exact a) st
          · exact br_f (by rw [es]; exact a) ⟨hv, br_t (by rw [es]; exact hr.resolve_left a) st⟩
      · refine ⟨b, n, va, ss, sn, xr, xo, xn, yr, yo, yn, t, K, fun post hp => ?_, fun post hp => ?_⟩
        · have hp' : post (sn (nI s).toNatClampNeg - nI t0) (nI R, nI L, nI S, nI b, nI n, nI p, cr, va, ss, sn, su, ur, ue, un, xr, xo, xn) := by rw [es, et]; exact hp
          exact br_t (nI_le (by omega) (by omega)) ⟨hv, hp'⟩
        · have hp' : post (sn (nI s).toNatClampNeg - nI t0) (nI R, nI L, nI S, nI n, pk, pd, cr, va, yr, yo, yn, ss, su, sn, ur, ue, un) := by rw [es, et]; exact hp
          exact br_t (nI_le (by omega) (by omega)) ⟨hv, hp'⟩
    · refine ⟨b, n, va, ss, sn, xr, xo, xn, yr, yo, yn, t, K, fun post hp => ?_, fun post hp => ?_⟩
      · have hp' : post (sn (nI s).toNatClampNeg - nI t0) (nI R, nI L, nI S, nI b, nI n, nI p, cr, va, ss, sn, su, ur, ue, un, xr, xo, xn) := by rw [es, et]; exact hp
        exact br_c (fun _ => ⟨hv, hp'⟩) (fun _ => rx_xRun0 hs4 hr (br_t rfl ⟨hv, hp'⟩))
      · have hp' : post (sn (nI s).toNatClampNeg - nI t0) (nI R, nI L, nI S, nI n, pk, pd, cr, va, yr, yo, yn, ss, su, sn, ur, ue, un) := by rw [es, et]; exact hp
        exact br_c (fun _ => ⟨hv, hp'⟩) (fun _ => br_c (fun _ => ⟨hv, hp'⟩) (fun _ => ⟨hv, br_f (by rw [es]; exact fun z => hr (Or.inl z)) ⟨hv, br_f (by rw [es]; exact fun z => hr (Or.inr z)) ⟨hv, hp'⟩⟩⟩))
end RX7
