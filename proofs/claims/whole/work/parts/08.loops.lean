section RX8
variable {R L S b n p : Nat} {pk pd cr : Int32} {va ss sn su ur ue un xr xo xn yr yo yn : Nat → Int32}
theorem rx_mk {j : Nat} (K : rx_K R L S b n p pk pd ss sn su ur xr xo xn yr yo yn) : i_Rel j (nI R, nI L, nI S, nI b, nI n, nI p, cr, va, ss, sn, su, ur, ue, un, xr, xo, xn) (nI R, nI L, nI S, nI n, pk, pd, cr, va, yr, yo, yn, ss, su, sn, ur, ue, un) :=
  ⟨R, L, S, b, n, p, pk, pd, cr, va, ss, sn, su, ur, ue, un, xr, xo, xn, yr, yo, yn, rfl, rfl, K⟩
/-! is it a slot, a ref -/
theorem rx_xSl0 {post : Int32 → Prop} {x : Int32} (h : x < 0 ∨ nI S ≤ x) (hp : post 0) : wpX_isSlot post (nI R, nI L, nI S, nI b, nI n, nI p, cr, va, ss, sn, su, ur, ue, un, xr, xo, xn) x := br_c (fun _ => hp) (fun a => br_t (h.resolve_left a) hp)
theorem rx_xSl1 {post : Int32 → Prop} {s : Nat} (hs : s < S) (hS : S ≤ 4) (hp : post 1) : wpX_isSlot post (nI R, nI L, nI S, nI b, nI n, nI p, cr, va, ss, sn, su, ur, ue, un, xr, xo, xn) (nI s) := br_f (nI_pos (by omega)) (br_f (nI_ge hs (by omega)) hp)
theorem rx_ySl1 {post : Int32 → Prop} {x : Int32} (h : x < 0 ∨ nI S ≤ x) (hp : post 1) : wpY_badSlot post (nI R, nI L, nI S, nI n, pk, pd, cr, va, yr, yo, yn, ss, su, sn, ur, ue, un) x := br_c (fun _ => hp) (fun a => br_f (Int32.not_lt.mpr (h.resolve_left a)) hp)
theorem rx_ySl0 {post : Int32 → Prop} {s : Nat} (hs : s < S) (hS : S ≤ 4) (hp : post 0) : wpY_badSlot post (nI R, nI L, nI S, nI n, pk, pd, cr, va, yr, yo, yn, ss, su, sn, ur, ue, un) (nI s) := br_f (nI_pos (by omega)) (br_t (nI_lt hs (by omega)) hp)
theorem rx_xRf0 {post : Int32 → Prop} {x : Int32} (h : x < 0 ∨ nI R ≤ x) (hp : post 0) : wpX_isRef post (nI R, nI L, nI S, nI b, nI n, nI p, cr, va, ss, sn, su, ur, ue, un, xr, xo, xn) x := br_c (fun _ => hp) (fun a => br_t (h.resolve_left a) hp)
theorem rx_xRf1 {post : Int32 → Prop} {r : Nat} (hr : r < R) (hR : R ≤ 16) (hp : post 1) : wpX_isRef post (nI R, nI L, nI S, nI b, nI n, nI p, cr, va, ss, sn, su, ur, ue, un, xr, xo, xn) (nI r) := br_f (nI_pos (by omega)) (br_f (nI_ge hr (by omega)) hp)
/-! begin -/
theorem rx_xUse1 {post : Int32 → Prop} {s : Nat} (hs : s < 4) (h : ss s = 1 ∨ ss s = 2 ∨ ss s = 3) (hp : post 1) : wpX_isInUse post (nI R, nI L, nI S, nI b, nI n, nI p, cr, va, ss, sn, su, ur, ue, un, xr, xo, xn) (nI s) := by
  have hv : vp_in (nI s) 4 := vp_in_nI hs (by omega)
  have es : (nI s).toNatClampNeg = s := nI_clamp (by omega)
  by_cases a : ss s = 1
  · exact ⟨hv, br_t (by rw [es]; exact a) hp⟩
  · exact ⟨hv, br_f (by rw [es]; exact a) (rx_xRun1 hs (h.resolve_left a) (br_f (by decide) hp))⟩
theorem rx_xUse0 {post : Int32 → Prop} {s : Nat} (hs : s < 4) (h : ¬ (ss s = 1 ∨ ss s = 2 ∨ ss s = 3)) (hp : post 0) : wpX_isInUse post (nI R, nI L, nI S, nI b, nI n, nI p, cr, va, ss, sn, su, ur, ue, un, xr, xo, xn) (nI s) := by
  have hv : vp_in (nI s) 4 := vp_in_nI hs (by omega)
  have es : (nI s).toNatClampNeg = s := nI_clamp (by omega)
  exact ⟨hv, br_f (by rw [es]; exact fun z => h (Or.inl z)) (rx_xRun0 hs (fun z => h (Or.inr z)) (br_t rfl hp))⟩
theorem rx_yReu0 {post : Int32 → Prop} {x : Int32} (h : x = 1 ∨ x = 2 ∨ x = 3) (hp : post 0) : wpY_reusable post (nI R, nI L, nI S, nI n, pk, pd, cr, va, yr, yo, yn, ss, su, sn, ur, ue, un) x := by
  rcases h with rfl | rfl | rfl <;> exact br_f (by decide) (br_f (by decide) (br_t (by decide) hp))
theorem rx_yReu1 {post : Int32 → Prop} {x : Int32} (hD : rx_D9 x) (h : ¬ (x = 1 ∨ x = 2 ∨ x = 3)) (hp : post 1) : wpY_reusable post (nI R, nI L, nI S, nI n, pk, pd, cr, va, yr, yo, yn, ss, su, sn, ur, ue, un) x := by
  rcases hD with rfl | rfl | rfl | rfl | rfl | rfl | rfl | rfl | rfl
  · exact br_t rfl hp
  · exact absurd (by decide) h
  · exact absurd (by decide) h
  · exact absurd (by decide) h
  · exact br_f (by decide) (br_t rfl hp)
  all_goals exact br_f (by decide) (br_f (by decide) (br_f (by decide) hp))
theorem rx_begin (K : rx_K R L S b n p pk pd ss sn su ur xr xo xn yr yo yn) : ∀ d i, i + d = S →
    ∃ (r : Int32) (ss' sn' su' : Nat → Int32), rx_K R L S b n p pk pd ss' sn' su' ur xr xo xn yr yo yn ∧
      (∀ post : Int32 → SX → Prop, post r (nI R, nI L, nI S, nI b, nI n, nI p, cr, va, ss', sn', su', ur, ue, un, xr, xo, xn) → wX_begin_11 post (nI R) (nI L) (nI S) (nI b) (nI n) (nI p) cr va ss sn su ur ue un xr xo xn (d + 1) (nI i)) ∧
      (∀ post : Int32 → SY → Prop, post r (nI R, nI L, nI S, nI n, pk, pd, cr, va, yr, yo, yn, ss', su', sn', ur, ue, un) → wY_begin_11 post (nI R) (nI L) (nI S) (nI n) pk pd cr va yr yo yn ss su sn ur ue un (d + 1) (nI i)) := by
  have K0 := K
  obtain ⟨k1, k2, k3, k4, k5, k6, k7, k8, k9, k10, k11, k12, k13⟩ := K0
  intro d
  induction d with
  | zero =>
    intro i hi
    exact ⟨-6, ss, sn, su, K, fun post hp => br_t (nI_le (by omega) (by omega)) hp, fun post hp => br_t (nI_le (by omega) (by omega)) hp⟩
  | succ d ih =>
    intro i hi
    have hv : vp_in (nI i) 4 := vp_in_nI (by omega) (by omega)
    have es : (nI i).toNatClampNeg = i := nI_clamp (by omega)
    by_cases hu : ss i = 1 ∨ ss i = 2 ∨ ss i = 3
    · obtain ⟨r, ss', sn', su', K', iX, iY⟩ := ih (i + 1) (by omega)
      refine ⟨r, ss', sn', su', K', fun post hp => ?_, fun post hp => ?_⟩
      · exact br_f (nI_ge (by omega) (by omega)) (rx_xUse1 (by omega) hu (br_f (by decide) (nm_r (nI_1 i) (iX post hp))))
      · exact br_f (nI_ge (by omega) (by omega)) ⟨hv, rx_yReu0 (by rw [es]; exact hu) (br_t rfl (nm_r (nI_1 i) (iY post hp)))⟩
    · refine ⟨nI i, upd ss i 1, upd sn i 0, upd su i 0, ?_, fun post hp => ?_, fun post hp => ?_⟩
      · exact rx_K_up K i (rx_SI_mk (x := 1) (t := 0) (k := 0) pk_us (pk_us.trans nI_0.symm) (pk_us.trans nI_0.symm) (by omega) (by omega) rx_d1 (fun z => absurd z (by decide)) (fun z => absurd z (by decide)) ⟨fun j h => absurd h (by omega), fun _ _ _ h => absurd h (by omega)⟩) (fun j hj => ⟨pk_un hj, pk_un hj, pk_un hj, fun _ _ => rfl⟩)
      · exact br_f (nI_ge (by omega) (by omega)) (rx_xUse0 (by omega) hu (br_t rfl ⟨hv, nm_r (e' := upd su i 0) (by rw [es]) ⟨hv, nm_r (e' := upd sn i 0) (by rw [es]) ⟨hv, nm_r (e' := upd ss i 1) (by rw [es]) hp⟩⟩⟩))
      · exact br_f (nI_ge (by omega) (by omega)) ⟨hv, rx_yReu1 (by rw [es]; obtain ⟨t, k, _, _, _, _, h, _⟩ := k10 i (by omega); exact h) (by rw [es]; exact hu) (br_f (by decide) ⟨hv, nm_r (e' := upd su i 0) (by rw [es]) ⟨hv, nm_r (e' := upd sn i 0) (by rw [es]) ⟨hv, nm_r (e' := upd ss i 1) (by rw [es]) hp⟩⟩⟩)⟩
/-! packStart -/
theorem rx_packStart (K : rx_K R L S b n p pk pd ss sn su ur xr xo xn yr yo yn) : ∀ d i, i + d = S →
    ∃ (r : Int32) (p' : Nat) (pk' pd' : Int32), rx_K R L S b n p' pk' pd' ss sn su ur xr xo xn yr yo yn ∧
      (∀ post : Int32 → SX → Prop, post r (nI R, nI L, nI S, nI b, nI n, nI p', cr, va, ss, sn, su, ur, ue, un, xr, xo, xn) → wX_packStart_21 post (nI R) (nI L) (nI S) (nI b) (nI n) (nI p) cr va ss sn su ur ue un xr xo xn (d + 1) (nI i)) ∧
      (∀ post : Int32 → SY → Prop, post r (nI R, nI L, nI S, nI n, pk', pd', cr, va, yr, yo, yn, ss, su, sn, ur, ue, un) → wY_packStart_21 post (nI R) (nI L) (nI S) (nI n) pk pd cr va yr yo yn ss su sn ur ue un (d + 1) (nI i)) := by
  have K0 := K
  obtain ⟨k1, k2, k3, k4, k5, k6, k7, k8, k9, k10, k11, k12, k13⟩ := K0
  intro d
  induction d with
  | zero =>
    intro i hi
    exact ⟨0, 0, 1, 0, rx_K_p K (Or.inr ⟨by omega, rfl, nI_0.symm⟩), fun post hp => br_t (nI_le (by omega) (by omega)) hp, fun post hp => br_t (nI_le (by omega) (by omega)) hp⟩
  | succ d ih =>
    intro i hi
    have hv : vp_in (nI i) 4 := vp_in_nI (by omega) (by omega)
    have es : (nI i).toNatClampNeg = i := nI_clamp (by omega)
    by_cases hu : ss i = 2 ∨ ss i = 3
    · refine ⟨-9, p, pk, pd, K, fun post hp => ?_, fun post hp => ?_⟩
      · exact br_f (nI_ge (by omega) (by omega)) (rx_xRun1 (by omega) hu (br_f (by decide) hp))
      · refine br_f (nI_ge (by omega) (by omega)) ⟨hv, ?_⟩
        by_cases a : ss i = 2
        · exact br_t (by rw [es]; exact a) hp
        · exact br_f (by rw [es]; exact a) ⟨hv, br_t (by rw [es]; exact hu.resolve_left a) hp⟩
    · obtain ⟨r, p', pk', pd', K', iX, iY⟩ := ih (i + 1) (by omega)
      refine ⟨r, p', pk', pd', K', fun post hp => ?_, fun post hp => ?_⟩
      · exact br_f (nI_ge (by omega) (by omega)) (rx_xRun0 (by omega) hu (br_t rfl (nm_r (nI_1 i) (iX post hp))))
      · exact br_f (nI_ge (by omega) (by omega)) ⟨hv, br_f (by rw [es]; exact fun z => hu (Or.inl z)) ⟨hv, br_f (by rw [es]; exact fun z => hu (Or.inr z)) (nm_r (nI_1 i) (iY post hp))⟩⟩
/-! packRun: Y's loop -/
theorem rx_ypr {post : Int32 → SY → Prop} {c : Nat} (hc : c < 2 ^ 31) (hp3 : p ≤ 3)
    (hA : 3 - p ≤ c → post (nI (3 - p)) (nI R, nI L, nI S, nI n, 0, 0, cr, va, yr, yo, yn, ss, su, sn, ur, ue, un)) (hB : c < 3 - p → post (nI c) (nI R, nI L, nI S, nI n, 1, nI (p + c), cr, va, yr, yo, yn, ss, su, sn, ur, ue, un)) : ∀ (d i : Nat) (pk pd : Int32),
    ((d = 0 ∧ pk = 0 ∧ pd = 0 ∧ p + i = 3) ∨ (0 < d ∧ pk = 1 ∧ pd = nI (p + i) ∧ p + i + d = 3)) → i ≤ c →
    wY_packRun_31 post (nI c) (nI R) (nI L) (nI S) (nI n) cr va yr yo yn ss su sn ur ue un (d + 1) (nI i) (nI i) pk pd := by
  intro d
  induction d with
  | zero =>
    intro i pk pd h hi
    rcases h with ⟨_, rfl, rfl, h⟩ | ⟨h, _⟩
    · have q := hA (by omega)
      rw [show 3 - p = i by omega] at q
      exact br_c (fun _ => q) (fun _ => br_c (fun _ => q) (fun _ => br_t rfl q))
    · exact absurd h (by omega)
  | succ d ih =>
    intro i pk pd h hi
    rcases h with ⟨h, _⟩ | ⟨_, rfl, rfl, h⟩
    · exact absurd h (by omega)
    · by_cases hci : c ≤ i
      · obtain rfl : i = c := by omega
        exact br_t (nI_le (by omega) (by omega)) (hB (by omega))
      · refine br_f (nI_ge (by omega) (by omega)) (br_f (nI_ge (b := 3) (by omega) (by decide)) (br_f (by decide) (nm_r (nI_1 (p + i)) (nm_r (nI_1 i) ?_))))
        by_cases hd : d = 0
        · exact br_f (nI_nlt (b := 3) (by omega) (by omega)) (nm_r (nI_1 i) (ih (i + 1) 0 0 (Or.inl ⟨hd, rfl, rfl, by omega⟩) (by omega)))
        · exact br_t (nI_lt (b := 3) (by omega) (by decide)) (nm_r (nI_1 i) (ih (i + 1) 1 (nI (p + i + 1)) (Or.inr ⟨by omega, rfl, rfl, by omega⟩) (by omega)))
/-! crash -/
theorem rx_xUnc1 {post : Int32 → Prop} {s : Nat} (hs : s < 4) (h : ss s = 1 ∨ ss s = 2) (hp : post 1) : wpX_isUncommitted post (nI R, nI L, nI S, nI b, nI n, nI p, cr, va, ss, sn, su, ur, ue, un, xr, xo, xn) (nI s) := by
  have hv : vp_in (nI s) 4 := vp_in_nI hs (by omega)
  have es : (nI s).toNatClampNeg = s := nI_clamp (by omega)
  by_cases a : ss s = 1
  · exact ⟨hv, br_t (by rw [es]; exact a) hp⟩
  · exact ⟨hv, br_f (by rw [es]; exact a) ⟨hv, br_t (by rw [es]; exact h.resolve_left a) hp⟩⟩
theorem rx_xUnc0 {post : Int32 → Prop} {s : Nat} (hs : s < 4) (h : ¬ (ss s = 1 ∨ ss s = 2)) (hp : post 0) : wpX_isUncommitted post (nI R, nI L, nI S, nI b, nI n, nI p, cr, va, ss, sn, su, ur, ue, un, xr, xo, xn) (nI s) := by
  have hv : vp_in (nI s) 4 := vp_in_nI hs (by omega)
  have es : (nI s).toNatClampNeg = s := nI_clamp (by omega)
  exact ⟨hv, br_f (by rw [es]; exact fun z => h (Or.inl z)) ⟨hv, br_f (by rw [es]; exact fun z => h (Or.inr z)) hp⟩⟩
theorem rx_xSet7 {post : SX → Prop} {s : Nat} (hs : s < 4) (h : ss s = 1 ∨ ss s = 2) (hp : post (nI R, nI L, nI S, nI b, nI n, nI p, cr, va, upd ss s 7, sn, su, ur, ue, un, xr, xo, xn)) : wpX_settleAtCrash post (nI R, nI L, nI S, nI b, nI n, nI p, cr, va, ss, sn, su, ur, ue, un, xr, xo, xn) (nI s) := by
  have hv : vp_in (nI s) 4 := vp_in_nI hs (by omega)
  have es : (nI s).toNatClampNeg = s := nI_clamp (by omega)
  unfold wpX_settleAtCrash
  exact rx_xUnc1 hs h (br_f (by decide) ⟨hv, nm_r (e' := upd ss s 7) (by rw [es]) hp⟩)
theorem rx_xSet4 {post : SX → Prop} {s k : Nat} (hs : s < 4) (h : ss s = 3) (ek : su s = nI k) (hp : post (nI R, nI L, nI S, nI b, nI n, nI p, cr, va, upd ss s 4, upd sn s (nI (2 * k + 2)), su, ur, ue, un, xr, xo, xn)) : wpX_settleAtCrash post (nI R, nI L, nI S, nI b, nI n, nI p, cr, va, ss, sn, su, ur, ue, un, xr, xo, xn) (nI s) := by
  have hv : vp_in (nI s) 4 := vp_in_nI hs (by omega)
  have es : (nI s).toNatClampNeg = s := nI_clamp (by omega)
  have eu : upd sn (nI s).toNatClampNeg (2 * su (nI s).toNatClampNeg + 2) = upd sn s (nI (2 * k + 2)) := by rw [es, ek, rx_l2]
  unfold wpX_settleAtCrash
  exact rx_xUnc0 hs (by rw [h]; decide) (br_t rfl ⟨hv, br_t (by rw [es]; exact h) ⟨hv, nm_r (e' := upd ss s 4) (by rw [es]) ⟨hv, hv, nm_r eu hp⟩⟩⟩)
theorem rx_xSetN {post : SX → Prop} {s : Nat} (hs : s < 4) (h : ¬ (ss s = 1 ∨ ss s = 2)) (h3 : ¬ ss s = 3) (hp : post (nI R, nI L, nI S, nI b, nI n, nI p, cr, va, ss, sn, su, ur, ue, un, xr, xo, xn)) : wpX_settleAtCrash post (nI R, nI L, nI S, nI b, nI n, nI p, cr, va, ss, sn, su, ur, ue, un, xr, xo, xn) (nI s) := by
  have hv : vp_in (nI s) 4 := vp_in_nI hs (by omega)
  have es : (nI s).toNatClampNeg = s := nI_clamp (by omega)
  unfold wpX_settleAtCrash
  exact rx_xUnc0 hs h (br_t rfl ⟨hv, br_f (by rw [es]; exact h3) hp⟩)
theorem rx_crash : ∀ (d i : Nat) (ss sn : Nat → Int32), i + d = S → rx_K R L S b n p pk pd ss sn su ur xr xo xn yr yo yn →
    ∃ (ss' sn' : Nat → Int32), rx_K R L S b n p pk pd ss' sn' su ur xr xo xn yr yo yn ∧
      (∀ post : Int32 → SX → Prop, post 0 (nI R, nI L, nI S, nI b, nI n, nI 3, 1, va, ss', sn', su, ur, ue, un, xr, xo, xn) → wX_crash_11 post (d + 1) (nI i) (nI R) (nI L) (nI S) (nI b) (nI n) (nI p) cr va ss sn su ur ue un xr xo xn) ∧
      (∀ post : Int32 → SY → Prop, post 0 (nI R, nI L, nI S, nI n, 0, 0, 1, va, yr, yo, yn, ss', su, sn', ur, ue, un) → wY_crash_11 post (nI R) (nI L) (nI S) (nI n) pk pd cr (d + 1) (nI i) va yr yo yn ss su sn ur ue un) := by
  intro d
  induction d with
  | zero =>
    intro i ss sn hi K
    have k6 := K.2.2.2.2.2.1
    exact ⟨ss, sn, K, fun post hp => br_t (nI_le (by omega) (by omega)) hp, fun post hp => br_t (nI_le (by omega) (by omega)) hp⟩
  | succ d ih =>
    intro i ss sn hi K
    have K0 := K
    obtain ⟨k1, k2, k3, k4, k5, k6, k7, k8, k9, k10, k11, k12, k13⟩ := K0
    have hi4 : i < 4 := by omega
    have hv : vp_in (nI i) 4 := vp_in_nI (by omega) (by omega)
    have es : (nI i).toNatClampNeg = i := nI_clamp (by omega)
    obtain ⟨t, k, et, ek, hk, ht, hD, h2, h3, hf⟩ := k10 i hi4
    by_cases hu : ss i = 1 ∨ ss i = 2
    · obtain ⟨ss', sn', K', iX, iY⟩ := ih (i + 1) (upd ss i 7) sn (by omega) (rx_K_up K i (rx_SI_mk (x := 7) pk_us et ek hk ht rx_d7 (fun z => absurd z (by decide)) (fun z => absurd z (by decide)) hf) (fun j hj => ⟨pk_un hj, rfl, rfl, fun _ _ => rfl⟩))
      refine ⟨ss', sn', K', fun post hp => ?_, fun post hp => ?_⟩
      · exact br_f (nI_ge (by omega) (by omega)) (rx_xSet7 hi4 hu (nm_r (nI_1 i) (iX post hp)))
      · have st : wY_crash_39 post (wY_crash_11 post (nI R) (nI L) (nI S) (nI n) pk pd cr (d + 1)) (nI i) (nI R) (nI L) (nI S) (nI n) pk pd cr va yr yo yn ss su sn ur ue un := ⟨hv, nm_r (e' := upd ss i 7) (by rw [es]) (nm_r (nI_1 i) (iY post hp))⟩
        refine br_f (nI_ge (by omega) (by omega)) ⟨hv, ?_⟩
        by_cases a : ss i = 1
        · exact br_t (by rw [es]; exact a) st
        · exact br_f (by rw [es]; exact a) ⟨hv, br_t (by rw [es]; exact hu.resolve_left a) st⟩
    · by_cases e3 : ss i = 3
      · obtain ⟨ss', sn', K', iX, iY⟩ := ih (i + 1) (upd ss i 4) (upd sn i (nI (2 * k + 2))) (by omega) (rx_K_up K i (rx_SI_mk (x := 4) pk_us pk_us ek hk (by omega) rx_d4 (fun z => absurd z (by decide)) (fun z => absurd z (by decide)) hf) (fun j hj => ⟨pk_un hj, pk_un hj, rfl, fun _ _ => rfl⟩))
        have el : 2 * su (nI i).toNatClampNeg + 2 = nI (2 * k + 2) := by rw [es, ek, rx_l2]
        have eu : upd sn (nI i).toNatClampNeg (2 * su (nI i).toNatClampNeg + 2) = upd sn i (nI (2 * k + 2)) := by rw [el, es]
        refine ⟨ss', sn', K', fun post hp => ?_, fun post hp => ?_⟩
        · exact br_f (nI_ge (by omega) (by omega)) (rx_xSet4 hi4 e3 ek (nm_r (nI_1 i) (iX post hp)))
        · exact br_f (nI_ge (by omega) (by omega)) ⟨hv, br_f (by rw [es]; exact fun z => hu (Or.inl z)) ⟨hv, br_f (by rw [es]; exact fun z => hu (Or.inr z)) ⟨hv, br_t (by rw [es]; exact e3) ⟨hv, nm_r (e' := upd ss i 4) (by rw [es]) ⟨hv, hv, nm_r eu (nm_r (nI_1 i) (iY post hp))⟩⟩⟩⟩⟩
      · obtain ⟨ss', sn', K', iX, iY⟩ := ih (i + 1) ss sn (by omega) K
        refine ⟨ss', sn', K', fun post hp => ?_, fun post hp => ?_⟩
        · exact br_f (nI_ge (by omega) (by omega)) (rx_xSetN hi4 hu e3 (nm_r (nI_1 i) (iX post hp)))
        · exact br_f (nI_ge (by omega) (by omega)) ⟨hv, br_f (by rw [es]; exact fun z => hu (Or.inl z)) ⟨hv, br_f (by rw [es]; exact fun z => hu (Or.inr z)) ⟨hv, br_f (by rw [es]; exact e3) (nm_r (nI_1 i) (iY post hp))⟩⟩⟩
/-! add: Y's loop -/
theorem rx_yad {post : Int32 → SY → Prop} {s k : Nat} {x2 x3 x4 : Int32} (hs : s < 4) (hk : k < 4) (ek : su s = nI k)
    (h1 : (∃ j, j < k ∧ ur (s * 4 + j) = x2) → post (-7) (nI R, nI L, nI S, nI n, pk, pd, cr, va, yr, yo, yn, ss, su, sn, ur, ue, un))
    (h0 : (∀ j, j < k → ¬ ur (s * 4 + j) = x2) → post 0 (nI R, nI L, nI S, nI n, pk, pd, cr, va, yr, yo, yn, ss, upd su s (nI (k + 1)), sn, upd ur (s * 4 + k) x2, upd ue (s * 4 + k) x3, upd un (s * 4 + k) x4)) : ∀ d i, i + d = k →
    (∀ j, j < i → ¬ ur (s * 4 + j) = x2) → wY_add_80 post (nI s) x2 x3 x4 (nI R) (nI L) (nI S) (nI n) pk pd cr va yr yo yn ss su sn ur ue un (d + 1) (nI i) := by
  have hv : vp_in (nI s) 4 := vp_in_nI (by omega) (by omega)
  have es : (nI s).toNatClampNeg = s := nI_clamp (by omega)
  have e2 : su (nI s).toNatClampNeg = nI k := by rw [es]; exact ek
  intro d
  induction d with
  | zero =>
    intro i hi h
    obtain rfl : i = k := by omega
    have ec : (nI (s * 4 + i)).toNatClampNeg = s * 4 + i := nI_clamp (by omega)
    have hw : vp_in (nI (s * 4 + i)) 16 := vp_in_nI (by omega) (by omega)
    exact ⟨hv, br_t (by rw [e2]; exact nI_le (by omega) (by omega)) ⟨hv, nm_r (e' := nI (s * 4 + i)) (by rw [e2, rx_i4]) ⟨hw, nm_r (e' := upd ur (s * 4 + i) x2) (by rw [ec]) ⟨hw, nm_r (e' := upd ue (s * 4 + i) x3) (by rw [ec]) ⟨hw, nm_r (e' := upd un (s * 4 + i) x4) (by rw [ec]) ⟨hv, hv, nm_r (e' := upd su s (nI (i + 1))) (by rw [e2, es, nI_1]) (h0 h)⟩⟩⟩⟩⟩⟩
  | succ d ih =>
    intro i hi h
    have ec : (nI s * 4 + nI i).toNatClampNeg = s * 4 + i := rx_cj hs (by omega)
    refine ⟨hv, br_f (by rw [e2]; exact nI_ge (by omega) (by omega)) (br_f (nI_ge (b := 4) (by omega) (by decide)) ⟨rx_ij hs (by omega), ?_⟩)⟩
    by_cases e : ur (s * 4 + i) = x2
    · exact br_t (by rw [ec]; exact e) (h1 ⟨i, by omega, e⟩)
    · refine br_f (by rw [ec]; exact e) (nm_r (nI_1 i) (ih (i + 1) (by omega) (fun j hj => ?_)))
      by_cases g : j = i
      · rw [g]; exact e
      · exact h j (by omega)
end RX8
