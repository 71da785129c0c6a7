section RX10
theorem i_vc_packStart {k : Nat} {u : SX} {v : SY} (I : i_Rel k u v) (hk : k + 5 ≤ 2563) : wpX_packStart (fun r u' => wpY_packStart (fun r' v' => r' = r ∧ i_Rel (k + 5) u' v') v) u := by
  obtain ⟨R, L, S, b, n, p, pk, pd, cr, va, ss, sn, su, ur, ue, un, xr, xo, xn, yr, yo, yn, rfl, rfl, K⟩ := I
  have k9 := K.2.2.2.2.2.2.2.2.1
  by_cases c0 : cr = 0
  · rcases k9 with ⟨e3, e0⟩ | ⟨h3, e1, _⟩
    · obtain ⟨r, p', pk', pd', K', hX, hY⟩ := rx_packStart (cr := cr) (va := va) (ue := ue) (un := un) K S 0 (by omega)
      exact br_t c0 (rx_xPk0 e3 (br_t rfl ⟨_, hX _ (br_t c0 (br_t e0 ⟨_, hY _ ⟨rfl, rx_mk K'⟩⟩))⟩))
    · exact br_t c0 (rx_xPk1 h3 (br_f (by decide) (br_t c0 (br_f (by rw [e1]; decide) ⟨rfl, rx_mk K⟩))))
  · exact br_f c0 (br_f c0 ⟨rfl, rx_mk K⟩)
theorem i_vc_packRun {k : Nat} {u : SX} {v : SY} (I : i_Rel k u v) (hk : k + 5 ≤ 2563) (v1 : Int32) : wpX_packRun (fun r u' => wpY_packRun (fun r' v' => r' = r ∧ i_Rel (k + 5) u' v') v v1) u v1 := by
  obtain ⟨R, L, S, b, n, p, pk, pd, cr, va, ss, sn, su, ur, ue, un, xr, xo, xn, yr, yo, yn, rfl, rfl, K⟩ := I
  have k9 := K.2.2.2.2.2.2.2.2.1
  by_cases c0 : cr = 0
  · by_cases a1 : 1 ≤ v1
    · obtain ⟨c, hc, rfl⟩ := nI_of (x := v1) (fun z => absurd (Int32.lt_of_le_of_lt a1 z) (by decide))
      rcases k9 with ⟨e3, e0⟩ | ⟨h3, rfl, rfl⟩
      · exact br_t c0 (br_t a1 (rx_xPk0 e3 (br_t rfl (br_t c0 (br_t a1 (br_t e0 ⟨rfl, rx_mk K⟩))))))
      · have yl : ∀ post : Int32 → SY → Prop, (3 - p ≤ c → post (nI (3 - p)) (nI R, nI L, nI S, nI n, 0, 0, cr, va, yr, yo, yn, ss, su, sn, ur, ue, un)) → (c < 3 - p → post (nI c) (nI R, nI L, nI S, nI n, 1, nI (p + c), cr, va, yr, yo, yn, ss, su, sn, ur, ue, un)) → wpY_packRun post (nI R, nI L, nI S, nI n, 1, nI p, cr, va, yr, yo, yn, ss, su, sn, ur, ue, un) (nI c) := by
          intro post q1 q0
          exact br_t c0 (br_t a1 (br_f (by decide) ⟨_, rx_ypr hc (by omega) q1 q0 (3 - p) 0 1 (nI p) (Or.inr ⟨by omega, rfl, rfl, by omega⟩) (by omega)⟩))
        refine br_t c0 (br_t a1 (rx_xPk1 h3 (br_f (by decide) (nm_r (e' := nI (3 - p)) (pk_sub (a := 3) (by omega)) ?_))))
        by_cases hl : 3 - p ≤ c
        · refine br_t (nI_le hl hc) (nm_r (e' := nI 3) (by rw [nI_add, show p + (3 - p) = 3 by omega]) (yl _ (fun _ => ⟨rfl, rx_mk (rx_K_p K (Or.inl ⟨rfl, rfl⟩))⟩) (fun z => absurd z (by omega))))
        · refine br_f (nI_ge (by omega) (by omega)) (nm_r (nI_add p c) (yl _ (fun z => absurd z (by omega)) (fun _ => ⟨rfl, rx_mk (rx_K_p K (Or.inr ⟨by omega, rfl, rfl⟩))⟩)))
    · exact br_t c0 (br_f a1 (br_t c0 (br_f a1 ⟨rfl, rx_mk K⟩)))
  · exact br_f c0 (br_f c0 ⟨rfl, rx_mk K⟩)
theorem i_vc_crash {k : Nat} {u : SX} {v : SY} (I : i_Rel k u v) (hk : k + 5 ≤ 2563) : wpX_crash (fun r u' => wpY_crash (fun r' v' => r' = r ∧ i_Rel (k + 5) u' v') v) u := by
  obtain ⟨R, L, S, b, n, p, pk, pd, cr, va, ss, sn, su, ur, ue, un, xr, xo, xn, yr, yo, yn, rfl, rfl, K⟩ := I
  by_cases c0 : cr = 0
  · obtain ⟨ss', sn', K', hX, hY⟩ := rx_crash (cr := cr) (va := va) (ue := ue) (un := un) S 0 ss sn (by omega) K
    exact br_t c0 ⟨_, hX _ (br_t c0 ⟨_, hY _ ⟨rfl, rx_mk (rx_K_p K' (Or.inl ⟨rfl, rfl⟩))⟩⟩)⟩
  · exact br_f c0 (br_f c0 ⟨rfl, rx_mk K⟩)
theorem i_vc_recover {k : Nat} {u : SX} {v : SY} (I : i_Rel k u v) (hk : k + 5 ≤ 2563) : wpX_recover (fun r u' => wpY_recover (fun r' v' => r' = r ∧ i_Rel (k + 5) u' v') v) u := by
  obtain ⟨R, L, S, b, n, p, pk, pd, cr, va, ss, sn, su, ur, ue, un, xr, xo, xn, yr, yo, yn, rfl, rfl, K⟩ := I
  by_cases c0 : cr = 0
  · exact br_t c0 (br_t c0 ⟨rfl, rx_mk K⟩)
  · exact br_f c0 (br_f c0 ⟨rfl, rx_mk K⟩)
theorem i_vc_value {k : Nat} {u : SX} {v : SY} (I : i_Rel k u v) (hk : k + 5 ≤ 2563) (v1 : Int32) : wpX_value (fun r => wpY_value (fun r' => r' = r ∧ i_Rel (k + 5) u v) v v1) u v1 := by
  obtain ⟨R, L, S, b, n, p, pk, pd, cr, va, ss, sn, su, ur, ue, un, xr, xo, xn, yr, yo, yn, rfl, rfl, K⟩ := I
  have k2 := K.2.1
  by_cases c0 : cr = 0
  · rcases pk_ix v1 (n := R) (by omega) with h | h | ⟨r, hr, rfl⟩
    · exact br_t c0 (rx_xRf0 (Or.inl h) (br_t rfl (br_t c0 (br_t h ⟨rfl, rx_mk K⟩))))
    · exact br_t c0 (rx_xRf0 (Or.inr h) (br_t rfl (br_t c0 (br_c (fun _ => ⟨rfl, rx_mk K⟩) (fun _ => br_f (Int32.not_lt.mpr h) ⟨rfl, rx_mk K⟩)))))
    · have hv : vp_in (nI r) 16 := vp_in_nI (by omega) (by omega)
      exact br_t c0 (rx_xRf1 hr k2 (br_f (by decide) ⟨hv, br_t c0 (br_f (nI_pos (by omega)) (br_t (nI_lt hr (by omega)) ⟨hv, rfl, rx_mk K⟩))⟩))
  · exact br_f c0 (br_f c0 ⟨rfl, rx_mk K⟩)
theorem i_vc_status {k : Nat} {u : SX} {v : SY} (I : i_Rel k u v) (hk : k + 5 ≤ 2563) (v1 : Int32) : wpX_status (fun r => wpY_status (fun r' => r' = r ∧ i_Rel (k + 5) u v) v v1) u v1 := by
  obtain ⟨R, L, S, b, n, p, pk, pd, cr, va, ss, sn, su, ur, ue, un, xr, xo, xn, yr, yo, yn, rfl, rfl, K⟩ := I
  have k6 := K.2.2.2.2.2.1
  by_cases c0 : cr = 0
  · rcases pk_ix v1 (n := S) (by omega) with h | h | ⟨s, hs, rfl⟩
    · exact br_t c0 (rx_xSl0 (Or.inl h) (br_t rfl (br_t c0 (rx_ySl1 (Or.inl h) (br_f (by decide) ⟨rfl, rx_mk K⟩)))))
    · exact br_t c0 (rx_xSl0 (Or.inr h) (br_t rfl (br_t c0 (rx_ySl1 (Or.inr h) (br_f (by decide) ⟨rfl, rx_mk K⟩)))))
    · have hv : vp_in (nI s) 4 := vp_in_nI (by omega) (by omega)
      exact br_t c0 (rx_xSl1 hs k6 (br_f (by decide) ⟨hv, br_t c0 (rx_ySl0 hs k6 (br_t rfl ⟨hv, rfl, rx_mk K⟩))⟩))
  · exact br_f c0 (br_f c0 ⟨rfl, rx_mk K⟩)
theorem i_vc_stepsDone {k : Nat} {u : SX} {v : SY} (I : i_Rel k u v) (hk : k + 5 ≤ 2563) (v1 : Int32) : wpX_stepsDone (fun r => wpY_stepsDone (fun r' => r' = r ∧ i_Rel (k + 5) u v) v v1) u v1 := by
  obtain ⟨R, L, S, b, n, p, pk, pd, cr, va, ss, sn, su, ur, ue, un, xr, xo, xn, yr, yo, yn, rfl, rfl, K⟩ := I
  have k6 := K.2.2.2.2.2.1
  by_cases c0 : cr = 0
  · rcases pk_ix v1 (n := S) (by omega) with h | h | ⟨s, hs, rfl⟩
    · exact br_t c0 (rx_xSl0 (Or.inl h) (br_t rfl (br_t c0 (rx_ySl1 (Or.inl h) (br_f (by decide) ⟨rfl, rx_mk K⟩)))))
    · exact br_t c0 (rx_xSl0 (Or.inr h) (br_t rfl (br_t c0 (rx_ySl1 (Or.inr h) (br_f (by decide) ⟨rfl, rx_mk K⟩)))))
    · have hv : vp_in (nI s) 4 := vp_in_nI (by omega) (by omega)
      exact br_t c0 (rx_xSl1 hs k6 (br_f (by decide) ⟨hv, br_t c0 (rx_ySl0 hs k6 (br_t rfl ⟨hv, rfl, rx_mk K⟩))⟩))
  · exact br_f c0 (br_f c0 ⟨rfl, rx_mk K⟩)
theorem i_vc_updateCount {k : Nat} {u : SX} {v : SY} (I : i_Rel k u v) (hk : k + 5 ≤ 2563) (v1 : Int32) : wpX_updateCount (fun r => wpY_updateCount (fun r' => r' = r ∧ i_Rel (k + 5) u v) v v1) u v1 := by
  obtain ⟨R, L, S, b, n, p, pk, pd, cr, va, ss, sn, su, ur, ue, un, xr, xo, xn, yr, yo, yn, rfl, rfl, K⟩ := I
  have k6 := K.2.2.2.2.2.1
  by_cases c0 : cr = 0
  · rcases pk_ix v1 (n := S) (by omega) with h | h | ⟨s, hs, rfl⟩
    · exact br_t c0 (rx_xSl0 (Or.inl h) (br_t rfl (br_t c0 (rx_ySl1 (Or.inl h) (br_f (by decide) ⟨rfl, rx_mk K⟩)))))
    · exact br_t c0 (rx_xSl0 (Or.inr h) (br_t rfl (br_t c0 (rx_ySl1 (Or.inr h) (br_f (by decide) ⟨rfl, rx_mk K⟩)))))
    · have hv : vp_in (nI s) 4 := vp_in_nI (by omega) (by omega)
      exact br_t c0 (rx_xSl1 hs k6 (br_f (by decide) ⟨hv, br_t c0 (rx_ySl0 hs k6 (br_t rfl ⟨hv, rfl, rx_mk K⟩))⟩))
  · exact br_f c0 (br_f c0 ⟨rfl, rx_mk K⟩)
theorem i_vc_logCount {k : Nat} {u : SX} {v : SY} (I : i_Rel k u v) (hk : k + 5 ≤ 2563) : wpX_logCount (fun r => wpY_logCount (fun r' => r' = r ∧ i_Rel (k + 5) u v) v) u := by
  obtain ⟨R, L, S, b, n, p, pk, pd, cr, va, ss, sn, su, ur, ue, un, xr, xo, xn, yr, yo, yn, rfl, rfl, K⟩ := I
  by_cases c0 : cr = 0
  · exact br_t c0 (br_t c0 ⟨rfl, rx_mk K⟩)
  · exact br_f c0 (br_f c0 ⟨rfl, rx_mk K⟩)
theorem i_vc_logEntry {k : Nat} {u : SX} {v : SY} (I : i_Rel k u v) (hk : k + 5 ≤ 2563) (v1 : Int32) (v2 : Int32) : wpX_logEntry (fun r => wpY_logEntry (fun r' => r' = r ∧ i_Rel (k + 5) u v) v v1 v2) u v1 v2 := by
  obtain ⟨R, L, S, b, n, p, pk, pd, cr, va, ss, sn, su, ur, ue, un, xr, xo, xn, yr, yo, yn, rfl, rfl, K⟩ := I
  have K0 := K
  obtain ⟨k1, k2, k3, k4, k5, k6, k7, k8, k9, k10, k11, k12, k13⟩ := K0
  by_cases c0 : cr = 0
  · rcases pk_ix v1 (n := n) (by omega) with h | h | ⟨i, hi, rfl⟩
    · exact br_t c0 (br_t h (br_t c0 (br_t h ⟨rfl, rx_mk K⟩)))
    · by_cases h0 : v1 < 0
      · exact br_t c0 (br_t h0 (br_t c0 (br_t h0 ⟨rfl, rx_mk K⟩)))
      · exact br_t c0 (br_f h0 (br_f (Int32.not_lt.mpr h) (br_t c0 (br_f h0 (br_t h ⟨rfl, rx_mk K⟩)))))
    · have h0 : ¬ nI i < 0 := nI_pos (by omega)
      have hg := rx_g_lt k7 (show i ≤ L by omega)
      have hv : vp_in (nI i) 32 := vp_in_nI (by omega) (by omega)
      have hw : vp_in (nI (rx_g L b i)) 32 := vp_in_nI (by omega) (by omega)
      have ei : (nI i).toNatClampNeg = i := nI_clamp (by omega)
      have eg : (nI (rx_g L b i)).toNatClampNeg = rx_g L b i := nI_clamp (by omega)
      have h1 : ¬ nI n ≤ nI i := nI_ge hi (by omega)
      have h2 : nI i < nI n := nI_lt hi (by omega)
      have h3 : nI i < 32 := nI_lt (b := 32) (by omega) (by decide)
      refine br_t c0 (br_f h0 (br_t h2 (rx_xCell k4 k7 (by omega) ?_)))
      by_cases f0 : v2 = 0
      · subst f0
        exact br_f (by decide) (br_f (by decide) (br_t rfl ⟨hw, br_t c0 (br_f h0 (br_f h1 (br_t h3 (br_t rfl ⟨hv, by rw [ei, eg]; exact k11 i hi, rx_mk K⟩))))⟩))
      · by_cases f1 : v2 = 1
        · subst f1
          exact br_f (by decide) (br_f (by decide) (br_f (by decide) (br_t rfl ⟨hw, br_t c0 (br_f h0 (br_f h1 (br_t h3 (br_f (by decide) (br_t rfl ⟨hv, by rw [ei, eg]; exact k12 i hi, rx_mk K⟩)))))⟩)))
        · by_cases f2 : v2 = 2
          · subst f2
            exact br_f (by decide) (br_f (by decide) (br_f (by decide) (br_f (by decide) (br_t rfl ⟨hw, br_t c0 (br_f h0 (br_f h1 (br_t h3 (br_f (by decide) (br_f (by decide) (br_t rfl ⟨hv, by rw [ei, eg]; exact k13 i hi, rx_mk K⟩))))))⟩))))
          · exact br_c (fun _ => br_t c0 (br_f h0 (br_f h1 (br_t h3 (br_f f0 (br_f f1 (br_f f2 ⟨rfl, rx_mk K⟩))))))) (fun _ => br_c (fun _ => br_t c0 (br_f h0 (br_f h1 (br_t h3 (br_f f0 (br_f f1 (br_f f2 ⟨rfl, rx_mk K⟩))))))) (fun _ => br_f f0 (br_f f1 (br_f f2 trivial))))
  · exact br_f c0 (br_f c0 ⟨rfl, rx_mk K⟩)
theorem i_vc_packProgress {k : Nat} {u : SX} {v : SY} (I : i_Rel k u v) (hk : k + 5 ≤ 2563) : wpX_packProgress (fun r => wpY_packProgress (fun r' => r' = r ∧ i_Rel (k + 5) u v) v) u := by
  obtain ⟨R, L, S, b, n, p, pk, pd, cr, va, ss, sn, su, ur, ue, un, xr, xo, xn, yr, yo, yn, rfl, rfl, K⟩ := I
  have k9 := K.2.2.2.2.2.2.2.2.1
  by_cases c0 : cr = 0
  · rcases k9 with ⟨rfl, rfl⟩ | ⟨h3, rfl, rfl⟩
    · exact br_t c0 (br_t c0 (br_t rfl ⟨rfl, rx_mk K⟩))
    · exact br_t c0 (br_t c0 (br_f (by decide) ⟨rfl, rx_mk K⟩))
  · exact br_f c0 (br_f c0 ⟨rfl, rx_mk K⟩)
end RX10
