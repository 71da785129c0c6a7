section RX9
theorem rx_cl (x : Int32) (lo hi : Nat) (h : lo ≤ hi) (hh : hi < 2 ^ 31) : ∃ N : Nat, lo ≤ N ∧ N ≤ hi ∧
    ∀ A : Int32 → Prop, A (nI N) → ((nI lo ≤ x → ((x ≤ nI hi → A x) ∧ (¬ x ≤ nI hi → A (nI hi)))) ∧ (¬ nI lo ≤ x → A (nI lo))) := by
  by_cases a : nI lo ≤ x
  · obtain ⟨j, hj, rfl⟩ := nI_of (x := x) (fun z => nI_pos (n := lo) (by omega) (Int32.lt_of_le_of_lt a z))
    rw [nI_leI (by omega) hj] at a
    by_cases c : j ≤ hi
    · exact ⟨j, a, c, fun A hA => br_t (nI_le a hj) (br_t (nI_le c hh) hA)⟩
    · exact ⟨hi, h, Nat.le_refl hi, fun A hA => br_t (nI_le a hj) (br_f (nI_ge (by omega) hj) hA)⟩
  · exact ⟨lo, Nat.le_refl lo, h, fun A hA => br_f a hA⟩
theorem rx_K0 {R L S : Nat} (h1 : 4 ≤ R) (h2 : R ≤ 16) (h3 : 8 ≤ L) (h4 : L ≤ 32) (h5 : 1 ≤ S) (h6 : S ≤ 4) :
    rx_K R L S 0 0 3 0 0 (fun _ => 0) (fun _ => 0) (fun _ => 0) (fun _ => 0) (fun _ => 0) (fun _ => 0) (fun _ => 0) (fun _ => 0) (fun _ => 0) (fun _ => 0) :=
  ⟨h1, h2, h3, h4, h5, h6, by omega, by omega, Or.inl ⟨rfl, rfl⟩,
    fun s _ => rx_SI_mk (x := 0) (t := 0) (k := 0) rfl nI_0.symm nI_0.symm (by omega) (by omega) rx_d0 (fun z => absurd z (by decide)) (fun z => absurd z (by decide)) ⟨fun j h => absurd h (by omega), fun _ _ _ h => absurd h (by omega)⟩,
    fun j h => absurd h (by omega), fun j h => absurd h (by omega), fun j h => absurd h (by omega)⟩
theorem i_vc0 (k0 : Int32) (k1 : Int32) (k2 : Int32) : wpX_init (fun u => wpY_init (fun v => i_Rel 3 u v) k0 k1 k2) k0 k1 k2 := by
  obtain ⟨R, r1, r2, hR⟩ := rx_cl k0 4 16 (by omega) (by omega)
  obtain ⟨L, l1, l2, hL⟩ := rx_cl k1 8 32 (by omega) (by omega)
  obtain ⟨S, s1, s2, hS⟩ := rx_cl k2 1 4 (by omega) (by omega)
  have cR : ∀ post : Int32 → Prop, post (nI R) → wpX_clamp post k0 4 16 := fun post h => hR post h
  have cL : ∀ post : Int32 → Prop, post (nI L) → wpX_clamp post k1 8 32 := fun post h => hL post h
  have cS : ∀ post : Int32 → Prop, post (nI S) → wpX_clamp post k2 1 4 := fun post h => hS post h
  unfold wpX_init
  refine cR _ (cL _ (cS _ ?_))
  have fin : ∀ u : SX, i_Rel 3 u (nI R, nI L, nI S, 0, 0, 0, 0, (fun _ => 0), (fun _ => 0), (fun _ => 0), (fun _ => 0), (fun _ => 0), (fun _ => 0), (fun _ => 0), (fun _ => 0), (fun _ => 0), (fun _ => 0)) → wpY_init (fun v => i_Rel 3 u v) k0 k1 k2 := by
    intro u hu
    have y130 : wY_init_130 (fun v => i_Rel 3 u v) k2 (nI L) (nI R) 0 0 0 0 0 0 (fun _ => 0) (fun _ => 0) (fun _ => 0) (fun _ => 0) (fun _ => 0) (fun _ => 0) (fun _ => 0) (fun _ => 0) (fun _ => 0) (fun _ => 0) := hS (fun z => i_Rel 3 u (nI R, nI L, z, 0, 0, 0, 0, (fun _ => 0), (fun _ => 0), (fun _ => 0), (fun _ => 0), (fun _ => 0), (fun _ => 0), (fun _ => 0), (fun _ => 0), (fun _ => 0), (fun _ => 0))) hu
    have y103 : wY_init_103 (fun v => i_Rel 3 u v) k1 k2 (nI R) 0 0 0 0 0 0 0 (fun _ => 0) (fun _ => 0) (fun _ => 0) (fun _ => 0) (fun _ => 0) (fun _ => 0) (fun _ => 0) (fun _ => 0) (fun _ => 0) (fun _ => 0) := hL (fun z => wY_init_130 (fun v => i_Rel 3 u v) k2 z (nI R) 0 0 0 0 0 0 (fun _ => 0) (fun _ => 0) (fun _ => 0) (fun _ => 0) (fun _ => 0) (fun _ => 0) (fun _ => 0) (fun _ => 0) (fun _ => 0) (fun _ => 0)) y130
    exact hR (fun z => wY_init_103 (fun v => i_Rel 3 u v) k1 k2 z 0 0 0 0 0 0 0 (fun _ => 0) (fun _ => 0) (fun _ => 0) (fun _ => 0) (fun _ => 0) (fun _ => 0) (fun _ => 0) (fun _ => 0) (fun _ => 0) (fun _ => 0)) y103
  exact fin _ (rx_mk (b := 0) (n := 0) (p := 3) (rx_K0 r1 r2 l1 l2 s1 s2))
theorem i_vc_begin {k : Nat} {u : SX} {v : SY} (I : i_Rel k u v) (hk : k + 5 ≤ 2563) : wpX_begin (fun r u' => wpY_begin (fun r' v' => r' = r ∧ i_Rel (k + 5) u' v') v) u := by
  obtain ⟨R, L, S, b, n, p, pk, pd, cr, va, ss, sn, su, ur, ue, un, xr, xo, xn, yr, yo, yn, rfl, rfl, K⟩ := I
  by_cases c0 : cr = 0
  · obtain ⟨r, ss', sn', su', K', hX, hY⟩ := rx_begin (cr := cr) (va := va) (ue := ue) (un := un) K S 0 (by omega)
    exact br_t c0 ⟨_, hX _ (br_t c0 ⟨_, hY _ ⟨rfl, rx_mk K'⟩⟩)⟩
  · exact br_f c0 (br_f c0 ⟨rfl, rx_mk K⟩)
theorem i_vc_add {k : Nat} {u : SX} {v : SY} (I : i_Rel k u v) (hk : k + 5 ≤ 2563) (v1 : Int32) (v2 : Int32) (v3 : Int32) (v4 : Int32) : wpX_add (fun r u' => wpY_add (fun r' v' => r' = r ∧ i_Rel (k + 5) u' v') v v1 v2 v3 v4) u v1 v2 v3 v4 := by
  obtain ⟨R, L, S, b, n, p, pk, pd, cr, va, ss, sn, su, ur, ue, un, xr, xo, xn, yr, yo, yn, rfl, rfl, K⟩ := I
  have K0 := K
  obtain ⟨k1, k2, k3, k4, k5, k6, k7, k8, k9, k10, k11, k12, k13⟩ := K0
  by_cases c0 : cr = 0
  · rcases pk_ix v1 (n := S) (by omega) with h | h | ⟨s, hs, rfl⟩
    · exact br_t c0 (rx_xSl0 (Or.inl h) (br_t rfl (br_t c0 (rx_ySl1 (Or.inl h) (br_f (by decide) ⟨rfl, rx_mk K⟩)))))
    · exact br_t c0 (rx_xSl0 (Or.inr h) (br_t rfl (br_t c0 (rx_ySl1 (Or.inr h) (br_f (by decide) ⟨rfl, rx_mk K⟩)))))
    · have hs4 : s < 4 := by omega
      have hv : vp_in (nI s) 4 := vp_in_nI hs4 (by omega)
      have es : (nI s).toNatClampNeg = s := nI_clamp (by omega)
      obtain ⟨t, k, et, ek, hk4, ht, hD, h2, h3, hf⟩ := k10 s hs4
      have e2 : su (nI s).toNatClampNeg = nI k := by rw [es]; exact ek
      by_cases a1 : ss (nI s).toNatClampNeg = 1
      · rcases pk_ix v2 (n := R) (by omega) with h | h | ⟨r, hr, rfl⟩
        · exact br_t c0 (rx_xSl1 hs k6 (br_f (by decide) ⟨hv, br_t a1 (rx_xRf0 (Or.inl h) (br_t rfl (br_t c0 (rx_ySl0 hs k6 (br_t rfl ⟨hv, br_t a1 (br_t h ⟨rfl, rx_mk K⟩)⟩)))))⟩))
        · exact br_t c0 (rx_xSl1 hs k6 (br_f (by decide) ⟨hv, br_t a1 (rx_xRf0 (Or.inr h) (br_t rfl (br_t c0 (rx_ySl0 hs k6 (br_t rfl ⟨hv, br_t a1 (br_c (fun _ => ⟨rfl, rx_mk K⟩) (fun _ => br_f (Int32.not_lt.mpr h) ⟨rfl, rx_mk K⟩))⟩)))))⟩))
        · have hr0 : ¬ nI r < 0 := nI_pos (by omega)
          have hr1 : nI r < nI R := nI_lt hr (by omega)
          by_cases a2 : v3 < -1
          · exact br_t c0 (rx_xSl1 hs k6 (br_f (by decide) ⟨hv, br_t a1 (rx_xRf1 hr k2 (br_f (by decide) (br_t a2 (br_t c0 (rx_ySl0 hs k6 (br_t rfl ⟨hv, br_t a1 (br_f hr0 (br_t hr1 (br_f (Int32.not_le.mpr a2) ⟨rfl, rx_mk K⟩)))⟩))))))⟩))
          · have a2' : -1 ≤ v3 := Int32.not_lt.mp a2
            by_cases a3 : 0 ≤ v4
            · by_cases a4 : su (nI s).toNatClampNeg < 4
              · have hk : k < 4 := by
                  rw [e2] at a4
                  rcases Nat.lt_or_ge k 4 with z | z
                  · exact z
                  · exact absurd a4 (nI_nlt (b := 4) z (by omega))
                have ec : (nI (s * 4 + k)).toNatClampNeg = s * 4 + k := nI_clamp (by omega)
                have hw : vp_in (nI (s * 4 + k)) 16 := vp_in_nI (by omega) (by omega)
                have K' : (∀ j, j < k → ¬ ur (s * 4 + j) = nI r) → rx_K R L S b n p pk pd ss sn (upd su s (nI (k + 1))) (upd ur (s * 4 + k) (nI r)) xr xo xn yr yo yn := by
                  intro hj
                  have e1 : ss s = 1 := by rw [es] at a1; exact a1
                  have lo : ∀ j, j < k → upd ur (s * 4 + k) (nI r) (s * 4 + j) = ur (s * 4 + j) := fun j h => pk_un (by omega)
                  have hh : upd ur (s * 4 + k) (nI r) (s * 4 + k) = nI r := pk_us
                  refine rx_K_up K s (rx_SI_mk (x := 1) (t := t) (k := k + 1) e1 et pk_us (by omega) (by omega) rx_d1 (fun z => absurd z (by decide)) (fun z => absurd z (by decide)) ⟨fun j h => ?_, fun i j h h' => ?_⟩) (fun j hj => ⟨rfl, rfl, pk_un hj, fun i hi => pk_un (by omega)⟩)
                  · by_cases g : j = k
                    · rw [g]; exact ⟨r, hr, hh⟩
                    · rw [lo j (by omega)]; exact hf.1 j (by omega)
                  · by_cases g : j = k
                    · rw [g, hh, lo i (by omega)]; exact hj i (by omega)
                    · rw [lo j (by omega), lo i (by omega)]; exact hf.2 i j h (by omega)
                have yp : ∀ post : Int32 → SY → Prop, ((∃ j, j < k ∧ ur (s * 4 + j) = nI r) → post (-7) (nI R, nI L, nI S, nI n, pk, pd, cr, va, yr, yo, yn, ss, su, sn, ur, ue, un)) → ((∀ j, j < k → ¬ ur (s * 4 + j) = nI r) → post 0 (nI R, nI L, nI S, nI n, pk, pd, cr, va, yr, yo, yn, ss, upd su s (nI (k + 1)), sn, upd ur (s * 4 + k) (nI r), upd ue (s * 4 + k) v3, upd un (s * 4 + k) v4)) → wpY_add post (nI R, nI L, nI S, nI n, pk, pd, cr, va, yr, yo, yn, ss, su, sn, ur, ue, un) (nI s) (nI r) v3 v4 := by
                  intro post q1 q0
                  exact br_t c0 (rx_ySl0 hs k6 (br_t rfl ⟨hv, br_t a1 (br_f hr0 (br_t hr1 (br_t a2' (br_t a3 ⟨hv, br_t a4 ⟨_, rx_yad hs4 hk ek q1 q0 k 0 (by omega) (fun j h => absurd h (by omega))⟩⟩))))⟩))
                refine br_t c0 (rx_xSl1 hs k6 (br_f (by decide) ⟨hv, br_t a1 (rx_xRf1 hr k2 (br_f (by decide) (br_f a2 (br_t a3 ⟨hv, br_t a4 ⟨hv, ?_⟩⟩))))⟩))
                rw [e2]
                refine rx_xNamed hs4 hk4 (fun hj => ?_) (fun hj => ?_)
                · exact br_f (by decide) (yp _ (fun _ => ⟨rfl, rx_mk K⟩) (fun z => by obtain ⟨j, hj1, hj2⟩ := hj; exact absurd hj2 (z j hj1)))
                · exact br_t rfl ⟨hv, nm_r rx_i4 ⟨hw, nm_r (e' := upd ur (s * 4 + k) (nI r)) (by rw [ec]) ⟨hw, nm_r (e' := upd ue (s * 4 + k) v3) (by rw [ec]) ⟨hw, nm_r (e' := upd un (s * 4 + k) v4) (by rw [ec]) ⟨hv, hv, nm_r (e' := upd su s (nI (k + 1))) (by rw [es, nI_1]) (yp _ (fun z => by obtain ⟨j, hj1, hj2⟩ := z; exact absurd hj2 (hj j hj1)) (fun _ => ⟨rfl, rx_mk (K' hj)⟩))⟩⟩⟩⟩⟩
              · exact br_t c0 (rx_xSl1 hs k6 (br_f (by decide) ⟨hv, br_t a1 (rx_xRf1 hr k2 (br_f (by decide) (br_f a2 (br_t a3 ⟨hv, br_f a4 (br_t c0 (rx_ySl0 hs k6 (br_t rfl ⟨hv, br_t a1 (br_f hr0 (br_t hr1 (br_t a2' (br_t a3 ⟨hv, br_f a4 ⟨rfl, rx_mk K⟩⟩))))⟩)))⟩))))⟩))
            · exact br_t c0 (rx_xSl1 hs k6 (br_f (by decide) ⟨hv, br_t a1 (rx_xRf1 hr k2 (br_f (by decide) (br_f a2 (br_f a3 (br_t c0 (rx_ySl0 hs k6 (br_t rfl ⟨hv, br_t a1 (br_f hr0 (br_t hr1 (br_t a2' (br_f a3 ⟨rfl, rx_mk K⟩))))⟩)))))))⟩))
      · exact br_t c0 (rx_xSl1 hs k6 (br_f (by decide) ⟨hv, br_f a1 (br_t c0 (rx_ySl0 hs k6 (br_t rfl ⟨hv, br_f a1 ⟨rfl, rx_mk K⟩⟩)))⟩))
  · exact br_f c0 (br_f c0 ⟨rfl, rx_mk K⟩)
theorem i_vc_commit {k : Nat} {u : SX} {v : SY} (I : i_Rel k u v) (hk : k + 5 ≤ 2563) (v1 : Int32) : wpX_commit (fun r u' => wpY_commit (fun r' v' => r' = r ∧ i_Rel (k + 5) u' v') v v1) u v1 := by
  obtain ⟨R, L, S, b, n, p, pk, pd, cr, va, ss, sn, su, ur, ue, un, xr, xo, xn, yr, yo, yn, rfl, rfl, K⟩ := I
  have K0 := K
  obtain ⟨k1, k2, k3, k4, k5, k6, k7, k8, k9, k10, k11, k12, k13⟩ := K0
  by_cases c0 : cr = 0
  · rcases pk_ix v1 (n := S) (by omega) with h | h | ⟨s, hs, rfl⟩
    · exact br_t c0 (rx_xSl0 (Or.inl h) (br_t rfl (br_t c0 (rx_ySl1 (Or.inl h) (br_f (by decide) ⟨rfl, rx_mk K⟩)))))
    · exact br_t c0 (rx_xSl0 (Or.inr h) (br_t rfl (br_t c0 (rx_ySl1 (Or.inr h) (br_f (by decide) ⟨rfl, rx_mk K⟩)))))
    · have hs4 : s < 4 := by omega
      have hv : vp_in (nI s) 4 := vp_in_nI hs4 (by omega)
      have es : (nI s).toNatClampNeg = s := nI_clamp (by omega)
      obtain ⟨t, k, et, ek, hk4, ht, hD, h2, h3, hf⟩ := k10 s hs4
      by_cases a1 : ss (nI s).toNatClampNeg = 1
      · by_cases a2 : su (nI s).toNatClampNeg = 0
        · exact br_t c0 (rx_xSl1 hs k6 (br_f (by decide) ⟨hv, br_t a1 ⟨hv, br_t a2 (br_t c0 (rx_ySl0 hs k6 (br_t rfl ⟨hv, br_t a1 ⟨hv, br_t a2 ⟨rfl, rx_mk K⟩⟩⟩)))⟩⟩))
        · have K' : rx_K R L S b n p pk pd (upd ss s 2) (upd sn s 0) su ur xr xo xn yr yo yn :=
            rx_K_up K s (rx_SI_mk (x := 2) (t := 0) (k := k) pk_us (pk_us.trans nI_0.symm) ek hk4 (by omega) rx_d2 (fun _ => by omega) (fun z => absurd z (by decide)) hf) (fun j hj => ⟨pk_un hj, pk_un hj, rfl, fun _ _ => rfl⟩)
          exact br_t c0 (rx_xSl1 hs k6 (br_f (by decide) ⟨hv, br_t a1 ⟨hv, br_f a2 ⟨hv, nm_r (e' := upd ss s 2) (by rw [es]) ⟨hv, nm_r (e' := upd sn s 0) (by rw [es]) (br_t c0 (rx_ySl0 hs k6 (br_t rfl ⟨hv, br_t a1 ⟨hv, br_f a2 ⟨hv, nm_r (e' := upd ss s 2) (by rw [es]) ⟨hv, nm_r (e' := upd sn s 0) (by rw [es]) ⟨rfl, rx_mk K'⟩⟩⟩⟩⟩)))⟩⟩⟩⟩))
      · exact br_t c0 (rx_xSl1 hs k6 (br_f (by decide) ⟨hv, br_f a1 (br_t c0 (rx_ySl0 hs k6 (br_t rfl ⟨hv, br_f a1 ⟨rfl, rx_mk K⟩⟩)))⟩))
  · exact br_f c0 (br_f c0 ⟨rfl, rx_mk K⟩)
theorem i_vc_abort {k : Nat} {u : SX} {v : SY} (I : i_Rel k u v) (hk : k + 5 ≤ 2563) (v1 : Int32) : wpX_abort (fun r u' => wpY_abort (fun r' v' => r' = r ∧ i_Rel (k + 5) u' v') v v1) u v1 := by
  obtain ⟨R, L, S, b, n, p, pk, pd, cr, va, ss, sn, su, ur, ue, un, xr, xo, xn, yr, yo, yn, rfl, rfl, K⟩ := I
  have K0 := K
  obtain ⟨k1, k2, k3, k4, k5, k6, k7, k8, k9, k10, k11, k12, k13⟩ := K0
  by_cases c0 : cr = 0
  · rcases pk_ix v1 (n := S) (by omega) with h | h | ⟨s, hs, rfl⟩
    · exact br_t c0 (rx_xSl0 (Or.inl h) (br_t rfl (br_t c0 (rx_ySl1 (Or.inl h) (br_f (by decide) ⟨rfl, rx_mk K⟩)))))
    · exact br_t c0 (rx_xSl0 (Or.inr h) (br_t rfl (br_t c0 (rx_ySl1 (Or.inr h) (br_f (by decide) ⟨rfl, rx_mk K⟩)))))
    · have hs4 : s < 4 := by omega
      have hv : vp_in (nI s) 4 := vp_in_nI hs4 (by omega)
      have es : (nI s).toNatClampNeg = s := nI_clamp (by omega)
      obtain ⟨t, k, et, ek, hk4, ht, hD, h2, h3, hf⟩ := k10 s hs4
      have K' : rx_K R L S b n p pk pd (upd ss s 8) sn su ur xr xo xn yr yo yn :=
        rx_K_up K s (rx_SI_mk (x := 8) pk_us et ek hk4 ht rx_d8 (fun z => absurd z (by decide)) (fun z => absurd z (by decide)) hf) (fun j hj => ⟨pk_un hj, rfl, rfl, fun _ _ => rfl⟩)
      by_cases hu : ss s = 1 ∨ ss s = 2
      · refine br_t c0 (rx_xSl1 hs k6 (br_f (by decide) (rx_xUnc1 hs4 hu (br_f (by decide) ⟨hv, nm_r (e' := upd ss s 8) (by rw [es]) (br_t c0 (rx_ySl0 hs k6 (br_t rfl ⟨hv, ?_⟩)))⟩))))
        by_cases a : ss s = 1
        · exact br_t (by rw [es]; exact a) ⟨hv, nm_r (e' := upd ss s 8) (by rw [es]) ⟨rfl, rx_mk K'⟩⟩
        · exact br_f (by rw [es]; exact a) ⟨hv, br_t (by rw [es]; exact hu.resolve_left a) ⟨hv, nm_r (e' := upd ss s 8) (by rw [es]) ⟨rfl, rx_mk K'⟩⟩⟩
      · exact br_t c0 (rx_xSl1 hs k6 (br_f (by decide) (rx_xUnc0 hs4 hu (br_t rfl (br_t c0 (rx_ySl0 hs k6 (br_t rfl ⟨hv, br_f (by rw [es]; exact fun z => hu (Or.inl z)) ⟨hv, br_f (by rw [es]; exact fun z => hu (Or.inr z)) ⟨rfl, rx_mk K⟩⟩⟩)))))))
  · exact br_f c0 (br_f c0 ⟨rfl, rx_mk K⟩)
theorem rx_xPk0 {R L S b n p : Nat} {cr : Int32} {va ss sn su ur ue un xr xo xn : Nat → Int32} {post : Int32 → Prop} (h : p = 3) (hp : post 0) : wpX_isPacking post (nI R, nI L, nI S, nI b, nI n, nI p, cr, va, ss, sn, su, ur, ue, un, xr, xo, xn) := br_t (nI_le (a := 3) (by omega) (by omega)) hp
theorem rx_xPk1 {R L S b n p : Nat} {cr : Int32} {va ss sn su ur ue un xr xo xn : Nat → Int32} {post : Int32 → Prop} (h : p < 3) (hp : post 1) : wpX_isPacking post (nI R, nI L, nI S, nI b, nI n, nI p, cr, va, ss, sn, su, ur, ue, un, xr, xo, xn) := br_f (nI_ge (b := 3) h (by decide)) hp
theorem i_vc_run {k : Nat} {u : SX} {v : SY} (I : i_Rel k u v) (hk : k + 5 ≤ 2563) (v1 : Int32) (v2 : Int32) : wpX_run (fun r u' => wpY_run (fun r' v' => r' = r ∧ i_Rel (k + 5) u' v') v v1 v2) u v1 v2 := by
  obtain ⟨R, L, S, b, n, p, pk, pd, cr, va, ss, sn, su, ur, ue, un, xr, xo, xn, yr, yo, yn, rfl, rfl, K⟩ := I
  have K0 := K
  obtain ⟨k1, k2, k3, k4, k5, k6, k7, k8, k9, k10, k11, k12, k13⟩ := K0
  by_cases c0 : cr = 0
  · rcases pk_ix v1 (n := S) (by omega) with h | h | ⟨s, hs, rfl⟩
    · exact br_t c0 (rx_xSl0 (Or.inl h) (br_t rfl (br_t c0 (rx_ySl1 (Or.inl h) (br_f (by decide) ⟨rfl, rx_mk K⟩)))))
    · exact br_t c0 (rx_xSl0 (Or.inr h) (br_t rfl (br_t c0 (rx_ySl1 (Or.inr h) (br_f (by decide) ⟨rfl, rx_mk K⟩)))))
    · have hs4 : s < 4 := by omega
      have hv : vp_in (nI s) 4 := vp_in_nI hs4 (by omega)
      have es : (nI s).toNatClampNeg = s := nI_clamp (by omega)
      obtain ⟨t, q, et, ek, hk4, ht, hD, h2, h3, hf⟩ := k10 s hs4
      by_cases a1 : 1 ≤ v2
      · obtain ⟨c, hc, rfl⟩ := nI_of (x := v2) (fun z => absurd (Int32.lt_of_le_of_lt a1 z) (by decide))
        by_cases hu : ss s = 2 ∨ ss s = 3
        · have yr0 : ∀ post : Int32 → SY → Prop, wY_run_51 post (nI s) (nI c) (nI R) (nI L) (nI S) (nI n) pk pd cr va yr yo yn ss su sn ur ue un → wpY_run post (nI R, nI L, nI S, nI n, pk, pd, cr, va, yr, yo, yn, ss, su, sn, ur, ue, un) (nI s) (nI c) := by
            intro post hp
            refine br_t c0 (rx_ySl0 hs k6 (br_t rfl (br_t a1 ⟨hv, ?_⟩)))
            by_cases a : ss s = 2
            · exact br_t (by rw [es]; exact a) hp
            · exact br_f (by rw [es]; exact a) ⟨hv, br_t (by rw [es]; exact hu.resolve_left a) hp⟩
          rcases k9 with ⟨e3, e0⟩ | ⟨h3', e1, _⟩
          · have lp : ∀ m, m ≤ c → m < 2 ^ 31 → (∀ i, i < c → t + i < 2 * q + 2 → i < m) → ∃ n86 : Nat, wX_run_86 (fun r u' => wpY_run (fun r' v' => r' = r ∧ i_Rel (k + 5) u' v') (nI R, nI L, nI S, nI n, pk, pd, cr, va, yr, yo, yn, ss, su, sn, ur, ue, un) (nI s) (nI c)) (nI s) (nI t) (nI m) n86 0 (nI R) (nI L) (nI S) (nI b) (nI n) (nI p) cr va ss sn su ur ue un xr xo xn := by
              intro m hm hm2 hm3
              obtain ⟨b', n', va', ss', sn', xr', xo', xn', yr', yo', yn', t', K', hX, hY⟩ := rx_run (cr := cr) (ue := ue) (un := un) hs ek hk4 hf hc hm hm2 hm3 (2 * q + 2 - t) 0 b n va ss sn xr xo xn yr yo yn t K et ⟨ht, h2, h3⟩ (fun _ => by omega) (by omega)
              exact ⟨_, hX _ (yr0 _ (br_t e0 ⟨hv, nm_r (e' := nI t) (by rw [es]; exact et) ⟨_, hY _ ⟨rfl, rx_mk K'⟩⟩⟩))⟩
            have el : 2 * su (nI s).toNatClampNeg + 2 - nI t = nI (2 * q + 2 - t) := by rw [es, ek, rx_l2, pk_sub ht]
            refine br_t c0 (rx_xSl1 hs k6 (br_f (by decide) (br_t a1 (rx_xRun1 hs4 hu (br_f (by decide) (rx_xPk0 e3 (br_t rfl ⟨hv, nm_r (e' := nI t) (by rw [es]; exact et) ⟨hv, nm_r el ?_⟩⟩)))))))
            by_cases hl : 2 * q + 2 - t ≤ c
            · exact br_t (nI_le hl hc) (lp (2 * q + 2 - t) hl (by omega) (fun i _ h => by omega))
            · exact br_f (nI_ge (by omega) (by omega)) (lp c (Nat.le_refl c) hc (fun i h _ => h))
          · exact br_t c0 (rx_xSl1 hs k6 (br_f (by decide) (br_t a1 (rx_xRun1 hs4 hu (br_f (by decide) (rx_xPk1 h3' (br_f (by decide) (yr0 _ (br_f (by rw [e1]; decide) ⟨rfl, rx_mk K⟩)))))))))
        · exact br_t c0 (rx_xSl1 hs k6 (br_f (by decide) (br_t a1 (rx_xRun0 hs4 hu (br_t rfl (br_t c0 (rx_ySl0 hs k6 (br_t rfl (br_t a1 ⟨hv, br_f (by rw [es]; exact fun z => hu (Or.inl z)) ⟨hv, br_f (by rw [es]; exact fun z => hu (Or.inr z)) ⟨rfl, rx_mk K⟩⟩⟩)))))))))
      · exact br_t c0 (rx_xSl1 hs k6 (br_f (by decide) (br_f a1 (br_t c0 (rx_ySl0 hs k6 (br_t rfl (br_f a1 ⟨rfl, rx_mk K⟩)))))))
  · exact br_f c0 (br_f c0 ⟨rfl, rx_mk K⟩)
end RX9
