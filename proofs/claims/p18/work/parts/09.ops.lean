section PZ9
variable {b n p : Nat} {cr : Int32} {va ss sn su ur ue un xr xo xn yr yn : Nat → Int32}
/-! the readers -/
theorem pz_value {post : Int32 → Prop} {r : Nat} (c0 : cr = 0) (hr : r < 4) (hp : post (va r)) : wpX_value post (nI 4, nI 8, nI 2, nI b, nI n, nI p, cr, va, ss, sn, su, ur, ue, un, xr, xo, xn) (nI r) := by
  have hv : vp_in (nI r) 16 := vp_in_nI (by omega) (by omega)
  have er : (nI r).toNatClampNeg = r := nI_clamp (by omega)
  exact br_t c0 (rx_xRf1 hr (by omega) (br_f (by decide) ⟨hv, by rw [er]; exact hp⟩))
theorem pz_status {post : Int32 → Prop} {s : Nat} (c0 : cr = 0) (hs : s < 2) (hp : post (ss s)) : wpX_status post (nI 4, nI 8, nI 2, nI b, nI n, nI p, cr, va, ss, sn, su, ur, ue, un, xr, xo, xn) (nI s) := by
  have hv : vp_in (nI s) 4 := vp_in_nI (by omega) (by omega)
  have er : (nI s).toNatClampNeg = s := nI_clamp (by omega)
  exact br_t c0 (rx_xSl1 hs (by omega) (br_f (by decide) ⟨hv, by rw [er]; exact hp⟩))
theorem pz_ent0 {post : Int32 → Prop} {i : Nat} (c0 : cr = 0) (hb : b < 8) (hn : n ≤ 8) (hi : i < n) (h : rx_LG 8 b n xr yr) (hp : post (yr i)) : wpX_logEntry post (nI 4, nI 8, nI 2, nI b, nI n, nI p, cr, va, ss, sn, su, ur, ue, un, xr, xo, xn) (nI i) 0 := by
  have hg := rx_g_lt hb (show i ≤ 8 by omega)
  have hw : vp_in (nI (rx_g 8 b i)) 32 := vp_in_nI (by omega) (by omega)
  have eg : (nI (rx_g 8 b i)).toNatClampNeg = rx_g 8 b i := nI_clamp (by omega)
  exact br_t c0 (br_f (nI_pos (by omega)) (br_t (nI_lt hi (by omega)) (rx_xCell (by omega) hb (by omega) (br_f (by decide) (br_f (by decide) (br_t rfl ⟨hw, by rw [eg, ← h i hi]; exact hp⟩))))))
theorem pz_ent2 {post : Int32 → Prop} {i : Nat} (c0 : cr = 0) (hb : b < 8) (hn : n ≤ 8) (hi : i < n) (h : rx_LG 8 b n xn yn) (hp : post (yn i)) : wpX_logEntry post (nI 4, nI 8, nI 2, nI b, nI n, nI p, cr, va, ss, sn, su, ur, ue, un, xr, xo, xn) (nI i) 2 := by
  have hg := rx_g_lt hb (show i ≤ 8 by omega)
  have hw : vp_in (nI (rx_g 8 b i)) 32 := vp_in_nI (by omega) (by omega)
  have eg : (nI (rx_g 8 b i)).toNatClampNeg = rx_g 8 b i := nI_clamp (by omega)
  exact br_t c0 (br_f (nI_pos (by omega)) (br_t (nI_lt hi (by omega)) (rx_xCell (by omega) hb (by omega) (br_f (by decide) (br_f (by decide) (br_f (by decide) (br_f (by decide) (br_t rfl ⟨hw, by rw [eg, ← h i hi]; exact hp⟩))))))))
/-! begin -/
theorem pz_beg11 {post : Int32 → St2 → Prop} (h6 : post (-6) (nI 4, nI 8, nI 2, nI b, nI n, nI p, cr, va, ss, sn, su, ur, ue, un, xr, xo, xn)) (hj : ∀ j, j < 2 → ¬ (ss j = 1 ∨ ss j = 2 ∨ ss j = 3) → post (nI j) (nI 4, nI 8, nI 2, nI b, nI n, nI p, cr, va, upd ss j 1, upd sn j 0, upd su j 0, ur, ue, un, xr, xo, xn)) : ∀ d i, i + d = 2 → wX_begin_11 post (nI 4) (nI 8) (nI 2) (nI b) (nI n) (nI p) cr va ss sn su ur ue un xr xo xn (d + 1) (nI i) := by
  intro d
  induction d with
  | zero =>
    intro i hi
    exact br_t (nI_le (by omega) (by omega)) h6
  | succ d ih =>
    intro i hi
    have hv : vp_in (nI i) 4 := vp_in_nI (by omega) (by omega)
    have es : (nI i).toNatClampNeg = i := nI_clamp (by omega)
    by_cases hu : ss i = 1 ∨ ss i = 2 ∨ ss i = 3
    · exact br_f (nI_ge (by omega) (by omega)) (rx_xUse1 (by omega) hu (br_f (by decide) (nm_r (nI_1 i) (ih (i + 1) (by omega)))))
    · exact br_f (nI_ge (by omega) (by omega)) (rx_xUse0 (by omega) hu (br_t rfl ⟨hv, nm_r (e' := upd su i 0) (by rw [es]) ⟨hv, nm_r (e' := upd sn i 0) (by rw [es]) ⟨hv, nm_r (e' := upd ss i 1) (by rw [es]) (hj i (by omega) hu)⟩⟩⟩))
theorem pz_begin {post : Int32 → St2 → Prop} (c0 : cr = 0) (h6 : post (-6) (nI 4, nI 8, nI 2, nI b, nI n, nI p, cr, va, ss, sn, su, ur, ue, un, xr, xo, xn)) (hj : ∀ j, j < 2 → ¬ (ss j = 1 ∨ ss j = 2 ∨ ss j = 3) → post (nI j) (nI 4, nI 8, nI 2, nI b, nI n, nI p, cr, va, upd ss j 1, upd sn j 0, upd su j 0, ur, ue, un, xr, xo, xn)) : wpX_begin post (nI 4, nI 8, nI 2, nI b, nI n, nI p, cr, va, ss, sn, su, ur, ue, un, xr, xo, xn) :=
  br_t c0 ⟨3, pz_beg11 h6 hj 2 0 rfl⟩
/-! add -/
theorem pz_add {post : Int32 → St2 → Prop} {s k r : Nat} {v3 v4 : Int32} (c0 : cr = 0) (hs : s < 2) (hr : r < 4) (ek : su s = nI k) (hk4 : k ≤ 4) (hx : ∀ x, ¬ x = 0 → post x (nI 4, nI 8, nI 2, nI b, nI n, nI p, cr, va, ss, sn, su, ur, ue, un, xr, xo, xn))
    (h0 : ss s = 1 → k < 4 → (∀ j, j < k → ¬ ur (s * 4 + j) = nI r) → post 0 (nI 4, nI 8, nI 2, nI b, nI n, nI p, cr, va, ss, sn, upd su s (nI (k + 1)), upd ur (s * 4 + k) (nI r), upd ue (s * 4 + k) v3, upd un (s * 4 + k) v4, xr, xo, xn)) : wpX_add post (nI 4, nI 8, nI 2, nI b, nI n, nI p, cr, va, ss, sn, su, ur, ue, un, xr, xo, xn) (nI s) (nI r) v3 v4 := by
  have hs4 : s < 4 := by omega
  have hv : vp_in (nI s) 4 := vp_in_nI hs4 (by omega)
  have es : (nI s).toNatClampNeg = s := nI_clamp (by omega)
  have e2 : su (nI s).toNatClampNeg = nI k := by rw [es]; exact ek
  by_cases a1 : ss (nI s).toNatClampNeg = 1
  · by_cases a2 : v3 < -1
    · exact br_t c0 (rx_xSl1 hs (by omega) (br_f (by decide) ⟨hv, br_t a1 (rx_xRf1 hr (by omega) (br_f (by decide) (br_t a2 (hx _ (by decide)))))⟩))
    · by_cases a3 : 0 ≤ v4
      · by_cases a4 : su (nI s).toNatClampNeg < 4
        · have hk : k < 4 := by
            rw [e2] at a4
            rcases Nat.lt_or_ge k 4 with z | z
            · exact z
            · exact absurd a4 (nI_nlt (b := 4) z (by omega))
          have ec : (nI (s * 4 + k)).toNatClampNeg = s * 4 + k := nI_clamp (by omega)
          have hw : vp_in (nI (s * 4 + k)) 16 := vp_in_nI (by omega) (by omega)
          refine br_t c0 (rx_xSl1 hs (by omega) (br_f (by decide) ⟨hv, br_t a1 (rx_xRf1 hr (by omega) (br_f (by decide) (br_f a2 (br_t a3 ⟨hv, br_t a4 ⟨hv, ?_⟩⟩))))⟩))
          rw [e2]
          refine rx_xNamed hs4 hk4 (fun hj => ?_) (fun hj => ?_)
          · exact br_f (by decide) (hx _ (by decide))
          · exact br_t rfl ⟨hv, nm_r rx_i4 ⟨hw, nm_r (e' := upd ur (s * 4 + k) (nI r)) (by rw [ec]) ⟨hw, nm_r (e' := upd ue (s * 4 + k) v3) (by rw [ec]) ⟨hw, nm_r (e' := upd un (s * 4 + k) v4) (by rw [ec]) ⟨hv, hv, nm_r (e' := upd su s (nI (k + 1))) (by rw [es, nI_1]) (h0 (by rw [es] at a1; exact a1) hk hj)⟩⟩⟩⟩⟩
        · exact br_t c0 (rx_xSl1 hs (by omega) (br_f (by decide) ⟨hv, br_t a1 (rx_xRf1 hr (by omega) (br_f (by decide) (br_f a2 (br_t a3 ⟨hv, br_f a4 (hx _ (by decide))⟩))))⟩))
      · exact br_t c0 (rx_xSl1 hs (by omega) (br_f (by decide) ⟨hv, br_t a1 (rx_xRf1 hr (by omega) (br_f (by decide) (br_f a2 (br_f a3 (hx _ (by decide))))))⟩))
  · exact br_t c0 (rx_xSl1 hs (by omega) (br_f (by decide) ⟨hv, br_f a1 (hx _ (by decide))⟩))
/-! commit, abort -/
theorem pz_commit {post : Int32 → St2 → Prop} {s : Nat} (c0 : cr = 0) (hs : s < 2) (hx : ∀ x, post x (nI 4, nI 8, nI 2, nI b, nI n, nI p, cr, va, ss, sn, su, ur, ue, un, xr, xo, xn)) (h0 : ss s = 1 → post 0 (nI 4, nI 8, nI 2, nI b, nI n, nI p, cr, va, upd ss s 2, upd sn s 0, su, ur, ue, un, xr, xo, xn)) : wpX_commit post (nI 4, nI 8, nI 2, nI b, nI n, nI p, cr, va, ss, sn, su, ur, ue, un, xr, xo, xn) (nI s) := by
  have hv : vp_in (nI s) 4 := vp_in_nI (by omega) (by omega)
  have es : (nI s).toNatClampNeg = s := nI_clamp (by omega)
  by_cases a1 : ss (nI s).toNatClampNeg = 1
  · by_cases a2 : su (nI s).toNatClampNeg = 0
    · exact br_t c0 (rx_xSl1 hs (by omega) (br_f (by decide) ⟨hv, br_t a1 ⟨hv, br_t a2 (hx _)⟩⟩))
    · exact br_t c0 (rx_xSl1 hs (by omega) (br_f (by decide) ⟨hv, br_t a1 ⟨hv, br_f a2 ⟨hv, nm_r (e' := upd ss s 2) (by rw [es]) ⟨hv, nm_r (e' := upd sn s 0) (by rw [es]) (h0 (by rw [es] at a1; exact a1))⟩⟩⟩⟩))
  · exact br_t c0 (rx_xSl1 hs (by omega) (br_f (by decide) ⟨hv, br_f a1 (hx _)⟩))
theorem pz_abort {post : Int32 → St2 → Prop} {s : Nat} (c0 : cr = 0) (hs : s < 2) (hx : ∀ x, post x (nI 4, nI 8, nI 2, nI b, nI n, nI p, cr, va, ss, sn, su, ur, ue, un, xr, xo, xn)) (h0 : (ss s = 1 ∨ ss s = 2) → post 0 (nI 4, nI 8, nI 2, nI b, nI n, nI p, cr, va, upd ss s 8, sn, su, ur, ue, un, xr, xo, xn)) : wpX_abort post (nI 4, nI 8, nI 2, nI b, nI n, nI p, cr, va, ss, sn, su, ur, ue, un, xr, xo, xn) (nI s) := by
  have hv : vp_in (nI s) 4 := vp_in_nI (by omega) (by omega)
  have es : (nI s).toNatClampNeg = s := nI_clamp (by omega)
  by_cases hu : ss s = 1 ∨ ss s = 2
  · exact br_t c0 (rx_xSl1 hs (by omega) (br_f (by decide) (rx_xUnc1 (by omega) hu (br_f (by decide) ⟨hv, nm_r (e' := upd ss s 8) (by rw [es]) (h0 hu)⟩))))
  · exact br_t c0 (rx_xSl1 hs (by omega) (br_f (by decide) (rx_xUnc0 (by omega) hu (br_t rfl (hx _)))))
/-! packStart, packRun -/
theorem pz_xPk0 {post : Int32 → Prop} (h : ¬ p < 3) (hp3 : p ≤ 3) (hp : post 0) : wpX_isPacking post (nI 4, nI 8, nI 2, nI b, nI n, nI p, cr, va, ss, sn, su, ur, ue, un, xr, xo, xn) := br_t (nI_le (a := 3) (by omega) (by omega)) hp
theorem pz_xPk1 {post : Int32 → Prop} (h : p < 3) (hp : post 1) : wpX_isPacking post (nI 4, nI 8, nI 2, nI b, nI n, nI p, cr, va, ss, sn, su, ur, ue, un, xr, xo, xn) := br_f (nI_ge (b := 3) h (by decide)) hp
theorem pz_ps21 {post : Int32 → St2 → Prop} (hx : ∀ x, post x (nI 4, nI 8, nI 2, nI b, nI n, nI p, cr, va, ss, sn, su, ur, ue, un, xr, xo, xn)) (h0 : post 0 (nI 4, nI 8, nI 2, nI b, nI n, nI 0, cr, va, ss, sn, su, ur, ue, un, xr, xo, xn)) : ∀ d i, i + d = 2 → wX_packStart_21 post (nI 4) (nI 8) (nI 2) (nI b) (nI n) (nI p) cr va ss sn su ur ue un xr xo xn (d + 1) (nI i) := by
  intro d
  induction d with
  | zero =>
    intro i hi
    exact br_t (nI_le (by omega) (by omega)) h0
  | succ d ih =>
    intro i hi
    by_cases hu : ss i = 2 ∨ ss i = 3
    · exact br_f (nI_ge (by omega) (by omega)) (rx_xRun1 (by omega) hu (br_f (by decide) (hx _)))
    · exact br_f (nI_ge (by omega) (by omega)) (rx_xRun0 (by omega) hu (br_t rfl (nm_r (nI_1 i) (ih (i + 1) (by omega)))))
theorem pz_packStart {post : Int32 → St2 → Prop} (c0 : cr = 0) (hp3 : p ≤ 3) (hx : ∀ x, post x (nI 4, nI 8, nI 2, nI b, nI n, nI p, cr, va, ss, sn, su, ur, ue, un, xr, xo, xn)) (h0 : post 0 (nI 4, nI 8, nI 2, nI b, nI n, nI 0, cr, va, ss, sn, su, ur, ue, un, xr, xo, xn)) : wpX_packStart post (nI 4, nI 8, nI 2, nI b, nI n, nI p, cr, va, ss, sn, su, ur, ue, un, xr, xo, xn) := by
  by_cases h : p < 3
  · exact br_t c0 (pz_xPk1 h (br_f (by decide) (hx _)))
  · exact br_t c0 (pz_xPk0 h hp3 (br_t rfl ⟨3, pz_ps21 hx h0 2 0 rfl⟩))
theorem pz_packRun {post : Int32 → St2 → Prop} {c : Nat} (c0 : cr = 0) (hp3 : p ≤ 3) (hc : c < 2 ^ 31) (h1 : 1 ≤ c) (hx : ∀ x (p' : Nat), p' ≤ 3 → post x (nI 4, nI 8, nI 2, nI b, nI n, nI p', cr, va, ss, sn, su, ur, ue, un, xr, xo, xn)) : wpX_packRun post (nI 4, nI 8, nI 2, nI b, nI n, nI p, cr, va, ss, sn, su, ur, ue, un, xr, xo, xn) (nI c) := by
  have a1 : (1 : Int32) ≤ nI c := nI_le (a := 1) h1 hc
  by_cases h : p < 3
  · refine br_t c0 (br_t a1 (pz_xPk1 h (br_f (by decide) (nm_r (e' := nI (3 - p)) (pk_sub (a := 3) (by omega)) ?_))))
    by_cases hl : 3 - p ≤ c
    · exact br_t (nI_le hl hc) (nm_r (nI_add p (3 - p)) (hx _ _ (by omega)))
    · exact br_f (nI_ge (by omega) (by omega)) (nm_r (nI_add p c) (hx _ _ (by omega)))
  · exact br_t c0 (br_t a1 (pz_xPk0 h hp3 (br_t rfl (hx _ p hp3))))
/-! crash, recover -/
theorem pz_cr11 {post : Int32 → St2 → Prop}
    (h : ∀ ss' sn' : Nat → Int32, (∀ s, s < 4 → rx_SI 4 ss' sn' su ur s) → (∀ j, j < 2 → (¬ ss' j = 1 ∧ ¬ ss' j = 2 ∧ ¬ ss' j = 3) ∧ ((ss' j = 3 ∨ ss' j = 4) ↔ (ss j = 3 ∨ ss j = 4))) → post 0 (nI 4, nI 8, nI 2, nI b, nI n, nI 3, 1, va, ss', sn', su, ur, ue, un, xr, xo, xn)) :
    ∀ (d i : Nat) (s1 n1 : Nat → Int32), i + d = 2 → (∀ s, s < 4 → rx_SI 4 s1 n1 su ur s) → (∀ j, j < i → (¬ s1 j = 1 ∧ ¬ s1 j = 2 ∧ ¬ s1 j = 3) ∧ ((s1 j = 3 ∨ s1 j = 4) ↔ (ss j = 3 ∨ ss j = 4))) → (∀ j, i ≤ j → s1 j = ss j) →
    wX_crash_11 post (d + 1) (nI i) (nI 4) (nI 8) (nI 2) (nI b) (nI n) (nI p) cr va s1 n1 su ur ue un xr xo xn := by
  intro d
  induction d with
  | zero =>
    intro i s1 n1 hi hI hd hr
    exact br_t (nI_le (by omega) (by omega)) (h s1 n1 hI (fun j hj => hd j (by omega)))
  | succ d ih =>
    intro i s1 n1 hi hI hd hr
    have hi4 : i < 4 := by omega
    obtain ⟨t, k, et, ek, hk, ht, hD, h2, h3, hf⟩ := hI i hi4
    have ei := hr i (Nat.le_refl i)
    have dn : ∀ (s2 : Nat → Int32), (∀ j, j ≠ i → s2 j = s1 j) → ((¬ s2 i = 1 ∧ ¬ s2 i = 2 ∧ ¬ s2 i = 3) ∧ ((s2 i = 3 ∨ s2 i = 4) ↔ (ss i = 3 ∨ ss i = 4))) → (∀ j, j < i + 1 → (¬ s2 j = 1 ∧ ¬ s2 j = 2 ∧ ¬ s2 j = 3) ∧ ((s2 j = 3 ∨ s2 j = 4) ↔ (ss j = 3 ∨ ss j = 4))) := by
      intro s2 ho hh j hj
      by_cases e : j = i
      · rw [e]; exact hh
      · rw [ho j e]; exact hd j (by omega)
    by_cases hu : s1 i = 1 ∨ s1 i = 2
    · refine br_f (nI_ge (by omega) (by omega)) (rx_xSet7 hi4 hu (nm_r (nI_1 i) (ih (i + 1) (upd s1 i 7) n1 (by omega) ?_ (dn _ (fun j hj => pk_un hj) ?_) (fun j hj => ?_))))
      · exact rx_SI_up hI i (rx_SI_mk (x := 7) pk_us et ek hk ht rx_d7 (fun z => absurd z (by decide)) (fun z => absurd z (by decide)) hf) (fun j hj => ⟨pk_un hj, rfl, rfl, fun _ _ => rfl⟩)
      · rw [pk_us]
        refine ⟨by decide, ⟨fun z => absurd z (by decide), fun z => ?_⟩⟩
        rw [← ei] at z
        rcases hu with q | q
        · rw [q] at z; exact absurd z (by decide)
        · rw [q] at z; exact absurd z (by decide)
      · rw [pk_un (show j ≠ i by omega)]; exact hr j (by omega)
    · by_cases e3 : s1 i = 3
      · refine br_f (nI_ge (by omega) (by omega)) (rx_xSet4 hi4 e3 ek (nm_r (nI_1 i) (ih (i + 1) (upd s1 i 4) (upd n1 i (nI (2 * k + 2))) (by omega) ?_ (dn _ (fun j hj => pk_un hj) ?_) (fun j hj => ?_))))
        · exact rx_SI_up hI i (rx_SI_mk (x := 4) pk_us pk_us ek hk (by omega) rx_d4 (fun z => absurd z (by decide)) (fun z => absurd z (by decide)) hf) (fun j hj => ⟨pk_un hj, pk_un hj, rfl, fun _ _ => rfl⟩)
        · rw [pk_us]
          exact ⟨by decide, ⟨fun _ => Or.inl (ei.symm.trans e3), fun _ => by decide⟩⟩
        · rw [pk_un (show j ≠ i by omega)]; exact hr j (by omega)
      · refine br_f (nI_ge (by omega) (by omega)) (rx_xSetN hi4 hu e3 (nm_r (nI_1 i) (ih (i + 1) s1 n1 (by omega) hI (dn s1 (fun _ _ => rfl) ?_) (fun j hj => hr j (by omega)))))
        exact ⟨⟨fun z => hu (Or.inl z), fun z => hu (Or.inr z), e3⟩, by rw [ei]⟩
theorem pz_crash {post : Int32 → St2 → Prop} (c0 : cr = 0) (hI : ∀ s, s < 4 → rx_SI 4 ss sn su ur s)
    (h : ∀ ss' sn' : Nat → Int32, (∀ s, s < 4 → rx_SI 4 ss' sn' su ur s) → (∀ j, j < 2 → (¬ ss' j = 1 ∧ ¬ ss' j = 2 ∧ ¬ ss' j = 3) ∧ ((ss' j = 3 ∨ ss' j = 4) ↔ (ss j = 3 ∨ ss j = 4))) → post 0 (nI 4, nI 8, nI 2, nI b, nI n, nI 3, 1, va, ss', sn', su, ur, ue, un, xr, xo, xn)) : wpX_crash post (nI 4, nI 8, nI 2, nI b, nI n, nI p, cr, va, ss, sn, su, ur, ue, un, xr, xo, xn) :=
  br_t c0 ⟨3, pz_cr11 h 2 0 ss sn rfl hI (fun j hj => absurd hj (by omega)) (fun _ _ => rfl)⟩
end PZ9
