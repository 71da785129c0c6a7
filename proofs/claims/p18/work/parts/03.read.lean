section RX4
variable {R L S b n p : Nat} {pk pd cr : Int32} {va ss sn su ur ue un xr xo xn yr yo yn : Nat → Int32}
theorem rx_m4 {s : Nat} : nI s * 4 = nI (s * 4) := pk_mul s 4
theorem rx_i4 {s i : Nat} : nI s * 4 + nI i = nI (s * 4 + i) := by rw [rx_m4, nI_add]
theorem rx_ci {s i : Nat} (hs : s < 4) (hi : i < 4) : (nI (s * 4) + nI i).toNatClampNeg = s * 4 + i := by rw [nI_add, nI_clamp (by omega)]
theorem rx_cj {s i : Nat} (hs : s < 4) (hi : i < 4) : (nI s * 4 + nI i).toNatClampNeg = s * 4 + i := by rw [rx_i4, nI_clamp (by omega)]
theorem rx_ij {s i : Nat} (hs : s < 4) (hi : i < 4) : vp_in (nI s * 4 + nI i) 16 := by rw [rx_i4]; exact vp_in_nI (by omega) (by omega)
/-! isNamed -/
theorem rx_xnm {post : Int32 → Prop} {s k : Nat} {ref : Int32} (hs : s < 4) (hk : k ≤ 4) : ∀ d i, i + d = k →
    ((∃ j, i ≤ j ∧ j < k ∧ ur (s * 4 + j) = ref) → post 1) → ((∀ j, i ≤ j → j < k → ¬ ur (s * 4 + j) = ref) → post 0) →
    wX_isNamed_8 post (nI k) ref (nI (s * 4)) (nI R) (nI L) (nI S) (nI b) (nI n) (nI p) cr va ss sn su ur ue un xr xo xn (d + 1) (nI i) := by
  intro d
  induction d with
  | zero =>
    intro i hi h1 h0
    exact br_t (nI_le (by omega) (by omega)) (h0 (fun j a c => absurd a (by omega)))
  | succ d ih =>
    intro i hi h1 h0
    refine br_f (nI_ge (by omega) (by omega)) ⟨by rw [nI_add]; exact vp_in_nI (by omega) (by omega), ?_⟩
    have ec : (nI (s * 4) + nI i).toNatClampNeg = s * 4 + i := rx_ci hs (by omega)
    by_cases e : ur (s * 4 + i) = ref
    · exact br_t (by rw [ec]; exact e) (h1 ⟨i, Nat.le_refl i, by omega, e⟩)
    · refine br_f (by rw [ec]; exact e) (nm_r (nI_1 i) (ih (i + 1) (by omega) (fun ⟨j, a, c, f⟩ => h1 ⟨j, by omega, c, f⟩) (fun h => h0 (fun j a c => ?_))))
      by_cases g : j = i
      · rw [g]; exact e
      · exact h j (by omega) c
theorem rx_xNamed {post : Int32 → Prop} {s k : Nat} {ref : Int32} (hs : s < 4) (hk : k ≤ 4)
    (h1 : (∃ j, j < k ∧ ur (s * 4 + j) = ref) → post 1) (h0 : (∀ j, j < k → ¬ ur (s * 4 + j) = ref) → post 0) :
    wpX_isNamed post (nI R, nI L, nI S, nI b, nI n, nI p, cr, va, ss, sn, su, ur, ue, un, xr, xo, xn) (nI s) (nI k) ref :=
  nm_r rx_m4 ⟨k + 1, rx_xnm hs hk k 0 (by omega) (fun ⟨j, _, c, f⟩ => h1 ⟨j, c, f⟩) (fun h => h0 (fun j c => h j (by omega) c))⟩
/-! who holds a ref: X -/
theorem rx_xHeld {post : Int32 → Prop} {s : Nat} (hs : s < 4) (h : rx_SI R ss sn su ur s) (hp : post (nI (rx_hn ss sn su s))) :
    wpX_heldUpdates post (nI R, nI L, nI S, nI b, nI n, nI p, cr, va, ss, sn, su, ur, ue, un, xr, xo, xn) (nI s) := by
  have hv : vp_in (nI s) 4 := vp_in_nI hs (by omega)
  have ec : (nI s).toNatClampNeg = s := nI_clamp (by omega)
  obtain ⟨t, k, e2, e3, h1, h2, h3, h4, h5, h6⟩ := h
  unfold wpX_heldUpdates
  dsimp only
  rw [ec]
  by_cases a : ss s = 2
  · rw [rx_hn2 a e2 (by omega)] at hp
    exact ⟨hv, br_t a ⟨hv, by rw [e2]; exact hp⟩⟩
  · by_cases c : ss s = 3
    · rw [rx_hn3 c e3 (by omega)] at hp
      exact ⟨hv, br_f a ⟨hv, br_t c ⟨hv, by rw [e3]; exact hp⟩⟩⟩
    · rw [rx_hn0 a c] at hp
      exact ⟨hv, br_f a ⟨hv, br_f c hp⟩⟩
theorem rx_xot {post : Int32 → Prop} {s : Nat} {ref : Int32} (hS : S ≤ 4) (hs : s < 4) (hI : ∀ s, s < 4 → rx_SI R ss sn su ur s) : ∀ d o, o + d = S →
    ((∃ q, o ≤ q ∧ q < S ∧ q ≠ s ∧ rx_Hd ss sn su ur ref q) → post 1) → ((∀ q, o ≤ q → q < S → q ≠ s → ¬ rx_Hd ss sn su ur ref q) → post 0) →
    wX_isHeldByOther_2 post (nI s) ref (nI R) (nI L) (nI S) (nI b) (nI n) (nI p) cr va ss sn su ur ue un xr xo xn (d + 1) (nI o) := by
  intro d
  induction d with
  | zero =>
    intro o ho h1 h0
    exact br_t (nI_le (by omega) (by omega)) (h0 (fun q a c => absurd a (by omega)))
  | succ d ih =>
    intro o ho h1 h0
    refine br_f (nI_ge (by omega) (by omega)) (rx_xHeld (by omega) (hI o (by omega)) ?_)
    have nx : (o = s ∨ ¬ rx_Hd ss sn su ur ref o) → wX_isHeldByOther_2 post (nI s) ref (nI R) (nI L) (nI S) (nI b) (nI n) (nI p) cr va ss sn su ur ue un xr xo xn (d + 1) (nI (o + 1)) := by
      intro hn
      refine ih (o + 1) (by omega) (fun ⟨q, a, c, f⟩ => h1 ⟨q, by omega, c, f⟩) (fun h => h0 (fun q a c f => ?_))
      by_cases g : q = o
      · rw [g]
        rcases hn with z | z
        · exact absurd (g.trans z) f
        · exact z
      · exact h q (by omega) c f
    refine pk_eq o s (fun e => nm_r (nI_1 o) (nx (Or.inl e))) (fun e => rx_xNamed (by omega) (rx_hn4 (hI o (by omega))) (fun hj => ?_) (fun hj => ?_))
    · exact br_f (by decide) (h1 ⟨o, Nat.le_refl o, by omega, e, hj⟩)
    · exact br_t rfl (nm_r (nI_1 o) (nx (Or.inr (fun ⟨j, a, c⟩ => hj j a c))))
theorem rx_xOther {post : Int32 → Prop} {s : Nat} {ref : Int32} (hS : S ≤ 4) (hs : s < 4) (hI : ∀ s, s < 4 → rx_SI R ss sn su ur s)
    (h1 : rx_Ot S ss sn su ur ref s → post 1) (h0 : ¬ rx_Ot S ss sn su ur ref s → post 0) : wpX_isHeldByOther post (nI R, nI L, nI S, nI b, nI n, nI p, cr, va, ss, sn, su, ur, ue, un, xr, xo, xn) (nI s) ref :=
  ⟨S + 1, rx_xot hS hs hI S 0 (by omega) (fun ⟨q, _, c, f, g⟩ => h1 ⟨q, c, f, g⟩) (fun h => h0 (fun ⟨q, c, f, g⟩ => h q (by omega) c f g))⟩
end RX4
