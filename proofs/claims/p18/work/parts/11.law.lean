section PZ11
abbrev pz_TJ : Type := Int64 → Int64 → Int64 → Int32 → Int32 → Int32 → Int32 → Int32 → Int32 → Int32 → Int32 → Int32 → Int32 → (Nat → Int32) → (Nat → Int32) → (Nat → Int32) → (Nat → Int32) → (Nat → Int32) → (Nat → Int32) → (Nat → Int32) → (Nat → Int32) → (Nat → Int32) → (Nat → Int32) → Prop
variable {Ls q kc ks b n p : Nat} {xs : Nat → Int32} {J : pz_TJ} {post : Int32 → Prop} {x2 x4 x6 : Int64} {x8 x9 cr : Int32} {va ss sn su ur ue un xr xo xn yr yn : Nat → Int32}
/-- no crash, or a crash: then no slot is open, locking or committed, and no pack runs -/
def pz_C (x9 cr : Int32) (p : Nat) (ss : Nat → Int32) : Prop := (x9 = 0 ∧ cr = 0) ∨ (x9 = 1 ∧ cr = 1 ∧ p = 3 ∧ ∀ j, j < 2 → ¬ ss j = 1 ∧ ¬ ss j = 2 ∧ ¬ ss j = 3)
def pz_I (x2 x4 x6 : Int64) (x8 x9 : Int32) (b n p : Nat) (cr : Int32) (va ss sn su ur un xr xn yr yn : Nat → Int32) : Prop :=
  pz_K b n p va ss sn su ur xr xn yr yn ∧ pz_V x2 va ∧ pz_G x4 0 ss su ur un ∧ pz_G x6 1 ss su ur un ∧ x8 = nI n ∧ pz_C x9 cr p ss
def pz_HJ (J : pz_TJ) (q : Nat) : Prop := ∀ (x2 x4 x6 : Int64) (x8 x9 : Int32) (b n p : Nat) (cr : Int32) (va ss sn su ur ue un xr xo xn yr yn : Nat → Int32),
  pz_I x2 x4 x6 x8 x9 b n p cr va ss sn su ur un xr xn yr yn → J x2 x4 x6 x8 x9 (nI (q + 5)) (nI 4) (nI 8) (nI 2) (nI b) (nI n) (nI p) cr va ss sn su ur ue un xr xo xn
/-! the checks behind a group -/
theorem pz_690 {J650 : Int32 → Prop} {z0 : Int64} {x18 : Int32} {i j : Nat} (G : pz_G z0 j ss su ur un) (h : (ss j = 3 ∨ ss j = 4) → x18 = 4) (hj : J650 (nI (i + 1))) :
    wL_law_690 post Ls xs J J650 x2 x4 x6 x8 x9 (nI q) (nI i) x18 z0 kc ks (nI 4) (nI 8) (nI 2) (nI b) (nI n) (nI p) cr va ss sn su ur ue un xr xo xn := by
  unfold wL_law_690
  exact pz_wApp G (fun a => br_f (by decide) (br_t (h a) (nm_r (nI_1 i) hj))) (fun _ => br_t rfl (nm_r (nI_1 i) hj))
theorem pz_650 (c0 : cr = 0) (hp3 : p = 3) (hs : ∀ j, j < 2 → ¬ ss j = 1 ∧ ¬ ss j = 2 ∧ ¬ ss j = 3) (G0 : pz_G x4 0 ss su ur un) (G1 : pz_G x6 1 ss su ur un) (hJ : J x2 x4 x6 x8 x9 (nI (q + 5)) (nI 4) (nI 8) (nI 2) (nI b) (nI n) (nI p) cr va ss sn su ur ue un xr xo xn) : ∀ d i, i + d = 2 →
    wL_law_650 post Ls xs J x2 x4 x6 x8 x9 (nI q) kc ks (nI 4) (nI 8) (nI 2) (nI b) (nI n) (nI p) cr va ss sn su ur ue un xr xo xn (d + 1) (nI i) := by
  subst hp3
  intro d
  induction d with
  | zero =>
    intro i hi
    exact br_t (nI_le (a := 2) (by omega) (by omega)) (br_t c0 (br_t rfl (nm_r (nI_add q 5) hJ)))
  | succ d ih =>
    intro i hi
    have h4 : (ss i = 3 ∨ ss i = 4) → ss i = 4 := fun z => z.resolve_left (hs i (by omega)).2.2
    refine br_f (nI_ge (b := 2) (by omega) (by decide)) (pz_status c0 (by omega) (br_f (hs i (by omega)).2.1 (br_f (hs i (by omega)).2.2 ?_)))
    have c : i = 0 ∨ i = 1 := by omega
    rcases c with rfl | rfl
    · exact br_t rfl (pz_690 G0 h4 (ih 1 (by omega)))
    · exact br_f (by decide) (pz_690 G1 h4 (ih 2 (by omega)))
theorem pz_m1 (m : Nat) : nI m + (-1) = nI m - 1 := (Int32.sub_eq_add_neg (nI m) 1).symm
theorem pz_595 {J583 : Int32 → Prop} {x16 : Int32} {r : Nat} (c0 : cr = 0) (K : pz_K b n p va ss sn su ur xr xn yr yn) (hr : r < 4) (hJ : J583 (nI (r + 1))) : ∀ m, m ≤ n → (∀ j, m ≤ j → j < n → ¬ yr j = nI r) →
    wL_law_595 post Ls xs J J583 x2 x4 x6 x8 x9 (nI q) x16 (nI r) kc ks (nI 4) (nI 8) (nI 2) (nI b) (nI n) (nI p) cr va ss sn su ur ue un xr xo xn (m + 1) (nI m - 1) := by
  obtain ⟨k1, k2, k3, k4, k5, k6, k7, k8⟩ := K
  intro m
  induction m with
  | zero => intro _ _; exact br_t (by decide) (nm_r (nI_1 r) hJ)
  | succ m ih =>
    intro hm hj
    rw [nI_pred]
    refine br_f (nI_pos (by omega)) (pz_ent0 c0 k1 k2 (by omega) k5 ?_)
    by_cases e : yr m = nI r
    · have ev : yn m = va r := by
        have := k7 m (by omega) (fun j h1 h2 => by rw [e]; exact hj j (by omega) h2)
        rw [this, e, nI_clamp (by omega)]
      exact br_t e (pz_ent2 c0 k1 k2 (by omega) k6 (pz_value c0 hr (br_t ev (nm_r (nI_1 r) hJ))))
    · refine br_f e (nm_r (pz_m1 m) (ih (by omega) (fun j h1 h2 => ?_)))
      by_cases g : j = m
      · rw [g]; exact e
      · exact hj j (by omega) h2
theorem pz_583 {x16 : Int32} (c0 : cr = 0) (K : pz_K b n p va ss sn su ur xr xn yr yn) (G0 : pz_G x4 0 ss su ur un) (G1 : pz_G x6 1 ss su ur un) (e8 : x8 = nI n) (hrec : ¬ x16 = 0 → p = 3 ∧ ∀ j, j < 2 → ¬ ss j = 1 ∧ ¬ ss j = 2 ∧ ¬ ss j = 3) (hJ : J x2 x4 x6 x8 x9 (nI (q + 5)) (nI 4) (nI 8) (nI 2) (nI b) (nI n) (nI p) cr va ss sn su ur ue un xr xo xn) : ∀ d i, i + d = 4 →
    wL_law_583 post Ls xs J x2 x4 x6 x8 x9 (nI q) x16 kc ks (nI 4) (nI 8) (nI 2) (nI b) (nI n) (nI p) cr va ss sn su ur ue un xr xo xn (d + 1) (nI i) := by
  subst e8
  intro d
  induction d with
  | zero =>
    intro i hi
    refine br_t (nI_le (a := 4) (by omega) (by omega)) (br_c (fun _ => nm_r (nI_add q 5) hJ) (fun z => ?_))
    obtain ⟨h1, h2⟩ := hrec z
    exact ⟨3, pz_650 c0 h1 h2 G0 G1 hJ 2 0 rfl⟩
  | succ d ih =>
    intro i hi
    exact br_f (nI_ge (b := 4) (by omega) (by decide)) (nm_e ⟨n + 1, pz_595 c0 K (by omega) (ih (i + 1) (by omega)) n (Nat.le_refl n) (fun j h1 h2 => absurd h1 (by omega))⟩)
theorem pz_540 {x16 : Int32} (c0 : cr = 0) (K : pz_K b n p va ss sn su ur xr xn yr yn) (V : pz_V x2 va) (G0 : pz_G x4 0 ss su ur un) (G1 : pz_G x6 1 ss su ur un) (e8 : x8 = nI n) (hrec : ¬ x16 = 0 → p = 3 ∧ ∀ j, j < 2 → ¬ ss j = 1 ∧ ¬ ss j = 2 ∧ ¬ ss j = 3) (hJ : J x2 x4 x6 x8 x9 (nI (q + 5)) (nI 4) (nI 8) (nI 2) (nI b) (nI n) (nI p) cr va ss sn su ur ue un xr xo xn) : ∀ d i, i + d = 4 →
    wL_law_540 post Ls xs J x2 x4 x6 x8 x9 (nI q) x16 kc ks (nI 4) (nI 8) (nI 2) (nI b) (nI n) (nI p) cr va ss sn su ur ue un xr xo xn (d + 1) (nI i) := by
  intro d
  induction d with
  | zero =>
    intro i hi
    exact br_t (nI_le (a := 4) (by omega) (by omega)) (br_t c0 (br_t e8.symm ⟨5, pz_583 c0 K G0 G1 e8 hrec hJ 4 0 rfl⟩))
  | succ d ih =>
    intro i hi
    exact br_f (nI_ge (b := 4) (by omega) (by decide)) (pz_value c0 (by omega) (pz_wGet V (by omega) (br_t rfl (nm_r (nI_1 i) (ih (i + 1) (by omega))))))
theorem pz_529 {x16 : Int32} (I : pz_I x2 x4 x6 x8 x9 b n p cr va ss sn su ur un xr xn yr yn) (hrec : ¬ x16 = 0 → p = 3 ∧ ∀ j, j < 2 → ¬ ss j = 1 ∧ ¬ ss j = 2 ∧ ¬ ss j = 3) (HJ : pz_HJ J q) :
    wL_law_529 post Ls xs J x2 x4 x6 x8 x9 (nI q) x16 kc ks (nI 4) (nI 8) (nI 2) (nI b) (nI n) (nI p) cr va ss sn su ur ue un xr xo xn := by
  have hJ := HJ x2 x4 x6 x8 x9 b n p cr va ss sn su ur ue un xr xo xn yr yn I
  obtain ⟨K, V, G0, G1, e8, C⟩ := I
  rcases C with ⟨e9, c0⟩ | ⟨e9, _⟩
  · exact br_t e9 ⟨5, pz_540 c0 K V G0 G1 e8 hrec hJ 4 0 rfl⟩
  · exact br_f (by rw [e9]; decide) (nm_r (nI_add q 5) hJ)
theorem pz_go (I : pz_I x2 x4 x6 x8 x9 b n p cr va ss sn su ur un xr xn yr yn) (HJ : pz_HJ J q) : wL_law_529 post Ls xs J x2 x4 x6 x8 x9 (nI q) 0 kc ks (nI 4) (nI 8) (nI 2) (nI b) (nI n) (nI p) cr va ss sn su ur ue un xr xo xn :=
  pz_529 I (fun z => absurd rfl z) HJ
/-! the state after a call that changes statuses alone -/
theorem pz_I_st {p' : Nat} {ss' sn' : Nat → Int32} (I : pz_I x2 x4 x6 x8 x9 b n p cr va ss sn su ur un xr xn yr yn) (e9 : x9 = 0) (c0 : cr = 0) (K : pz_K b n p' va ss' sn' su ur xr xn yr yn)
    (h : ∀ j, j < 2 → ((ss' j = 3 ∨ ss' j = 4) ↔ (ss j = 3 ∨ ss j = 4))) : pz_I x2 x4 x6 x8 x9 b n p' cr va ss' sn' su ur un xr xn yr yn := by
  obtain ⟨_, V, G0, G1, e8, C⟩ := I
  exact ⟨K, V, pz_G_eq G0 (h 0 (by omega)) rfl (fun _ _ => ⟨rfl, rfl⟩), pz_G_eq G1 (h 1 (by omega)) rfl (fun _ _ => ⟨rfl, rfl⟩), e8, Or.inl ⟨e9, c0⟩⟩
theorem pz_ch {s : Nat} {x : Int32} (hx : ¬ (x = 3 ∨ x = 4)) (h : ¬ (ss s = 3 ∨ ss s = 4)) : ∀ j, j < 2 → ((upd ss s x j = 3 ∨ upd ss s x j = 4) ↔ (ss j = 3 ∨ ss j = 4)) := by
  intro j _
  by_cases e : j = s
  · rw [e, pk_us]; exact ⟨fun z => absurd z hx, fun z => absurd z h⟩
  · rw [pk_un e]
theorem pz_K_p {p' : Nat} (K : pz_K b n p va ss sn su ur xr xn yr yn) (h : p' ≤ 3) : pz_K b n p' va ss sn su ur xr xn yr yn := by
  obtain ⟨k1, k2, k3, k4, k5, k6, k7, k8⟩ := K
  exact ⟨k1, k2, h, k4, k5, k6, k7, k8⟩
theorem pz_K_b {j : Nat} (K : pz_K b n p va ss sn su ur xr xn yr yn) : pz_K b n p va (upd ss j 1) (upd sn j 0) (upd su j 0) ur xr xn yr yn :=
  pz_K_up K j (rx_SI_mk (x := 1) (t := 0) (k := 0) pk_us (pk_us.trans nI_0.symm) (pk_us.trans nI_0.symm) (by omega) (by omega) rx_d1 (fun z => absurd z (by decide)) (fun z => absurd z (by decide)) ⟨fun j h => absurd h (by omega), fun _ _ _ h => absurd h (by omega)⟩) (fun j hj => ⟨pk_un hj, pk_un hj, pk_un hj, fun _ _ => rfl⟩)
theorem pz_b0 (I : pz_I x2 x4 x6 x8 x9 b n p cr va ss sn su ur un xr xn yr yn) (e9 : x9 = 0) (c0 : cr = 0) : pz_I x2 0 x6 x8 x9 b n p cr va (upd ss 0 1) (upd sn 0 0) (upd su 0 0) ur un xr xn yr yn := by
  obtain ⟨K, V, G0, G1, e8, C⟩ := I
  exact ⟨pz_K_b K, V, pz_G0 pk_us (by rw [pk_us]; decide), pz_G_eq G1 (by rw [pk_un (show 1 ≠ 0 by decide)]) (pk_un (by decide)) (fun _ _ => ⟨rfl, rfl⟩), e8, Or.inl ⟨e9, c0⟩⟩
theorem pz_b1 (I : pz_I x2 x4 x6 x8 x9 b n p cr va ss sn su ur un xr xn yr yn) (e9 : x9 = 0) (c0 : cr = 0) : pz_I x2 x4 0 x8 x9 b n p cr va (upd ss 1 1) (upd sn 1 0) (upd su 1 0) ur un xr xn yr yn := by
  obtain ⟨K, V, G0, G1, e8, C⟩ := I
  exact ⟨pz_K_b K, V, pz_G_eq G0 (by rw [pk_un (show 0 ≠ 1 by decide)]) (pk_un (by decide)) (fun _ _ => ⟨rfl, rfl⟩), pz_G0 pk_us (by rw [pk_us]; decide), e8, Or.inl ⟨e9, c0⟩⟩
/-! add -/
theorem pz_K_a {s k r : Nat} (K : pz_K b n p va ss sn su ur xr xn yr yn) (hs : s < 2) (ek : su s = nI k) (hk : k < 4) (hr : r < 4) (e1 : ss s = 1) (hj : ∀ j, j < k → ¬ ur (s * 4 + j) = nI r) :
    pz_K b n p va ss sn (upd su s (nI (k + 1))) (upd ur (s * 4 + k) (nI r)) xr xn yr yn := by
  obtain ⟨t, k', et, ek', hk4, ht, hD, h2, h3, hf⟩ := K.2.2.2.1 s (by omega)
  have ekk : k' = k := (nI_eq (by omega) (by omega)).mp (ek'.symm.trans ek)
  subst ekk
  have lo : ∀ j, j < k' → upd ur (s * 4 + k') (nI r) (s * 4 + j) = ur (s * 4 + j) := fun j h => pk_un (by omega)
  have hh : upd ur (s * 4 + k') (nI r) (s * 4 + k') = nI r := pk_us
  refine pz_K_up K s (rx_SI_mk (x := 1) (t := t) (k := k' + 1) e1 et pk_us (by omega) (by omega) rx_d1 (fun z => absurd z (by decide)) (fun z => absurd z (by decide)) ⟨fun j h => ?_, fun i j h h' => ?_⟩) (fun j hj => ⟨rfl, rfl, pk_un hj, fun i hi => pk_un (by omega)⟩)
  · by_cases g : j = k'
    · rw [g]; exact ⟨r, hr, hh⟩
    · rw [lo j (by omega)]; exact hf.1 j (by omega)
  · by_cases g : j = k'
    · rw [g, hh, lo i (by omega)]; exact hj i (by omega)
    · rw [lo j (by omega), lo i (by omega)]; exact hf.2 i j h (by omega)
theorem pz_239_0 {r w : Nat} {e : Int32} (I : pz_I x2 x4 x6 x8 x9 b n p cr va ss sn su ur un xr xn yr yn) (HJ : pz_HJ J q) (e9 : x9 = 0) (c0 : cr = 0) (hr : r < 4) (hw : w < 16) :
    wL_law_239 post Ls xs J x2 x4 x6 x8 x9 (nI q) 0 (nI 0) (nI r) (nI w) e x4 kc ks (nI 4) (nI 8) (nI 2) (nI b) (nI n) (nI p) cr va ss sn su ur ue un xr xo xn := by
  have I0 := I
  obtain ⟨K, V, G0, G1, e8, C⟩ := I0
  obtain ⟨t, k, et, ek, hk4, ht, hD, h2, h3, hf⟩ := K.2.2.2.1 0 (by omega)
  unfold wL_law_239
  refine pz_add c0 (by omega) hr ek hk4 (fun x hx => br_f hx (pz_go I HJ)) (fun e1 hk hj => br_t rfl ?_)
  obtain ⟨m, em, hm22, hm8, hm, G'⟩ := pz_Gadd (ue := ue) G0 ek hk hr hw e1
  refine pz_wCnt G0 ek hk4 (br_t (nI_lt (b := 4) hk (by decide)) ?_)
  rw [em]
  refine pz_wAdd hk hm hm8 hr hw (br_t rfl ?_)
  exact pz_go (x4 := lN (m + 1 + (r + 4 * w) * 2 ^ (4 + 6 * k))) ⟨pz_K_a K (by omega) ek hk hr e1 hj, V, G', pz_G_eq G1 Iff.rfl (pk_un (by decide)) (fun i hi => ⟨pk_un (by omega), pk_un (by omega)⟩), e8, Or.inl ⟨e9, c0⟩⟩ HJ
theorem pz_239_1 {r w : Nat} {e : Int32} (I : pz_I x2 x4 x6 x8 x9 b n p cr va ss sn su ur un xr xn yr yn) (HJ : pz_HJ J q) (e9 : x9 = 0) (c0 : cr = 0) (hr : r < 4) (hw : w < 16) :
    wL_law_239 post Ls xs J x2 x4 x6 x8 x9 (nI q) 0 (nI 1) (nI r) (nI w) e x6 kc ks (nI 4) (nI 8) (nI 2) (nI b) (nI n) (nI p) cr va ss sn su ur ue un xr xo xn := by
  have I0 := I
  obtain ⟨K, V, G0, G1, e8, C⟩ := I0
  obtain ⟨t, k, et, ek, hk4, ht, hD, h2, h3, hf⟩ := K.2.2.2.1 1 (by omega)
  unfold wL_law_239
  refine pz_add c0 (by omega) hr ek hk4 (fun x hx => br_f hx (pz_go I HJ)) (fun e1 hk hj => br_t rfl ?_)
  obtain ⟨m, em, hm22, hm8, hm, G'⟩ := pz_Gadd (ue := ue) G1 ek hk hr hw e1
  refine pz_wCnt G1 ek hk4 (br_t (nI_lt (b := 4) hk (by decide)) ?_)
  rw [em]
  refine pz_wAdd hk hm hm8 hr hw (br_f (by decide) ?_)
  exact pz_go (x6 := lN (m + 1 + (r + 4 * w) * 2 ^ (4 + 6 * k))) ⟨pz_K_a K (by omega) ek hk hr e1 hj, V, pz_G_eq G0 Iff.rfl (pk_un (by decide)) (fun i hi => ⟨pk_un (by omega), pk_un (by omega)⟩), G', e8, Or.inl ⟨e9, c0⟩⟩ HJ
theorem pz_159 {a12 a13 a14 a15 : Int32} (I : pz_I x2 x4 x6 x8 x9 b n p cr va ss sn su ur un xr xn yr yn) (HJ : pz_HJ J q) (e9 : x9 = 0) (c0 : cr = 0) :
    wL_law_159 post Ls xs J x2 x4 x6 x8 x9 (nI q) a12 a13 a14 a15 0 kc ks (nI 4) (nI 8) (nI 2) (nI b) (nI n) (nI p) cr va ss sn su ur ue un xr xo xn := by
  obtain ⟨s, hs, es⟩ := pk_andE a12 (m := 1) 1 (by decide)
  obtain ⟨r, hr, er⟩ := pk_andE a13 (m := 3) 2 (by decide)
  obtain ⟨w, hw, ew⟩ := pk_andE a15 (m := 15) 4 (by decide)
  have key : ∀ e : Int32, wL_law_225 post Ls xs J x2 x4 x6 x8 x9 (nI q) 0 (nI s) (nI r) (nI w) e kc ks (nI 4) (nI 8) (nI 2) (nI b) (nI n) (nI p) cr va ss sn su ur ue un xr xo xn := by
    intro e
    have c : s = 0 ∨ s = 1 := by omega
    rcases c with rfl | rfl
    · exact br_t rfl (pz_239_0 I HJ e9 c0 hr hw)
    · exact br_f (by decide) (pz_239_1 I HJ e9 c0 hr hw)
  exact nm_r es (nm_r er (nm_e (nm_r ew (br_c (fun _ => key _) (fun _ => br_c (fun _ => pz_wGet I.2.1 hr (key _)) (fun _ => br_c (fun _ => key _) (fun _ => key _)))))))
/-! run -/
theorem pz_eqv {s k n' : Nat} {va' : Nat → Int32} {x x' : Int32} (h : va' = va ∧ n' = n ∧ (x' = x ∨ (x = 2 ∧ (x' = 5 ∨ x' = 6)) ∨ (x = 3 ∧ x' = 4))) : (x' = 3 ∨ x' = 4) ↔ (x = 3 ∨ x = 4) := by
  rcases h with ⟨_, _, rfl | ⟨rfl, rfl | rfl⟩ | ⟨rfl, rfl⟩⟩
  · exact Iff.rfl
  · decide
  · decide
  · decide
theorem pz_383_0 {k b' n' : Nat} {va' ss' sn' xr' xo' xn' yr' yn' : Nat → Int32} (I : pz_I x2 x4 x6 x8 x9 b n p cr va ss sn su ur un xr xn yr yn) (HJ : pz_HJ J q) (e9 : x9 = 0) (c0 : cr = 0) (ek : su 0 = nI k) (hk : k ≤ 4)
    (K' : pz_K b' n' p va' ss' sn' su ur xr' xn' yr' yn') (ho : ∀ j, j ≠ 0 → ss' j = ss j) (hO : pz_O ur un 0 k n va (ss 0) n' va' (ss' 0)) :
    wL_law_383 post Ls xs J x2 x4 x6 x8 x9 (nI q) 0 (nI 0) (ss' 0) x4 kc ks (nI 4) (nI 8) (nI 2) (nI b') (nI n') (nI p) cr va' ss' sn' su ur ue un xr' xo' xn' := by
  obtain ⟨K, V, G0, G1, e8, C⟩ := I
  have oth : (ss' 1 = 3 ∨ ss' 1 = 4) ↔ (ss 1 = 3 ∨ ss 1 = 4) := by rw [ho 1 (by decide)]
  rcases hO with hA | ⟨x2', hx, rfl, rfl⟩
  · have ev := pz_eqv (s := 0) (k := 0) hA
    obtain ⟨rfl, rfl, _⟩ := hA
    have I' : pz_I x2 x4 x6 x8 x9 b' n' p cr va' ss' sn' su ur un xr' xn' yr' yn' := ⟨K', V, pz_G_eq G0 ev rfl (fun _ _ => ⟨rfl, rfl⟩), pz_G_eq G1 oth rfl (fun _ _ => ⟨rfl, rfl⟩), e8, Or.inl ⟨e9, c0⟩⟩
    have app : (ss' 0 = 3 ∨ ss' 0 = 4) → wL_law_397 post Ls xs J x2 x4 x6 x8 x9 (nI q) 0 (nI 0) x4 kc ks (nI 4) (nI 8) (nI 2) (nI b') (nI n') (nI p) cr va' ss' sn' su ur ue un xr' xo' xn' := by
      intro hz
      unfold wL_law_397
      exact pz_wApp G0 (fun _ => br_f (by decide) (pz_go I' HJ)) (fun z => absurd (ev.mp hz) z)
    exact br_c (fun z => app (Or.inl z)) (fun _ => br_c (fun z => app (Or.inr z)) (fun _ => pz_go I' HJ))
  · have nap : ¬ (ss 0 = 3 ∨ ss 0 = 4) := by rw [x2']; decide
    have e8' : x8 + nI k = nI (n + k) := by rw [e8, nI_add]
    have fin : ∀ y, pz_V y (rx_vv ur un va 0 k) → wL_law_433 post Ls xs J y x4 x6 (nI (rx_cn 8 n k)) x9 (nI q) 0 (nI 0) x4 kc ks (nI 4) (nI 8) (nI 2) (nI b') (nI (rx_cn 8 n k)) (nI p) cr (rx_vv ur un va 0 k) ss' sn' su ur ue un xr' xo' xn' := by
      intro y hy
      refine nm_e (br_t rfl ?_)
      exact pz_go (x4 := x4 ||| 8) ⟨K', hy, pz_Gap G0 nap hx, pz_G_eq G1 oth rfl (fun _ _ => ⟨rfl, rfl⟩), rfl, Or.inl ⟨e9, c0⟩⟩ HJ
    have app : wL_law_397 post Ls xs J x2 x4 x6 x8 x9 (nI q) 0 (nI 0) x4 kc ks (nI 4) (nI 8) (nI 2) (nI b') (nI (rx_cn 8 n k)) (nI p) cr (rx_vv ur un va 0 k) ss' sn' su ur ue un xr' xo' xn' := by
      unfold wL_law_397
      refine pz_wApp G0 (fun z => absurd z nap) (fun _ => br_t rfl (pz_wAll G0 ek hk V (fun y hy => pz_wCnt G0 ek hk (nm_r e8' ?_))))
      have cn := pz_cn (L := 8) (n := n) (by omega) K.2.1 k
      have f := fin y hy
      by_cases hl : n + k ≤ 8
      · rw [cn, if_pos hl] at f ⊢
        exact br_t (nI_le (b := 8) hl (by omega)) f
      · rw [cn, if_neg hl] at f ⊢
        exact br_f (nI_ge (a := 8) (by omega) (by have := K.2.1; omega)) f
    rcases hx with z | z
    · exact br_t z app
    · exact br_f (by rw [z]; decide) (br_t z app)
theorem pz_383_1 {k b' n' : Nat} {va' ss' sn' xr' xo' xn' yr' yn' : Nat → Int32} (I : pz_I x2 x4 x6 x8 x9 b n p cr va ss sn su ur un xr xn yr yn) (HJ : pz_HJ J q) (e9 : x9 = 0) (c0 : cr = 0) (ek : su 1 = nI k) (hk : k ≤ 4)
    (K' : pz_K b' n' p va' ss' sn' su ur xr' xn' yr' yn') (ho : ∀ j, j ≠ 1 → ss' j = ss j) (hO : pz_O ur un 1 k n va (ss 1) n' va' (ss' 1)) :
    wL_law_383 post Ls xs J x2 x4 x6 x8 x9 (nI q) 0 (nI 1) (ss' 1) x6 kc ks (nI 4) (nI 8) (nI 2) (nI b') (nI n') (nI p) cr va' ss' sn' su ur ue un xr' xo' xn' := by
  obtain ⟨K, V, G0, G1, e8, C⟩ := I
  have oth : (ss' 0 = 3 ∨ ss' 0 = 4) ↔ (ss 0 = 3 ∨ ss 0 = 4) := by rw [ho 0 (by decide)]
  rcases hO with hA | ⟨x2', hx, rfl, rfl⟩
  · have ev := pz_eqv (s := 0) (k := 0) hA
    obtain ⟨rfl, rfl, _⟩ := hA
    have I' : pz_I x2 x4 x6 x8 x9 b' n' p cr va' ss' sn' su ur un xr' xn' yr' yn' := ⟨K', V, pz_G_eq G0 oth rfl (fun _ _ => ⟨rfl, rfl⟩), pz_G_eq G1 ev rfl (fun _ _ => ⟨rfl, rfl⟩), e8, Or.inl ⟨e9, c0⟩⟩
    have app : (ss' 1 = 3 ∨ ss' 1 = 4) → wL_law_397 post Ls xs J x2 x4 x6 x8 x9 (nI q) 0 (nI 1) x6 kc ks (nI 4) (nI 8) (nI 2) (nI b') (nI n') (nI p) cr va' ss' sn' su ur ue un xr' xo' xn' := by
      intro hz
      unfold wL_law_397
      exact pz_wApp G1 (fun _ => br_f (by decide) (pz_go I' HJ)) (fun z => absurd (ev.mp hz) z)
    exact br_c (fun z => app (Or.inl z)) (fun _ => br_c (fun z => app (Or.inr z)) (fun _ => pz_go I' HJ))
  · have nap : ¬ (ss 1 = 3 ∨ ss 1 = 4) := by rw [x2']; decide
    have e8' : x8 + nI k = nI (n + k) := by rw [e8, nI_add]
    have fin : ∀ y, pz_V y (rx_vv ur un va 1 k) → wL_law_433 post Ls xs J y x4 x6 (nI (rx_cn 8 n k)) x9 (nI q) 0 (nI 1) x6 kc ks (nI 4) (nI 8) (nI 2) (nI b') (nI (rx_cn 8 n k)) (nI p) cr (rx_vv ur un va 1 k) ss' sn' su ur ue un xr' xo' xn' := by
      intro y hy
      refine nm_e (br_f (by decide) ?_)
      exact pz_go (x6 := x6 ||| 8) ⟨K', hy, pz_G_eq G0 oth rfl (fun _ _ => ⟨rfl, rfl⟩), pz_Gap G1 nap hx, rfl, Or.inl ⟨e9, c0⟩⟩ HJ
    have app : wL_law_397 post Ls xs J x2 x4 x6 x8 x9 (nI q) 0 (nI 1) x6 kc ks (nI 4) (nI 8) (nI 2) (nI b') (nI (rx_cn 8 n k)) (nI p) cr (rx_vv ur un va 1 k) ss' sn' su ur ue un xr' xo' xn' := by
      unfold wL_law_397
      refine pz_wApp G1 (fun z => absurd z nap) (fun _ => br_t rfl (pz_wAll G1 ek hk V (fun y hy => pz_wCnt G1 ek hk (nm_r e8' ?_))))
      have cn := pz_cn (L := 8) (n := n) (by omega) K.2.1 k
      have f := fin y hy
      by_cases hl : n + k ≤ 8
      · rw [cn, if_pos hl] at f ⊢
        exact br_t (nI_le (b := 8) hl (by omega)) f
      · rw [cn, if_neg hl] at f ⊢
        exact br_f (nI_ge (a := 8) (by omega) (by have := K.2.1; omega)) f
    rcases hx with z | z
    · exact br_t z app
    · exact br_f (by rw [z]; decide) (br_t z app)
theorem pz_341 {a12 a13 : Int32} (I : pz_I x2 x4 x6 x8 x9 b n p cr va ss sn su ur un xr xn yr yn) (HJ : pz_HJ J q) (e9 : x9 = 0) (c0 : cr = 0) :
    wL_law_341 post Ls xs J x2 x4 x6 x8 x9 (nI q) a12 a13 0 kc ks (nI 4) (nI 8) (nI 2) (nI b) (nI n) (nI p) cr va ss sn su ur ue un xr xo xn := by
  obtain ⟨s, hs, es⟩ := pk_andE ((a12.toUInt32 >>> ((1 : Int32).toUInt32 &&& Int32.toUInt32 31)).toInt32) (m := 1) 1 (by decide)
  obtain ⟨c, hc, ec⟩ := pk_andE a13 (m := 7) 3 (by decide)
  have ec1 : 1 + (a13 &&& 7) = nI (1 + c) := by rw [ec]; exact nI_add 1 c
  have K := I.1
  obtain ⟨t, k, et, ek, hk4, ht, hD, h2, h3, hf⟩ := K.2.2.2.1 s (by omega)
  refine nm_r es ?_
  rw [ec1]
  refine pz_runM c0 (by omega) ek hk4 (by omega) (by omega) K (fun r b' n' va' ss' sn' xr' xo' xn' yr' yn' K' ho hO => pz_status c0 (by omega) ?_)
  have cc : s = 0 ∨ s = 1 := by omega
  rcases cc with rfl | rfl
  · exact br_t rfl (pz_383_0 I HJ e9 c0 ek hk4 K' ho hO)
  · exact br_f (by decide) (pz_383_1 I HJ e9 c0 ek hk4 K' ho hO)
/-! abort, pack, crash -/
theorem pz_460 {x11 a12 a13 a14 : Int32} (I : pz_I x2 x4 x6 x8 x9 b n p cr va ss sn su ur un xr xn yr yn) (HJ : pz_HJ J q) (e9 : x9 = 0) (c0 : cr = 0) :
    wL_law_460 post Ls xs J x2 x4 x6 x8 x9 (nI q) x11 a12 a13 a14 0 kc ks (nI 4) (nI 8) (nI 2) (nI b) (nI n) (nI p) cr va ss sn su ur ue un xr xo xn := by
  have I0 := I
  obtain ⟨K, V, G0, G1, e8, C⟩ := I0
  have k3 := K.2.2.1
  refine br_c (fun _ => nm_e (br_c (fun _ => br_c (fun _ => ?_) (fun _ => ?_)) (fun _ => ?_))) (fun _ => ?_)
  · exact pz_packStart c0 k3 (fun _ => pz_go I HJ) (pz_go (pz_I_st I e9 c0 (pz_K_p K (by omega)) (fun _ _ => Iff.rfl)) HJ)
  · obtain ⟨c, hc, ec⟩ := pk_andE a14 (m := 3) 2 (by decide)
    rw [show 1 + (a14 &&& 3) = nI (1 + c) by rw [ec]; exact nI_add 1 c]
    exact pz_packRun c0 k3 (by omega) (by omega) (fun _ p' hp' => pz_go (pz_I_st I e9 c0 (pz_K_p K hp') (fun _ _ => Iff.rfl)) HJ)
  · obtain ⟨s, hs, es⟩ := pk_andE a12 (m := 1) 1 (by decide)
    obtain ⟨t, k, et, ek, hk4, ht, hD, h2, h3, hf⟩ := K.2.2.2.1 s (by omega)
    rw [es]
    refine pz_abort c0 (by omega) (fun _ => pz_go I HJ) (fun hu => pz_go (pz_I_st I e9 c0 (pz_K_up K s (rx_SI_mk (x := 8) pk_us et ek hk4 ht rx_d8 (fun z => absurd z (by decide)) (fun z => absurd z (by decide)) hf) (fun j hj => ⟨pk_un hj, rfl, rfl, fun _ _ => rfl⟩)) (pz_ch (by decide) ?_)) HJ)
    rcases hu with z | z
    · rw [z]; decide
    · rw [z]; decide
  · refine pz_crash c0 K.2.2.2.1 (fun ss' sn' hI hd => br_t rfl (pz_go (yr := yr) (yn := yn) ⟨?_, V, pz_G_eq G0 (hd 0 (by omega)).2 rfl (fun _ _ => ⟨rfl, rfl⟩), pz_G_eq G1 (hd 1 (by omega)).2 rfl (fun _ _ => ⟨rfl, rfl⟩), e8, Or.inr ⟨rfl, rfl, rfl, fun j hj => (hd j hj).1⟩⟩ HJ))
    obtain ⟨k1, k2, k3, k4, k5, k6, k7, k8⟩ := K
    exact ⟨k1, k2, by omega, hI, k5, k6, k7, k8⟩
theorem pz_cell {po : Int32 → Prop} {x : Int32} {m : Nat} (e : x = nI m) (hm : m < 2 ^ 31) (hL : Ls ≤ 260) (h : ∀ c, po c) : wpL_cell po Ls xs () x := by
  subst e
  by_cases g : Ls ≤ m
  · exact br_t (nI_le g hm) (h _)
  · exact br_f (nI_ge (by omega) (by omega)) ⟨vp_in_nI (by omega) (by omega), h _⟩
theorem pz_loop (hL : Ls ≤ 260) : ∀ (d q : Nat) (x2 x4 x6 : Int64) (x8 x9 : Int32) (b n p : Nat) (cr : Int32) (va ss sn su ur ue un xr xo xn yr yn : Nat → Int32), Ls ≤ q + d → q ≤ 300 →
    pz_I x2 x4 x6 x8 x9 b n p cr va ss sn su ur un xr xn yr yn → wL_law_29 (fun r => r = 1) Ls xs kc ks (d + 1) x2 x4 x6 x8 x9 (nI q) (nI 4) (nI 8) (nI 2) (nI b) (nI n) (nI p) cr va ss sn su ur ue un xr xo xn := by
  intro d
  induction d with
  | zero =>
    intro q x2 x4 x6 x8 x9 b n p cr va ss sn su ur ue un xr xo xn yr yn hd hq I
    exact br_t (nI_le (by omega) (by omega)) rfl
  | succ d ih =>
    intro q x2 x4 x6 x8 x9 b n p cr va ss sn su ur ue un xr xo xn yr yn hd hq I
    by_cases hq2 : Ls ≤ q
    · exact br_t (nI_le (by omega) (by omega)) rfl
    · have HJ : pz_HJ (wL_law_29 (fun r => r = 1) Ls xs kc ks (d + 1)) q := fun x2 x4 x6 x8 x9 b n p cr va ss sn su ur ue un xr xo xn yr yn I => ih (q + 5) x2 x4 x6 x8 x9 b n p cr va ss sn su ur ue un xr xo xn yr yn (by omega) (by omega) I
      refine br_f (nI_ge (by omega) (by omega)) (pz_cell (m := q) rfl (by omega) hL (fun a11 => nm_e (pz_cell (m := q + 1) (nI_add q 1) (by omega) hL (fun a12 => pz_cell (m := q + 2) (nI_add q 2) (by omega) hL (fun a13 => pz_cell (m := q + 3) (nI_add q 3) (by omega) hL (fun a14 => pz_cell (m := q + 4) (nI_add q 4) (by omega) hL (fun a15 => ?_)))))))
      have I0 := I
      obtain ⟨K, V, G0, G1, e8, C⟩ := I0
      rcases C with ⟨e9, c0⟩ | ⟨e9, c1, hp3, hst⟩
      · refine br_t e9 (br_c (fun _ => ?_) (fun _ => br_c (fun _ => pz_159 I HJ e9 c0) (fun _ => br_c (fun _ => pz_159 I HJ e9 c0) (fun _ => br_c (fun _ => ?_) (fun _ => br_c (fun _ => pz_341 I HJ e9 c0) (fun _ => br_c (fun _ => pz_341 I HJ e9 c0) (fun _ => br_c (fun _ => br_c (fun _ => pz_460 I HJ e9 c0) (fun _ => pz_341 I HJ e9 c0)) (fun _ => pz_460 I HJ e9 c0))))))))
        · refine pz_begin c0 (br_f (by decide) (br_f (by decide) (pz_go I HJ))) (fun j hj hu => ?_)
          have c : j = 0 ∨ j = 1 := by omega
          rcases c with rfl | rfl
          · exact br_t rfl (pz_go (pz_b0 I e9 c0) HJ)
          · exact br_f (by decide) (br_t rfl (pz_go (pz_b1 I e9 c0) HJ))
        · obtain ⟨s, hs, es⟩ := pk_andE a12 (m := 1) 1 (by decide)
          obtain ⟨t, k, et, ek, hk4, ht, hD, h2, h3, hf⟩ := K.2.2.2.1 s (by omega)
          rw [es]
          refine pz_commit c0 (by omega) (fun _ => pz_go I HJ) (fun e1 => pz_go (pz_I_st I e9 c0 (pz_K_up K s (rx_SI_mk (x := 2) (t := 0) (k := k) pk_us (pk_us.trans nI_0.symm) ek hk4 (by omega) rx_d2 (fun _ => by omega) (fun z => absurd z (by decide)) hf) (fun j hj => ⟨pk_un hj, pk_un hj, rfl, fun _ _ => rfl⟩)) (pz_ch (by decide) ?_)) HJ)
          rw [e1]; decide
      · subst c1
        exact br_f (by rw [e9]; decide) (br_f (by decide) (br_t rfl (pz_529 ⟨K, V, G0, G1, e8, Or.inl ⟨rfl, rfl⟩⟩ (fun _ => ⟨hp3, hst⟩) HJ)))
theorem pz_I0 : pz_I 0 0 0 0 0 0 0 3 0 (fun _ => 0) (fun _ => 0) (fun _ => 0) (fun _ => 0) (fun _ => 0) (fun _ => 0) (fun _ => 0) (fun _ => 0) (fun _ => 0) (fun _ => 0) :=
  ⟨⟨by omega, by omega, by omega,
    fun s _ => rx_SI_mk (x := 0) (t := 0) (k := 0) rfl nI_0.symm nI_0.symm (by omega) (by omega) rx_d0 (fun z => absurd z (by decide)) (fun z => absurd z (by decide)) ⟨fun j h => absurd h (by omega), fun _ _ _ h => absurd h (by omega)⟩,
    fun j h => absurd h (by omega), fun j h => absurd h (by omega), fun j h => absurd h (by omega), fun j h => absurd h (by omega)⟩,
   ⟨0, by omega, rfl, fun r _ => by rw [Nat.zero_div]; rfl⟩, pz_G0 rfl (by decide), pz_G0 rfl (by decide), rfl, Or.inl ⟨rfl, rfl⟩⟩
theorem i_vc (xs : Nat → Int32) (L : Nat) (hL : L ≤ 260) : wpL_law (fun r => r = 1) L xs := by
  refine ⟨10, 172, by decide, by decide, ?_⟩
  refine ⟨by decide, by decide, by decide, by decide, by decide, by decide, by decide, by decide, by decide, by decide, by decide, by decide, by decide, by decide, by decide, by decide, by decide, by decide, by decide, by decide, ?_⟩
  refine br_t (by decide) (br_t (by decide) (br_t (by decide) (br_t (by decide) (br_t (by decide) (br_t (by decide) ⟨L + 1, ?_⟩)))))
  exact pz_loop hL L 0 0 0 0 0 0 0 0 3 0 (fun _ => 0) (fun _ => 0) (fun _ => 0) (fun _ => 0) (fun _ => 0) (fun _ => 0) (fun _ => 0) (fun _ => 0) (fun _ => 0) (fun _ => 0) (fun _ => 0) (fun _ => 0) (by omega) (by omega) pz_I0
end PZ11
