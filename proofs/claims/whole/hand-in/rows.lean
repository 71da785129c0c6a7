section
theorem pk_us {f : Nat → Int32} {k : Nat} {x : Int32} : upd f k x k = x := if_pos rfl
theorem pk_un {f : Nat → Int32} {k j : Nat} {x : Int32} (h : j ≠ k) : upd f k x j = f j := if_neg h
theorem pk_sub {a b : Nat} (h : b ≤ a) : nI a - nI b = nI (a - b) := by
  obtain ⟨c, rfl⟩ : ∃ c, a = c + b := ⟨a - b, by omega⟩
  rw [← nI_add, Int32.add_sub_cancel, Nat.add_sub_cancel]
theorem pk_m1 (n : Nat) : nI (n + 1) + (-1) = nI n := by
  rw [← nI_1, Int32.add_assoc, show (1 : Int32) + (-1) = 0 from rfl, Int32.add_zero]
theorem pk_mul (a b : Nat) : nI a * nI b = nI (a * b) := (Int32.ofNat_mul a b).symm
theorem pk_ix (x : Int32) {n : Nat} (hn : n < 2 ^ 31) : x < 0 ∨ nI n ≤ x ∨ ∃ j : Nat, j < n ∧ x = nI j := by
  by_cases h : x < 0
  · exact Or.inl h
  · obtain ⟨j, hj, rfl⟩ := nI_of h
    by_cases h2 : j < n
    · exact Or.inr (Or.inr ⟨j, h2, rfl⟩)
    · exact Or.inr (Or.inl (nI_le (by omega) hj))
theorem pk_le {x y : Int32} {A B : Prop} (a b : Nat) (f : a ≤ b → A) (g : b < a → B) (hx : x = nI a := by rfl) (hy : y = nI b := by rfl) (ha : a < 2 ^ 31 := by omega) (hb : b < 2 ^ 31 := by omega) : (x ≤ y → A) ∧ (¬ x ≤ y → B) := by
  subst hx hy
  rw [nI_leI ha hb]
  exact ⟨f, fun z => g (by omega)⟩
theorem pk_lt {x y : Int32} {A B : Prop} (a b : Nat) (f : a < b → A) (g : b ≤ a → B) (hx : x = nI a := by rfl) (hy : y = nI b := by rfl) (ha : a < 2 ^ 31 := by omega) (hb : b < 2 ^ 31 := by omega) : (x < y → A) ∧ (¬ x < y → B) := by
  subst hx hy
  rw [nI_ltI ha hb]
  exact ⟨f, fun z => g (by omega)⟩
theorem pk_eq {x y : Int32} {A B : Prop} (a b : Nat) (f : a = b → A) (g : a ≠ b → B) (hx : x = nI a := by rfl) (hy : y = nI b := by rfl) (ha : a < 2 ^ 31 := by omega) (hb : b < 2 ^ 31 := by omega) : (x = y → A) ∧ (¬ x = y → B) := by
  subst hx hy
  rw [nI_eq ha hb]
  exact ⟨f, g⟩
theorem pk_in {x : Int32} (n N : Nat) (h : n < N) (hx : x = nI n := by rfl) (hN : N < 2 ^ 31 := by omega) : vp_in x N := by
  subst hx
  exact vp_in_nI h hN
theorem pk_cl {x : Int32} (n : Nat) (hx : x = nI n := by rfl) (h : n < 2 ^ 31 := by omega) : x.toNatClampNeg = n := by
  subst hx
  exact nI_clamp h
end
section
/-! the reflog: a ring of L cells against a plain row -/
/-- the cell of the j-th entry of a ring of L cells that begins at b -/
def rx_g (L b j : Nat) : Nat := if b + j < L then b + j else b + j - L
theorem rx_g_lt {L b j : Nat} (hb : b < L) (hj : j ≤ L) : rx_g L b j < L := by
  unfold rx_g; split <;> omega
theorem rx_g_ne {L b i j : Nat} (hb : b < L) (hj : j < L) (hi : i < j) : rx_g L b i ≠ rx_g L b j := by
  unfold rx_g; split <;> split <;> omega
theorem rx_g_1 {L b j : Nat} (hb : b < L) (hj : j + 1 < L) : rx_g L (rx_g L b 1) j = rx_g L b (j + 1) := by
  by_cases h : b + 1 < L
  · rw [show rx_g L b 1 = b + 1 from if_pos h]; unfold rx_g; split <;> split <;> omega
  · rw [show rx_g L b 1 = b + 1 - L from if_neg h]; unfold rx_g; split <;> split <;> omega
/-- a row whose entries 1 .. i - 1 have moved down by one -/
def rx_sh (a : Nat → Int32) (i : Nat) : Nat → Int32 := fun j => if j + 1 < i then a (j + 1) else a j
theorem rx_sh1 (a : Nat → Int32) : rx_sh a 1 = a := funext fun j => if_neg (by omega)
theorem rx_shi (a : Nat → Int32) (i : Nat) : rx_sh a i i = a i := if_neg (by omega)
theorem rx_shs (a : Nat → Int32) (m : Nat) : upd (rx_sh a (m + 1)) m (a (m + 1)) = rx_sh a (m + 2) := by
  funext j
  unfold upd rx_sh
  by_cases h1 : j = m
  · subst h1
    rw [if_pos rfl, if_pos (by omega)]
  · rw [if_neg h1]
    by_cases h2 : j + 1 < m + 1
    · rw [if_pos h2, if_pos (by omega)]
    · rw [if_neg h2, if_neg (by omega)]
def rx_LG (L b n : Nat) (x y : Nat → Int32) : Prop := ∀ j, j < n → y j = x (rx_g L b j)
def rx_nn (L n : Nat) : Nat := if n < L then n else n - 1
def rx_bb (L b n : Nat) : Nat := if n < L then b else rx_g L b 1
def rx_ap (y : Nat → Int32) (L n : Nat) (r : Int32) : Nat → Int32 := upd (if n < L then y else rx_sh y n) (rx_nn L n) r
theorem rx_nn_lt {L n : Nat} (hL : 0 < L) (hn : n ≤ L) : rx_nn L n < L := by
  unfold rx_nn; split <;> omega
theorem rx_bb_lt {L b n : Nat} (hL : 1 ≤ L) (hb : b < L) : rx_bb L b n < L := by
  unfold rx_bb; split
  · exact hb
  · exact rx_g_lt hb hL
theorem rx_ap_lg {L b n : Nat} {x y : Nat → Int32} {r : Int32} (hL : 0 < L) (hb : b < L) (hn : n ≤ L) (h : rx_LG L b n x y) :
    rx_LG L (rx_bb L b n) (rx_nn L n + 1) (upd x (rx_g L (rx_bb L b n) (rx_nn L n)) r) (rx_ap y L n r) := by
  intro j hj
  by_cases hl : n < L
  · have e1 : rx_nn L n = n := if_pos hl
    have e2 : rx_bb L b n = b := if_pos hl
    have e3 : rx_ap y L n r = upd y n r := by unfold rx_ap; rw [if_pos hl, e1]
    rw [e1] at hj
    rw [e3, e2, e1]
    by_cases hjn : j = n
    · rw [hjn, pk_us, pk_us]
    · rw [pk_un hjn, pk_un (rx_g_ne hb hl (by omega)), h j (by omega)]
  · have e0 : n = L := by omega
    subst e0
    have e1 : rx_nn n n = n - 1 := if_neg hl
    have e2 : rx_bb n b n = rx_g n b 1 := if_neg hl
    have e3 : rx_ap y n n r = upd (rx_sh y n) (n - 1) r := by unfold rx_ap; rw [if_neg hl, e1]
    rw [e1] at hj
    rw [e3, e2, e1]
    by_cases hjn : j = n - 1
    · rw [hjn, pk_us, pk_us]
    · have hb1 : rx_g n b 1 < n := rx_g_lt hb (by omega)
      have hs : rx_sh y n j = y (j + 1) := if_pos (by omega)
      rw [pk_un hjn, pk_un (rx_g_ne hb1 (by omega) (by omega)), rx_g_1 hb (by omega), hs, h (j + 1) (by omega)]
/-! i entries appended, one behind the other: the row (rx_cn entries, rx_ca), the ring (rx_cb its begin, rx_cx) -/
def rx_cn (L n : Nat) : Nat → Nat
  | 0 => n
  | i + 1 => rx_nn L (rx_cn L n i) + 1
def rx_cb (L b n : Nat) : Nat → Nat
  | 0 => b
  | i + 1 => rx_bb L (rx_cb L b n i) (rx_cn L n i)
def rx_ca (f : Nat → Int32) (L n : Nat) (y : Nat → Int32) : Nat → Nat → Int32
  | 0 => y
  | i + 1 => rx_ap (rx_ca f L n y i) L (rx_cn L n i) (f i)
def rx_cx (f : Nat → Int32) (L b n : Nat) (x : Nat → Int32) : Nat → Nat → Int32
  | 0 => x
  | i + 1 => upd (rx_cx f L b n x i) (rx_g L (rx_bb L (rx_cb L b n i) (rx_cn L n i)) (rx_nn L (rx_cn L n i))) (f i)
theorem rx_cn_le {L n : Nat} (hL : 0 < L) (hn : n ≤ L) : ∀ i, rx_cn L n i ≤ L := by
  intro i
  induction i with
  | zero => exact hn
  | succ i ih =>
    have := rx_nn_lt hL ih
    show rx_nn L (rx_cn L n i) + 1 ≤ L
    omega
theorem rx_cb_lt {L b n : Nat} (hL : 0 < L) (hb : b < L) : ∀ i, rx_cb L b n i < L := by
  intro i
  induction i with
  | zero => exact hb
  | succ i ih => exact rx_bb_lt hL ih
theorem rx_c_lg {f x y : Nat → Int32} {L b n : Nat} (hL : 0 < L) (hb : b < L) (hn : n ≤ L) (h : rx_LG L b n x y) :
    ∀ i, rx_LG L (rx_cb L b n i) (rx_cn L n i) (rx_cx f L b n x i) (rx_ca f L n y i) := by
  intro i
  induction i with
  | zero => exact h
  | succ i ih => exact rx_ap_lg hL (rx_cb_lt hL hb i) (rx_cn_le hL hn i) ih
/-! the values after the first i updates of slot s -/
def rx_vv (ur un va : Nat → Int32) (s : Nat) : Nat → Nat → Int32
  | 0 => va
  | i + 1 => upd (rx_vv ur un va s i) (ur (s * 4 + i)).toNatClampNeg (un (s * 4 + i))
/-! a slot's own facts: status q, steps t, updates k -/
def rx_RF (R : Nat) (ur : Nat → Int32) (s k : Nat) : Prop :=
  (∀ i, i < k → ∃ r, r < R ∧ ur (s * 4 + i) = nI r) ∧ (∀ i j, i < j → j < k → ur (s * 4 + i) ≠ ur (s * 4 + j))
def rx_D9 (x : Int32) : Prop := x = 0 ∨ x = 1 ∨ x = 2 ∨ x = 3 ∨ x = 4 ∨ x = 5 ∨ x = 6 ∨ x = 7 ∨ x = 8
def rx_SI (R : Nat) (ss sn su ur : Nat → Int32) (s : Nat) : Prop :=
  ∃ t k : Nat, sn s = nI t ∧ su s = nI k ∧ k ≤ 4 ∧ t ≤ 2 * k + 2 ∧ rx_D9 (ss s) ∧ (ss s = 2 → t ≤ k) ∧ (ss s = 3 → k + 1 ≤ t ∧ t ≤ 2 * k + 1) ∧ rx_RF R ur s k
theorem rx_vv_o {R : Nat} {ur un va : Nat → Int32} {s k : Nat} (hR : R ≤ 16) (h : rx_RF R ur s k) :
    ∀ i j, i ≤ j → j < k → rx_vv ur un va s i (ur (s * 4 + j)).toNatClampNeg = va (ur (s * 4 + j)).toNatClampNeg := by
  intro i
  induction i with
  | zero => intro j _ _; rfl
  | succ i ih =>
    intro j hij hj
    have hne : (ur (s * 4 + j)).toNatClampNeg ≠ (ur (s * 4 + i)).toNatClampNeg := by
      obtain ⟨r, hr, er⟩ := h.1 j hj
      obtain ⟨r', hr', er'⟩ := h.1 i (by omega)
      have hd := h.2 i j (by omega) hj
      rw [er, er', nI_clamp (by omega), nI_clamp (by omega)]
      intro e
      exact hd (by rw [er, er', e])
    show upd (rx_vv ur un va s i) (ur (s * 4 + i)).toNatClampNeg (un (s * 4 + i)) _ = _
    rw [pk_un hne]
    exact ih j (by omega) hj
theorem rx_SI_up {R : Nat} {ss sn su ur ss' sn' su' ur' : Nat → Int32} (h : ∀ s, s < 4 → rx_SI R ss sn su ur s) (s0 : Nat)
    (h0 : rx_SI R ss' sn' su' ur' s0)
    (ho : ∀ s, s ≠ s0 → ss' s = ss s ∧ sn' s = sn s ∧ su' s = su s ∧ ∀ i, i < 4 → ur' (s * 4 + i) = ur (s * 4 + i)) :
    ∀ s, s < 4 → rx_SI R ss' sn' su' ur' s := by
  intro s hs
  by_cases e : s = s0
  · rw [e]; exact h0
  · obtain ⟨t, k, e2, e3, h1, h2, h3, h4, h5, h6, h7⟩ := h s hs
    obtain ⟨o1, o2, o3, o4⟩ := ho s e
    refine ⟨t, k, o2.trans e2, o3.trans e3, h1, h2, by rw [o1]; exact h3, by rw [o1]; exact h4, by rw [o1]; exact h5, ?_, ?_⟩
    · intro i hi
      rw [o4 i (by omega)]
      exact h6 i hi
    · intro i j hij hj
      rw [o4 i (by omega), o4 j (by omega)]
      exact h7 i j hij hj
/-! what a slot holds of locks -/
def rx_hn (ss sn su : Nat → Int32) (o : Nat) : Nat := if ss o = 2 then (sn o).toNatClampNeg else if ss o = 3 then (su o).toNatClampNeg else 0
def rx_Hd (ss sn su ur : Nat → Int32) (ref : Int32) (o : Nat) : Prop := ∃ i, i < rx_hn ss sn su o ∧ ur (o * 4 + i) = ref
def rx_Ot (S : Nat) (ss sn su ur : Nat → Int32) (ref : Int32) (s : Nat) : Prop := ∃ o, o < S ∧ o ≠ s ∧ rx_Hd ss sn su ur ref o
theorem rx_hn2 {ss sn su : Nat → Int32} {o t : Nat} (h : ss o = 2) (e : sn o = nI t) (ht : t < 2 ^ 31) : rx_hn ss sn su o = t := by
  unfold rx_hn
  rw [if_pos h, e, nI_clamp ht]
theorem rx_hn3 {ss sn su : Nat → Int32} {o k : Nat} (h : ss o = 3) (e : su o = nI k) (hk : k < 2 ^ 31) : rx_hn ss sn su o = k := by
  unfold rx_hn
  rw [if_neg (by rw [h]; decide), if_pos h, e, nI_clamp hk]
theorem rx_hn0 {ss sn su : Nat → Int32} {o : Nat} (h2 : ¬ ss o = 2) (h3 : ¬ ss o = 3) : rx_hn ss sn su o = 0 := by
  unfold rx_hn
  rw [if_neg h2, if_neg h3]
theorem rx_hn4 {R : Nat} {ss sn su ur : Nat → Int32} {o : Nat} (h : rx_SI R ss sn su ur o) : rx_hn ss sn su o ≤ 4 := by
  obtain ⟨t, k, e2, e3, h1, h2, h3, h4, h5, h6⟩ := h
  by_cases a : ss o = 2
  · rw [rx_hn2 a e2 (by omega)]; have := h4 a; omega
  · by_cases c : ss o = 3
    · rw [rx_hn3 c e3 (by omega)]; omega
    · rw [rx_hn0 a c]; omega
/-! the pack: X keeps one number, 3 for none; Y a flag and a number -/
def rx_PK (p : Nat) (pk pd : Int32) : Prop := (p = 3 ∧ pk = 0) ∨ (p < 3 ∧ pk = 1 ∧ pd = nI p)
/-- all that holds between the two states beside the shared names -/
def rx_K (R L S b n p : Nat) (pk pd : Int32) (ss sn su ur xr xo xn yr yo yn : Nat → Int32) : Prop :=
  4 ≤ R ∧ R ≤ 16 ∧ 8 ≤ L ∧ L ≤ 32 ∧ 1 ≤ S ∧ S ≤ 4 ∧ b < L ∧ n ≤ L ∧ rx_PK p pk pd ∧ (∀ s, s < 4 → rx_SI R ss sn su ur s) ∧ rx_LG L b n xr yr ∧ rx_LG L b n xo yo ∧ rx_LG L b n xn yn
end
section
/-- one count of refs, entries, slots; the same values, statuses, steps, updates; the ring against the row; the pack -/
def i_Rel (k : Nat) (u : SX) (v : SY) : Prop :=
  ∃ (R L S b n p : Nat) (pk pd cr : Int32) (va ss sn su ur ue un xr xo xn yr yo yn : Nat → Int32), u = (nI R, nI L, nI S, nI b, nI n, nI p, cr, va, ss, sn, su, ur, ue, un, xr, xo, xn) ∧ v = (nI R, nI L, nI S, nI n, pk, pd, cr, va, yr, yo, yn, ss, su, sn, ur, ue, un) ∧ rx_K R L S b n p pk pd ss sn su ur xr xo xn yr yo yn
theorem i_up {k : Nat} {u : SX} {v : SY} (h : i_Rel k u v) : i_Rel (k + 5) u v := h
end
section
section RX4
variable {R L S b n p : Nat} {pk pd cr : Int32} {va ss sn su ur ue un xr xo xn yr yo yn : Nat → Int32}
theorem rx_m4 {s : Nat} : nI s * 4 = nI (s * 4) := pk_mul s 4
theorem rx_i4 {s i : Nat} : nI s * 4 + nI i = nI (s * 4 + i) := by rw [rx_m4, nI_add]
theorem rx_ci {s i : Nat} (hs : s < 4) (hi : i < 4) : (nI (s * 4) + nI i).toNatClampNeg = s * 4 + i := by rw [nI_add, nI_clamp (by omega)]
theorem rx_cj {s i : Nat} (hs : s < 4) (hi : i < 4) : (nI s * 4 + nI i).toNatClampNeg = s * 4 + i := by rw [rx_i4, nI_clamp (by omega)]
theorem rx_ij {s i : Nat} (hs : s < 4) (hi : i < 4) : vp_in (nI s * 4 + nI i) 16 := by rw [rx_i4]; exact vp_in_nI (by omega) (by omega)
/-! isNamed -/
theorem rx_xnm {post : Int32 → Prop} {s k : Nat} {ref : Int32} (hs : s < 4) (hk : k ≤ 4) : ∀ d i, i + d = k →
    ((∃ j, i ≤ j ∧ j < k ∧ ur (s * 4 + j) = ref) → post 1) → ((∀ j, i ≤ j → j < k → ¬ ur (s * 4 + j) = ref) → post 0) →
    wX_isNamed_8 post (nI k) ref (nI (s * 4)) (nI R) (nI L) (nI S) (nI b) (nI n) (nI p) cr va ss sn su ur ue un xr xo xn (d + 1) (nI i) := by
  intro d
  induction d with
  | zero =>
    intro i hi h1 h0
    exact br_t (nI_le (by omega) (by omega)) (h0 (fun j a c => absurd a (by omega)))
  | succ d ih =>
    intro i hi h1 h0
    refine br_f (nI_ge (by omega) (by omega)) ⟨by rw [nI_add]; exact vp_in_nI (by omega) (by omega), ?_⟩
    have ec : (nI (s * 4) + nI i).toNatClampNeg = s * 4 + i := rx_ci hs (by omega)
    by_cases e : ur (s * 4 + i) = ref
    · exact br_t (by rw [ec]; exact e) (h1 ⟨i, Nat.le_refl i, by omega, e⟩)
    · refine br_f (by rw [ec]; exact e) (nm_r (nI_1 i) (ih (i + 1) (by omega) (fun ⟨j, a, c, f⟩ => h1 ⟨j, by omega, c, f⟩) (fun h => h0 (fun j a c => ?_))))
      by_cases g : j = i
      · rw [g]; exact e
      · exact h j (by omega) c
theorem rx_xNamed {post : Int32 → Prop} {s k : Nat} {ref : Int32} (hs : s < 4) (hk : k ≤ 4)
    (h1 : (∃ j, j < k ∧ ur (s * 4 + j) = ref) → post 1) (h0 : (∀ j, j < k → ¬ ur (s * 4 + j) = ref) → post 0) :
    wpX_isNamed post (nI R, nI L, nI S, nI b, nI n, nI p, cr, va, ss, sn, su, ur, ue, un, xr, xo, xn) (nI s) (nI k) ref :=
  nm_r rx_m4 ⟨k + 1, rx_xnm hs hk k 0 (by omega) (fun ⟨j, _, c, f⟩ => h1 ⟨j, c, f⟩) (fun h => h0 (fun j c => h j (by omega) c))⟩
/-! who holds a ref: X -/
theorem rx_xHeld {post : Int32 → Prop} {s : Nat} (hs : s < 4) (h : rx_SI R ss sn su ur s) (hp : post (nI (rx_hn ss sn su s))) :
    wpX_heldUpdates post (nI R, nI L, nI S, nI b, nI n, nI p, cr, va, ss, sn, su, ur, ue, un, xr, xo, xn) (nI s) := by
  have hv : vp_in (nI s) 4 := vp_in_nI hs (by omega)
  have ec : (nI s).toNatClampNeg = s := nI_clamp (by omega)
  obtain ⟨t, k, e2, e3, h1, h2, h3, h4, h5, h6⟩ := h
  unfold wpX_heldUpdates
  dsimp only
  rw [ec]
  by_cases a : ss s = 2
  · rw [rx_hn2 a e2 (by omega)] at hp
    exact ⟨hv, br_t a ⟨hv, by rw [e2]; exact hp⟩⟩
  · by_cases c : ss s = 3
    · rw [rx_hn3 c e3 (by omega)] at hp
      exact ⟨hv, br_f a ⟨hv, br_t c ⟨hv, by rw [e3]; exact hp⟩⟩⟩
    · rw [rx_hn0 a c] at hp
      exact ⟨hv, br_f a ⟨hv, br_f c hp⟩⟩
theorem rx_xot {post : Int32 → Prop} {s : Nat} {ref : Int32} (hS : S ≤ 4) (hs : s < 4) (hI : ∀ s, s < 4 → rx_SI R ss sn su ur s) : ∀ d o, o + d = S →
    ((∃ q, o ≤ q ∧ q < S ∧ q ≠ s ∧ rx_Hd ss sn su ur ref q) → post 1) → ((∀ q, o ≤ q → q < S → q ≠ s → ¬ rx_Hd ss sn su ur ref q) → post 0) →
    wX_isHeldByOther_2 post (nI s) ref (nI R) (nI L) (nI S) (nI b) (nI n) (nI p) cr va ss sn su ur ue un xr xo xn (d + 1) (nI o) := by
  intro d
  induction d with
  | zero =>
    intro o ho h1 h0
    exact br_t (nI_le (by omega) (by omega)) (h0 (fun q a c => absurd a (by omega)))
  | succ d ih =>
    intro o ho h1 h0
    refine br_f (nI_ge (by omega) (by omega)) (rx_xHeld (by omega) (hI o (by omega)) ?_)
    have nx : (o = s ∨ ¬ rx_Hd ss sn su ur ref o) → wX_isHeldByOther_2 post (nI s) ref (nI R) (nI L) (nI S) (nI b) (nI n) (nI p) cr va ss sn su ur ue un xr xo xn (d + 1) (nI (o + 1)) := by
      intro hn
      refine ih (o + 1) (by omega) (fun ⟨q, a, c, f⟩ => h1 ⟨q, by omega, c, f⟩) (fun h => h0 (fun q a c f => ?_))
      by_cases g : q = o
      · rw [g]
        rcases hn with z | z
        · exact absurd (g.trans z) f
        · exact z
      · exact h q (by omega) c f
    refine pk_eq o s (fun e => nm_r (nI_1 o) (nx (Or.inl e))) (fun e => rx_xNamed (by omega) (rx_hn4 (hI o (by omega))) (fun hj => ?_) (fun hj => ?_))
    · exact br_f (by decide) (h1 ⟨o, Nat.le_refl o, by omega, e, hj⟩)
    · exact br_t rfl (nm_r (nI_1 o) (nx (Or.inr (fun ⟨j, a, c⟩ => hj j a c))))
theorem rx_xOther {post : Int32 → Prop} {s : Nat} {ref : Int32} (hS : S ≤ 4) (hs : s < 4) (hI : ∀ s, s < 4 → rx_SI R ss sn su ur s)
    (h1 : rx_Ot S ss sn su ur ref s → post 1) (h0 : ¬ rx_Ot S ss sn su ur ref s → post 0) : wpX_isHeldByOther post (nI R, nI L, nI S, nI b, nI n, nI p, cr, va, ss, sn, su, ur, ue, un, xr, xo, xn) (nI s) ref :=
  ⟨S + 1, rx_xot hS hs hI S 0 (by omega) (fun ⟨q, _, c, f, g⟩ => h1 ⟨q, c, f, g⟩) (fun h => h0 (fun ⟨q, c, f, g⟩ => h q (by omega) c f g))⟩
/-! who holds a ref: Y -/
theorem rx_yhd {post : Int32 → Prop} {s k : Nat} {ref : Int32} (hs : s < 4) (hk : k ≤ 4) : ∀ d i, i + d = k →
    ((∃ j, i ≤ j ∧ j < k ∧ ur (s * 4 + j) = ref) → post 1) → ((∀ j, i ≤ j → j < k → ¬ ur (s * 4 + j) = ref) → post 0) →
    wY_holds_45 post (nI s) ref (nI k) (nI R) (nI L) (nI S) (nI n) pk pd cr va yr yo yn ss su sn ur ue un (d + 1) (nI i) := by
  intro d
  induction d with
  | zero =>
    intro i hi h1 h0
    exact br_t (nI_le (by omega) (by omega)) (h0 (fun j a c => absurd a (by omega)))
  | succ d ih =>
    intro i hi h1 h0
    refine br_f (nI_ge (by omega) (by omega)) (br_f (nI_ge (b := 4) (by omega) (by decide)) ⟨rx_ij hs (by omega), ?_⟩)
    have ec : (nI s * 4 + nI i).toNatClampNeg = s * 4 + i := rx_cj hs (by omega)
    by_cases e : ur (s * 4 + i) = ref
    · exact br_t (by rw [ec]; exact e) (h1 ⟨i, Nat.le_refl i, by omega, e⟩)
    · refine br_f (by rw [ec]; exact e) (nm_r (nI_1 i) (ih (i + 1) (by omega) (fun ⟨j, a, c, f⟩ => h1 ⟨j, by omega, c, f⟩) (fun h => h0 (fun j a c => ?_))))
      by_cases g : j = i
      · rw [g]; exact e
      · exact h j (by omega) c
theorem rx_yHolds {post : Int32 → Prop} {s : Nat} {ref : Int32} (hs : s < 4) (h : rx_SI R ss sn su ur s)
    (h1 : rx_Hd ss sn su ur ref s → post 1) (h0 : ¬ rx_Hd ss sn su ur ref s → post 0) : wpY_holds post (nI R, nI L, nI S, nI n, pk, pd, cr, va, yr, yo, yn, ss, su, sn, ur, ue, un) (nI s) ref := by
  have hv : vp_in (nI s) 4 := vp_in_nI hs (by omega)
  have ec : (nI s).toNatClampNeg = s := nI_clamp (by omega)
  have h4 : rx_hn ss sn su s ≤ 4 := rx_hn4 h
  have lp : ∀ k, rx_hn ss sn su s = k → ∃ n45 : Nat, wY_holds_45 post (nI s) ref (nI k) (nI R) (nI L) (nI S) (nI n) pk pd cr va yr yo yn ss su sn ur ue un n45 0 := by
    intro k hk
    exact ⟨k + 1, rx_yhd hs (by omega) k 0 (by omega) (fun ⟨j, _, c, f⟩ => h1 ⟨j, by omega, f⟩) (fun hh => h0 (fun ⟨j, c, f⟩ => hh j (by omega) (by omega) f))⟩
  obtain ⟨t, k, e2, e3, g1, g2, g3, g4, g5, g6⟩ := h
  unfold wpY_holds
  dsimp only
  rw [ec]
  by_cases a : ss s = 2
  · exact ⟨hv, br_t a ⟨hv, nm_r e2 (lp t (rx_hn2 a e2 (by omega)))⟩⟩
  · by_cases c : ss s = 3
    · exact ⟨hv, br_f a ⟨hv, br_t c ⟨hv, nm_r e3 (lp k (rx_hn3 c e3 (by omega)))⟩⟩⟩
    · exact ⟨hv, br_f a ⟨hv, br_f c (h0 (fun ⟨j, z, _⟩ => by rw [rx_hn0 a c] at z; omega))⟩⟩
theorem rx_yot {post : Int32 → Prop} {s : Nat} {ref : Int32} (hS : S ≤ 4) (hs : s < 4) (hI : ∀ s, s < 4 → rx_SI R ss sn su ur s) : ∀ d o, o + d = S →
    ((∃ q, o ≤ q ∧ q < S ∧ q ≠ s ∧ rx_Hd ss sn su ur ref q) → post 1) → ((∀ q, o ≤ q → q < S → q ≠ s → ¬ rx_Hd ss sn su ur ref q) → post 0) →
    wY_heldByOther_2 post (nI s) ref (nI R) (nI L) (nI S) (nI n) pk pd cr va yr yo yn ss su sn ur ue un (d + 1) (nI o) := by
  intro d
  induction d with
  | zero =>
    intro o ho h1 h0
    exact br_t (nI_le (by omega) (by omega)) (h0 (fun q a c => absurd a (by omega)))
  | succ d ih =>
    intro o ho h1 h0
    have nx : (o = s ∨ ¬ rx_Hd ss sn su ur ref o) → wY_heldByOther_2 post (nI s) ref (nI R) (nI L) (nI S) (nI n) pk pd cr va yr yo yn ss su sn ur ue un (d + 1) (nI (o + 1)) := by
      intro hn
      refine ih (o + 1) (by omega) (fun ⟨q, a, c, f⟩ => h1 ⟨q, by omega, c, f⟩) (fun h => h0 (fun q a c f => ?_))
      by_cases g : q = o
      · rw [g]
        rcases hn with z | z
        · exact absurd (g.trans z) f
        · exact z
      · exact h q (by omega) c f
    refine br_f (nI_ge (by omega) (by omega)) (pk_eq o s (fun e => nm_r (nI_1 o) (nx (Or.inl e))) (fun e => rx_yHolds (by omega) (hI o (by omega)) (fun hj => ?_) (fun hj => ?_)))
    · exact br_f (by decide) (h1 ⟨o, Nat.le_refl o, by omega, e, hj⟩)
    · exact br_t rfl (nm_r (nI_1 o) (nx (Or.inr hj)))
theorem rx_yOther {post : Int32 → Prop} {s : Nat} {ref : Int32} (hS : S ≤ 4) (hs : s < 4) (hI : ∀ s, s < 4 → rx_SI R ss sn su ur s)
    (h1 : rx_Ot S ss sn su ur ref s → post 1) (h0 : ¬ rx_Ot S ss sn su ur ref s → post 0) : wpY_heldByOther post (nI R, nI L, nI S, nI n, pk, pd, cr, va, yr, yo, yn, ss, su, sn, ur, ue, un) (nI s) ref :=
  ⟨S + 1, rx_yot hS hs hI S 0 (by omega) (fun ⟨q, _, c, f, g⟩ => h1 ⟨q, c, f, g⟩) (fun h => h0 (fun ⟨q, c, f, g⟩ => h q (by omega) c f g))⟩
end RX4
end
section
section RX5
variable {R L S b n p : Nat} {pk pd cr : Int32} {va ss sn su ur ue un xr xo xn yr yo yn : Nat → Int32}
/-! an entry appended: X's ring -/
theorem rx_xCell {post : Int32 → Prop} {i : Nat} (hL : L ≤ 32) (hb : b < L) (hi : i ≤ L) (hp : post (nI (rx_g L b i))) :
    wpX_logCell post (nI R, nI L, nI S, nI b, nI n, nI p, cr, va, ss, sn, su, ur, ue, un, xr, xo, xn) (nI i) := by
  refine nm_r (nI_add b i) ?_
  by_cases h : b + i < L
  · rw [show rx_g L b i = b + i from if_pos h] at hp
    exact br_f (nI_ge h (by omega)) hp
  · rw [show rx_g L b i = b + i - L from if_neg h] at hp
    exact br_t (nI_le (by omega) (by omega)) (by rw [pk_sub (by omega)]; exact hp)
theorem rx_xApp30 {post : SX → Prop} {x1 x2 x3 : Int32} (hL : L ≤ 32) (hb : b < L) (hn : n < L)
    (hp : post (nI R, nI L, nI S, nI b, nI (n + 1), nI p, cr, va, ss, sn, su, ur, ue, un, upd xr (rx_g L b n) x1, upd xo (rx_g L b n) x2, upd xn (rx_g L b n) x3)) :
    wX_appendToLog_30 post x1 x2 x3 (nI R) (nI L) (nI S) (nI b) (nI n) (nI p) cr va ss sn su ur ue un xr xo xn := by
  refine rx_xCell hL hb (by omega) ?_
  have hc := rx_g_lt hb (show n ≤ L by omega)
  have hv : vp_in (nI (rx_g L b n)) 32 := vp_in_nI (by omega) (by omega)
  have ec : (nI (rx_g L b n)).toNatClampNeg = rx_g L b n := nI_clamp (by omega)
  exact ⟨hv, nm_r (e' := upd xr (rx_g L b n) x1) (by rw [ec]) ⟨hv, nm_r (e' := upd xo (rx_g L b n) x2) (by rw [ec]) ⟨hv, nm_r (e' := upd xn (rx_g L b n) x3) (by rw [ec]) (nm_r (nI_1 n) hp)⟩⟩⟩
theorem rx_xApp {post : SX → Prop} {x1 x2 x3 : Int32} (hL8 : 8 ≤ L) (hL : L ≤ 32) (hb : b < L) (hn : n ≤ L)
    (hp : post (nI R, nI L, nI S, nI (rx_bb L b n), nI (rx_nn L n + 1), nI p, cr, va, ss, sn, su, ur, ue, un, upd xr (rx_g L (rx_bb L b n) (rx_nn L n)) x1, upd xo (rx_g L (rx_bb L b n) (rx_nn L n)) x2, upd xn (rx_g L (rx_bb L b n) (rx_nn L n)) x3)) :
    wpX_appendToLog post (nI R, nI L, nI S, nI b, nI n, nI p, cr, va, ss, sn, su, ur, ue, un, xr, xo, xn) x1 x2 x3 := by
  by_cases h : n < L
  · rw [show rx_bb L b n = b from if_pos h, show rx_nn L n = n from if_pos h] at hp
    exact br_f (fun e => by have := (nI_eq (by omega) (by omega)).mp e; omega) (rx_xApp30 hL hb h hp)
  · have e : n = L := by omega
    subst e
    rw [show rx_bb n b n = rx_g n b 1 from if_neg h, show rx_nn n n = n - 1 from if_neg h] at hp
    exact br_t rfl (rx_xCell (i := 1) hL hb (by omega) (nm_r (e' := nI (n - 1)) (pk_sub (b := 1) (by omega)) (rx_xApp30 (L := n) (b := rx_g n b 1) (n := n - 1) hL (rx_g_lt hb (by omega)) (by omega) hp)))
/-! .. and Y's row -/
theorem rx_yApp94 {post : SY → Prop} {x1 x2 x3 : Int32} (hn : n < 32) (hp : post (nI R, nI L, nI S, nI (n + 1), pk, pd, cr, va, upd yr n x1, upd yo n x2, upd yn n x3, ss, su, sn, ur, ue, un)) :
    wY_append_94 post x1 x2 x3 (nI R) (nI L) (nI S) (nI n) pk pd cr va yr yo yn ss su sn ur ue un := by
  have hv : vp_in (nI n) 32 := vp_in_nI hn (by omega)
  have ec : (nI n).toNatClampNeg = n := nI_clamp (by omega)
  exact br_f (nI_pos (by omega)) (br_f (nI_ge (b := 32) hn (by decide)) ⟨hv, nm_r (e' := upd yr n x1) (by rw [ec]) ⟨hv, nm_r (e' := upd yo n x2) (by rw [ec]) ⟨hv, nm_r (e' := upd yn n x3) (by rw [ec]) (nm_r (nI_1 n) hp)⟩⟩⟩)
theorem rx_she (a : Nat → Int32) {m : Nat} (hm : m < 100) : upd (rx_sh a (m + 1)) (nI (m + 1) - 1).toNatClampNeg (rx_sh a (m + 1) (nI (m + 1)).toNatClampNeg) = rx_sh a (m + 1 + 1) := by
  rw [nI_pred, nI_clamp (by omega), nI_clamp (by omega), rx_shi, rx_shs]
theorem rx_yap14 {post : SY → Prop} {x1 x2 x3 : Int32} (hn : n ≤ 32)
    (hp : post (nI R, nI L, nI S, nI n, pk, pd, cr, va, upd (rx_sh yr n) (n - 1) x1, upd (rx_sh yo n) (n - 1) x2, upd (rx_sh yn n) (n - 1) x3, ss, su, sn, ur, ue, un)) : ∀ d m, m + 1 + d = n →
    wY_append_14 post x1 x2 x3 (nI R) (nI L) (nI S) (nI n) pk pd cr (d + 1) (nI (m + 1)) va (rx_sh yr (m + 1)) (rx_sh yo (m + 1)) (rx_sh yn (m + 1)) ss su sn ur ue un := by
  intro d
  induction d with
  | zero =>
    intro m hm
    obtain rfl : n = m + 1 := by omega
    exact br_t (nI_le (by omega) (by omega)) (nm_r (nI_pred m) (rx_yApp94 (n := m) (by omega) hp))
  | succ d ih =>
    intro m hm
    have hv : vp_in (nI (m + 1)) 32 := vp_in_nI (by omega) (by omega)
    have hw : vp_in (nI (m + 1) - 1) 32 := by rw [nI_pred]; exact vp_in_nI (by omega) (by omega)
    exact br_f (nI_ge (by omega) (by omega)) (br_f (nI_ge (b := 32) (by omega) (by decide)) ⟨hv, hw, nm_r (rx_she yr (by omega)) ⟨hv, hw, nm_r (rx_she yo (by omega)) ⟨hv, hw, nm_r (rx_she yn (by omega)) (nm_r (nI_1 (m + 1)) (ih (m + 1) (by omega)))⟩⟩⟩)
theorem rx_yApp {post : SY → Prop} {x1 x2 x3 : Int32} (hL8 : 8 ≤ L) (hL : L ≤ 32) (hn : n ≤ L)
    (hp : post (nI R, nI L, nI S, nI (rx_nn L n + 1), pk, pd, cr, va, rx_ap yr L n x1, rx_ap yo L n x2, rx_ap yn L n x3, ss, su, sn, ur, ue, un)) :
    wpY_append post (nI R, nI L, nI S, nI n, pk, pd, cr, va, yr, yo, yn, ss, su, sn, ur, ue, un) x1 x2 x3 := by
  by_cases h : n < L
  · have e1 : rx_nn L n = n := if_pos h
    have ea : ∀ (y : Nat → Int32) (r : Int32), rx_ap y L n r = upd y n r := by
      intro y r
      unfold rx_ap
      rw [if_pos h, e1]
    rw [e1, ea, ea, ea] at hp
    exact br_t (nI_lt h (by omega)) (rx_yApp94 (by omega) hp)
  · have e : n = L := by omega
    subst e
    have e1 : rx_nn n n = n - 1 := if_neg h
    have ea : ∀ (y : Nat → Int32) (r : Int32), rx_ap y n n r = upd (rx_sh y n) (n - 1) r := by
      intro y r
      unfold rx_ap
      rw [if_neg h, e1]
    rw [e1, ea, ea, ea, show n - 1 + 1 = n by omega] at hp
    have t := rx_yap14 (by omega) hp (n - 1) 0 (by omega)
    rw [show rx_sh yr (0 + 1) = yr from rx_sh1 yr, show rx_sh yo (0 + 1) = yo from rx_sh1 yo, show rx_sh yn (0 + 1) = yn from rx_sh1 yn] at t
    exact br_f (nI_nlt (by omega) (by omega)) ⟨_, t⟩
/-! the commit step: k entries, k values -/
def rx_fr (ur : Nat → Int32) (s : Nat) : Nat → Int32 := fun i => ur (s * 4 + i)
def rx_fo (va ur : Nat → Int32) (s : Nat) : Nat → Int32 := fun i => va (ur (s * 4 + i)).toNatClampNeg
theorem rx_xcm {post : SX → Prop} {s k : Nat} (hs : s < 4) (hk : k ≤ 4) (hR : R ≤ 16) (hL8 : 8 ≤ L) (hL : L ≤ 32) (hb : b < L) (hn : n ≤ L) (hf : rx_RF R ur s k)
    (hp : post (nI R, nI L, nI S, nI (rx_cb L b n k), nI (rx_cn L n k), nI p, cr, rx_vv ur un va s k, upd ss s 3, sn, su, ur, ue, un, rx_cx (rx_fr ur s) L b n xr k, rx_cx (rx_fo va ur s) L b n xo k, rx_cx (rx_fr un s) L b n xn k)) : ∀ d i, i + d = k →
    wX_takeCommitStep_14 post (nI s) (nI (s * 4)) (nI k) (d + 1) (nI i) (nI R) (nI L) (nI S) (nI (rx_cb L b n i)) (nI (rx_cn L n i)) (nI p) cr (rx_vv ur un va s i) ss sn su ur ue un (rx_cx (rx_fr ur s) L b n xr i) (rx_cx (rx_fo va ur s) L b n xo i) (rx_cx (rx_fr un s) L b n xn i) := by
  have hv : vp_in (nI s) 4 := vp_in_nI hs (by omega)
  have es : (nI s).toNatClampNeg = s := nI_clamp (by omega)
  intro d
  induction d with
  | zero =>
    intro i hi
    obtain rfl : i = k := by omega
    exact br_t (nI_le (by omega) (by omega)) ⟨hv, nm_r (e' := upd ss s 3) (by rw [es]) hp⟩
  | succ d ih =>
    intro i hi
    obtain ⟨r, hr, er⟩ := hf.1 i (by omega)
    have ec : (nI (s * 4) + nI i).toNatClampNeg = s * 4 + i := rx_ci hs (by omega)
    have hw : vp_in (nI (s * 4) + nI i) 16 := by rw [nI_add]; exact vp_in_nI (by omega) (by omega)
    have hvr : vp_in (ur (s * 4 + i)) 16 := by rw [er]; exact vp_in_nI (by omega) (by omega)
    have eo := rx_vv_o (un := un) (va := va) hR hf i i (Nat.le_refl i) (by omega)
    refine br_f (nI_ge (by omega) (by omega)) ⟨hw, nm_r (e' := ur (s * 4 + i)) (by rw [ec]) ⟨hw, nm_r (e' := un (s * 4 + i)) (by rw [ec]) ⟨hvr, rx_xApp hL8 hL (rx_cb_lt (by omega) hb i) (rx_cn_le (by omega) hn i) ⟨hvr, nm_e (nm_r (nI_1 i) ?_)⟩⟩⟩⟩
    rw [eo]
    exact ih (i + 1) (by omega)
theorem rx_xCommit {post : SX → Prop} {s k : Nat} (hs : s < 4) (hk : k ≤ 4) (hR : R ≤ 16) (hL8 : 8 ≤ L) (hL : L ≤ 32) (hb : b < L) (hn : n ≤ L) (hf : rx_RF R ur s k) (ek : su s = nI k)
    (hp : post (nI R, nI L, nI S, nI (rx_cb L b n k), nI (rx_cn L n k), nI p, cr, rx_vv ur un va s k, upd ss s 3, sn, su, ur, ue, un, rx_cx (rx_fr ur s) L b n xr k, rx_cx (rx_fo va ur s) L b n xo k, rx_cx (rx_fr un s) L b n xn k)) :
    wpX_takeCommitStep post (nI R, nI L, nI S, nI b, nI n, nI p, cr, va, ss, sn, su, ur, ue, un, xr, xo, xn) (nI s) :=
  nm_r rx_m4 ⟨vp_in_nI hs (by omega), nm_r (e' := nI k) (by rw [nI_clamp (by omega)]; exact ek) ⟨k + 1, rx_xcm hs hk hR hL8 hL hb hn hf hp k 0 (by omega)⟩⟩
theorem rx_ycm2 {post : SY → Prop} {x3 : Int32} {s k : Nat} (hs : s < 4) (hk : k ≤ 4) (hR : R ≤ 16) (hf : rx_RF R ur s k)
    (hp : post (nI R, nI L, nI S, nI n, pk, pd, cr, rx_vv ur un va s k, yr, yo, yn, upd ss s 3, su, upd sn s x3, ur, ue, un)) : ∀ d i, i + d = k →
    wY_step_173 post (nI s) (nI k) x3 (nI R) (nI L) (nI S) (nI n) pk pd cr (d + 1) (nI i) (rx_vv ur un va s i) yr yo yn ss su sn ur ue un := by
  have hv : vp_in (nI s) 4 := vp_in_nI hs (by omega)
  have es : (nI s).toNatClampNeg = s := nI_clamp (by omega)
  intro d
  induction d with
  | zero =>
    intro i hi
    obtain rfl : i = k := by omega
    exact br_t (nI_le (by omega) (by omega)) ⟨hv, nm_r (e' := upd ss s 3) (by rw [es]) ⟨hv, nm_r (e' := upd sn s x3) (by rw [es]) hp⟩⟩
  | succ d ih =>
    intro i hi
    obtain ⟨r, hr, er⟩ := hf.1 i (by omega)
    have ec : (nI (s * 4 + i)).toNatClampNeg = s * 4 + i := nI_clamp (by omega)
    have hw : vp_in (nI (s * 4 + i)) 16 := vp_in_nI (by omega) (by omega)
    have hvr : vp_in (ur (nI (s * 4 + i)).toNatClampNeg) 16 := by rw [ec, er]; exact vp_in_nI (by omega) (by omega)
    exact br_f (nI_ge (by omega) (by omega)) (br_f (nI_ge (b := 4) (by omega) (by decide)) (nm_r rx_i4 ⟨hw, hw, hvr, nm_r (e' := rx_vv ur un va s (i + 1)) (by rw [ec]; rfl) (nm_r (nI_1 i) (ih (i + 1) (by omega)))⟩))
theorem rx_ycm1 {post : SY → Prop} {x3 : Int32} {s k : Nat} (hs : s < 4) (hk : k ≤ 4) (hR : R ≤ 16) (hL8 : 8 ≤ L) (hL : L ≤ 32) (hn : n ≤ L) (hf : rx_RF R ur s k)
    (hp : post (nI R, nI L, nI S, nI (rx_cn L n k), pk, pd, cr, rx_vv ur un va s k, rx_ca (rx_fr ur s) L n yr k, rx_ca (rx_fo va ur s) L n yo k, rx_ca (rx_fr un s) L n yn k, upd ss s 3, su, upd sn s x3, ur, ue, un)) : ∀ d i, i + d = k →
    wY_step_114 post (nI s) (nI k) x3 (d + 1) (nI i) (nI R) (nI L) (nI S) (nI (rx_cn L n i)) pk pd cr va (rx_ca (rx_fr ur s) L n yr i) (rx_ca (rx_fo va ur s) L n yo i) (rx_ca (rx_fr un s) L n yn i) ss su sn ur ue un := by
  intro d
  induction d with
  | zero =>
    intro i hi
    obtain rfl : i = k := by omega
    exact br_t (nI_le (by omega) (by omega)) ⟨i + 1, rx_ycm2 hs hk hR hf hp i 0 (by omega)⟩
  | succ d ih =>
    intro i hi
    obtain ⟨r, hr, er⟩ := hf.1 i (by omega)
    have ec : (nI (s * 4 + i)).toNatClampNeg = s * 4 + i := nI_clamp (by omega)
    have hw : vp_in (nI (s * 4 + i)) 16 := vp_in_nI (by omega) (by omega)
    have hvr : vp_in (ur (nI (s * 4 + i)).toNatClampNeg) 16 := by rw [ec, er]; exact vp_in_nI (by omega) (by omega)
    refine br_f (nI_ge (by omega) (by omega)) (br_f (nI_ge (b := 4) (by omega) (by decide)) (nm_r rx_i4 ⟨hw, hw, hvr, hw, rx_yApp hL8 hL (rx_cn_le (by omega) hn i) (nm_r (nI_1 i) ?_)⟩))
    rw [ec]
    exact ih (i + 1) (by omega)
end RX5
end
section
section RX6
variable {R L S b n p : Nat} {pk pd cr : Int32} {va ss sn su ur ue un xr xo xn yr yo yn : Nat → Int32}
theorem rx_l2 (k : Nat) : (2 : Int32) * nI k + 2 = nI (2 * k + 2) := by
  rw [show (2 : Int32) * nI k = nI (2 * k) from pk_mul 2 k]
  exact nI_add (2 * k) 2
theorem rx_l1 (k : Nat) : (2 : Int32) * nI k + 1 = nI (2 * k + 1) := by
  rw [show (2 : Int32) * nI k = nI (2 * k) from pk_mul 2 k]
  exact nI_add (2 * k) 1
theorem rx_ne {a c : Nat} (ha : a < 100) (hc : c < 100) (h : a ≠ c) : ¬ nI a = nI c := fun e => h ((nI_eq (by omega) (by omega)).mp e)
theorem rx_ne1 {a c : Nat} (ha : a < 100) (hc : c < 99) (h : a ≠ c + 1) : ¬ nI a = nI c + 1 := by rw [nI_1]; exact rx_ne ha (by omega) h
/-! one step: X -/
theorem rx_xStepL {post : SX → Prop} {s t k : Nat} (hs : s < 4) (hS : S ≤ 4) (hR : R ≤ 16) (hI : ∀ s, s < 4 → rx_SI R ss sn su ur s) (et : sn s = nI t) (ek : su s = nI k) (hk : k ≤ 4) (htk : t < k) (hf : rx_RF R ur s k)
    (h5 : rx_Ot S ss sn su ur (ur (s * 4 + t)) s → post (nI R, nI L, nI S, nI b, nI n, nI p, cr, va, upd ss s 5, sn, su, ur, ue, un, xr, xo, xn))
    (h6 : ¬ rx_Ot S ss sn su ur (ur (s * 4 + t)) s → ¬ ue (s * 4 + t) = -1 → ¬ ue (s * 4 + t) = va (ur (s * 4 + t)).toNatClampNeg → post (nI R, nI L, nI S, nI b, nI n, nI p, cr, va, upd ss s 6, sn, su, ur, ue, un, xr, xo, xn))
    (h0 : ¬ rx_Ot S ss sn su ur (ur (s * 4 + t)) s → (ue (s * 4 + t) = -1 ∨ ue (s * 4 + t) = va (ur (s * 4 + t)).toNatClampNeg) → post (nI R, nI L, nI S, nI b, nI n, nI p, cr, va, ss, upd sn s (nI (t + 1)), su, ur, ue, un, xr, xo, xn)) :
    wpX_takeStep post (nI R, nI L, nI S, nI b, nI n, nI p, cr, va, ss, sn, su, ur, ue, un, xr, xo, xn) (nI s) := by
  have hv : vp_in (nI s) 4 := vp_in_nI hs (by omega)
  have es : (nI s).toNatClampNeg = s := nI_clamp (by omega)
  have e2 : su (nI s).toNatClampNeg = nI k := by rw [es]; exact ek
  have e3 : sn (nI s).toNatClampNeg + 1 = nI (t + 1) := by rw [es, et, nI_1]
  have e4 : nI s * 4 + sn (nI s).toNatClampNeg = nI (s * 4 + t) := by rw [es, et, rx_i4]
  have e5 : upd sn (nI s).toNatClampNeg (sn (nI s).toNatClampNeg + 1) = upd sn s (nI (t + 1)) := by rw [e3, es]
  obtain ⟨r, hr, er⟩ := hf.1 t htk
  have ec : (nI (s * 4 + t)).toNatClampNeg = s * 4 + t := nI_clamp (by omega)
  have hw : vp_in (nI (s * 4 + t)) 16 := vp_in_nI (by omega) (by omega)
  have hvr : vp_in (ur (s * 4 + t)) 16 := by rw [er]; exact vp_in_nI (by omega) (by omega)
  refine ⟨hv, nm_r e2 ⟨hv, nm_r e3 (br_f (nI_nlt (by omega) (by omega)) ?_)⟩⟩
  refine ⟨hv, nm_r e4 ⟨hw, nm_r (e' := ur (s * 4 + t)) (by rw [ec]) ⟨hw, nm_r (e' := ue (s * 4 + t)) (by rw [ec]) (rx_xOther hS hs hI (fun ho => ?_) (fun ho => ?_))⟩⟩⟩
  · exact br_f (by decide) ⟨hv, nm_r (e' := upd ss s 5) (by rw [es]) (h5 ho)⟩
  · refine br_t rfl ?_
    by_cases a : ue (s * 4 + t) = -1
    · exact br_t a ⟨hv, hv, nm_r e5 (h0 ho (Or.inl a))⟩
    · by_cases c : ue (s * 4 + t) = va (ur (s * 4 + t)).toNatClampNeg
      · exact br_f a ⟨hvr, br_t c ⟨hv, hv, nm_r e5 (h0 ho (Or.inr c))⟩⟩
      · exact br_f a ⟨hvr, br_f c ⟨hv, nm_r (e' := upd ss s 6) (by rw [es]) (h6 ho a c)⟩⟩
theorem rx_xStepC {post : SX → Prop} {s k : Nat} (hs : s < 4) (hk : k ≤ 4) (hR : R ≤ 16) (hL8 : 8 ≤ L) (hL : L ≤ 32) (hb : b < L) (hn : n ≤ L) (hf : rx_RF R ur s k) (et : sn s = nI k) (ek : su s = nI k)
    (hp : post (nI R, nI L, nI S, nI (rx_cb L b n k), nI (rx_cn L n k), nI p, cr, rx_vv ur un va s k, upd ss s 3, upd sn s (nI (k + 1)), su, ur, ue, un, rx_cx (rx_fr ur s) L b n xr k, rx_cx (rx_fo va ur s) L b n xo k, rx_cx (rx_fr un s) L b n xn k)) :
    wpX_takeStep post (nI R, nI L, nI S, nI b, nI n, nI p, cr, va, ss, sn, su, ur, ue, un, xr, xo, xn) (nI s) := by
  have hv : vp_in (nI s) 4 := vp_in_nI hs (by omega)
  have es : (nI s).toNatClampNeg = s := nI_clamp (by omega)
  have e2 : su (nI s).toNatClampNeg = nI k := by rw [es]; exact ek
  have e3 : sn (nI s).toNatClampNeg + 1 = nI (k + 1) := by rw [es, et, nI_1]
  exact ⟨hv, nm_r e2 ⟨hv, nm_r e3 (br_t (nI_lt (by omega) (by omega)) (br_t (nI_1 k).symm (rx_xCommit hs hk hR hL8 hL hb hn hf ek ⟨hv, nm_r (e' := upd sn s (nI (k + 1))) (by rw [es]) hp⟩)))⟩⟩
theorem rx_xStepA {post : SX → Prop} {s t k : Nat} (hs : s < 4) (hk : k ≤ 4) (et : sn s = nI t) (ek : su s = nI k) (hkt : k < t) (ht : t ≤ 2 * k)
    (hp : post (nI R, nI L, nI S, nI b, nI n, nI p, cr, va, ss, upd sn s (nI (t + 1)), su, ur, ue, un, xr, xo, xn)) : wpX_takeStep post (nI R, nI L, nI S, nI b, nI n, nI p, cr, va, ss, sn, su, ur, ue, un, xr, xo, xn) (nI s) := by
  have hv : vp_in (nI s) 4 := vp_in_nI hs (by omega)
  have es : (nI s).toNatClampNeg = s := nI_clamp (by omega)
  have e2 : su (nI s).toNatClampNeg = nI k := by rw [es]; exact ek
  have e3 : sn (nI s).toNatClampNeg + 1 = nI (t + 1) := by rw [es, et, nI_1]
  exact ⟨hv, nm_r e2 ⟨hv, nm_r e3 (br_t (nI_lt (by omega) (by omega)) (br_f (rx_ne1 (by omega) (by omega) (by omega)) (br_f (by rw [rx_l2]; exact rx_ne (by omega) (by omega) (by omega)) ⟨hv, nm_r (e' := upd sn s (nI (t + 1))) (by rw [es]) hp⟩)))⟩⟩
theorem rx_xStepD {post : SX → Prop} {s k : Nat} (hs : s < 4) (hk : k ≤ 4) (et : sn s = nI (2 * k + 1)) (ek : su s = nI k)
    (hp : post (nI R, nI L, nI S, nI b, nI n, nI p, cr, va, upd ss s 4, upd sn s (nI (2 * k + 2)), su, ur, ue, un, xr, xo, xn)) : wpX_takeStep post (nI R, nI L, nI S, nI b, nI n, nI p, cr, va, ss, sn, su, ur, ue, un, xr, xo, xn) (nI s) := by
  have hv : vp_in (nI s) 4 := vp_in_nI hs (by omega)
  have es : (nI s).toNatClampNeg = s := nI_clamp (by omega)
  have e2 : su (nI s).toNatClampNeg = nI k := by rw [es]; exact ek
  have e3 : sn (nI s).toNatClampNeg + 1 = nI (2 * k + 2) := by rw [es, et, nI_1]
  exact ⟨hv, nm_r e2 ⟨hv, nm_r e3 (br_t (nI_lt (by omega) (by omega)) (br_f (rx_ne1 (by omega) (by omega) (by omega)) (br_t (rx_l2 k).symm ⟨hv, nm_r (e' := upd ss s 4) (by rw [es]) ⟨hv, nm_r (e' := upd sn s (nI (2 * k + 2))) (by rw [es]) hp⟩⟩)))⟩⟩
/-! one step: Y -/
theorem rx_yStepL {post : SY → Prop} {s t k : Nat} (hs : s < 4) (hS : S ≤ 4) (hR : R ≤ 16) (hI : ∀ s, s < 4 → rx_SI R ss sn su ur s) (et : sn s = nI t) (ek : su s = nI k) (hk : k ≤ 4) (htk : t < k) (hf : rx_RF R ur s k)
    (h5 : rx_Ot S ss sn su ur (ur (s * 4 + t)) s → post (nI R, nI L, nI S, nI n, pk, pd, cr, va, yr, yo, yn, upd ss s 5, su, sn, ur, ue, un))
    (h6 : ¬ rx_Ot S ss sn su ur (ur (s * 4 + t)) s → ¬ ue (s * 4 + t) = -1 → ¬ ue (s * 4 + t) = va (ur (s * 4 + t)).toNatClampNeg → post (nI R, nI L, nI S, nI n, pk, pd, cr, va, yr, yo, yn, upd ss s 6, su, sn, ur, ue, un))
    (h0 : ¬ rx_Ot S ss sn su ur (ur (s * 4 + t)) s → (ue (s * 4 + t) = -1 ∨ ue (s * 4 + t) = va (ur (s * 4 + t)).toNatClampNeg) → post (nI R, nI L, nI S, nI n, pk, pd, cr, va, yr, yo, yn, ss, su, upd sn s (nI (t + 1)), ur, ue, un)) :
    wpY_step post (nI R, nI L, nI S, nI n, pk, pd, cr, va, yr, yo, yn, ss, su, sn, ur, ue, un) (nI s) := by
  have hv : vp_in (nI s) 4 := vp_in_nI hs (by omega)
  have es : (nI s).toNatClampNeg = s := nI_clamp (by omega)
  have e2 : su (nI s).toNatClampNeg = nI k := by rw [es]; exact ek
  have e3 : sn (nI s).toNatClampNeg + 1 = nI (t + 1) := by rw [es, et, nI_1]
  have e4 : nI s * 4 + nI (t + 1) - 1 = nI (s * 4 + t) := by rw [rx_i4]; exact nI_pred (s * 4 + t)
  have e5 : upd sn (nI s).toNatClampNeg (nI (t + 1)) = upd sn s (nI (t + 1)) := by rw [es]
  obtain ⟨r, hr, er⟩ := hf.1 t htk
  have ec : (nI (s * 4 + t)).toNatClampNeg = s * 4 + t := nI_clamp (by omega)
  have hw : vp_in (nI (s * 4 + t)) 16 := vp_in_nI (by omega) (by omega)
  have hvr : vp_in (ur (s * 4 + t)) 16 := by rw [er]; exact vp_in_nI (by omega) (by omega)
  refine ⟨hv, nm_r e2 ⟨hv, nm_r e3 (br_f (nI_nlt (by omega) (by omega)) ?_)⟩⟩
  refine nm_r e4 ⟨hw, nm_r (e' := ur (s * 4 + t)) (by rw [ec]) (rx_yOther hS hs hI (fun ho => ?_) (fun ho => ?_))⟩
  · exact br_f (by decide) ⟨hv, nm_r (e' := upd ss s 5) (by rw [es]) (h5 ho)⟩
  · refine br_t rfl ⟨hw, ?_⟩
    by_cases a : ue (s * 4 + t) = -1
    · exact br_t (by rw [ec]; exact a) ⟨hv, nm_r e5 (h0 ho (Or.inl a))⟩
    · by_cases c : ue (s * 4 + t) = va (ur (s * 4 + t)).toNatClampNeg
      · exact br_f (by rw [ec]; exact a) ⟨hw, hvr, br_t (by rw [ec]; exact c) ⟨hv, nm_r e5 (h0 ho (Or.inr c))⟩⟩
      · exact br_f (by rw [ec]; exact a) ⟨hw, hvr, br_f (by rw [ec]; exact c) ⟨hv, nm_r (e' := upd ss s 6) (by rw [es]) (h6 ho a c)⟩⟩
theorem rx_yStepC {post : SY → Prop} {s k : Nat} (hs : s < 4) (hk : k ≤ 4) (hR : R ≤ 16) (hL8 : 8 ≤ L) (hL : L ≤ 32) (hn : n ≤ L) (hf : rx_RF R ur s k) (et : sn s = nI k) (ek : su s = nI k)
    (hp : post (nI R, nI L, nI S, nI (rx_cn L n k), pk, pd, cr, rx_vv ur un va s k, rx_ca (rx_fr ur s) L n yr k, rx_ca (rx_fo va ur s) L n yo k, rx_ca (rx_fr un s) L n yn k, upd ss s 3, su, upd sn s (nI (k + 1)), ur, ue, un)) :
    wpY_step post (nI R, nI L, nI S, nI n, pk, pd, cr, va, yr, yo, yn, ss, su, sn, ur, ue, un) (nI s) := by
  have hv : vp_in (nI s) 4 := vp_in_nI hs (by omega)
  have es : (nI s).toNatClampNeg = s := nI_clamp (by omega)
  have e2 : su (nI s).toNatClampNeg = nI k := by rw [es]; exact ek
  have e3 : sn (nI s).toNatClampNeg + 1 = nI (k + 1) := by rw [es, et, nI_1]
  exact ⟨hv, nm_r e2 ⟨hv, nm_r e3 (br_t (nI_lt (by omega) (by omega)) (br_t (nI_1 k).symm ⟨k + 1, rx_ycm1 hs hk hR hL8 hL hn hf hp k 0 (by omega)⟩))⟩⟩
theorem rx_yStepA {post : SY → Prop} {s t k : Nat} (hs : s < 4) (hk : k ≤ 4) (et : sn s = nI t) (ek : su s = nI k) (hkt : k < t) (ht : t ≤ 2 * k)
    (hp : post (nI R, nI L, nI S, nI n, pk, pd, cr, va, yr, yo, yn, ss, su, upd sn s (nI (t + 1)), ur, ue, un)) : wpY_step post (nI R, nI L, nI S, nI n, pk, pd, cr, va, yr, yo, yn, ss, su, sn, ur, ue, un) (nI s) := by
  have hv : vp_in (nI s) 4 := vp_in_nI hs (by omega)
  have es : (nI s).toNatClampNeg = s := nI_clamp (by omega)
  have e2 : su (nI s).toNatClampNeg = nI k := by rw [es]; exact ek
  have e3 : sn (nI s).toNatClampNeg + 1 = nI (t + 1) := by rw [es, et, nI_1]
  exact ⟨hv, nm_r e2 ⟨hv, nm_r e3 (br_t (nI_lt (by omega) (by omega)) (br_f (rx_ne1 (by omega) (by omega) (by omega)) (br_f (by rw [rx_l1]; exact nI_nlt (by omega) (by omega)) ⟨hv, nm_r (e' := upd sn s (nI (t + 1))) (by rw [es]) hp⟩)))⟩⟩
theorem rx_yStepD {post : SY → Prop} {s k : Nat} (hs : s < 4) (hk : k ≤ 4) (et : sn s = nI (2 * k + 1)) (ek : su s = nI k)
    (hp : post (nI R, nI L, nI S, nI n, pk, pd, cr, va, yr, yo, yn, upd ss s 4, su, upd sn s (nI (2 * k + 2)), ur, ue, un)) : wpY_step post (nI R, nI L, nI S, nI n, pk, pd, cr, va, yr, yo, yn, ss, su, sn, ur, ue, un) (nI s) := by
  have hv : vp_in (nI s) 4 := vp_in_nI hs (by omega)
  have es : (nI s).toNatClampNeg = s := nI_clamp (by omega)
  have e2 : su (nI s).toNatClampNeg = nI k := by rw [es]; exact ek
  have e3 : sn (nI s).toNatClampNeg + 1 = nI (2 * k + 2) := by rw [es, et, nI_1]
  exact ⟨hv, nm_r e2 ⟨hv, nm_r e3 (br_t (nI_lt (by omega) (by omega)) (br_f (rx_ne1 (by omega) (by omega) (by omega)) (br_t (by rw [rx_l1]; exact nI_lt (by omega) (by omega)) ⟨hv, nm_r (e' := upd ss s 4) (by rw [es]) ⟨hv, nm_r (e' := upd sn s (nI (2 * k + 2))) (by rw [es, rx_l2]) hp⟩⟩)))⟩⟩
end RX6
end
section
section RX7
variable {R L S b n p : Nat} {pk pd cr : Int32} {va ss sn su ur ue un xr xo xn yr yo yn : Nat → Int32}
theorem rx_d0 : rx_D9 0 := by unfold rx_D9; decide
theorem rx_d1 : rx_D9 1 := by unfold rx_D9; decide
theorem rx_d2 : rx_D9 2 := by unfold rx_D9; decide
theorem rx_d3 : rx_D9 3 := by unfold rx_D9; decide
theorem rx_d4 : rx_D9 4 := by unfold rx_D9; decide
theorem rx_d5 : rx_D9 5 := by unfold rx_D9; decide
theorem rx_d6 : rx_D9 6 := by unfold rx_D9; decide
theorem rx_d7 : rx_D9 7 := by unfold rx_D9; decide
theorem rx_d8 : rx_D9 8 := by unfold rx_D9; decide
theorem rx_SI_mk {s t k : Nat} {x : Int32} (ex : ss s = x) (et : sn s = nI t) (ek : su s = nI k) (hk : k ≤ 4) (ht : t ≤ 2 * k + 2) (hD : rx_D9 x) (h2 : x = 2 → t ≤ k) (h3 : x = 3 → k + 1 ≤ t ∧ t ≤ 2 * k + 1) (hf : rx_RF R ur s k) : rx_SI R ss sn su ur s :=
  ⟨t, k, et, ek, hk, ht, by rw [ex]; exact hD, by rw [ex]; exact h2, by rw [ex]; exact h3, hf⟩
theorem rx_K_up {ss' sn' su' ur' : Nat → Int32} (K : rx_K R L S b n p pk pd ss sn su ur xr xo xn yr yo yn) (s0 : Nat) (h0 : rx_SI R ss' sn' su' ur' s0)
    (ho : ∀ s, s ≠ s0 → ss' s = ss s ∧ sn' s = sn s ∧ su' s = su s ∧ ∀ i, i < 4 → ur' (s * 4 + i) = ur (s * 4 + i)) :
    rx_K R L S b n p pk pd ss' sn' su' ur' xr xo xn yr yo yn := by
  obtain ⟨k1, k2, k3, k4, k5, k6, k7, k8, k9, k10, k11, k12, k13⟩ := K
  exact ⟨k1, k2, k3, k4, k5, k6, k7, k8, k9, rx_SI_up k10 s0 h0 ho, k11, k12, k13⟩
theorem rx_K_log {b' n' : Nat} {xr' xo' xn' yr' yo' yn' : Nat → Int32} (K : rx_K R L S b n p pk pd ss sn su ur xr xo xn yr yo yn) (hb : b' < L) (hn : n' ≤ L)
    (h1 : rx_LG L b' n' xr' yr') (h2 : rx_LG L b' n' xo' yo') (h3 : rx_LG L b' n' xn' yn') :
    rx_K R L S b' n' p pk pd ss sn su ur xr' xo' xn' yr' yo' yn' := by
  obtain ⟨k1, k2, k3, k4, k5, k6, k7, k8, k9, k10, k11, k12, k13⟩ := K
  exact ⟨k1, k2, k3, k4, k5, k6, hb, hn, k9, k10, h1, h2, h3⟩
theorem rx_K_p {p' : Nat} {pk' pd' : Int32} (K : rx_K R L S b n p pk pd ss sn su ur xr xo xn yr yo yn) (h : rx_PK p' pk' pd') :
    rx_K R L S b n p' pk' pd' ss sn su ur xr xo xn yr yo yn := by
  obtain ⟨k1, k2, k3, k4, k5, k6, k7, k8, k9, k10, k11, k12, k13⟩ := K
  exact ⟨k1, k2, k3, k4, k5, k6, k7, k8, h, k10, k11, k12, k13⟩
/-- what a slot of k updates keeps of its steps -/
def rx_Tk (x : Int32) (t k : Nat) : Prop := t ≤ 2 * k + 2 ∧ (x = 2 → t ≤ k) ∧ (x = 3 → k + 1 ≤ t ∧ t ≤ 2 * k + 1)
/-- one step of a running slot: both sides take it, alike -/
theorem rx_step {s t k : Nat} (hs : s < S) (K : rx_K R L S b n p pk pd ss sn su ur xr xo xn yr yo yn) (hr : ss s = 2 ∨ ss s = 3) (et : sn s = nI t) (ek : su s = nI k) (hk : k ≤ 4) (hT : rx_Tk (ss s) t k) (hf : rx_RF R ur s k) :
    ∃ (b' n' : Nat) (va' ss' sn' xr' xo' xn' yr' yo' yn' : Nat → Int32) (t' : Nat),
      rx_K R L S b' n' p pk pd ss' sn' su ur xr' xo' xn' yr' yo' yn' ∧ sn' s = nI t' ∧ rx_Tk (ss' s) t' k ∧ ((ss' s = 2 ∨ ss' s = 3) → t' = t + 1) ∧
      (∀ post : SX → Prop, post (nI R, nI L, nI S, nI b', nI n', nI p, cr, va', ss', sn', su, ur, ue, un, xr', xo', xn') → wpX_takeStep post (nI R, nI L, nI S, nI b, nI n, nI p, cr, va, ss, sn, su, ur, ue, un, xr, xo, xn) (nI s)) ∧
      (∀ post : SY → Prop, post (nI R, nI L, nI S, nI n', pk, pd, cr, va', yr', yo', yn', ss', su, sn', ur, ue, un) → wpY_step post (nI R, nI L, nI S, nI n, pk, pd, cr, va, yr, yo, yn, ss, su, sn, ur, ue, un) (nI s)) := by
  have K0 := K
  obtain ⟨k1, k2, k3, k4, k5, k6, k7, k8, k9, k10, k11, k12, k13⟩ := K0
  have hs4 : s < 4 := by omega
  obtain ⟨T1, T2, T3⟩ := hT
  have up : ∀ (ss' sn' : Nat → Int32) (x : Int32) (t' : Nat), ss' s = x → sn' s = nI t' → rx_D9 x → rx_Tk x t' k → (∀ j, j ≠ s → ss' j = ss j ∧ sn' j = sn j) → rx_K R L S b n p pk pd ss' sn' su ur xr xo xn yr yo yn := by
    intro ss' sn' x t' ex et' hD hT' ho
    exact rx_K_up K s (rx_SI_mk ex et' ek hk hT'.1 hD hT'.2.1 hT'.2.2 hf) (fun j hj => ⟨(ho j hj).1, (ho j hj).2, rfl, fun _ _ => rfl⟩)
  by_cases c1 : t < k
  · have e2 : ss s = 2 := by
      rcases hr with z | z
      · exact z
      · have := T3 z; omega
    by_cases ho : rx_Ot S ss sn su ur (ur (s * 4 + t)) s
    · have hT' : rx_Tk 5 t k := ⟨T1, fun z => absurd z (by decide), fun z => absurd z (by decide)⟩
      refine ⟨b, n, va, upd ss s 5, sn, xr, xo, xn, yr, yo, yn, t, up (upd ss s 5) sn 5 t pk_us et rx_d5 hT' (fun j hj => ⟨pk_un hj, rfl⟩), et, by rw [pk_us]; exact hT', fun z => ?_, fun post hp => ?_, fun post hp => ?_⟩
      · rw [pk_us] at z; exact absurd z (by decide)
      · exact rx_xStepL hs4 k6 k2 k10 et ek hk c1 hf (fun _ => hp) (fun z => absurd ho z) (fun z => absurd ho z)
      · exact rx_yStepL hs4 k6 k2 k10 et ek hk c1 hf (fun _ => hp) (fun z => absurd ho z) (fun z => absurd ho z)
    · by_cases hm : ue (s * 4 + t) = -1 ∨ ue (s * 4 + t) = va (ur (s * 4 + t)).toNatClampNeg
      · have hT' : rx_Tk (ss s) (t + 1) k := ⟨by omega, fun _ => by omega, fun z => absurd (e2.symm.trans z) (by decide)⟩
        refine ⟨b, n, va, ss, upd sn s (nI (t + 1)), xr, xo, xn, yr, yo, yn, t + 1, up ss (upd sn s (nI (t + 1))) (ss s) (t + 1) rfl pk_us (by rw [e2]; exact rx_d2) hT' (fun j hj => ⟨rfl, pk_un hj⟩), pk_us, hT', fun _ => rfl, fun post hp => ?_, fun post hp => ?_⟩
        · exact rx_xStepL hs4 k6 k2 k10 et ek hk c1 hf (fun z => absurd z ho) (fun _ a c => absurd hm (fun z => z.elim a c)) (fun _ _ => hp)
        · exact rx_yStepL hs4 k6 k2 k10 et ek hk c1 hf (fun z => absurd z ho) (fun _ a c => absurd hm (fun z => z.elim a c)) (fun _ _ => hp)
      · have hT' : rx_Tk 6 t k := ⟨T1, fun z => absurd z (by decide), fun z => absurd z (by decide)⟩
        refine ⟨b, n, va, upd ss s 6, sn, xr, xo, xn, yr, yo, yn, t, up (upd ss s 6) sn 6 t pk_us et rx_d6 hT' (fun j hj => ⟨pk_un hj, rfl⟩), et, by rw [pk_us]; exact hT', fun z => ?_, fun post hp => ?_, fun post hp => ?_⟩
        · rw [pk_us] at z; exact absurd z (by decide)
        · exact rx_xStepL hs4 k6 k2 k10 et ek hk c1 hf (fun z => absurd z ho) (fun _ _ _ => hp) (fun _ z => absurd z hm)
        · exact rx_yStepL hs4 k6 k2 k10 et ek hk c1 hf (fun z => absurd z ho) (fun _ _ _ => hp) (fun _ z => absurd z hm)
  · by_cases c2 : t = k
    · subst c2
      have hT' : rx_Tk 3 (t + 1) t := ⟨by omega, fun z => absurd z (by decide), fun _ => by omega⟩
      refine ⟨rx_cb L b n t, rx_cn L n t, rx_vv ur un va s t, upd ss s 3, upd sn s (nI (t + 1)), rx_cx (rx_fr ur s) L b n xr t, rx_cx (rx_fo va ur s) L b n xo t, rx_cx (rx_fr un s) L b n xn t, rx_ca (rx_fr ur s) L n yr t, rx_ca (rx_fo va ur s) L n yo t, rx_ca (rx_fr un s) L n yn t, t + 1, ?_, pk_us, by rw [pk_us]; exact hT', fun _ => rfl, fun post hp => ?_, fun post hp => ?_⟩
      · exact rx_K_log (up (upd ss s 3) (upd sn s (nI (t + 1))) 3 (t + 1) pk_us pk_us rx_d3 hT' (fun j hj => ⟨pk_un hj, pk_un hj⟩)) (rx_cb_lt (by omega) k7 t) (rx_cn_le (by omega) k8 t) (rx_c_lg (by omega) k7 k8 k11 t) (rx_c_lg (by omega) k7 k8 k12 t) (rx_c_lg (by omega) k7 k8 k13 t)
      · exact rx_xStepC hs4 hk k2 k3 k4 k7 k8 hf et ek hp
      · exact rx_yStepC hs4 hk k2 k3 k4 k8 hf et ek hp
    · have e3 : ss s = 3 := by
        rcases hr with z | z
        · have := T2 z; omega
        · exact z
      have T3' := T3 e3
      by_cases c3 : t ≤ 2 * k
      · have hT' : rx_Tk (ss s) (t + 1) k := ⟨by omega, fun z => absurd (e3.symm.trans z) (by decide), fun _ => by omega⟩
        exact ⟨b, n, va, ss, upd sn s (nI (t + 1)), xr, xo, xn, yr, yo, yn, t + 1, up ss (upd sn s (nI (t + 1))) (ss s) (t + 1) rfl pk_us (by rw [e3]; exact rx_d3) hT' (fun j hj => ⟨rfl, pk_un hj⟩), pk_us, hT', fun _ => rfl, fun post hp => rx_xStepA hs4 hk et ek (by omega) c3 hp, fun post hp => rx_yStepA hs4 hk et ek (by omega) c3 hp⟩
      · obtain rfl : t = 2 * k + 1 := by omega
        have hT' : rx_Tk 4 (2 * k + 2) k := ⟨by omega, fun z => absurd z (by decide), fun z => absurd z (by decide)⟩
        refine ⟨b, n, va, upd ss s 4, upd sn s (nI (2 * k + 2)), xr, xo, xn, yr, yo, yn, 2 * k + 2, up (upd ss s 4) (upd sn s (nI (2 * k + 2))) 4 (2 * k + 2) pk_us pk_us rx_d4 hT' (fun j hj => ⟨pk_un hj, pk_un hj⟩), pk_us, by rw [pk_us]; exact hT', fun _ => rfl, fun post hp => rx_xStepD hs4 hk et ek hp, fun post hp => rx_yStepD hs4 hk et ek hp⟩
theorem rx_xRun1 {post : Int32 → Prop} {s : Nat} (hs : s < 4) (h : ss s = 2 ∨ ss s = 3) (hp : post 1) : wpX_isRunning post (nI R, nI L, nI S, nI b, nI n, nI p, cr, va, ss, sn, su, ur, ue, un, xr, xo, xn) (nI s) := by
  have hv : vp_in (nI s) 4 := vp_in_nI hs (by omega)
  unfold wpX_isRunning
  dsimp only
  rw [nI_clamp (show s < 2 ^ 31 by omega)]
  by_cases a : ss s = 2
  · exact ⟨hv, br_t a hp⟩
  · exact ⟨hv, br_f a ⟨hv, br_t (h.resolve_left a) hp⟩⟩
theorem rx_xRun0 {post : Int32 → Prop} {s : Nat} (hs : s < 4) (h : ¬ (ss s = 2 ∨ ss s = 3)) (hp : post 0) : wpX_isRunning post (nI R, nI L, nI S, nI b, nI n, nI p, cr, va, ss, sn, su, ur, ue, un, xr, xo, xn) (nI s) := by
  have hv : vp_in (nI s) 4 := vp_in_nI hs (by omega)
  unfold wpX_isRunning
  dsimp only
  rw [nI_clamp (show s < 2 ^ 31 by omega)]
  exact ⟨hv, br_f (fun z => h (Or.inl z)) ⟨hv, br_f (fun z => h (Or.inr z)) hp⟩⟩
/-- the run loop: both sides, in lockstep, to one end -/
theorem rx_run {s k c t0 m : Nat} (hs : s < S) (ek : su s = nI k) (hk : k ≤ 4) (hf : rx_RF R ur s k) (hc : c < 2 ^ 31) (hm : m ≤ c) (hm2 : m < 2 ^ 31) (hm3 : ∀ i, i < c → t0 + i < 2 * k + 2 → i < m) :
    ∀ (d i b n : Nat) (va ss sn xr xo xn yr yo yn : Nat → Int32) (t : Nat), rx_K R L S b n p pk pd ss sn su ur xr xo xn yr yo yn → sn s = nI t → rx_Tk (ss s) t k → ((ss s = 2 ∨ ss s = 3) → t + d = 2 * k + 2 ∧ t = t0 + i) → i + d ≤ 10 →
    ∃ (b' n' : Nat) (va' ss' sn' xr' xo' xn' yr' yo' yn' : Nat → Int32) (t' : Nat),
      rx_K R L S b' n' p pk pd ss' sn' su ur xr' xo' xn' yr' yo' yn' ∧
      (∀ post : Int32 → SX → Prop, post (nI t' - nI t0) (nI R, nI L, nI S, nI b', nI n', nI p, cr, va', ss', sn', su, ur, ue, un, xr', xo', xn') → wX_run_86 post (nI s) (nI t0) (nI m) (d + 1) (nI i) (nI R) (nI L) (nI S) (nI b) (nI n) (nI p) cr va ss sn su ur ue un xr xo xn) ∧
      (∀ post : Int32 → SY → Prop, post (nI t' - nI t0) (nI R, nI L, nI S, nI n', pk, pd, cr, va', yr', yo', yn', ss', su, sn', ur, ue, un) → wY_run_71 post (nI s) (nI c) (nI t0) (d + 1) (nI i) (nI R) (nI L) (nI S) (nI n) pk pd cr va yr yo yn ss su sn ur ue un) := by
  intro d
  induction d with
  | zero =>
    intro i b n va ss sn xr xo xn yr yo yn t K et hT hd hi
    have hs4 : s < 4 := by have := K.2.2.2.2.2.1; omega
    have hv : vp_in (nI s) 4 := vp_in_nI hs4 (by omega)
    have es : (nI s).toNatClampNeg = s := nI_clamp (by omega)
    have hr : ¬ (ss s = 2 ∨ ss s = 3) := by
      intro hr
      have h1 := hd hr
      rcases hr with z | z
      · have := hT.2.1 z; omega
      · have := hT.2.2 z; omega
    refine ⟨b, n, va, ss, sn, xr, xo, xn, yr, yo, yn, t, K, fun post hp => ?_, fun post hp => ?_⟩
    · have hp' : post (sn (nI s).toNatClampNeg - nI t0) (nI R, nI L, nI S, nI b, nI n, nI p, cr, va, ss, sn, su, ur, ue, un, xr, xo, xn) := by rw [es, et]; exact hp
      exact br_c (fun _ => ⟨hv, hp'⟩) (fun _ => rx_xRun0 hs4 hr (br_t rfl ⟨hv, hp'⟩))
    · have hp' : post (sn (nI s).toNatClampNeg - nI t0) (nI R, nI L, nI S, nI n, pk, pd, cr, va, yr, yo, yn, ss, su, sn, ur, ue, un) := by rw [es, et]; exact hp
      exact br_c (fun _ => ⟨hv, hp'⟩) (fun _ => br_c (fun _ => ⟨hv, hp'⟩) (fun _ => ⟨hv, br_f (by rw [es]; exact fun z => hr (Or.inl z)) ⟨hv, br_f (by rw [es]; exact fun z => hr (Or.inr z)) ⟨hv, hp'⟩⟩⟩))
  | succ d ih =>
    intro i b n va ss sn xr xo xn yr yo yn t K et hT hd hi
    have hs4 : s < 4 := by have := K.2.2.2.2.2.1; omega
    have hv : vp_in (nI s) 4 := vp_in_nI hs4 (by omega)
    have es : (nI s).toNatClampNeg = s := nI_clamp (by omega)
    by_cases hr : ss s = 2 ∨ ss s = 3
    · have h1 := hd hr
      by_cases hci : i < c
      · have hmi : i < m := hm3 i hci (by omega)
        obtain ⟨b1, n1, va1, ss1, sn1, xr1, xo1, xn1, yr1, yo1, yn1, t1, K1, et1, hT1, hd1, hX, hY⟩ := rx_step (cr := cr) (va := va) (ue := ue) (un := un) hs K hr et ek hk hT hf
        obtain ⟨b2, n2, va2, ss2, sn2, xr2, xo2, xn2, yr2, yo2, yn2, t2, K2, iX, iY⟩ := ih (i + 1) b1 n1 va1 ss1 sn1 xr1 xo1 xn1 yr1 yo1 yn1 t1 K1 et1 hT1 (fun z => by have := hd1 z; omega) (by omega)
        refine ⟨b2, n2, va2, ss2, sn2, xr2, xo2, xn2, yr2, yo2, yn2, t2, K2, fun post hp => ?_, fun post hp => ?_⟩
        · exact br_f (nI_ge hmi hm2) (rx_xRun1 hs4 hr (br_f (by decide) (hX _ (nm_r (nI_1 i) (iX post hp)))))
        · have st : wY_run_107 post (wY_run_71 post (nI s) (nI c) (nI t0) (d + 1)) (nI s) (nI c) (nI t0) (nI i) (nI R) (nI L) (nI S) (nI n) pk pd cr va yr yo yn ss su sn ur ue un := hY _ (nm_r (nI_1 i) (iY post hp))
          refine br_f (nI_ge hci hc) (br_f (nI_ge (b := 16) (by omega) (by decide)) ⟨hv, ?_⟩)
          by_cases a : ss s = 2
          · exact br_t (by rw [es]; exact a) st
          · exact br_f (by rw [es]; exact a) ⟨hv, br_t (by rw [es]; exact hr.resolve_left a) st⟩
      · refine ⟨b, n, va, ss, sn, xr, xo, xn, yr, yo, yn, t, K, fun post hp => ?_, fun post hp => ?_⟩
        · have hp' : post (sn (nI s).toNatClampNeg - nI t0) (nI R, nI L, nI S, nI b, nI n, nI p, cr, va, ss, sn, su, ur, ue, un, xr, xo, xn) := by rw [es, et]; exact hp
          exact br_t (nI_le (by omega) (by omega)) ⟨hv, hp'⟩
        · have hp' : post (sn (nI s).toNatClampNeg - nI t0) (nI R, nI L, nI S, nI n, pk, pd, cr, va, yr, yo, yn, ss, su, sn, ur, ue, un) := by rw [es, et]; exact hp
          exact br_t (nI_le (by omega) (by omega)) ⟨hv, hp'⟩
    · refine ⟨b, n, va, ss, sn, xr, xo, xn, yr, yo, yn, t, K, fun post hp => ?_, fun post hp => ?_⟩
      · have hp' : post (sn (nI s).toNatClampNeg - nI t0) (nI R, nI L, nI S, nI b, nI n, nI p, cr, va, ss, sn, su, ur, ue, un, xr, xo, xn) := by rw [es, et]; exact hp
        exact br_c (fun _ => ⟨hv, hp'⟩) (fun _ => rx_xRun0 hs4 hr (br_t rfl ⟨hv, hp'⟩))
      · have hp' : post (sn (nI s).toNatClampNeg - nI t0) (nI R, nI L, nI S, nI n, pk, pd, cr, va, yr, yo, yn, ss, su, sn, ur, ue, un) := by rw [es, et]; exact hp
        exact br_c (fun _ => ⟨hv, hp'⟩) (fun _ => br_c (fun _ => ⟨hv, hp'⟩) (fun _ => ⟨hv, br_f (by rw [es]; exact fun z => hr (Or.inl z)) ⟨hv, br_f (by rw [es]; exact fun z => hr (Or.inr z)) ⟨hv, hp'⟩⟩⟩))
end RX7
end
section
section RX8
variable {R L S b n p : Nat} {pk pd cr : Int32} {va ss sn su ur ue un xr xo xn yr yo yn : Nat → Int32}
theorem rx_mk {j : Nat} (K : rx_K R L S b n p pk pd ss sn su ur xr xo xn yr yo yn) : i_Rel j (nI R, nI L, nI S, nI b, nI n, nI p, cr, va, ss, sn, su, ur, ue, un, xr, xo, xn) (nI R, nI L, nI S, nI n, pk, pd, cr, va, yr, yo, yn, ss, su, sn, ur, ue, un) :=
  ⟨R, L, S, b, n, p, pk, pd, cr, va, ss, sn, su, ur, ue, un, xr, xo, xn, yr, yo, yn, rfl, rfl, K⟩
/-! is it a slot, a ref -/
theorem rx_xSl0 {post : Int32 → Prop} {x : Int32} (h : x < 0 ∨ nI S ≤ x) (hp : post 0) : wpX_isSlot post (nI R, nI L, nI S, nI b, nI n, nI p, cr, va, ss, sn, su, ur, ue, un, xr, xo, xn) x := br_c (fun _ => hp) (fun a => br_t (h.resolve_left a) hp)
theorem rx_xSl1 {post : Int32 → Prop} {s : Nat} (hs : s < S) (hS : S ≤ 4) (hp : post 1) : wpX_isSlot post (nI R, nI L, nI S, nI b, nI n, nI p, cr, va, ss, sn, su, ur, ue, un, xr, xo, xn) (nI s) := br_f (nI_pos (by omega)) (br_f (nI_ge hs (by omega)) hp)
theorem rx_ySl1 {post : Int32 → Prop} {x : Int32} (h : x < 0 ∨ nI S ≤ x) (hp : post 1) : wpY_badSlot post (nI R, nI L, nI S, nI n, pk, pd, cr, va, yr, yo, yn, ss, su, sn, ur, ue, un) x := br_c (fun _ => hp) (fun a => br_f (Int32.not_lt.mpr (h.resolve_left a)) hp)
theorem rx_ySl0 {post : Int32 → Prop} {s : Nat} (hs : s < S) (hS : S ≤ 4) (hp : post 0) : wpY_badSlot post (nI R, nI L, nI S, nI n, pk, pd, cr, va, yr, yo, yn, ss, su, sn, ur, ue, un) (nI s) := br_f (nI_pos (by omega)) (br_t (nI_lt hs (by omega)) hp)
theorem rx_xRf0 {post : Int32 → Prop} {x : Int32} (h : x < 0 ∨ nI R ≤ x) (hp : post 0) : wpX_isRef post (nI R, nI L, nI S, nI b, nI n, nI p, cr, va, ss, sn, su, ur, ue, un, xr, xo, xn) x := br_c (fun _ => hp) (fun a => br_t (h.resolve_left a) hp)
theorem rx_xRf1 {post : Int32 → Prop} {r : Nat} (hr : r < R) (hR : R ≤ 16) (hp : post 1) : wpX_isRef post (nI R, nI L, nI S, nI b, nI n, nI p, cr, va, ss, sn, su, ur, ue, un, xr, xo, xn) (nI r) := br_f (nI_pos (by omega)) (br_f (nI_ge hr (by omega)) hp)
/-! begin -/
theorem rx_xUse1 {post : Int32 → Prop} {s : Nat} (hs : s < 4) (h : ss s = 1 ∨ ss s = 2 ∨ ss s = 3) (hp : post 1) : wpX_isInUse post (nI R, nI L, nI S, nI b, nI n, nI p, cr, va, ss, sn, su, ur, ue, un, xr, xo, xn) (nI s) := by
  have hv : vp_in (nI s) 4 := vp_in_nI hs (by omega)
  have es : (nI s).toNatClampNeg = s := nI_clamp (by omega)
  by_cases a : ss s = 1
  · exact ⟨hv, br_t (by rw [es]; exact a) hp⟩
  · exact ⟨hv, br_f (by rw [es]; exact a) (rx_xRun1 hs (h.resolve_left a) (br_f (by decide) hp))⟩
theorem rx_xUse0 {post : Int32 → Prop} {s : Nat} (hs : s < 4) (h : ¬ (ss s = 1 ∨ ss s = 2 ∨ ss s = 3)) (hp : post 0) : wpX_isInUse post (nI R, nI L, nI S, nI b, nI n, nI p, cr, va, ss, sn, su, ur, ue, un, xr, xo, xn) (nI s) := by
  have hv : vp_in (nI s) 4 := vp_in_nI hs (by omega)
  have es : (nI s).toNatClampNeg = s := nI_clamp (by omega)
  exact ⟨hv, br_f (by rw [es]; exact fun z => h (Or.inl z)) (rx_xRun0 hs (fun z => h (Or.inr z)) (br_t rfl hp))⟩
theorem rx_yReu0 {post : Int32 → Prop} {x : Int32} (h : x = 1 ∨ x = 2 ∨ x = 3) (hp : post 0) : wpY_reusable post (nI R, nI L, nI S, nI n, pk, pd, cr, va, yr, yo, yn, ss, su, sn, ur, ue, un) x := by
  rcases h with rfl | rfl | rfl <;> exact br_f (by decide) (br_f (by decide) (br_t (by decide) hp))
theorem rx_yReu1 {post : Int32 → Prop} {x : Int32} (hD : rx_D9 x) (h : ¬ (x = 1 ∨ x = 2 ∨ x = 3)) (hp : post 1) : wpY_reusable post (nI R, nI L, nI S, nI n, pk, pd, cr, va, yr, yo, yn, ss, su, sn, ur, ue, un) x := by
  rcases hD with rfl | rfl | rfl | rfl | rfl | rfl | rfl | rfl | rfl
  · exact br_t rfl hp
  · exact absurd (by decide) h
  · exact absurd (by decide) h
  · exact absurd (by decide) h
  · exact br_f (by decide) (br_t rfl hp)
  all_goals exact br_f (by decide) (br_f (by decide) (br_f (by decide) hp))
theorem rx_begin (K : rx_K R L S b n p pk pd ss sn su ur xr xo xn yr yo yn) : ∀ d i, i + d = S →
    ∃ (r : Int32) (ss' sn' su' : Nat → Int32), rx_K R L S b n p pk pd ss' sn' su' ur xr xo xn yr yo yn ∧
      (∀ post : Int32 → SX → Prop, post r (nI R, nI L, nI S, nI b, nI n, nI p, cr, va, ss', sn', su', ur, ue, un, xr, xo, xn) → wX_begin_11 post (nI R) (nI L) (nI S) (nI b) (nI n) (nI p) cr va ss sn su ur ue un xr xo xn (d + 1) (nI i)) ∧
      (∀ post : Int32 → SY → Prop, post r (nI R, nI L, nI S, nI n, pk, pd, cr, va, yr, yo, yn, ss', su', sn', ur, ue, un) → wY_begin_11 post (nI R) (nI L) (nI S) (nI n) pk pd cr va yr yo yn ss su sn ur ue un (d + 1) (nI i)) := by
  have K0 := K
  obtain ⟨k1, k2, k3, k4, k5, k6, k7, k8, k9, k10, k11, k12, k13⟩ := K0
  intro d
  induction d with
  | zero =>
    intro i hi
    exact ⟨-6, ss, sn, su, K, fun post hp => br_t (nI_le (by omega) (by omega)) hp, fun post hp => br_t (nI_le (by omega) (by omega)) hp⟩
  | succ d ih =>
    intro i hi
    have hv : vp_in (nI i) 4 := vp_in_nI (by omega) (by omega)
    have es : (nI i).toNatClampNeg = i := nI_clamp (by omega)
    by_cases hu : ss i = 1 ∨ ss i = 2 ∨ ss i = 3
    · obtain ⟨r, ss', sn', su', K', iX, iY⟩ := ih (i + 1) (by omega)
      refine ⟨r, ss', sn', su', K', fun post hp => ?_, fun post hp => ?_⟩
      · exact br_f (nI_ge (by omega) (by omega)) (rx_xUse1 (by omega) hu (br_f (by decide) (nm_r (nI_1 i) (iX post hp))))
      · exact br_f (nI_ge (by omega) (by omega)) ⟨hv, rx_yReu0 (by rw [es]; exact hu) (br_t rfl (nm_r (nI_1 i) (iY post hp)))⟩
    · refine ⟨nI i, upd ss i 1, upd sn i 0, upd su i 0, ?_, fun post hp => ?_, fun post hp => ?_⟩
      · exact rx_K_up K i (rx_SI_mk (x := 1) (t := 0) (k := 0) pk_us (pk_us.trans nI_0.symm) (pk_us.trans nI_0.symm) (by omega) (by omega) rx_d1 (fun z => absurd z (by decide)) (fun z => absurd z (by decide)) ⟨fun j h => absurd h (by omega), fun _ _ _ h => absurd h (by omega)⟩) (fun j hj => ⟨pk_un hj, pk_un hj, pk_un hj, fun _ _ => rfl⟩)
      · exact br_f (nI_ge (by omega) (by omega)) (rx_xUse0 (by omega) hu (br_t rfl ⟨hv, nm_r (e' := upd su i 0) (by rw [es]) ⟨hv, nm_r (e' := upd sn i 0) (by rw [es]) ⟨hv, nm_r (e' := upd ss i 1) (by rw [es]) hp⟩⟩⟩))
      · exact br_f (nI_ge (by omega) (by omega)) ⟨hv, rx_yReu1 (by rw [es]; obtain ⟨t, k, _, _, _, _, h, _⟩ := k10 i (by omega); exact h) (by rw [es]; exact hu) (br_f (by decide) ⟨hv, nm_r (e' := upd su i 0) (by rw [es]) ⟨hv, nm_r (e' := upd sn i 0) (by rw [es]) ⟨hv, nm_r (e' := upd ss i 1) (by rw [es]) hp⟩⟩⟩)⟩
/-! packStart -/
theorem rx_packStart (K : rx_K R L S b n p pk pd ss sn su ur xr xo xn yr yo yn) : ∀ d i, i + d = S →
    ∃ (r : Int32) (p' : Nat) (pk' pd' : Int32), rx_K R L S b n p' pk' pd' ss sn su ur xr xo xn yr yo yn ∧
      (∀ post : Int32 → SX → Prop, post r (nI R, nI L, nI S, nI b, nI n, nI p', cr, va, ss, sn, su, ur, ue, un, xr, xo, xn) → wX_packStart_21 post (nI R) (nI L) (nI S) (nI b) (nI n) (nI p) cr va ss sn su ur ue un xr xo xn (d + 1) (nI i)) ∧
      (∀ post : Int32 → SY → Prop, post r (nI R, nI L, nI S, nI n, pk', pd', cr, va, yr, yo, yn, ss, su, sn, ur, ue, un) → wY_packStart_21 post (nI R) (nI L) (nI S) (nI n) pk pd cr va yr yo yn ss su sn ur ue un (d + 1) (nI i)) := by
  have K0 := K
  obtain ⟨k1, k2, k3, k4, k5, k6, k7, k8, k9, k10, k11, k12, k13⟩ := K0
  intro d
  induction d with
  | zero =>
    intro i hi
    exact ⟨0, 0, 1, 0, rx_K_p K (Or.inr ⟨by omega, rfl, nI_0.symm⟩), fun post hp => br_t (nI_le (by omega) (by omega)) hp, fun post hp => br_t (nI_le (by omega) (by omega)) hp⟩
  | succ d ih =>
    intro i hi
    have hv : vp_in (nI i) 4 := vp_in_nI (by omega) (by omega)
    have es : (nI i).toNatClampNeg = i := nI_clamp (by omega)
    by_cases hu : ss i = 2 ∨ ss i = 3
    · refine ⟨-9, p, pk, pd, K, fun post hp => ?_, fun post hp => ?_⟩
      · exact br_f (nI_ge (by omega) (by omega)) (rx_xRun1 (by omega) hu (br_f (by decide) hp))
      · refine br_f (nI_ge (by omega) (by omega)) ⟨hv, ?_⟩
        by_cases a : ss i = 2
        · exact br_t (by rw [es]; exact a) hp
        · exact br_f (by rw [es]; exact a) ⟨hv, br_t (by rw [es]; exact hu.resolve_left a) hp⟩
    · obtain ⟨r, p', pk', pd', K', iX, iY⟩ := ih (i + 1) (by omega)
      refine ⟨r, p', pk', pd', K', fun post hp => ?_, fun post hp => ?_⟩
      · exact br_f (nI_ge (by omega) (by omega)) (rx_xRun0 (by omega) hu (br_t rfl (nm_r (nI_1 i) (iX post hp))))
      · exact br_f (nI_ge (by omega) (by omega)) ⟨hv, br_f (by rw [es]; exact fun z => hu (Or.inl z)) ⟨hv, br_f (by rw [es]; exact fun z => hu (Or.inr z)) (nm_r (nI_1 i) (iY post hp))⟩⟩
/-! packRun: Y's loop -/
theorem rx_ypr {post : Int32 → SY → Prop} {c : Nat} (hc : c < 2 ^ 31) (hp3 : p ≤ 3)
    (hA : 3 - p ≤ c → post (nI (3 - p)) (nI R, nI L, nI S, nI n, 0, 0, cr, va, yr, yo, yn, ss, su, sn, ur, ue, un)) (hB : c < 3 - p → post (nI c) (nI R, nI L, nI S, nI n, 1, nI (p + c), cr, va, yr, yo, yn, ss, su, sn, ur, ue, un)) : ∀ (d i : Nat) (pk pd : Int32),
    ((d = 0 ∧ pk = 0 ∧ pd = 0 ∧ p + i = 3) ∨ (0 < d ∧ pk = 1 ∧ pd = nI (p + i) ∧ p + i + d = 3)) → i ≤ c →
    wY_packRun_31 post (nI c) (nI R) (nI L) (nI S) (nI n) cr va yr yo yn ss su sn ur ue un (d + 1) (nI i) (nI i) pk pd := by
  intro d
  induction d with
  | zero =>
    intro i pk pd h hi
    rcases h with ⟨_, rfl, rfl, h⟩ | ⟨h, _⟩
    · have q := hA (by omega)
      rw [show 3 - p = i by omega] at q
      exact br_c (fun _ => q) (fun _ => br_c (fun _ => q) (fun _ => br_t rfl q))
    · exact absurd h (by omega)
  | succ d ih =>
    intro i pk pd h hi
    rcases h with ⟨h, _⟩ | ⟨_, rfl, rfl, h⟩
    · exact absurd h (by omega)
    · by_cases hci : c ≤ i
      · obtain rfl : i = c := by omega
        exact br_t (nI_le (by omega) (by omega)) (hB (by omega))
      · refine br_f (nI_ge (by omega) (by omega)) (br_f (nI_ge (b := 3) (by omega) (by decide)) (br_f (by decide) (nm_r (nI_1 (p + i)) (nm_r (nI_1 i) ?_))))
        by_cases hd : d = 0
        · exact br_f (nI_nlt (b := 3) (by omega) (by omega)) (nm_r (nI_1 i) (ih (i + 1) 0 0 (Or.inl ⟨hd, rfl, rfl, by omega⟩) (by omega)))
        · exact br_t (nI_lt (b := 3) (by omega) (by decide)) (nm_r (nI_1 i) (ih (i + 1) 1 (nI (p + i + 1)) (Or.inr ⟨by omega, rfl, rfl, by omega⟩) (by omega)))
/-! crash -/
theorem rx_xUnc1 {post : Int32 → Prop} {s : Nat} (hs : s < 4) (h : ss s = 1 ∨ ss s = 2) (hp : post 1) : wpX_isUncommitted post (nI R, nI L, nI S, nI b, nI n, nI p, cr, va, ss, sn, su, ur, ue, un, xr, xo, xn) (nI s) := by
  have hv : vp_in (nI s) 4 := vp_in_nI hs (by omega)
  have es : (nI s).toNatClampNeg = s := nI_clamp (by omega)
  by_cases a : ss s = 1
  · exact ⟨hv, br_t (by rw [es]; exact a) hp⟩
  · exact ⟨hv, br_f (by rw [es]; exact a) ⟨hv, br_t (by rw [es]; exact h.resolve_left a) hp⟩⟩
theorem rx_xUnc0 {post : Int32 → Prop} {s : Nat} (hs : s < 4) (h : ¬ (ss s = 1 ∨ ss s = 2)) (hp : post 0) : wpX_isUncommitted post (nI R, nI L, nI S, nI b, nI n, nI p, cr, va, ss, sn, su, ur, ue, un, xr, xo, xn) (nI s) := by
  have hv : vp_in (nI s) 4 := vp_in_nI hs (by omega)
  have es : (nI s).toNatClampNeg = s := nI_clamp (by omega)
  exact ⟨hv, br_f (by rw [es]; exact fun z => h (Or.inl z)) ⟨hv, br_f (by rw [es]; exact fun z => h (Or.inr z)) hp⟩⟩
theorem rx_xSet7 {post : SX → Prop} {s : Nat} (hs : s < 4) (h : ss s = 1 ∨ ss s = 2) (hp : post (nI R, nI L, nI S, nI b, nI n, nI p, cr, va, upd ss s 7, sn, su, ur, ue, un, xr, xo, xn)) : wpX_settleAtCrash post (nI R, nI L, nI S, nI b, nI n, nI p, cr, va, ss, sn, su, ur, ue, un, xr, xo, xn) (nI s) := by
  have hv : vp_in (nI s) 4 := vp_in_nI hs (by omega)
  have es : (nI s).toNatClampNeg = s := nI_clamp (by omega)
  unfold wpX_settleAtCrash
  exact rx_xUnc1 hs h (br_f (by decide) ⟨hv, nm_r (e' := upd ss s 7) (by rw [es]) hp⟩)
theorem rx_xSet4 {post : SX → Prop} {s k : Nat} (hs : s < 4) (h : ss s = 3) (ek : su s = nI k) (hp : post (nI R, nI L, nI S, nI b, nI n, nI p, cr, va, upd ss s 4, upd sn s (nI (2 * k + 2)), su, ur, ue, un, xr, xo, xn)) : wpX_settleAtCrash post (nI R, nI L, nI S, nI b, nI n, nI p, cr, va, ss, sn, su, ur, ue, un, xr, xo, xn) (nI s) := by
  have hv : vp_in (nI s) 4 := vp_in_nI hs (by omega)
  have es : (nI s).toNatClampNeg = s := nI_clamp (by omega)
  have eu : upd sn (nI s).toNatClampNeg (2 * su (nI s).toNatClampNeg + 2) = upd sn s (nI (2 * k + 2)) := by rw [es, ek, rx_l2]
  unfold wpX_settleAtCrash
  exact rx_xUnc0 hs (by rw [h]; decide) (br_t rfl ⟨hv, br_t (by rw [es]; exact h) ⟨hv, nm_r (e' := upd ss s 4) (by rw [es]) ⟨hv, hv, nm_r eu hp⟩⟩⟩)
theorem rx_xSetN {post : SX → Prop} {s : Nat} (hs : s < 4) (h : ¬ (ss s = 1 ∨ ss s = 2)) (h3 : ¬ ss s = 3) (hp : post (nI R, nI L, nI S, nI b, nI n, nI p, cr, va, ss, sn, su, ur, ue, un, xr, xo, xn)) : wpX_settleAtCrash post (nI R, nI L, nI S, nI b, nI n, nI p, cr, va, ss, sn, su, ur, ue, un, xr, xo, xn) (nI s) := by
  have hv : vp_in (nI s) 4 := vp_in_nI hs (by omega)
  have es : (nI s).toNatClampNeg = s := nI_clamp (by omega)
  unfold wpX_settleAtCrash
  exact rx_xUnc0 hs h (br_t rfl ⟨hv, br_f (by rw [es]; exact h3) hp⟩)
theorem rx_crash : ∀ (d i : Nat) (ss sn : Nat → Int32), i + d = S → rx_K R L S b n p pk pd ss sn su ur xr xo xn yr yo yn →
    ∃ (ss' sn' : Nat → Int32), rx_K R L S b n p pk pd ss' sn' su ur xr xo xn yr yo yn ∧
      (∀ post : Int32 → SX → Prop, post 0 (nI R, nI L, nI S, nI b, nI n, nI 3, 1, va, ss', sn', su, ur, ue, un, xr, xo, xn) → wX_crash_11 post (d + 1) (nI i) (nI R) (nI L) (nI S) (nI b) (nI n) (nI p) cr va ss sn su ur ue un xr xo xn) ∧
      (∀ post : Int32 → SY → Prop, post 0 (nI R, nI L, nI S, nI n, 0, 0, 1, va, yr, yo, yn, ss', su, sn', ur, ue, un) → wY_crash_11 post (nI R) (nI L) (nI S) (nI n) pk pd cr (d + 1) (nI i) va yr yo yn ss su sn ur ue un) := by
  intro d
  induction d with
  | zero =>
    intro i ss sn hi K
    have k6 := K.2.2.2.2.2.1
    exact ⟨ss, sn, K, fun post hp => br_t (nI_le (by omega) (by omega)) hp, fun post hp => br_t (nI_le (by omega) (by omega)) hp⟩
  | succ d ih =>
    intro i ss sn hi K
    have K0 := K
    obtain ⟨k1, k2, k3, k4, k5, k6, k7, k8, k9, k10, k11, k12, k13⟩ := K0
    have hi4 : i < 4 := by omega
    have hv : vp_in (nI i) 4 := vp_in_nI (by omega) (by omega)
    have es : (nI i).toNatClampNeg = i := nI_clamp (by omega)
    obtain ⟨t, k, et, ek, hk, ht, hD, h2, h3, hf⟩ := k10 i hi4
    by_cases hu : ss i = 1 ∨ ss i = 2
    · obtain ⟨ss', sn', K', iX, iY⟩ := ih (i + 1) (upd ss i 7) sn (by omega) (rx_K_up K i (rx_SI_mk (x := 7) pk_us et ek hk ht rx_d7 (fun z => absurd z (by decide)) (fun z => absurd z (by decide)) hf) (fun j hj => ⟨pk_un hj, rfl, rfl, fun _ _ => rfl⟩))
      refine ⟨ss', sn', K', fun post hp => ?_, fun post hp => ?_⟩
      · exact br_f (nI_ge (by omega) (by omega)) (rx_xSet7 hi4 hu (nm_r (nI_1 i) (iX post hp)))
      · have st : wY_crash_39 post (wY_crash_11 post (nI R) (nI L) (nI S) (nI n) pk pd cr (d + 1)) (nI i) (nI R) (nI L) (nI S) (nI n) pk pd cr va yr yo yn ss su sn ur ue un := ⟨hv, nm_r (e' := upd ss i 7) (by rw [es]) (nm_r (nI_1 i) (iY post hp))⟩
        refine br_f (nI_ge (by omega) (by omega)) ⟨hv, ?_⟩
        by_cases a : ss i = 1
        · exact br_t (by rw [es]; exact a) st
        · exact br_f (by rw [es]; exact a) ⟨hv, br_t (by rw [es]; exact hu.resolve_left a) st⟩
    · by_cases e3 : ss i = 3
      · obtain ⟨ss', sn', K', iX, iY⟩ := ih (i + 1) (upd ss i 4) (upd sn i (nI (2 * k + 2))) (by omega) (rx_K_up K i (rx_SI_mk (x := 4) pk_us pk_us ek hk (by omega) rx_d4 (fun z => absurd z (by decide)) (fun z => absurd z (by decide)) hf) (fun j hj => ⟨pk_un hj, pk_un hj, rfl, fun _ _ => rfl⟩))
        have el : 2 * su (nI i).toNatClampNeg + 2 = nI (2 * k + 2) := by rw [es, ek, rx_l2]
        have eu : upd sn (nI i).toNatClampNeg (2 * su (nI i).toNatClampNeg + 2) = upd sn i (nI (2 * k + 2)) := by rw [el, es]
        refine ⟨ss', sn', K', fun post hp => ?_, fun post hp => ?_⟩
        · exact br_f (nI_ge (by omega) (by omega)) (rx_xSet4 hi4 e3 ek (nm_r (nI_1 i) (iX post hp)))
        · exact br_f (nI_ge (by omega) (by omega)) ⟨hv, br_f (by rw [es]; exact fun z => hu (Or.inl z)) ⟨hv, br_f (by rw [es]; exact fun z => hu (Or.inr z)) ⟨hv, br_t (by rw [es]; exact e3) ⟨hv, nm_r (e' := upd ss i 4) (by rw [es]) ⟨hv, hv, nm_r eu (nm_r (nI_1 i) (iY post hp))⟩⟩⟩⟩⟩
      · obtain ⟨ss', sn', K', iX, iY⟩ := ih (i + 1) ss sn (by omega) K
        refine ⟨ss', sn', K', fun post hp => ?_, fun post hp => ?_⟩
        · exact br_f (nI_ge (by omega) (by omega)) (rx_xSetN hi4 hu e3 (nm_r (nI_1 i) (iX post hp)))
        · exact br_f (nI_ge (by omega) (by omega)) ⟨hv, br_f (by rw [es]; exact fun z => hu (Or.inl z)) ⟨hv, br_f (by rw [es]; exact fun z => hu (Or.inr z)) ⟨hv, br_f (by rw [es]; exact e3) (nm_r (nI_1 i) (iY post hp))⟩⟩⟩
/-! add: Y's loop -/
theorem rx_yad {post : Int32 → SY → Prop} {s k : Nat} {x2 x3 x4 : Int32} (hs : s < 4) (hk : k < 4) (ek : su s = nI k)
    (h1 : (∃ j, j < k ∧ ur (s * 4 + j) = x2) → post (-7) (nI R, nI L, nI S, nI n, pk, pd, cr, va, yr, yo, yn, ss, su, sn, ur, ue, un))
    (h0 : (∀ j, j < k → ¬ ur (s * 4 + j) = x2) → post 0 (nI R, nI L, nI S, nI n, pk, pd, cr, va, yr, yo, yn, ss, upd su s (nI (k + 1)), sn, upd ur (s * 4 + k) x2, upd ue (s * 4 + k) x3, upd un (s * 4 + k) x4)) : ∀ d i, i + d = k →
    (∀ j, j < i → ¬ ur (s * 4 + j) = x2) → wY_add_80 post (nI s) x2 x3 x4 (nI R) (nI L) (nI S) (nI n) pk pd cr va yr yo yn ss su sn ur ue un (d + 1) (nI i) := by
  have hv : vp_in (nI s) 4 := vp_in_nI (by omega) (by omega)
  have es : (nI s).toNatClampNeg = s := nI_clamp (by omega)
  have e2 : su (nI s).toNatClampNeg = nI k := by rw [es]; exact ek
  intro d
  induction d with
  | zero =>
    intro i hi h
    obtain rfl : i = k := by omega
    have ec : (nI (s * 4 + i)).toNatClampNeg = s * 4 + i := nI_clamp (by omega)
    have hw : vp_in (nI (s * 4 + i)) 16 := vp_in_nI (by omega) (by omega)
    exact ⟨hv, br_t (by rw [e2]; exact nI_le (by omega) (by omega)) ⟨hv, nm_r (e' := nI (s * 4 + i)) (by rw [e2, rx_i4]) ⟨hw, nm_r (e' := upd ur (s * 4 + i) x2) (by rw [ec]) ⟨hw, nm_r (e' := upd ue (s * 4 + i) x3) (by rw [ec]) ⟨hw, nm_r (e' := upd un (s * 4 + i) x4) (by rw [ec]) ⟨hv, hv, nm_r (e' := upd su s (nI (i + 1))) (by rw [e2, es, nI_1]) (h0 h)⟩⟩⟩⟩⟩⟩
  | succ d ih =>
    intro i hi h
    have ec : (nI s * 4 + nI i).toNatClampNeg = s * 4 + i := rx_cj hs (by omega)
    refine ⟨hv, br_f (by rw [e2]; exact nI_ge (by omega) (by omega)) (br_f (nI_ge (b := 4) (by omega) (by decide)) ⟨rx_ij hs (by omega), ?_⟩)⟩
    by_cases e : ur (s * 4 + i) = x2
    · exact br_t (by rw [ec]; exact e) (h1 ⟨i, by omega, e⟩)
    · refine br_f (by rw [ec]; exact e) (nm_r (nI_1 i) (ih (i + 1) (by omega) (fun j hj => ?_)))
      by_cases g : j = i
      · rw [g]; exact e
      · exact h j (by omega)
end RX8
end
section
section RX9
theorem rx_cl (x : Int32) (lo hi : Nat) (h : lo ≤ hi) (hh : hi < 2 ^ 31) : ∃ N : Nat, lo ≤ N ∧ N ≤ hi ∧
    ∀ A : Int32 → Prop, A (nI N) → ((nI lo ≤ x → ((x ≤ nI hi → A x) ∧ (¬ x ≤ nI hi → A (nI hi)))) ∧ (¬ nI lo ≤ x → A (nI lo))) := by
  by_cases a : nI lo ≤ x
  · obtain ⟨j, hj, rfl⟩ := nI_of (x := x) (fun z => nI_pos (n := lo) (by omega) (Int32.lt_of_le_of_lt a z))
    rw [nI_leI (by omega) hj] at a
    by_cases c : j ≤ hi
    · exact ⟨j, a, c, fun A hA => br_t (nI_le a hj) (br_t (nI_le c hh) hA)⟩
    · exact ⟨hi, h, Nat.le_refl hi, fun A hA => br_t (nI_le a hj) (br_f (nI_ge (by omega) hj) hA)⟩
  · exact ⟨lo, Nat.le_refl lo, h, fun A hA => br_f a hA⟩
theorem rx_K0 {R L S : Nat} (h1 : 4 ≤ R) (h2 : R ≤ 16) (h3 : 8 ≤ L) (h4 : L ≤ 32) (h5 : 1 ≤ S) (h6 : S ≤ 4) :
    rx_K R L S 0 0 3 0 0 (fun _ => 0) (fun _ => 0) (fun _ => 0) (fun _ => 0) (fun _ => 0) (fun _ => 0) (fun _ => 0) (fun _ => 0) (fun _ => 0) (fun _ => 0) :=
  ⟨h1, h2, h3, h4, h5, h6, by omega, by omega, Or.inl ⟨rfl, rfl⟩,
    fun s _ => rx_SI_mk (x := 0) (t := 0) (k := 0) rfl nI_0.symm nI_0.symm (by omega) (by omega) rx_d0 (fun z => absurd z (by decide)) (fun z => absurd z (by decide)) ⟨fun j h => absurd h (by omega), fun _ _ _ h => absurd h (by omega)⟩,
    fun j h => absurd h (by omega), fun j h => absurd h (by omega), fun j h => absurd h (by omega)⟩
theorem i_vc0 (k0 : Int32) (k1 : Int32) (k2 : Int32) : wpX_init (fun u => wpY_init (fun v => i_Rel 3 u v) k0 k1 k2) k0 k1 k2 := by
  obtain ⟨R, r1, r2, hR⟩ := rx_cl k0 4 16 (by omega) (by omega)
  obtain ⟨L, l1, l2, hL⟩ := rx_cl k1 8 32 (by omega) (by omega)
  obtain ⟨S, s1, s2, hS⟩ := rx_cl k2 1 4 (by omega) (by omega)
  have cR : ∀ post : Int32 → Prop, post (nI R) → wpX_clamp post k0 4 16 := fun post h => hR post h
  have cL : ∀ post : Int32 → Prop, post (nI L) → wpX_clamp post k1 8 32 := fun post h => hL post h
  have cS : ∀ post : Int32 → Prop, post (nI S) → wpX_clamp post k2 1 4 := fun post h => hS post h
  unfold wpX_init
  refine cR _ (cL _ (cS _ ?_))
  have fin : ∀ u : SX, i_Rel 3 u (nI R, nI L, nI S, 0, 0, 0, 0, (fun _ => 0), (fun _ => 0), (fun _ => 0), (fun _ => 0), (fun _ => 0), (fun _ => 0), (fun _ => 0), (fun _ => 0), (fun _ => 0), (fun _ => 0)) → wpY_init (fun v => i_Rel 3 u v) k0 k1 k2 := by
    intro u hu
    have y130 : wY_init_130 (fun v => i_Rel 3 u v) k2 (nI L) (nI R) 0 0 0 0 0 0 (fun _ => 0) (fun _ => 0) (fun _ => 0) (fun _ => 0) (fun _ => 0) (fun _ => 0) (fun _ => 0) (fun _ => 0) (fun _ => 0) (fun _ => 0) := hS (fun z => i_Rel 3 u (nI R, nI L, z, 0, 0, 0, 0, (fun _ => 0), (fun _ => 0), (fun _ => 0), (fun _ => 0), (fun _ => 0), (fun _ => 0), (fun _ => 0), (fun _ => 0), (fun _ => 0), (fun _ => 0))) hu
    have y103 : wY_init_103 (fun v => i_Rel 3 u v) k1 k2 (nI R) 0 0 0 0 0 0 0 (fun _ => 0) (fun _ => 0) (fun _ => 0) (fun _ => 0) (fun _ => 0) (fun _ => 0) (fun _ => 0) (fun _ => 0) (fun _ => 0) (fun _ => 0) := hL (fun z => wY_init_130 (fun v => i_Rel 3 u v) k2 z (nI R) 0 0 0 0 0 0 (fun _ => 0) (fun _ => 0) (fun _ => 0) (fun _ => 0) (fun _ => 0) (fun _ => 0) (fun _ => 0) (fun _ => 0) (fun _ => 0) (fun _ => 0)) y130
    exact hR (fun z => wY_init_103 (fun v => i_Rel 3 u v) k1 k2 z 0 0 0 0 0 0 0 (fun _ => 0) (fun _ => 0) (fun _ => 0) (fun _ => 0) (fun _ => 0) (fun _ => 0) (fun _ => 0) (fun _ => 0) (fun _ => 0) (fun _ => 0)) y103
  exact fin _ (rx_mk (b := 0) (n := 0) (p := 3) (rx_K0 r1 r2 l1 l2 s1 s2))
theorem i_vc_begin {k : Nat} {u : SX} {v : SY} (I : i_Rel k u v) (hk : k + 5 ≤ 2563) : wpX_begin (fun r u' => wpY_begin (fun r' v' => r' = r ∧ i_Rel (k + 5) u' v') v) u := by
  obtain ⟨R, L, S, b, n, p, pk, pd, cr, va, ss, sn, su, ur, ue, un, xr, xo, xn, yr, yo, yn, rfl, rfl, K⟩ := I
  by_cases c0 : cr = 0
  · obtain ⟨r, ss', sn', su', K', hX, hY⟩ := rx_begin (cr := cr) (va := va) (ue := ue) (un := un) K S 0 (by omega)
    exact br_t c0 ⟨_, hX _ (br_t c0 ⟨_, hY _ ⟨rfl, rx_mk K'⟩⟩)⟩
  · exact br_f c0 (br_f c0 ⟨rfl, rx_mk K⟩)
theorem i_vc_add {k : Nat} {u : SX} {v : SY} (I : i_Rel k u v) (hk : k + 5 ≤ 2563) (v1 : Int32) (v2 : Int32) (v3 : Int32) (v4 : Int32) : wpX_add (fun r u' => wpY_add (fun r' v' => r' = r ∧ i_Rel (k + 5) u' v') v v1 v2 v3 v4) u v1 v2 v3 v4 := by
  obtain ⟨R, L, S, b, n, p, pk, pd, cr, va, ss, sn, su, ur, ue, un, xr, xo, xn, yr, yo, yn, rfl, rfl, K⟩ := I
  have K0 := K
  obtain ⟨k1, k2, k3, k4, k5, k6, k7, k8, k9, k10, k11, k12, k13⟩ := K0
  by_cases c0 : cr = 0
  · rcases pk_ix v1 (n := S) (by omega) with h | h | ⟨s, hs, rfl⟩
    · exact br_t c0 (rx_xSl0 (Or.inl h) (br_t rfl (br_t c0 (rx_ySl1 (Or.inl h) (br_f (by decide) ⟨rfl, rx_mk K⟩)))))
    · exact br_t c0 (rx_xSl0 (Or.inr h) (br_t rfl (br_t c0 (rx_ySl1 (Or.inr h) (br_f (by decide) ⟨rfl, rx_mk K⟩)))))
    · have hs4 : s < 4 := by omega
      have hv : vp_in (nI s) 4 := vp_in_nI hs4 (by omega)
      have es : (nI s).toNatClampNeg = s := nI_clamp (by omega)
      obtain ⟨t, k, et, ek, hk4, ht, hD, h2, h3, hf⟩ := k10 s hs4
      have e2 : su (nI s).toNatClampNeg = nI k := by rw [es]; exact ek
      by_cases a1 : ss (nI s).toNatClampNeg = 1
      · rcases pk_ix v2 (n := R) (by omega) with h | h | ⟨r, hr, rfl⟩
        · exact br_t c0 (rx_xSl1 hs k6 (br_f (by decide) ⟨hv, br_t a1 (rx_xRf0 (Or.inl h) (br_t rfl (br_t c0 (rx_ySl0 hs k6 (br_t rfl ⟨hv, br_t a1 (br_t h ⟨rfl, rx_mk K⟩)⟩)))))⟩))
        · exact br_t c0 (rx_xSl1 hs k6 (br_f (by decide) ⟨hv, br_t a1 (rx_xRf0 (Or.inr h) (br_t rfl (br_t c0 (rx_ySl0 hs k6 (br_t rfl ⟨hv, br_t a1 (br_c (fun _ => ⟨rfl, rx_mk K⟩) (fun _ => br_f (Int32.not_lt.mpr h) ⟨rfl, rx_mk K⟩))⟩)))))⟩))
        · have hr0 : ¬ nI r < 0 := nI_pos (by omega)
          have hr1 : nI r < nI R := nI_lt hr (by omega)
          by_cases a2 : v3 < -1
          · exact br_t c0 (rx_xSl1 hs k6 (br_f (by decide) ⟨hv, br_t a1 (rx_xRf1 hr k2 (br_f (by decide) (br_t a2 (br_t c0 (rx_ySl0 hs k6 (br_t rfl ⟨hv, br_t a1 (br_f hr0 (br_t hr1 (br_f (Int32.not_le.mpr a2) ⟨rfl, rx_mk K⟩)))⟩))))))⟩))
          · have a2' : -1 ≤ v3 := Int32.not_lt.mp a2
            by_cases a3 : 0 ≤ v4
            · by_cases a4 : su (nI s).toNatClampNeg < 4
              · have hk : k < 4 := by
                  rw [e2] at a4
                  rcases Nat.lt_or_ge k 4 with z | z
                  · exact z
                  · exact absurd a4 (nI_nlt (b := 4) z (by omega))
                have ec : (nI (s * 4 + k)).toNatClampNeg = s * 4 + k := nI_clamp (by omega)
                have hw : vp_in (nI (s * 4 + k)) 16 := vp_in_nI (by omega) (by omega)
                have K' : (∀ j, j < k → ¬ ur (s * 4 + j) = nI r) → rx_K R L S b n p pk pd ss sn (upd su s (nI (k + 1))) (upd ur (s * 4 + k) (nI r)) xr xo xn yr yo yn := by
                  intro hj
                  have e1 : ss s = 1 := by rw [es] at a1; exact a1
                  have lo : ∀ j, j < k → upd ur (s * 4 + k) (nI r) (s * 4 + j) = ur (s * 4 + j) := fun j h => pk_un (by omega)
                  have hh : upd ur (s * 4 + k) (nI r) (s * 4 + k) = nI r := pk_us
                  refine rx_K_up K s (rx_SI_mk (x := 1) (t := t) (k := k + 1) e1 et pk_us (by omega) (by omega) rx_d1 (fun z => absurd z (by decide)) (fun z => absurd z (by decide)) ⟨fun j h => ?_, fun i j h h' => ?_⟩) (fun j hj => ⟨rfl, rfl, pk_un hj, fun i hi => pk_un (by omega)⟩)
                  · by_cases g : j = k
                    · rw [g]; exact ⟨r, hr, hh⟩
                    · rw [lo j (by omega)]; exact hf.1 j (by omega)
                  · by_cases g : j = k
                    · rw [g, hh, lo i (by omega)]; exact hj i (by omega)
                    · rw [lo j (by omega), lo i (by omega)]; exact hf.2 i j h (by omega)
                have yp : ∀ post : Int32 → SY → Prop, ((∃ j, j < k ∧ ur (s * 4 + j) = nI r) → post (-7) (nI R, nI L, nI S, nI n, pk, pd, cr, va, yr, yo, yn, ss, su, sn, ur, ue, un)) → ((∀ j, j < k → ¬ ur (s * 4 + j) = nI r) → post 0 (nI R, nI L, nI S, nI n, pk, pd, cr, va, yr, yo, yn, ss, upd su s (nI (k + 1)), sn, upd ur (s * 4 + k) (nI r), upd ue (s * 4 + k) v3, upd un (s * 4 + k) v4)) → wpY_add post (nI R, nI L, nI S, nI n, pk, pd, cr, va, yr, yo, yn, ss, su, sn, ur, ue, un) (nI s) (nI r) v3 v4 := by
                  intro post q1 q0
                  exact br_t c0 (rx_ySl0 hs k6 (br_t rfl ⟨hv, br_t a1 (br_f hr0 (br_t hr1 (br_t a2' (br_t a3 ⟨hv, br_t a4 ⟨_, rx_yad hs4 hk ek q1 q0 k 0 (by omega) (fun j h => absurd h (by omega))⟩⟩))))⟩))
                refine br_t c0 (rx_xSl1 hs k6 (br_f (by decide) ⟨hv, br_t a1 (rx_xRf1 hr k2 (br_f (by decide) (br_f a2 (br_t a3 ⟨hv, br_t a4 ⟨hv, ?_⟩⟩))))⟩))
                rw [e2]
                refine rx_xNamed hs4 hk4 (fun hj => ?_) (fun hj => ?_)
                · exact br_f (by decide) (yp _ (fun _ => ⟨rfl, rx_mk K⟩) (fun z => by obtain ⟨j, hj1, hj2⟩ := hj; exact absurd hj2 (z j hj1)))
                · exact br_t rfl ⟨hv, nm_r rx_i4 ⟨hw, nm_r (e' := upd ur (s * 4 + k) (nI r)) (by rw [ec]) ⟨hw, nm_r (e' := upd ue (s * 4 + k) v3) (by rw [ec]) ⟨hw, nm_r (e' := upd un (s * 4 + k) v4) (by rw [ec]) ⟨hv, hv, nm_r (e' := upd su s (nI (k + 1))) (by rw [es, nI_1]) (yp _ (fun z => by obtain ⟨j, hj1, hj2⟩ := z; exact absurd hj2 (hj j hj1)) (fun _ => ⟨rfl, rx_mk (K' hj)⟩))⟩⟩⟩⟩⟩
              · exact br_t c0 (rx_xSl1 hs k6 (br_f (by decide) ⟨hv, br_t a1 (rx_xRf1 hr k2 (br_f (by decide) (br_f a2 (br_t a3 ⟨hv, br_f a4 (br_t c0 (rx_ySl0 hs k6 (br_t rfl ⟨hv, br_t a1 (br_f hr0 (br_t hr1 (br_t a2' (br_t a3 ⟨hv, br_f a4 ⟨rfl, rx_mk K⟩⟩))))⟩)))⟩))))⟩))
            · exact br_t c0 (rx_xSl1 hs k6 (br_f (by decide) ⟨hv, br_t a1 (rx_xRf1 hr k2 (br_f (by decide) (br_f a2 (br_f a3 (br_t c0 (rx_ySl0 hs k6 (br_t rfl ⟨hv, br_t a1 (br_f hr0 (br_t hr1 (br_t a2' (br_f a3 ⟨rfl, rx_mk K⟩))))⟩)))))))⟩))
      · exact br_t c0 (rx_xSl1 hs k6 (br_f (by decide) ⟨hv, br_f a1 (br_t c0 (rx_ySl0 hs k6 (br_t rfl ⟨hv, br_f a1 ⟨rfl, rx_mk K⟩⟩)))⟩))
  · exact br_f c0 (br_f c0 ⟨rfl, rx_mk K⟩)
theorem i_vc_commit {k : Nat} {u : SX} {v : SY} (I : i_Rel k u v) (hk : k + 5 ≤ 2563) (v1 : Int32) : wpX_commit (fun r u' => wpY_commit (fun r' v' => r' = r ∧ i_Rel (k + 5) u' v') v v1) u v1 := by
  obtain ⟨R, L, S, b, n, p, pk, pd, cr, va, ss, sn, su, ur, ue, un, xr, xo, xn, yr, yo, yn, rfl, rfl, K⟩ := I
  have K0 := K
  obtain ⟨k1, k2, k3, k4, k5, k6, k7, k8, k9, k10, k11, k12, k13⟩ := K0
  by_cases c0 : cr = 0
  · rcases pk_ix v1 (n := S) (by omega) with h | h | ⟨s, hs, rfl⟩
    · exact br_t c0 (rx_xSl0 (Or.inl h) (br_t rfl (br_t c0 (rx_ySl1 (Or.inl h) (br_f (by decide) ⟨rfl, rx_mk K⟩)))))
    · exact br_t c0 (rx_xSl0 (Or.inr h) (br_t rfl (br_t c0 (rx_ySl1 (Or.inr h) (br_f (by decide) ⟨rfl, rx_mk K⟩)))))
    · have hs4 : s < 4 := by omega
      have hv : vp_in (nI s) 4 := vp_in_nI hs4 (by omega)
      have es : (nI s).toNatClampNeg = s := nI_clamp (by omega)
      obtain ⟨t, k, et, ek, hk4, ht, hD, h2, h3, hf⟩ := k10 s hs4
      by_cases a1 : ss (nI s).toNatClampNeg = 1
      · by_cases a2 : su (nI s).toNatClampNeg = 0
        · exact br_t c0 (rx_xSl1 hs k6 (br_f (by decide) ⟨hv, br_t a1 ⟨hv, br_t a2 (br_t c0 (rx_ySl0 hs k6 (br_t rfl ⟨hv, br_t a1 ⟨hv, br_t a2 ⟨rfl, rx_mk K⟩⟩⟩)))⟩⟩))
        · have K' : rx_K R L S b n p pk pd (upd ss s 2) (upd sn s 0) su ur xr xo xn yr yo yn :=
            rx_K_up K s (rx_SI_mk (x := 2) (t := 0) (k := k) pk_us (pk_us.trans nI_0.symm) ek hk4 (by omega) rx_d2 (fun _ => by omega) (fun z => absurd z (by decide)) hf) (fun j hj => ⟨pk_un hj, pk_un hj, rfl, fun _ _ => rfl⟩)
          exact br_t c0 (rx_xSl1 hs k6 (br_f (by decide) ⟨hv, br_t a1 ⟨hv, br_f a2 ⟨hv, nm_r (e' := upd ss s 2) (by rw [es]) ⟨hv, nm_r (e' := upd sn s 0) (by rw [es]) (br_t c0 (rx_ySl0 hs k6 (br_t rfl ⟨hv, br_t a1 ⟨hv, br_f a2 ⟨hv, nm_r (e' := upd ss s 2) (by rw [es]) ⟨hv, nm_r (e' := upd sn s 0) (by rw [es]) ⟨rfl, rx_mk K'⟩⟩⟩⟩⟩)))⟩⟩⟩⟩))
      · exact br_t c0 (rx_xSl1 hs k6 (br_f (by decide) ⟨hv, br_f a1 (br_t c0 (rx_ySl0 hs k6 (br_t rfl ⟨hv, br_f a1 ⟨rfl, rx_mk K⟩⟩)))⟩))
  · exact br_f c0 (br_f c0 ⟨rfl, rx_mk K⟩)
theorem i_vc_abort {k : Nat} {u : SX} {v : SY} (I : i_Rel k u v) (hk : k + 5 ≤ 2563) (v1 : Int32) : wpX_abort (fun r u' => wpY_abort (fun r' v' => r' = r ∧ i_Rel (k + 5) u' v') v v1) u v1 := by
  obtain ⟨R, L, S, b, n, p, pk, pd, cr, va, ss, sn, su, ur, ue, un, xr, xo, xn, yr, yo, yn, rfl, rfl, K⟩ := I
  have K0 := K
  obtain ⟨k1, k2, k3, k4, k5, k6, k7, k8, k9, k10, k11, k12, k13⟩ := K0
  by_cases c0 : cr = 0
  · rcases pk_ix v1 (n := S) (by omega) with h | h | ⟨s, hs, rfl⟩
    · exact br_t c0 (rx_xSl0 (Or.inl h) (br_t rfl (br_t c0 (rx_ySl1 (Or.inl h) (br_f (by decide) ⟨rfl, rx_mk K⟩)))))
    · exact br_t c0 (rx_xSl0 (Or.inr h) (br_t rfl (br_t c0 (rx_ySl1 (Or.inr h) (br_f (by decide) ⟨rfl, rx_mk K⟩)))))
    · have hs4 : s < 4 := by omega
      have hv : vp_in (nI s) 4 := vp_in_nI hs4 (by omega)
      have es : (nI s).toNatClampNeg = s := nI_clamp (by omega)
      obtain ⟨t, k, et, ek, hk4, ht, hD, h2, h3, hf⟩ := k10 s hs4
      have K' : rx_K R L S b n p pk pd (upd ss s 8) sn su ur xr xo xn yr yo yn :=
        rx_K_up K s (rx_SI_mk (x := 8) pk_us et ek hk4 ht rx_d8 (fun z => absurd z (by decide)) (fun z => absurd z (by decide)) hf) (fun j hj => ⟨pk_un hj, rfl, rfl, fun _ _ => rfl⟩)
      by_cases hu : ss s = 1 ∨ ss s = 2
      · refine br_t c0 (rx_xSl1 hs k6 (br_f (by decide) (rx_xUnc1 hs4 hu (br_f (by decide) ⟨hv, nm_r (e' := upd ss s 8) (by rw [es]) (br_t c0 (rx_ySl0 hs k6 (br_t rfl ⟨hv, ?_⟩)))⟩))))
        by_cases a : ss s = 1
        · exact br_t (by rw [es]; exact a) ⟨hv, nm_r (e' := upd ss s 8) (by rw [es]) ⟨rfl, rx_mk K'⟩⟩
        · exact br_f (by rw [es]; exact a) ⟨hv, br_t (by rw [es]; exact hu.resolve_left a) ⟨hv, nm_r (e' := upd ss s 8) (by rw [es]) ⟨rfl, rx_mk K'⟩⟩⟩
      · exact br_t c0 (rx_xSl1 hs k6 (br_f (by decide) (rx_xUnc0 hs4 hu (br_t rfl (br_t c0 (rx_ySl0 hs k6 (br_t rfl ⟨hv, br_f (by rw [es]; exact fun z => hu (Or.inl z)) ⟨hv, br_f (by rw [es]; exact fun z => hu (Or.inr z)) ⟨rfl, rx_mk K⟩⟩⟩)))))))
  · exact br_f c0 (br_f c0 ⟨rfl, rx_mk K⟩)
theorem rx_xPk0 {R L S b n p : Nat} {cr : Int32} {va ss sn su ur ue un xr xo xn : Nat → Int32} {post : Int32 → Prop} (h : p = 3) (hp : post 0) : wpX_isPacking post (nI R, nI L, nI S, nI b, nI n, nI p, cr, va, ss, sn, su, ur, ue, un, xr, xo, xn) := br_t (nI_le (a := 3) (by omega) (by omega)) hp
theorem rx_xPk1 {R L S b n p : Nat} {cr : Int32} {va ss sn su ur ue un xr xo xn : Nat → Int32} {post : Int32 → Prop} (h : p < 3) (hp : post 1) : wpX_isPacking post (nI R, nI L, nI S, nI b, nI n, nI p, cr, va, ss, sn, su, ur, ue, un, xr, xo, xn) := br_f (nI_ge (b := 3) h (by decide)) hp
theorem i_vc_run {k : Nat} {u : SX} {v : SY} (I : i_Rel k u v) (hk : k + 5 ≤ 2563) (v1 : Int32) (v2 : Int32) : wpX_run (fun r u' => wpY_run (fun r' v' => r' = r ∧ i_Rel (k + 5) u' v') v v1 v2) u v1 v2 := by
  obtain ⟨R, L, S, b, n, p, pk, pd, cr, va, ss, sn, su, ur, ue, un, xr, xo, xn, yr, yo, yn, rfl, rfl, K⟩ := I
  have K0 := K
  obtain ⟨k1, k2, k3, k4, k5, k6, k7, k8, k9, k10, k11, k12, k13⟩ := K0
  by_cases c0 : cr = 0
  · rcases pk_ix v1 (n := S) (by omega) with h | h | ⟨s, hs, rfl⟩
    · exact br_t c0 (rx_xSl0 (Or.inl h) (br_t rfl (br_t c0 (rx_ySl1 (Or.inl h) (br_f (by decide) ⟨rfl, rx_mk K⟩)))))
    · exact br_t c0 (rx_xSl0 (Or.inr h) (br_t rfl (br_t c0 (rx_ySl1 (Or.inr h) (br_f (by decide) ⟨rfl, rx_mk K⟩)))))
    · have hs4 : s < 4 := by omega
      have hv : vp_in (nI s) 4 := vp_in_nI hs4 (by omega)
      have es : (nI s).toNatClampNeg = s := nI_clamp (by omega)
      obtain ⟨t, q, et, ek, hk4, ht, hD, h2, h3, hf⟩ := k10 s hs4
      by_cases a1 : 1 ≤ v2
      · obtain ⟨c, hc, rfl⟩ := nI_of (x := v2) (fun z => absurd (Int32.lt_of_le_of_lt a1 z) (by decide))
        by_cases hu : ss s = 2 ∨ ss s = 3
        · have yr0 : ∀ post : Int32 → SY → Prop, wY_run_51 post (nI s) (nI c) (nI R) (nI L) (nI S) (nI n) pk pd cr va yr yo yn ss su sn ur ue un → wpY_run post (nI R, nI L, nI S, nI n, pk, pd, cr, va, yr, yo, yn, ss, su, sn, ur, ue, un) (nI s) (nI c) := by
            intro post hp
            refine br_t c0 (rx_ySl0 hs k6 (br_t rfl (br_t a1 ⟨hv, ?_⟩)))
            by_cases a : ss s = 2
            · exact br_t (by rw [es]; exact a) hp
            · exact br_f (by rw [es]; exact a) ⟨hv, br_t (by rw [es]; exact hu.resolve_left a) hp⟩
          rcases k9 with ⟨e3, e0⟩ | ⟨h3', e1, _⟩
          · have lp : ∀ m, m ≤ c → m < 2 ^ 31 → (∀ i, i < c → t + i < 2 * q + 2 → i < m) → ∃ n86 : Nat, wX_run_86 (fun r u' => wpY_run (fun r' v' => r' = r ∧ i_Rel (k + 5) u' v') (nI R, nI L, nI S, nI n, pk, pd, cr, va, yr, yo, yn, ss, su, sn, ur, ue, un) (nI s) (nI c)) (nI s) (nI t) (nI m) n86 0 (nI R) (nI L) (nI S) (nI b) (nI n) (nI p) cr va ss sn su ur ue un xr xo xn := by
              intro m hm hm2 hm3
              obtain ⟨b', n', va', ss', sn', xr', xo', xn', yr', yo', yn', t', K', hX, hY⟩ := rx_run (cr := cr) (ue := ue) (un := un) hs ek hk4 hf hc hm hm2 hm3 (2 * q + 2 - t) 0 b n va ss sn xr xo xn yr yo yn t K et ⟨ht, h2, h3⟩ (fun _ => by omega) (by omega)
              exact ⟨_, hX _ (yr0 _ (br_t e0 ⟨hv, nm_r (e' := nI t) (by rw [es]; exact et) ⟨_, hY _ ⟨rfl, rx_mk K'⟩⟩⟩))⟩
            have el : 2 * su (nI s).toNatClampNeg + 2 - nI t = nI (2 * q + 2 - t) := by rw [es, ek, rx_l2, pk_sub ht]
            refine br_t c0 (rx_xSl1 hs k6 (br_f (by decide) (br_t a1 (rx_xRun1 hs4 hu (br_f (by decide) (rx_xPk0 e3 (br_t rfl ⟨hv, nm_r (e' := nI t) (by rw [es]; exact et) ⟨hv, nm_r el ?_⟩⟩)))))))
            by_cases hl : 2 * q + 2 - t ≤ c
            · exact br_t (nI_le hl hc) (lp (2 * q + 2 - t) hl (by omega) (fun i _ h => by omega))
            · exact br_f (nI_ge (by omega) (by omega)) (lp c (Nat.le_refl c) hc (fun i h _ => h))
          · exact br_t c0 (rx_xSl1 hs k6 (br_f (by decide) (br_t a1 (rx_xRun1 hs4 hu (br_f (by decide) (rx_xPk1 h3' (br_f (by decide) (yr0 _ (br_f (by rw [e1]; decide) ⟨rfl, rx_mk K⟩)))))))))
        · exact br_t c0 (rx_xSl1 hs k6 (br_f (by decide) (br_t a1 (rx_xRun0 hs4 hu (br_t rfl (br_t c0 (rx_ySl0 hs k6 (br_t rfl (br_t a1 ⟨hv, br_f (by rw [es]; exact fun z => hu (Or.inl z)) ⟨hv, br_f (by rw [es]; exact fun z => hu (Or.inr z)) ⟨rfl, rx_mk K⟩⟩⟩)))))))))
      · exact br_t c0 (rx_xSl1 hs k6 (br_f (by decide) (br_f a1 (br_t c0 (rx_ySl0 hs k6 (br_t rfl (br_f a1 ⟨rfl, rx_mk K⟩)))))))
  · exact br_f c0 (br_f c0 ⟨rfl, rx_mk K⟩)
end RX9
end
section
section RX10
theorem i_vc_packStart {k : Nat} {u : SX} {v : SY} (I : i_Rel k u v) (hk : k + 5 ≤ 2563) : wpX_packStart (fun r u' => wpY_packStart (fun r' v' => r' = r ∧ i_Rel (k + 5) u' v') v) u := by
  obtain ⟨R, L, S, b, n, p, pk, pd, cr, va, ss, sn, su, ur, ue, un, xr, xo, xn, yr, yo, yn, rfl, rfl, K⟩ := I
  have k9 := K.2.2.2.2.2.2.2.2.1
  by_cases c0 : cr = 0
  · rcases k9 with ⟨e3, e0⟩ | ⟨h3, e1, _⟩
    · obtain ⟨r, p', pk', pd', K', hX, hY⟩ := rx_packStart (cr := cr) (va := va) (ue := ue) (un := un) K S 0 (by omega)
      exact br_t c0 (rx_xPk0 e3 (br_t rfl ⟨_, hX _ (br_t c0 (br_t e0 ⟨_, hY _ ⟨rfl, rx_mk K'⟩⟩))⟩))
    · exact br_t c0 (rx_xPk1 h3 (br_f (by decide) (br_t c0 (br_f (by rw [e1]; decide) ⟨rfl, rx_mk K⟩))))
  · exact br_f c0 (br_f c0 ⟨rfl, rx_mk K⟩)
theorem i_vc_packRun {k : Nat} {u : SX} {v : SY} (I : i_Rel k u v) (hk : k + 5 ≤ 2563) (v1 : Int32) : wpX_packRun (fun r u' => wpY_packRun (fun r' v' => r' = r ∧ i_Rel (k + 5) u' v') v v1) u v1 := by
  obtain ⟨R, L, S, b, n, p, pk, pd, cr, va, ss, sn, su, ur, ue, un, xr, xo, xn, yr, yo, yn, rfl, rfl, K⟩ := I
  have k9 := K.2.2.2.2.2.2.2.2.1
  by_cases c0 : cr = 0
  · by_cases a1 : 1 ≤ v1
    · obtain ⟨c, hc, rfl⟩ := nI_of (x := v1) (fun z => absurd (Int32.lt_of_le_of_lt a1 z) (by decide))
      rcases k9 with ⟨e3, e0⟩ | ⟨h3, rfl, rfl⟩
      · exact br_t c0 (br_t a1 (rx_xPk0 e3 (br_t rfl (br_t c0 (br_t a1 (br_t e0 ⟨rfl, rx_mk K⟩))))))
      · have yl : ∀ post : Int32 → SY → Prop, (3 - p ≤ c → post (nI (3 - p)) (nI R, nI L, nI S, nI n, 0, 0, cr, va, yr, yo, yn, ss, su, sn, ur, ue, un)) → (c < 3 - p → post (nI c) (nI R, nI L, nI S, nI n, 1, nI (p + c), cr, va, yr, yo, yn, ss, su, sn, ur, ue, un)) → wpY_packRun post (nI R, nI L, nI S, nI n, 1, nI p, cr, va, yr, yo, yn, ss, su, sn, ur, ue, un) (nI c) := by
          intro post q1 q0
          exact br_t c0 (br_t a1 (br_f (by decide) ⟨_, rx_ypr hc (by omega) q1 q0 (3 - p) 0 1 (nI p) (Or.inr ⟨by omega, rfl, rfl, by omega⟩) (by omega)⟩))
        refine br_t c0 (br_t a1 (rx_xPk1 h3 (br_f (by decide) (nm_r (e' := nI (3 - p)) (pk_sub (a := 3) (by omega)) ?_))))
        by_cases hl : 3 - p ≤ c
        · refine br_t (nI_le hl hc) (nm_r (e' := nI 3) (by rw [nI_add, show p + (3 - p) = 3 by omega]) (yl _ (fun _ => ⟨rfl, rx_mk (rx_K_p K (Or.inl ⟨rfl, rfl⟩))⟩) (fun z => absurd z (by omega))))
        · refine br_f (nI_ge (by omega) (by omega)) (nm_r (nI_add p c) (yl _ (fun z => absurd z (by omega)) (fun _ => ⟨rfl, rx_mk (rx_K_p K (Or.inr ⟨by omega, rfl, rfl⟩))⟩)))
    · exact br_t c0 (br_f a1 (br_t c0 (br_f a1 ⟨rfl, rx_mk K⟩)))
  · exact br_f c0 (br_f c0 ⟨rfl, rx_mk K⟩)
theorem i_vc_crash {k : Nat} {u : SX} {v : SY} (I : i_Rel k u v) (hk : k + 5 ≤ 2563) : wpX_crash (fun r u' => wpY_crash (fun r' v' => r' = r ∧ i_Rel (k + 5) u' v') v) u := by
  obtain ⟨R, L, S, b, n, p, pk, pd, cr, va, ss, sn, su, ur, ue, un, xr, xo, xn, yr, yo, yn, rfl, rfl, K⟩ := I
  by_cases c0 : cr = 0
  · obtain ⟨ss', sn', K', hX, hY⟩ := rx_crash (cr := cr) (va := va) (ue := ue) (un := un) S 0 ss sn (by omega) K
    exact br_t c0 ⟨_, hX _ (br_t c0 ⟨_, hY _ ⟨rfl, rx_mk (rx_K_p K' (Or.inl ⟨rfl, rfl⟩))⟩⟩)⟩
  · exact br_f c0 (br_f c0 ⟨rfl, rx_mk K⟩)
theorem i_vc_recover {k : Nat} {u : SX} {v : SY} (I : i_Rel k u v) (hk : k + 5 ≤ 2563) : wpX_recover (fun r u' => wpY_recover (fun r' v' => r' = r ∧ i_Rel (k + 5) u' v') v) u := by
  obtain ⟨R, L, S, b, n, p, pk, pd, cr, va, ss, sn, su, ur, ue, un, xr, xo, xn, yr, yo, yn, rfl, rfl, K⟩ := I
  by_cases c0 : cr = 0
  · exact br_t c0 (br_t c0 ⟨rfl, rx_mk K⟩)
  · exact br_f c0 (br_f c0 ⟨rfl, rx_mk K⟩)
theorem i_vc_value {k : Nat} {u : SX} {v : SY} (I : i_Rel k u v) (hk : k + 5 ≤ 2563) (v1 : Int32) : wpX_value (fun r => wpY_value (fun r' => r' = r ∧ i_Rel (k + 5) u v) v v1) u v1 := by
  obtain ⟨R, L, S, b, n, p, pk, pd, cr, va, ss, sn, su, ur, ue, un, xr, xo, xn, yr, yo, yn, rfl, rfl, K⟩ := I
  have k2 := K.2.1
  by_cases c0 : cr = 0
  · rcases pk_ix v1 (n := R) (by omega) with h | h | ⟨r, hr, rfl⟩
    · exact br_t c0 (rx_xRf0 (Or.inl h) (br_t rfl (br_t c0 (br_t h ⟨rfl, rx_mk K⟩))))
    · exact br_t c0 (rx_xRf0 (Or.inr h) (br_t rfl (br_t c0 (br_c (fun _ => ⟨rfl, rx_mk K⟩) (fun _ => br_f (Int32.not_lt.mpr h) ⟨rfl, rx_mk K⟩)))))
    · have hv : vp_in (nI r) 16 := vp_in_nI (by omega) (by omega)
      exact br_t c0 (rx_xRf1 hr k2 (br_f (by decide) ⟨hv, br_t c0 (br_f (nI_pos (by omega)) (br_t (nI_lt hr (by omega)) ⟨hv, rfl, rx_mk K⟩))⟩))
  · exact br_f c0 (br_f c0 ⟨rfl, rx_mk K⟩)
theorem i_vc_status {k : Nat} {u : SX} {v : SY} (I : i_Rel k u v) (hk : k + 5 ≤ 2563) (v1 : Int32) : wpX_status (fun r => wpY_status (fun r' => r' = r ∧ i_Rel (k + 5) u v) v v1) u v1 := by
  obtain ⟨R, L, S, b, n, p, pk, pd, cr, va, ss, sn, su, ur, ue, un, xr, xo, xn, yr, yo, yn, rfl, rfl, K⟩ := I
  have k6 := K.2.2.2.2.2.1
  by_cases c0 : cr = 0
  · rcases pk_ix v1 (n := S) (by omega) with h | h | ⟨s, hs, rfl⟩
    · exact br_t c0 (rx_xSl0 (Or.inl h) (br_t rfl (br_t c0 (rx_ySl1 (Or.inl h) (br_f (by decide) ⟨rfl, rx_mk K⟩)))))
    · exact br_t c0 (rx_xSl0 (Or.inr h) (br_t rfl (br_t c0 (rx_ySl1 (Or.inr h) (br_f (by decide) ⟨rfl, rx_mk K⟩)))))
    · have hv : vp_in (nI s) 4 := vp_in_nI (by omega) (by omega)
      exact br_t c0 (rx_xSl1 hs k6 (br_f (by decide) ⟨hv, br_t c0 (rx_ySl0 hs k6 (br_t rfl ⟨hv, rfl, rx_mk K⟩))⟩))
  · exact br_f c0 (br_f c0 ⟨rfl, rx_mk K⟩)
theorem i_vc_stepsDone {k : Nat} {u : SX} {v : SY} (I : i_Rel k u v) (hk : k + 5 ≤ 2563) (v1 : Int32) : wpX_stepsDone (fun r => wpY_stepsDone (fun r' => r' = r ∧ i_Rel (k + 5) u v) v v1) u v1 := by
  obtain ⟨R, L, S, b, n, p, pk, pd, cr, va, ss, sn, su, ur, ue, un, xr, xo, xn, yr, yo, yn, rfl, rfl, K⟩ := I
  have k6 := K.2.2.2.2.2.1
  by_cases c0 : cr = 0
  · rcases pk_ix v1 (n := S) (by omega) with h | h | ⟨s, hs, rfl⟩
    · exact br_t c0 (rx_xSl0 (Or.inl h) (br_t rfl (br_t c0 (rx_ySl1 (Or.inl h) (br_f (by decide) ⟨rfl, rx_mk K⟩)))))
    · exact br_t c0 (rx_xSl0 (Or.inr h) (br_t rfl (br_t c0 (rx_ySl1 (Or.inr h) (br_f (by decide) ⟨rfl, rx_mk K⟩)))))
    · have hv : vp_in (nI s) 4 := vp_in_nI (by omega) (by omega)
      exact br_t c0 (rx_xSl1 hs k6 (br_f (by decide) ⟨hv, br_t c0 (rx_ySl0 hs k6 (br_t rfl ⟨hv, rfl, rx_mk K⟩))⟩))
  · exact br_f c0 (br_f c0 ⟨rfl, rx_mk K⟩)
theorem i_vc_updateCount {k : Nat} {u : SX} {v : SY} (I : i_Rel k u v) (hk : k + 5 ≤ 2563) (v1 : Int32) : wpX_updateCount (fun r => wpY_updateCount (fun r' => r' = r ∧ i_Rel (k + 5) u v) v v1) u v1 := by
  obtain ⟨R, L, S, b, n, p, pk, pd, cr, va, ss, sn, su, ur, ue, un, xr, xo, xn, yr, yo, yn, rfl, rfl, K⟩ := I
  have k6 := K.2.2.2.2.2.1
  by_cases c0 : cr = 0
  · rcases pk_ix v1 (n := S) (by omega) with h | h | ⟨s, hs, rfl⟩
    · exact br_t c0 (rx_xSl0 (Or.inl h) (br_t rfl (br_t c0 (rx_ySl1 (Or.inl h) (br_f (by decide) ⟨rfl, rx_mk K⟩)))))
    · exact br_t c0 (rx_xSl0 (Or.inr h) (br_t rfl (br_t c0 (rx_ySl1 (Or.inr h) (br_f (by decide) ⟨rfl, rx_mk K⟩)))))
    · have hv : vp_in (nI s) 4 := vp_in_nI (by omega) (by omega)
      exact br_t c0 (rx_xSl1 hs k6 (br_f (by decide) ⟨hv, br_t c0 (rx_ySl0 hs k6 (br_t rfl ⟨hv, rfl, rx_mk K⟩))⟩))
  · exact br_f c0 (br_f c0 ⟨rfl, rx_mk K⟩)
theorem i_vc_logCount {k : Nat} {u : SX} {v : SY} (I : i_Rel k u v) (hk : k + 5 ≤ 2563) : wpX_logCount (fun r => wpY_logCount (fun r' => r' = r ∧ i_Rel (k + 5) u v) v) u := by
  obtain ⟨R, L, S, b, n, p, pk, pd, cr, va, ss, sn, su, ur, ue, un, xr, xo, xn, yr, yo, yn, rfl, rfl, K⟩ := I
  by_cases c0 : cr = 0
  · exact br_t c0 (br_t c0 ⟨rfl, rx_mk K⟩)
  · exact br_f c0 (br_f c0 ⟨rfl, rx_mk K⟩)
theorem i_vc_logEntry {k : Nat} {u : SX} {v : SY} (I : i_Rel k u v) (hk : k + 5 ≤ 2563) (v1 : Int32) (v2 : Int32) : wpX_logEntry (fun r => wpY_logEntry (fun r' => r' = r ∧ i_Rel (k + 5) u v) v v1 v2) u v1 v2 := by
  obtain ⟨R, L, S, b, n, p, pk, pd, cr, va, ss, sn, su, ur, ue, un, xr, xo, xn, yr, yo, yn, rfl, rfl, K⟩ := I
  have K0 := K
  obtain ⟨k1, k2, k3, k4, k5, k6, k7, k8, k9, k10, k11, k12, k13⟩ := K0
  by_cases c0 : cr = 0
  · rcases pk_ix v1 (n := n) (by omega) with h | h | ⟨i, hi, rfl⟩
    · exact br_t c0 (br_t h (br_t c0 (br_t h ⟨rfl, rx_mk K⟩)))
    · by_cases h0 : v1 < 0
      · exact br_t c0 (br_t h0 (br_t c0 (br_t h0 ⟨rfl, rx_mk K⟩)))
      · exact br_t c0 (br_f h0 (br_f (Int32.not_lt.mpr h) (br_t c0 (br_f h0 (br_t h ⟨rfl, rx_mk K⟩)))))
    · have h0 : ¬ nI i < 0 := nI_pos (by omega)
      have hg := rx_g_lt k7 (show i ≤ L by omega)
      have hv : vp_in (nI i) 32 := vp_in_nI (by omega) (by omega)
      have hw : vp_in (nI (rx_g L b i)) 32 := vp_in_nI (by omega) (by omega)
      have ei : (nI i).toNatClampNeg = i := nI_clamp (by omega)
      have eg : (nI (rx_g L b i)).toNatClampNeg = rx_g L b i := nI_clamp (by omega)
      have h1 : ¬ nI n ≤ nI i := nI_ge hi (by omega)
      have h2 : nI i < nI n := nI_lt hi (by omega)
      have h3 : nI i < 32 := nI_lt (b := 32) (by omega) (by decide)
      refine br_t c0 (br_f h0 (br_t h2 (rx_xCell k4 k7 (by omega) ?_)))
      by_cases f0 : v2 = 0
      · subst f0
        exact br_f (by decide) (br_f (by decide) (br_t rfl ⟨hw, br_t c0 (br_f h0 (br_f h1 (br_t h3 (br_t rfl ⟨hv, by rw [ei, eg]; exact k11 i hi, rx_mk K⟩))))⟩))
      · by_cases f1 : v2 = 1
        · subst f1
          exact br_f (by decide) (br_f (by decide) (br_f (by decide) (br_t rfl ⟨hw, br_t c0 (br_f h0 (br_f h1 (br_t h3 (br_f (by decide) (br_t rfl ⟨hv, by rw [ei, eg]; exact k12 i hi, rx_mk K⟩)))))⟩)))
        · by_cases f2 : v2 = 2
          · subst f2
            exact br_f (by decide) (br_f (by decide) (br_f (by decide) (br_f (by decide) (br_t rfl ⟨hw, br_t c0 (br_f h0 (br_f h1 (br_t h3 (br_f (by decide) (br_f (by decide) (br_t rfl ⟨hv, by rw [ei, eg]; exact k13 i hi, rx_mk K⟩))))))⟩))))
          · exact br_c (fun _ => br_t c0 (br_f h0 (br_f h1 (br_t h3 (br_f f0 (br_f f1 (br_f f2 ⟨rfl, rx_mk K⟩))))))) (fun _ => br_c (fun _ => br_t c0 (br_f h0 (br_f h1 (br_t h3 (br_f f0 (br_f f1 (br_f f2 ⟨rfl, rx_mk K⟩))))))) (fun _ => br_f f0 (br_f f1 (br_f f2 trivial))))
  · exact br_f c0 (br_f c0 ⟨rfl, rx_mk K⟩)
theorem i_vc_packProgress {k : Nat} {u : SX} {v : SY} (I : i_Rel k u v) (hk : k + 5 ≤ 2563) : wpX_packProgress (fun r => wpY_packProgress (fun r' => r' = r ∧ i_Rel (k + 5) u v) v) u := by
  obtain ⟨R, L, S, b, n, p, pk, pd, cr, va, ss, sn, su, ur, ue, un, xr, xo, xn, yr, yo, yn, rfl, rfl, K⟩ := I
  have k9 := K.2.2.2.2.2.2.2.2.1
  by_cases c0 : cr = 0
  · rcases k9 with ⟨rfl, rfl⟩ | ⟨h3, rfl, rfl⟩
    · exact br_t c0 (br_t c0 (br_t rfl ⟨rfl, rx_mk K⟩))
    · exact br_t c0 (br_t c0 (br_f (by decide) ⟨rfl, rx_mk K⟩))
  · exact br_f c0 (br_f c0 ⟨rfl, rx_mk K⟩)
end RX10
end
