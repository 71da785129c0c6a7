/-! the reflog: a ring of L cells against a plain row -/
/-- the cell of the j-th entry of a ring of L cells that begins at b -/
def rx_g (L b j : Nat) : Nat := if b + j < L then b + j else b + j - L
theorem rx_g_lt {L b j : Nat} (hb : b < L) (hj : j ≤ L) : rx_g L b j < L := by
  unfold rx_g; split <;> omega
theorem rx_g_ne {L b i j : Nat} (hb : b < L) (hj : j < L) (hi : i < j) : rx_g L b i ≠ rx_g L b j := by
  unfold rx_g; split <;> split <;> omega
theorem rx_g_1 {L b j : Nat} (hb : b < L) (hj : j + 1 < L) : rx_g L (rx_g L b 1) j = rx_g L b (j + 1) := by
  by_cases h : b + 1 < L
  · rw [show rx_g L b 1 = b + 1 from if_pos h]; unfold rx_g; split <;> split <;> omega
  · rw [show rx_g L b 1 = b + 1 - L from if_neg h]; unfold rx_g; split <;> split <;> omega
/-- a row whose entries 1 .. i - 1 have moved down by one -/
def rx_sh (a : Nat → Int32) (i : Nat) : Nat → Int32 := fun j => if j + 1 < i then a (j + 1) else a j
theorem rx_sh1 (a : Nat → Int32) : rx_sh a 1 = a := funext fun j => if_neg (by omega)
theorem rx_shi (a : Nat → Int32) (i : Nat) : rx_sh a i i = a i := if_neg (by omega)
theorem rx_shs (a : Nat → Int32) (m : Nat) : upd (rx_sh a (m + 1)) m (a (m + 1)) = rx_sh a (m + 2) := by
  funext j
  unfold upd rx_sh
  by_cases h1 : j = m
  · subst h1
    rw [if_pos rfl, if_pos (by omega)]
  · rw [if_neg h1]
    by_cases h2 : j + 1 < m + 1
    · rw [if_pos h2, if_pos (by omega)]
    · rw [if_neg h2, if_neg (by omega)]
def rx_LG (L b n : Nat) (x y : Nat → Int32) : Prop := ∀ j, j < n → y j = x (rx_g L b j)
def rx_nn (L n : Nat) : Nat := if n < L then n else n - 1
def rx_bb (L b n : Nat) : Nat := if n < L then b else rx_g L b 1
def rx_ap (y : Nat → Int32) (L n : Nat) (r : Int32) : Nat → Int32 := upd (if n < L then y else rx_sh y n) (rx_nn L n) r
theorem rx_nn_lt {L n : Nat} (hL : 0 < L) (hn : n ≤ L) : rx_nn L n < L := by
  unfold rx_nn; split <;> omega
theorem rx_bb_lt {L b n : Nat} (hL : 1 ≤ L) (hb : b < L) : rx_bb L b n < L := by
  unfold rx_bb; split
  · exact hb
  · exact rx_g_lt hb hL
theorem rx_ap_lg {L b n : Nat} {x y : Nat → Int32} {r : Int32} (hL : 0 < L) (hb : b < L) (hn : n ≤ L) (h : rx_LG L b n x y) :
    rx_LG L (rx_bb L b n) (rx_nn L n + 1) (upd x (rx_g L (rx_bb L b n) (rx_nn L n)) r) (rx_ap y L n r) := by
  intro j hj
  by_cases hl : n < L
  · have e1 : rx_nn L n = n := if_pos hl
    have e2 : rx_bb L b n = b := if_pos hl
    have e3 : rx_ap y L n r = upd y n r := by unfold rx_ap; rw [if_pos hl, e1]
    rw [e1] at hj
    rw [e3, e2, e1]
    by_cases hjn : j = n
    · rw [hjn, pk_us, pk_us]
    · rw [pk_un hjn, pk_un (rx_g_ne hb hl (by omega)), h j (by omega)]
  · have e0 : n = L := by omega
    subst e0
    have e1 : rx_nn n n = n - 1 := if_neg hl
    have e2 : rx_bb n b n = rx_g n b 1 := if_neg hl
    have e3 : rx_ap y n n r = upd (rx_sh y n) (n - 1) r := by unfold rx_ap; rw [if_neg hl, e1]
    rw [e1] at hj
    rw [e3, e2, e1]
    by_cases hjn : j = n - 1
    · rw [hjn, pk_us, pk_us]
    · have hb1 : rx_g n b 1 < n := rx_g_lt hb (by omega)
      have hs : rx_sh y n j = y (j + 1) := if_pos (by omega)
      rw [pk_un hjn, pk_un (rx_g_ne hb1 (by omega) (by omega)), rx_g_1 hb (by omega), hs, h (j + 1) (by omega)]
/-! i entries appended, one behind the other: the row (rx_cn entries, rx_ca), the ring (rx_cb its begin, rx_cx) -/
def rx_cn (L n : Nat) : Nat → Nat
  | 0 => n
  | i + 1 => rx_nn L (rx_cn L n i) + 1
def rx_cb (L b n : Nat) : Nat → Nat
  | 0 => b
  | i + 1 => rx_bb L (rx_cb L b n i) (rx_cn L n i)
def rx_ca (f : Nat → Int32) (L n : Nat) (y : Nat → Int32) : Nat → Nat → Int32
  | 0 => y
  | i + 1 => rx_ap (rx_ca f L n y i) L (rx_cn L n i) (f i)
def rx_cx (f : Nat → Int32) (L b n : Nat) (x : Nat → Int32) : Nat → Nat → Int32
  | 0 => x
  | i + 1 => upd (rx_cx f L b n x i) (rx_g L (rx_bb L (rx_cb L b n i) (rx_cn L n i)) (rx_nn L (rx_cn L n i))) (f i)
theorem rx_cn_le {L n : Nat} (hL : 0 < L) (hn : n ≤ L) : ∀ i, rx_cn L n i ≤ L := by
  intro i
  induction i with
  | zero => exact hn
  | succ i ih =>
    have := rx_nn_lt hL ih
    show rx_nn L (rx_cn L n i) + 1 ≤ L
    omega
theorem rx_cb_lt {L b n : Nat} (hL : 0 < L) (hb : b < L) : ∀ i, rx_cb L b n i < L := by
  intro i
  induction i with
  | zero => exact hb
  | succ i ih => exact rx_bb_lt hL ih
theorem rx_c_lg {f x y : Nat → Int32} {L b n : Nat} (hL : 0 < L) (hb : b < L) (hn : n ≤ L) (h : rx_LG L b n x y) :
    ∀ i, rx_LG L (rx_cb L b n i) (rx_cn L n i) (rx_cx f L b n x i) (rx_ca f L n y i) := by
  intro i
  induction i with
  | zero => exact h
  | succ i ih => exact rx_ap_lg hL (rx_cb_lt hL hb i) (rx_cn_le hL hn i) ih
/-! the values after the first i updates of slot s -/
def rx_vv (ur un va : Nat → Int32) (s : Nat) : Nat → Nat → Int32
  | 0 => va
  | i + 1 => upd (rx_vv ur un va s i) (ur (s * 4 + i)).toNatClampNeg (un (s * 4 + i))
/-! a slot's own facts: status q, steps t, updates k -/
def rx_RF (R : Nat) (ur : Nat → Int32) (s k : Nat) : Prop :=
  (∀ i, i < k → ∃ r, r < R ∧ ur (s * 4 + i) = nI r) ∧ (∀ i j, i < j → j < k → ur (s * 4 + i) ≠ ur (s * 4 + j))
def rx_D9 (x : Int32) : Prop := x = 0 ∨ x = 1 ∨ x = 2 ∨ x = 3 ∨ x = 4 ∨ x = 5 ∨ x = 6 ∨ x = 7 ∨ x = 8
def rx_SI (R : Nat) (ss sn su ur : Nat → Int32) (s : Nat) : Prop :=
  ∃ t k : Nat, sn s = nI t ∧ su s = nI k ∧ k ≤ 4 ∧ t ≤ 2 * k + 2 ∧ rx_D9 (ss s) ∧ (ss s = 2 → t ≤ k) ∧ (ss s = 3 → k + 1 ≤ t ∧ t ≤ 2 * k + 1) ∧ rx_RF R ur s k
theorem rx_vv_o {R : Nat} {ur un va : Nat → Int32} {s k : Nat} (hR : R ≤ 16) (h : rx_RF R ur s k) :
    ∀ i j, i ≤ j → j < k → rx_vv ur un va s i (ur (s * 4 + j)).toNatClampNeg = va (ur (s * 4 + j)).toNatClampNeg := by
  intro i
  induction i with
  | zero => intro j _ _; rfl
  | succ i ih =>
    intro j hij hj
    have hne : (ur (s * 4 + j)).toNatClampNeg ≠ (ur (s * 4 + i)).toNatClampNeg := by
      obtain ⟨r, hr, er⟩ := h.1 j hj
      obtain ⟨r', hr', er'⟩ := h.1 i (by omega)
      have hd := h.2 i j (by omega) hj
      rw [er, er', nI_clamp (by omega), nI_clamp (by omega)]
      intro e
      exact hd (by rw [er, er', e])
    show upd (rx_vv ur un va s i) (ur (s * 4 + i)).toNatClampNeg (un (s * 4 + i)) _ = _
    rw [pk_un hne]
    exact ih j (by omega) hj
theorem rx_SI_up {R : Nat} {ss sn su ur ss' sn' su' ur' : Nat → Int32} (h : ∀ s, s < 4 → rx_SI R ss sn su ur s) (s0 : Nat)
    (h0 : rx_SI R ss' sn' su' ur' s0)
    (ho : ∀ s, s ≠ s0 → ss' s = ss s ∧ sn' s = sn s ∧ su' s = su s ∧ ∀ i, i < 4 → ur' (s * 4 + i) = ur (s * 4 + i)) :
    ∀ s, s < 4 → rx_SI R ss' sn' su' ur' s := by
  intro s hs
  by_cases e : s = s0
  · rw [e]; exact h0
  · obtain ⟨t, k, e2, e3, h1, h2, h3, h4, h5, h6, h7⟩ := h s hs
    obtain ⟨o1, o2, o3, o4⟩ := ho s e
    refine ⟨t, k, o2.trans e2, o3.trans e3, h1, h2, by rw [o1]; exact h3, by rw [o1]; exact h4, by rw [o1]; exact h5, ?_, ?_⟩
    · intro i hi
      rw [o4 i (by omega)]
      exact h6 i hi
    · intro i j hij hj
      rw [o4 i (by omega), o4 j (by omega)]
      exact h7 i j hij hj
/-! what a slot holds of locks -/
def rx_hn (ss sn su : Nat → Int32) (o : Nat) : Nat := if ss o = 2 then (sn o).toNatClampNeg else if ss o = 3 then (su o).toNatClampNeg else 0
def rx_Hd (ss sn su ur : Nat → Int32) (ref : Int32) (o : Nat) : Prop := ∃ i, i < rx_hn ss sn su o ∧ ur (o * 4 + i) = ref
def rx_Ot (S : Nat) (ss sn su ur : Nat → Int32) (ref : Int32) (s : Nat) : Prop := ∃ o, o < S ∧ o ≠ s ∧ rx_Hd ss sn su ur ref o
theorem rx_hn2 {ss sn su : Nat → Int32} {o t : Nat} (h : ss o = 2) (e : sn o = nI t) (ht : t < 2 ^ 31) : rx_hn ss sn su o = t := by
  unfold rx_hn
  rw [if_pos h, e, nI_clamp ht]
theorem rx_hn3 {ss sn su : Nat → Int32} {o k : Nat} (h : ss o = 3) (e : su o = nI k) (hk : k < 2 ^ 31) : rx_hn ss sn su o = k := by
  unfold rx_hn
  rw [if_neg (by rw [h]; decide), if_pos h, e, nI_clamp hk]
theorem rx_hn0 {ss sn su : Nat → Int32} {o : Nat} (h2 : ¬ ss o = 2) (h3 : ¬ ss o = 3) : rx_hn ss sn su o = 0 := by
  unfold rx_hn
  rw [if_neg h2, if_neg h3]
theorem rx_hn4 {R : Nat} {ss sn su ur : Nat → Int32} {o : Nat} (h : rx_SI R ss sn su ur o) : rx_hn ss sn su o ≤ 4 := by
  obtain ⟨t, k, e2, e3, h1, h2, h3, h4, h5, h6⟩ := h
  by_cases a : ss o = 2
  · rw [rx_hn2 a e2 (by omega)]; have := h4 a; omega
  · by_cases c : ss o = 3
    · rw [rx_hn3 c e3 (by omega)]; omega
    · rw [rx_hn0 a c]; omega
