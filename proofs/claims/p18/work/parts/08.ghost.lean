section PZ8
/-! the newest entry of each ref holds its value -/
def pz_NW (n : Nat) (yr yn va : Nat → Int32) : Prop := ∀ i, i < n → (∀ j, i < j → j < n → ¬ yr j = yr i) → yn i = va (yr i).toNatClampNeg
def pz_RG (n : Nat) (yr : Nat → Int32) : Prop := ∀ i, i < n → ∃ r, r < 4 ∧ yr i = nI r
theorem pz_nw1 {n r0 : Nat} {yr yn va : Nat → Int32} {w : Int32} (hr : r0 < 4) (h : pz_NW n yr yn va) (g : pz_RG n yr) :
    pz_NW (n + 1) (upd yr n (nI r0)) (upd yn n w) (upd va r0 w) ∧ pz_RG (n + 1) (upd yr n (nI r0)) := by
  constructor
  · intro i hi hj
    by_cases e : i = n
    · subst e
      rw [pk_us, pk_us, nI_clamp (by omega), pk_us]
    · obtain ⟨r, hr4, er⟩ := g i (by omega)
      have hne := hj n (by omega) (by omega)
      rw [pk_us, pk_un e, er] at hne
      have hrr : r ≠ r0 := fun z => hne (by rw [z])
      have hh := h i (by omega) (fun j h1 h2 => by
        have := hj j h1 (by omega)
        rw [pk_un (show j ≠ n by omega), pk_un e] at this
        exact this)
      rw [pk_un e, pk_un e, hh, er, nI_clamp (by omega), pk_un hrr]
  · intro i hi
    by_cases e : i = n
    · rw [e, pk_us]; exact ⟨r0, hr, rfl⟩
    · rw [pk_un e]; exact g i (by omega)
theorem pz_nw2 {n : Nat} {yr yn va : Nat → Int32} (h : pz_NW n yr yn va) (g : pz_RG n yr) : pz_NW (n - 1) (rx_sh yr n) (rx_sh yn n) va ∧ pz_RG (n - 1) (rx_sh yr n) := by
  have sh : ∀ (a : Nat → Int32) i, i < n - 1 → rx_sh a n i = a (i + 1) := fun a i hi => if_pos (by omega)
  constructor
  · intro i hi hj
    rw [sh yn i hi, sh yr i hi]
    refine h (i + 1) (by omega) (fun j h1 h2 => ?_)
    have := hj (j - 1) (by omega) (by omega)
    rw [sh yr i hi, sh yr (j - 1) (by omega), show j - 1 + 1 = j by omega] at this
    exact this
  · intro i hi
    rw [sh yr i hi]
    exact g (i + 1) (by omega)
theorem pz_nw {L n r0 : Nat} {yr yn va : Nat → Int32} {w : Int32} (hL : 0 < L) (hn : n ≤ L) (hr : r0 < 4) (h : pz_NW n yr yn va) (g : pz_RG n yr) :
    pz_NW (rx_nn L n + 1) (rx_ap yr L n (nI r0)) (rx_ap yn L n w) (upd va r0 w) ∧ pz_RG (rx_nn L n + 1) (rx_ap yr L n (nI r0)) := by
  by_cases hl : n < L
  · have e1 : rx_nn L n = n := if_pos hl
    have ea : ∀ (y : Nat → Int32) (r : Int32), rx_ap y L n r = upd y n r := fun y r => by unfold rx_ap; rw [if_pos hl, e1]
    rw [e1, ea, ea]
    exact pz_nw1 hr h g
  · have e1 : rx_nn L n = n - 1 := if_neg hl
    have ea : ∀ (y : Nat → Int32) (r : Int32), rx_ap y L n r = upd (rx_sh y n) (n - 1) r := fun y r => by unfold rx_ap; rw [if_neg hl, e1]
    rw [e1, ea, ea]
    have h2 := pz_nw2 h g
    exact pz_nw1 hr h2.1 h2.2
theorem pz_nwc {L n k s : Nat} {ur un va yr yn : Nat → Int32} (hL : 0 < L) (hn : n ≤ L) (hf : rx_RF 4 ur s k) (h : pz_NW n yr yn va) (g : pz_RG n yr) :
    ∀ i, i ≤ k → pz_NW (rx_cn L n i) (rx_ca (rx_fr ur s) L n yr i) (rx_ca (rx_fr un s) L n yn i) (rx_vv ur un va s i) ∧ pz_RG (rx_cn L n i) (rx_ca (rx_fr ur s) L n yr i) := by
  intro i
  induction i with
  | zero => intro _; exact ⟨h, g⟩
  | succ i ih =>
    intro hi
    obtain ⟨h1, g1⟩ := ih (by omega)
    obtain ⟨r, hr, er⟩ := hf.1 i (by omega)
    have st := pz_nw (w := un (s * 4 + i)) hL (rx_cn_le hL hn i) hr h1 g1
    have e2 : rx_vv ur un va s (i + 1) = upd (rx_vv ur un va s i) r (un (s * 4 + i)) := by
      show upd (rx_vv ur un va s i) (ur (s * 4 + i)).toNatClampNeg (un (s * 4 + i)) = _
      rw [er, nI_clamp (by omega)]
    have e3 : rx_ca (rx_fr ur s) L n yr (i + 1) = rx_ap (rx_ca (rx_fr ur s) L n yr i) L (rx_cn L n i) (nI r) := by
      show rx_ap (rx_ca (rx_fr ur s) L n yr i) L (rx_cn L n i) (ur (s * 4 + i)) = _
      rw [er]
    rw [e2, e3]
    exact st
theorem pz_cn {L n : Nat} (hL : 0 < L) (hn : n ≤ L) : ∀ i, rx_cn L n i = if n + i ≤ L then n + i else L := by
  intro i
  induction i with
  | zero => rw [if_pos (by omega)]; rfl
  | succ i ih =>
    show rx_nn L (rx_cn L n i) + 1 = _
    rw [ih]
    unfold rx_nn
    by_cases h : n + i < L
    · rw [if_pos (show n + i ≤ L by omega), if_pos h, if_pos (by omega)]; omega
    · by_cases h2 : n + i ≤ L
      · rw [if_pos h2, if_neg h, if_neg (by omega)]; omega
      · rw [if_neg h2, if_neg (by omega), if_neg (by omega)]; omega
/-! the law's picture of the values, and of a slot -/
def pz_V (x : Int64) (va : Nat → Int32) : Prop := ∃ m, m < 65536 ∧ x = lN m ∧ ∀ r, r < 4 → va r = nI (m / 16 ^ r % 16)
def pz_G (x : Int64) (j : Nat) (ss su ur un : Nat → Int32) : Prop :=
  ∃ m k : Nat, x = lN m ∧ su j = nI k ∧ k ≤ 4 ∧ m % 8 = k ∧ m < 2 ^ (4 + 6 * k) ∧ (m / 8 % 2 = 1 ↔ (ss j = 3 ∨ ss j = 4)) ∧
    ∀ i, i < k → ur (j * 4 + i) = nI (m / 2 ^ (4 + 6 * i) % 4) ∧ un (j * 4 + i) = nI (m / 2 ^ (6 + 6 * i) % 16)
/-- the facts of a slot's picture rest on its own cells alone -/
theorem pz_G_eq {x : Int64} {j : Nat} {ss su ur un ss' su' ur' un' : Nat → Int32} (h : pz_G x j ss su ur un) (h1 : (ss' j = 3 ∨ ss' j = 4) ↔ (ss j = 3 ∨ ss j = 4)) (h2 : su' j = su j)
    (h3 : ∀ i, i < 4 → ur' (j * 4 + i) = ur (j * 4 + i) ∧ un' (j * 4 + i) = un (j * 4 + i)) : pz_G x j ss' su' ur' un' := by
  obtain ⟨m, k, e1, e2, g1, g2, g3, g4, g5⟩ := h
  refine ⟨m, k, e1, h2.trans e2, g1, g2, g3, g4.trans h1.symm, fun i hi => ?_⟩
  rw [(h3 i (by omega)).1, (h3 i (by omega)).2]
  exact g5 i hi
theorem pz_G0 {j : Nat} {ss su ur un : Nat → Int32} (h : su j = 0) (h1 : ¬ (ss j = 3 ∨ ss j = 4)) : pz_G 0 j ss su ur un :=
  ⟨0, 0, rfl, h, by omega, rfl, by decide, ⟨fun z => absurd z (by decide), fun z => absurd z h1⟩, fun i hi => absurd hi (by omega)⟩
theorem pz_p16 (k : Nat) (hk : k ≤ 4) : 2 ^ (4 + 6 * k) ≤ 2 ^ 28 := Nat.pow_le_pow_right (by decide) (by omega)
/-- one more update in the picture -/
theorem pz_Gadd {x : Int64} {j k r w : Nat} {ss su ur un ue : Nat → Int32} (h : pz_G x j ss su ur un) (ek : su j = nI k) (hk : k < 4) (hr : r < 4) (hw : w < 16) (hs : ss j = 1) :
    ∃ m, x = lN m ∧ m < 2 ^ 22 ∧ m % 8 = k ∧ m < 2 ^ (4 + 6 * k) ∧ pz_G (lN (m + 1 + (r + 4 * w) * 2 ^ (4 + 6 * k))) j ss (upd su j (nI (k + 1))) (upd ur (j * 4 + k) (nI r)) (upd un (j * 4 + k) (nI w)) := by
  obtain ⟨m, k', e1, e2, g1, g2, g3, g4, g5⟩ := h
  have ekk : k' = k := (nI_eq (by omega) (by omega)).mp (e2.symm.trans ek)
  subst ekk
  have hp : 2 ^ (4 + 6 * k') ≤ 2 ^ 22 := Nat.pow_le_pow_right (by decide) (by omega)
  have ha : m / 8 % 2 = 0 := by
    have : ¬ m / 8 % 2 = 1 := fun z => by
      rcases g4.mp z with q | q
      · rw [hs] at q; exact absurd q (by decide)
      · rw [hs] at q; exact absurd q (by decide)
    omega
  refine ⟨m, e1, by omega, g2, g3, m + 1 + (r + 4 * w) * 2 ^ (4 + 6 * k'), k' + 1, rfl, pk_us, by omega, ?_, ?_, ?_, fun i hi => ?_⟩
  · have c : k' = 0 ∨ k' = 1 ∨ k' = 2 ∨ k' = 3 := by omega
    rcases c with rfl | rfl | rfl | rfl <;> omega
  · have c : k' = 0 ∨ k' = 1 ∨ k' = 2 ∨ k' = 3 := by omega
    rcases c with rfl | rfl | rfl | rfl <;> omega
  · have c : k' = 0 ∨ k' = 1 ∨ k' = 2 ∨ k' = 3 := by omega
    have z : (m + 1 + (r + 4 * w) * 2 ^ (4 + 6 * k')) / 8 % 2 = 0 := by
      rcases c with rfl | rfl | rfl | rfl <;> omega
    rw [z, hs]
    decide
  · by_cases e : i = k'
    · rw [e, pk_us, pk_us]
      have c : k' = 0 ∨ k' = 1 ∨ k' = 2 ∨ k' = 3 := by omega
      have z1 : (m + 1 + (r + 4 * w) * 2 ^ (4 + 6 * k')) / 2 ^ (4 + 6 * k') % 4 = r := by
        rcases c with rfl | rfl | rfl | rfl <;> omega
      have z2 : (m + 1 + (r + 4 * w) * 2 ^ (4 + 6 * k')) / 2 ^ (6 + 6 * k') % 16 = w := by
        rcases c with rfl | rfl | rfl | rfl <;> omega
      rw [z1, z2]
      exact ⟨rfl, rfl⟩
    · have hi' : i < k' := by omega
      rw [pk_un (show j * 4 + i ≠ j * 4 + k' by omega), pk_un (show j * 4 + i ≠ j * 4 + k' by omega), (g5 i hi').1, (g5 i hi').2]
      have c : k' = 1 ∨ k' = 2 ∨ k' = 3 := by omega
      have c2 : i = 0 ∨ i = 1 ∨ i = 2 := by omega
      have z1 : (m + 1 + (r + 4 * w) * 2 ^ (4 + 6 * k')) / 2 ^ (4 + 6 * i) % 4 = m / 2 ^ (4 + 6 * i) % 4 := by
        rcases c with rfl | rfl | rfl <;> rcases c2 with rfl | rfl | rfl <;> omega
      have z2 : (m + 1 + (r + 4 * w) * 2 ^ (4 + 6 * k')) / 2 ^ (6 + 6 * i) % 16 = m / 2 ^ (6 + 6 * i) % 16 := by
        rcases c with rfl | rfl | rfl <;> rcases c2 with rfl | rfl | rfl <;> omega
      rw [z1, z2]
      exact ⟨rfl, rfl⟩
/-- a slot's picture marked as applied -/
theorem pz_Gap {x : Int64} {j : Nat} {ss su ur un ss' : Nat → Int32} (h : pz_G x j ss su ur un) (hs : ¬ (ss j = 3 ∨ ss j = 4)) (hs' : ss' j = 3 ∨ ss' j = 4) : pz_G (x ||| 8) j ss' su ur un := by
  obtain ⟨m, k, e1, e2, g1, g2, g3, g4, g5⟩ := h
  have hp := pz_p16 k g1
  have ha : m / 8 % 2 = 0 := by
    have : ¬ m / 8 % 2 = 1 := fun z => hs (g4.mp z)
    omega
  refine ⟨m + 8, k, by rw [e1, pz_or8 (by omega) ha], e2, g1, by omega, ?_, ⟨fun _ => hs', fun _ => by omega⟩, fun i hi => ?_⟩
  · have c : k = 0 ∨ k = 1 ∨ k = 2 ∨ k = 3 ∨ k = 4 := by omega
    rcases c with rfl | rfl | rfl | rfl | rfl <;> omega
  · rw [(g5 i hi).1, (g5 i hi).2]
    have c2 : i = 0 ∨ i = 1 ∨ i = 2 ∨ i = 3 := by omega
    have z1 : (m + 8) / 2 ^ (4 + 6 * i) % 4 = m / 2 ^ (4 + 6 * i) % 4 := by
      rcases c2 with rfl | rfl | rfl | rfl <;> omega
    have z2 : (m + 8) / 2 ^ (6 + 6 * i) % 16 = m / 2 ^ (6 + 6 * i) % 16 := by
      rcases c2 with rfl | rfl | rfl | rfl <;> omega
    rw [z1, z2]
    exact ⟨rfl, rfl⟩
/-! the law's own small methods -/
theorem pz_wGet {post : Int32 → Prop} {x : Int64} {va : Nat → Int32} {r : Nat} (hv : pz_V x va) (hr : r < 4) (hp : post (va r)) : wpL_getV post () x (nI r) := by
  obtain ⟨m, hm, rfl, h⟩ := hv
  unfold wpL_getV
  rw [pz_getV (by omega) hr, ← h r hr]
  exact hp
theorem pz_wCnt {post : Int32 → Prop} {x : Int64} {j k : Nat} {ss su ur un : Nat → Int32} (h : pz_G x j ss su ur un) (ek : su j = nI k) (hk : k ≤ 4) (hp : post (nI k)) : wpL_cnt post () x := by
  obtain ⟨m, k', rfl, e2, g1, g2, g3, g4, g5⟩ := h
  have ekk : k' = k := (nI_eq (by omega) (by omega)).mp (e2.symm.trans ek)
  have h1 := pz_p16 k' g1
  unfold wpL_cnt
  rw [pz_cnt (by omega), g2, ekk]
  exact hp
theorem pz_wApp {post : Int32 → Prop} {x : Int64} {j : Nat} {ss su ur un : Nat → Int32} (h : pz_G x j ss su ur un) (h1 : (ss j = 3 ∨ ss j = 4) → post 1) (h0 : ¬ (ss j = 3 ∨ ss j = 4) → post 0) : wpL_applied post () x := by
  obtain ⟨m, k, rfl, e2, g1, g2, g3, g4, g5⟩ := h
  have hp := pz_p16 k g1
  unfold wpL_applied
  rw [pz_bit3 (by omega)]
  by_cases a : m / 8 % 2 = 1
  · rw [a]
    exact br_f (by decide) (h1 (g4.mp a))
  · have a0 : m / 8 % 2 = 0 := by omega
    rw [a0]
    exact br_t (by decide) (h0 (fun z => a (g4.mpr z)))
/-- the updates of a slot applied: the values are those of the commit step -/
theorem pz_all {post : Int64 → Prop} {x : Int64} {j k : Nat} {ss su ur un va : Nat → Int32} (h : pz_G x j ss su ur un) (ek : su j = nI k) (hk : k ≤ 4)
    (hp : ∀ y, pz_V y (rx_vv ur un va j k) → post y) : ∀ d i y, i + d = k → pz_V y (rx_vv ur un va j i) → wL_applyAll_9 post x (nI k) (d + 1) y (nI i) := by
  obtain ⟨m, k', rfl, e2, g1, g2, g3, g4, g5⟩ := h
  have ekk : k' = k := (nI_eq (by omega) (by omega)).mp (e2.symm.trans ek)
  subst ekk
  have h1 := pz_p16 k' g1
  intro d
  induction d with
  | zero =>
    intro i y hi hv
    obtain rfl : i = k' := by omega
    exact br_t (nI_le (by omega) (by omega)) (hp y hv)
  | succ d ih =>
    intro i y hi hv
    have hr : m / 2 ^ (4 + 6 * i) % 4 < 4 := Nat.mod_lt _ (by decide)
    have hw : m / 2 ^ (6 + 6 * i) % 16 < 16 := Nat.mod_lt _ (by decide)
    obtain ⟨u, hu, rfl, hvu⟩ := hv
    obtain ⟨u', hu', es, e0, eo⟩ := pz_setV (m := u) hu hr hw
    refine br_f (nI_ge (by omega) (by omega)) (br_f (nI_ge (b := 4) (by omega) (by decide)) ?_)
    unfold wpL_uRef wpL_uNew wpL_setV
    rw [pz_uRef (by omega) (by omega), pz_uNew (by omega) (by omega)]
    dsimp only
    rw [es]
    refine nm_r (nI_1 i) (ih (i + 1) (lN u') (by omega) ⟨u', hu', rfl, fun q hq => ?_⟩)
    show upd (rx_vv ur un va j i) (ur (j * 4 + i)).toNatClampNeg (un (j * 4 + i)) q = _
    rw [(g5 i (by omega)).1, (g5 i (by omega)).2, nI_clamp (by omega)]
    by_cases e : q = m / 2 ^ (4 + 6 * i) % 4
    · rw [e, pk_us, e0]
    · rw [pk_un e, eo q hq e]; exact hvu q hq
theorem pz_wAll {post : Int64 → Prop} {x y : Int64} {j k : Nat} {ss su ur un va : Nat → Int32} (h : pz_G x j ss su ur un) (ek : su j = nI k) (hk : k ≤ 4) (hv : pz_V y va)
    (hp : ∀ y, pz_V y (rx_vv ur un va j k) → post y) : wpL_applyAll post () y x := by
  unfold wpL_applyAll
  exact pz_wCnt h ek hk ⟨k + 1, pz_all h ek hk hp k 0 y (by omega) hv⟩
theorem pz_wAdd {post : Int64 → Prop} {m k r w : Nat} (hk : k < 4) (hm : m < 2 ^ (4 + 6 * k)) (h8 : m % 8 = k) (hr : r < 4) (hw : w < 16) (hp : post (lN (m + 1 + (r + 4 * w) * 2 ^ (4 + 6 * k)))) : wpL_addU post () (lN m) (nI r) (nI w) := by
  have h1 := pz_p16 k (by omega)
  unfold wpL_addU wpL_cnt
  rw [pz_cnt (by omega), h8]
  refine nm_e ?_
  rw [pz_addU hk hm h8 hr hw]
  exact hp
end PZ8
