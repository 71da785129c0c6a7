section PZ10
variable {b n p : Nat} {cr : Int32} {va ss sn su ur ue un xr xo xn yr yn : Nat → Int32}
def pz_K (b n p : Nat) (va ss sn su ur xr xn yr yn : Nat → Int32) : Prop :=
  b < 8 ∧ n ≤ 8 ∧ p ≤ 3 ∧ (∀ s, s < 4 → rx_SI 4 ss sn su ur s) ∧ rx_LG 8 b n xr yr ∧ rx_LG 8 b n xn yn ∧ pz_NW n yr yn va ∧ pz_RG n yr
theorem pz_K_up {ss' sn' su' ur' : Nat → Int32} (K : pz_K b n p va ss sn su ur xr xn yr yn) (s0 : Nat) (h0 : rx_SI 4 ss' sn' su' ur' s0)
    (ho : ∀ s, s ≠ s0 → ss' s = ss s ∧ sn' s = sn s ∧ su' s = su s ∧ ∀ i, i < 4 → ur' (s * 4 + i) = ur (s * 4 + i)) : pz_K b n p va ss' sn' su' ur' xr xn yr yn := by
  obtain ⟨k1, k2, k3, k4, k5, k6, k7, k8⟩ := K
  exact ⟨k1, k2, k3, rx_SI_up k4 s0 h0 ho, k5, k6, k7, k8⟩
/-- what a run may do: nothing to the values and the count of entries, or the commit step -/
def pz_O (ur un : Nat → Int32) (s k n : Nat) (va : Nat → Int32) (x : Int32) (n' : Nat) (va' : Nat → Int32) (x' : Int32) : Prop :=
  (va' = va ∧ n' = n ∧ (x' = x ∨ (x = 2 ∧ (x' = 5 ∨ x' = 6)) ∨ (x = 3 ∧ x' = 4))) ∨ (x = 2 ∧ (x' = 3 ∨ x' = 4) ∧ va' = rx_vv ur un va s k ∧ n' = rx_cn 8 n k)
theorem pz_O_tr {s k n n1 n2 : Nat} {va va1 va2 : Nat → Int32} {x x1 x2 : Int32} (h : pz_O ur un s k n va x n1 va1 x1) (g : pz_O ur un s k n1 va1 x1 n2 va2 x2) : pz_O ur un s k n va x n2 va2 x2 := by
  rcases h with ⟨rfl, rfl, rfl | ⟨rfl, h⟩ | ⟨rfl, rfl⟩⟩ | ⟨rfl, h, e1, e2⟩
  · exact g
  · rcases g with ⟨rfl, rfl, rfl | ⟨z, _⟩ | ⟨z, _⟩⟩ | ⟨z, _⟩
    · exact Or.inl ⟨rfl, rfl, Or.inr (Or.inl ⟨rfl, h⟩)⟩
    · rw [z] at h; exact absurd h (by decide)
    · rw [z] at h; exact absurd h (by decide)
    · rw [z] at h; exact absurd h (by decide)
  · rcases g with ⟨rfl, rfl, rfl | ⟨z, _⟩ | ⟨z, _⟩⟩ | ⟨z, _⟩
    · exact Or.inl ⟨rfl, rfl, Or.inr (Or.inr ⟨rfl, rfl⟩)⟩
    · exact absurd z (by decide)
    · exact absurd z (by decide)
    · exact absurd z (by decide)
  · rcases g with ⟨rfl, rfl, rfl | ⟨z, _⟩ | ⟨_, z⟩⟩ | ⟨z, _⟩
    · exact Or.inr ⟨rfl, h, e1, e2⟩
    · rw [z] at h; exact absurd h (by decide)
    · exact Or.inr ⟨rfl, Or.inr z, e1, e2⟩
    · rw [z] at h; exact absurd h (by decide)
theorem pz_step {s t k : Nat} (hs : s < 2) (K : pz_K b n p va ss sn su ur xr xn yr yn) (hr : ss s = 2 ∨ ss s = 3) (et : sn s = nI t) (ek : su s = nI k) (hk : k ≤ 4) (hT : rx_Tk (ss s) t k) (hf : rx_RF 4 ur s k) :
    ∃ (b' n' : Nat) (va' ss' sn' xr' xo' xn' yr' yn' : Nat → Int32) (t' : Nat),
      pz_K b' n' p va' ss' sn' su ur xr' xn' yr' yn' ∧ sn' s = nI t' ∧ rx_Tk (ss' s) t' k ∧ ((ss' s = 2 ∨ ss' s = 3) → t' = t + 1) ∧ (∀ j, j ≠ s → ss' j = ss j) ∧ pz_O ur un s k n va (ss s) n' va' (ss' s) ∧
      (∀ post : St2 → Prop, post (nI 4, nI 8, nI 2, nI b', nI n', nI p, cr, va', ss', sn', su, ur, ue, un, xr', xo', xn') → wpX_takeStep post (nI 4, nI 8, nI 2, nI b, nI n, nI p, cr, va, ss, sn, su, ur, ue, un, xr, xo, xn) (nI s)) := by
  have K0 := K
  obtain ⟨k1, k2, k3, k4, k5, k6, k7, k8⟩ := K0
  have hs4 : s < 4 := by omega
  obtain ⟨T1, T2, T3⟩ := hT
  have up : ∀ (ss' sn' : Nat → Int32) (x : Int32) (t' : Nat), ss' s = x → sn' s = nI t' → rx_D9 x → rx_Tk x t' k → (∀ j, j ≠ s → ss' j = ss j ∧ sn' j = sn j) → pz_K b n p va ss' sn' su ur xr xn yr yn := by
    intro ss' sn' x t' ex et' hD hT' ho
    exact pz_K_up K s (rx_SI_mk ex et' ek hk hT'.1 hD hT'.2.1 hT'.2.2 hf) (fun j hj => ⟨(ho j hj).1, (ho j hj).2, rfl, fun _ _ => rfl⟩)
  by_cases c1 : t < k
  · have e2 : ss s = 2 := by
      rcases hr with z | z
      · exact z
      · have := T3 z; omega
    by_cases ho : rx_Ot 2 ss sn su ur (ur (s * 4 + t)) s
    · have hT' : rx_Tk 5 t k := ⟨T1, fun z => absurd z (by decide), fun z => absurd z (by decide)⟩
      refine ⟨b, n, va, upd ss s 5, sn, xr, xo, xn, yr, yn, t, up (upd ss s 5) sn 5 t pk_us et rx_d5 hT' (fun j hj => ⟨pk_un hj, rfl⟩), et, by rw [pk_us]; exact hT', fun z => ?_, fun j hj => pk_un hj, ?_, fun post hp => ?_⟩
      · rw [pk_us] at z; exact absurd z (by decide)
      · rw [pk_us]; exact Or.inl ⟨rfl, rfl, Or.inr (Or.inl ⟨e2, Or.inl rfl⟩)⟩
      · exact rx_xStepL hs4 (by omega) (by omega) k4 et ek hk c1 hf (fun _ => hp) (fun z => absurd ho z) (fun z => absurd ho z)
    · by_cases hm : ue (s * 4 + t) = -1 ∨ ue (s * 4 + t) = va (ur (s * 4 + t)).toNatClampNeg
      · have hT' : rx_Tk (ss s) (t + 1) k := ⟨by omega, fun _ => by omega, fun z => absurd (e2.symm.trans z) (by decide)⟩
        exact ⟨b, n, va, ss, upd sn s (nI (t + 1)), xr, xo, xn, yr, yn, t + 1, up ss (upd sn s (nI (t + 1))) (ss s) (t + 1) rfl pk_us (by rw [e2]; exact rx_d2) hT' (fun j hj => ⟨rfl, pk_un hj⟩), pk_us, hT', fun _ => rfl, fun _ _ => rfl, Or.inl ⟨rfl, rfl, Or.inl rfl⟩, fun post hp => rx_xStepL hs4 (by omega) (by omega) k4 et ek hk c1 hf (fun z => absurd z ho) (fun _ a c => absurd hm (fun z => z.elim a c)) (fun _ _ => hp)⟩
      · have hT' : rx_Tk 6 t k := ⟨T1, fun z => absurd z (by decide), fun z => absurd z (by decide)⟩
        refine ⟨b, n, va, upd ss s 6, sn, xr, xo, xn, yr, yn, t, up (upd ss s 6) sn 6 t pk_us et rx_d6 hT' (fun j hj => ⟨pk_un hj, rfl⟩), et, by rw [pk_us]; exact hT', fun z => ?_, fun j hj => pk_un hj, ?_, fun post hp => ?_⟩
        · rw [pk_us] at z; exact absurd z (by decide)
        · rw [pk_us]; exact Or.inl ⟨rfl, rfl, Or.inr (Or.inl ⟨e2, Or.inr rfl⟩)⟩
        · exact rx_xStepL hs4 (by omega) (by omega) k4 et ek hk c1 hf (fun z => absurd z ho) (fun _ _ _ => hp) (fun _ z => absurd z hm)
  · by_cases c2 : t = k
    · subst c2
      have e2 : ss s = 2 := by
        rcases hr with z | z
        · exact z
        · have := T3 z; omega
      have hT' : rx_Tk 3 (t + 1) t := ⟨by omega, fun z => absurd z (by decide), fun _ => by omega⟩
      refine ⟨rx_cb 8 b n t, rx_cn 8 n t, rx_vv ur un va s t, upd ss s 3, upd sn s (nI (t + 1)), rx_cx (rx_fr ur s) 8 b n xr t, rx_cx (rx_fo va ur s) 8 b n xo t, rx_cx (rx_fr un s) 8 b n xn t, rx_ca (rx_fr ur s) 8 n yr t, rx_ca (rx_fr un s) 8 n yn t, t + 1, ?_, pk_us, by rw [pk_us]; exact hT', fun _ => rfl, fun j hj => pk_un hj, ?_, fun post hp => ?_⟩
      · obtain ⟨_, _, _, u4, _⟩ := up (upd ss s 3) (upd sn s (nI (t + 1))) 3 (t + 1) pk_us pk_us rx_d3 hT' (fun j hj => ⟨pk_un hj, pk_un hj⟩)
        have nw := pz_nwc (L := 8) (by omega) k2 hf (un := un) k7 k8 t (Nat.le_refl t)
        exact ⟨rx_cb_lt (by omega) k1 t, rx_cn_le (by omega) k2 t, k3, u4, rx_c_lg (by omega) k1 k2 k5 t, rx_c_lg (by omega) k1 k2 k6 t, nw.1, nw.2⟩
      · rw [pk_us]; exact Or.inr ⟨e2, Or.inl rfl, rfl, rfl⟩
      · exact rx_xStepC hs4 hk (by omega) (by omega) (by omega) k1 k2 hf et ek hp
    · have e3 : ss s = 3 := by
        rcases hr with z | z
        · have := T2 z; omega
        · exact z
      have T3' := T3 e3
      by_cases c3 : t ≤ 2 * k
      · have hT' : rx_Tk (ss s) (t + 1) k := ⟨by omega, fun z => absurd (e3.symm.trans z) (by decide), fun _ => by omega⟩
        exact ⟨b, n, va, ss, upd sn s (nI (t + 1)), xr, xo, xn, yr, yn, t + 1, up ss (upd sn s (nI (t + 1))) (ss s) (t + 1) rfl pk_us (by rw [e3]; exact rx_d3) hT' (fun j hj => ⟨rfl, pk_un hj⟩), pk_us, hT', fun _ => rfl, fun _ _ => rfl, Or.inl ⟨rfl, rfl, Or.inl rfl⟩, fun post hp => rx_xStepA hs4 hk et ek (by omega) c3 hp⟩
      · obtain rfl : t = 2 * k + 1 := by omega
        have hT' : rx_Tk 4 (2 * k + 2) k := ⟨by omega, fun z => absurd z (by decide), fun z => absurd z (by decide)⟩
        refine ⟨b, n, va, upd ss s 4, upd sn s (nI (2 * k + 2)), xr, xo, xn, yr, yn, 2 * k + 2, up (upd ss s 4) (upd sn s (nI (2 * k + 2))) 4 (2 * k + 2) pk_us pk_us rx_d4 hT' (fun j hj => ⟨pk_un hj, pk_un hj⟩), pk_us, by rw [pk_us]; exact hT', fun _ => rfl, fun j hj => pk_un hj, ?_, fun post hp => rx_xStepD hs4 hk et ek hp⟩
        rw [pk_us]; exact Or.inl ⟨rfl, rfl, Or.inr (Or.inr ⟨e3, rfl⟩)⟩
theorem pz_run {s k c t0 m : Nat} (hs : s < 2) (ek : su s = nI k) (hk : k ≤ 4) (hf : rx_RF 4 ur s k) (hm : m ≤ c) (hm2 : m < 2 ^ 31) (hm3 : ∀ i, i < c → t0 + i < 2 * k + 2 → i < m) :
    ∀ (d i b n : Nat) (va ss sn xr xo xn yr yn : Nat → Int32) (t : Nat), pz_K b n p va ss sn su ur xr xn yr yn → sn s = nI t → rx_Tk (ss s) t k → ((ss s = 2 ∨ ss s = 3) → t + d = 2 * k + 2 ∧ t = t0 + i) → i + d ≤ 10 →
    ∃ (b' n' : Nat) (va' ss' sn' xr' xo' xn' yr' yn' : Nat → Int32) (r : Int32),
      pz_K b' n' p va' ss' sn' su ur xr' xn' yr' yn' ∧ (∀ j, j ≠ s → ss' j = ss j) ∧ pz_O ur un s k n va (ss s) n' va' (ss' s) ∧
      (∀ post : Int32 → St2 → Prop, post r (nI 4, nI 8, nI 2, nI b', nI n', nI p, cr, va', ss', sn', su, ur, ue, un, xr', xo', xn') → wX_run_86 post (nI s) (nI t0) (nI m) (d + 1) (nI i) (nI 4) (nI 8) (nI 2) (nI b) (nI n) (nI p) cr va ss sn su ur ue un xr xo xn) := by
  have hs4 : s < 4 := by omega
  have hv : vp_in (nI s) 4 := vp_in_nI hs4 (by omega)
  have es : (nI s).toNatClampNeg = s := nI_clamp (by omega)
  intro d
  induction d with
  | zero =>
    intro i b n va ss sn xr xo xn yr yn t K et hT hd hi
    have hr : ¬ (ss s = 2 ∨ ss s = 3) := by
      intro hr
      have h1 := hd hr
      rcases hr with z | z
      · have := hT.2.1 z; omega
      · have := hT.2.2 z; omega
    exact ⟨b, n, va, ss, sn, xr, xo, xn, yr, yn, sn (nI s).toNatClampNeg - nI t0, K, fun _ _ => rfl, Or.inl ⟨rfl, rfl, Or.inl rfl⟩, fun post hp => br_c (fun _ => ⟨hv, hp⟩) (fun _ => rx_xRun0 hs4 hr (br_t rfl ⟨hv, hp⟩))⟩
  | succ d ih =>
    intro i b n va ss sn xr xo xn yr yn t K et hT hd hi
    by_cases hr : ss s = 2 ∨ ss s = 3
    · have h1 := hd hr
      by_cases hci : i < c
      · have hmi : i < m := hm3 i hci (by omega)
        obtain ⟨b1, n1, va1, ss1, sn1, xr1, xo1, xn1, yr1, yn1, t1, K1, et1, hT1, hd1, ho1, hO1, hX⟩ := pz_step (cr := cr) (ue := ue) (un := un) (xo := xo) hs K hr et ek hk hT hf
        obtain ⟨b2, n2, va2, ss2, sn2, xr2, xo2, xn2, yr2, yn2, r2, K2, ho2, hO2, iX⟩ := ih (i + 1) b1 n1 va1 ss1 sn1 xr1 xo1 xn1 yr1 yn1 t1 K1 et1 hT1 (fun z => by have := hd1 z; omega) (by omega)
        exact ⟨b2, n2, va2, ss2, sn2, xr2, xo2, xn2, yr2, yn2, r2, K2, fun j hj => (ho2 j hj).trans (ho1 j hj), pz_O_tr hO1 hO2, fun post hp => br_f (nI_ge hmi hm2) (rx_xRun1 hs4 hr (br_f (by decide) (hX _ (nm_r (nI_1 i) (iX post hp)))))⟩
      · exact ⟨b, n, va, ss, sn, xr, xo, xn, yr, yn, sn (nI s).toNatClampNeg - nI t0, K, fun _ _ => rfl, Or.inl ⟨rfl, rfl, Or.inl rfl⟩, fun post hp => br_t (nI_le (by omega) (by omega)) ⟨hv, hp⟩⟩
    · exact ⟨b, n, va, ss, sn, xr, xo, xn, yr, yn, sn (nI s).toNatClampNeg - nI t0, K, fun _ _ => rfl, Or.inl ⟨rfl, rfl, Or.inl rfl⟩, fun post hp => br_c (fun _ => ⟨hv, hp⟩) (fun _ => rx_xRun0 hs4 hr (br_t rfl ⟨hv, hp⟩))⟩
/-- run, whole: some answer, and a state as pz_O says -/
theorem pz_runM {s k c : Nat} {post : Int32 → St2 → Prop} (c0 : cr = 0) (hs : s < 2) (ek : su s = nI k) (hk : k ≤ 4) (hc : c < 2 ^ 31) (hc1 : 1 ≤ c) (K : pz_K b n p va ss sn su ur xr xn yr yn)
    (h : ∀ (r : Int32) (b' n' : Nat) (va' ss' sn' xr' xo' xn' yr' yn' : Nat → Int32), pz_K b' n' p va' ss' sn' su ur xr' xn' yr' yn' → (∀ j, j ≠ s → ss' j = ss j) → pz_O ur un s k n va (ss s) n' va' (ss' s) →
      post r (nI 4, nI 8, nI 2, nI b', nI n', nI p, cr, va', ss', sn', su, ur, ue, un, xr', xo', xn')) : wpX_run post (nI 4, nI 8, nI 2, nI b, nI n, nI p, cr, va, ss, sn, su, ur, ue, un, xr, xo, xn) (nI s) (nI c) := by
  have hs4 : s < 4 := by omega
  have hv : vp_in (nI s) 4 := vp_in_nI hs4 (by omega)
  have es : (nI s).toNatClampNeg = s := nI_clamp (by omega)
  have a1 : (1 : Int32) ≤ nI c := nI_le (a := 1) hc1 hc
  have same : ∀ r, post r (nI 4, nI 8, nI 2, nI b, nI n, nI p, cr, va, ss, sn, su, ur, ue, un, xr, xo, xn) := fun r => h r b n va ss sn xr xo xn yr yn K (fun _ _ => rfl) (Or.inl ⟨rfl, rfl, Or.inl rfl⟩)
  obtain ⟨t, q, et, eq, hq4, ht, hD, h2, h3, hf⟩ := K.2.2.2.1 s hs4
  have eqk : q = k := (nI_eq (by omega) (by omega)).mp (eq.symm.trans ek)
  subst eqk
  by_cases hu : ss s = 2 ∨ ss s = 3
  · by_cases hp : p < 3
    · exact br_t c0 (rx_xSl1 hs (by omega) (br_f (by decide) (br_t a1 (rx_xRun1 hs4 hu (br_f (by decide) (pz_xPk1 hp (br_f (by decide) (same _))))))))
    · have lp : ∀ m, m ≤ c → m < 2 ^ 31 → (∀ i, i < c → t + i < 2 * q + 2 → i < m) → ∃ n86 : Nat, wX_run_86 post (nI s) (nI t) (nI m) n86 0 (nI 4) (nI 8) (nI 2) (nI b) (nI n) (nI p) cr va ss sn su ur ue un xr xo xn := by
        intro m hm hm2 hm3
        obtain ⟨b', n', va', ss', sn', xr', xo', xn', yr', yn', r, K', ho', hO', hX⟩ := pz_run (cr := cr) (ue := ue) (un := un) hs ek hk hf hm hm2 hm3 (2 * q + 2 - t) 0 b n va ss sn xr xo xn yr yn t K et ⟨ht, h2, h3⟩ (fun _ => by omega) (by omega)
        exact ⟨_, hX _ (h r b' n' va' ss' sn' xr' xo' xn' yr' yn' K' ho' hO')⟩
      have el : 2 * su (nI s).toNatClampNeg + 2 - nI t = nI (2 * q + 2 - t) := by rw [es, ek, rx_l2, pk_sub ht]
      refine br_t c0 (rx_xSl1 hs (by omega) (br_f (by decide) (br_t a1 (rx_xRun1 hs4 hu (br_f (by decide) (pz_xPk0 hp K.2.2.1 (br_t rfl ⟨hv, nm_r (e' := nI t) (by rw [es]; exact et) ⟨hv, nm_r el ?_⟩⟩)))))))
      by_cases hl : 2 * q + 2 - t ≤ c
      · exact br_t (nI_le hl hc) (lp (2 * q + 2 - t) hl (by omega) (fun i _ h => by omega))
      · exact br_f (nI_ge (by omega) (by omega)) (lp c (Nat.le_refl c) hc (fun i h _ => h))
  · exact br_t c0 (rx_xSl1 hs (by omega) (br_f (by decide) (br_t a1 (rx_xRun0 hs4 hu (br_t rfl (same _))))))
end PZ10
