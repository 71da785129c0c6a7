section
/-! ===== lN n to 2^64: shifts, and, or, masks, one bit ===== -/
theorem wb_tb (n : Nat) : (lN n).toBitVec = BitVec.ofNat 64 n := rfl
theorem wb_inj {a b : Int64} (h : a.toBitVec = b.toBitVec) : a = b := Int64.toBitVec_inj.mp h
theorem wb_tn {n : Nat} (h : n < 2 ^ 64) : (lN n).toBitVec.toNat = n := by rw [wb_tb, BitVec.toNat_ofNat, Nat.mod_eq_of_lt h]
theorem wb_of (x : Int64) : ∃ n, n < 2 ^ 64 ∧ x = lN n := ⟨x.toBitVec.toNat, x.toBitVec.isLt, wb_inj (by rw [wb_tb]; simp)⟩
theorem wb_of32 (x : Int32) : ∃ n, n < 2 ^ 32 ∧ x = nI n := ⟨x.toBitVec.toNat, x.toBitVec.isLt, Int32.toBitVec_inj.mp (by show _ = BitVec.ofNat 32 _; simp)⟩
theorem wb_c : ∀ k, k < 64 → ((nI k).toInt64 &&& 63) = lN k := by decide +kernel
theorem wb_cu : ∀ k, k < 64 → ((nI k).toInt64.toUInt64 &&& Int64.toUInt64 63) = UInt64.ofNat k := by decide +kernel
theorem wb_sm : ∀ k, k < 64 → (BitVec.ofNat 64 k).smod 64 = BitVec.ofNat 64 k := by decide +kernel
theorem wb_pw {a b : Nat} (h : a ≤ b) : 2 ^ b = 2 ^ a * 2 ^ (b - a) := by rw [← Nat.pow_add]; congr 1; omega
theorem wb_lt2 {a b : Nat} (h : a < b) : 2 ^ a < 2 ^ b := Nat.pow_lt_pow_right (by decide) h
theorem wb_mod (n : Nat) : lN n = lN (n % 2 ^ 64) := wb_inj (by rw [wb_tb, wb_tb]; apply BitVec.eq_of_toNat_eq; rw [BitVec.toNat_ofNat, BitVec.toNat_ofNat, Nat.mod_mod])
theorem wb_shr {n k : Nat} (hn : n < 2 ^ 64) (hk : k < 64) : ((lN n).toUInt64 >>> ((nI k).toInt64.toUInt64 &&& Int64.toUInt64 63)).toInt64 = lN (n / 2 ^ k) := by
  rw [wb_cu k hk]
  apply wb_inj
  apply BitVec.eq_of_toNat_eq
  show ((lN n).toUInt64 >>> UInt64.ofNat k).toNat = (BitVec.ofNat 64 _).toNat
  have h1 : (UInt64.ofNat k).toNat = k := by
    show (BitVec.ofNat 64 k).toNat = k
    rw [BitVec.toNat_ofNat, Nat.mod_eq_of_lt (by omega)]
  have h2 : (lN n).toUInt64.toNat = n := wb_tn hn
  rw [UInt64.toNat_shiftRight, h1, h2, Nat.mod_eq_of_lt hk, Nat.shiftRight_eq_div_pow, BitVec.toNat_ofNat, Nat.mod_eq_of_lt (Nat.lt_of_le_of_lt (Nat.div_le_self _ _) hn)]
theorem wb_shl (n : Nat) {k : Nat} (hk : k < 64) : lN n <<< ((nI k).toInt64 &&& 63) = lN (n * 2 ^ k) := by
  rw [wb_c k hk]
  apply wb_inj
  rw [Int64.toBitVec_shiftLeft, wb_tb, wb_tb, wb_tb, wb_sm k hk]
  apply BitVec.eq_of_toNat_eq
  rw [BitVec.shiftLeft_eq', BitVec.toNat_shiftLeft, BitVec.toNat_ofNat, BitVec.toNat_ofNat, BitVec.toNat_ofNat, Nat.mod_eq_of_lt (show k < 2 ^ 64 by omega), Nat.shiftLeft_eq, Nat.mul_mod, Nat.mod_mod, ← Nat.mul_mod]
theorem wb_and {a b : Nat} (ha : a < 2 ^ 64) (hb : b < 2 ^ 64) : lN a &&& lN b = lN (a &&& b) := by
  apply wb_inj
  rw [Int64.toBitVec_and, wb_tb, wb_tb, wb_tb]
  apply BitVec.eq_of_toNat_eq
  rw [BitVec.toNat_and, BitVec.toNat_ofNat, BitVec.toNat_ofNat, BitVec.toNat_ofNat, Nat.mod_eq_of_lt ha, Nat.mod_eq_of_lt hb, Nat.mod_eq_of_lt (Nat.and_lt_two_pow _ hb)]
theorem wb_or {a b : Nat} (ha : a < 2 ^ 64) (hb : b < 2 ^ 64) : lN a ||| lN b = lN (a ||| b) := by
  apply wb_inj
  rw [Int64.toBitVec_or, wb_tb, wb_tb, wb_tb]
  apply BitVec.eq_of_toNat_eq
  rw [BitVec.toNat_or, BitVec.toNat_ofNat, BitVec.toNat_ofNat, BitVec.toNat_ofNat, Nat.mod_eq_of_lt ha, Nat.mod_eq_of_lt hb, Nat.mod_eq_of_lt (Nat.or_lt_two_pow ha hb)]
theorem wb_mask {n k : Nat} (hn : n < 2 ^ 64) (hk : k < 64) : lN n &&& lN (2 ^ k - 1) = lN (n % 2 ^ k) := by
  rw [wb_and hn (by have := wb_lt2 hk; omega), Nat.and_two_pow_sub_one_eq_mod]
theorem wb_a1 {n : Nat} (hn : n < 2 ^ 64) : lN n &&& 1 = lN (n % 2) := wb_mask (k := 1) hn (by decide)
theorem wb_bit {n k : Nat} (hn : n < 2 ^ 64) (hk : k < 64) : ((lN n).toUInt64 >>> ((nI k).toInt64.toUInt64 &&& Int64.toUInt64 63)).toInt64 &&& 1 = lN (n / 2 ^ k % 2) := by
  rw [wb_shr hn hk, wb_a1 (Nat.lt_of_le_of_lt (Nat.div_le_self _ _) hn)]
/-! ===== lN: masks, 'or' of parts that don't overlap is a sum ===== -/
theorem u_tn {n : Nat} (h : n < 2 ^ 64) : (UInt64.ofNat n).toNat = n := Nat.mod_eq_of_lt h
theorem g_and {a b c : Nat} (ha : a < 2 ^ 64) (hb : b < 2 ^ 64) (hc : a &&& b = c) : lN a &&& lN b = lN c := by
  subst hc
  have h : UInt64.ofNat a &&& UInt64.ofNat b = UInt64.ofNat (a &&& b) := UInt64.toNat_inj.mp (by rw [UInt64.toNat_and, u_tn ha, u_tn hb, u_tn (Nat.and_lt_two_pow a hb)])
  have h2 := congrArg UInt64.toInt64 h
  exact h2
theorem g_and1 {a : Nat} (ha : a < 2 ^ 64) : lN a &&& 1 = lN (a % 2) := g_and (b := 1) ha (by decide) (Nat.and_two_pow_sub_one_eq_mod a 1)
theorem g_mask {a s p : Nat} (hp : 2 ^ s = p) (hs : s < 64) (ha : a < 2 ^ 64) : lN a &&& lN (p - 1) = lN (a % p) := by
  subst hp
  have := Nat.pow_lt_pow_right (show 1 < 2 by decide) hs
  exact g_and ha (by omega) (Nat.and_two_pow_sub_one_eq_mod a s)
theorem g_or {k p a b : Nat} (hp : 2 ^ k = p) (ha : a < p) (h : b * p + a < 2 ^ 64) : lN (b * p) ||| lN a = lN (b * p + a) := by
  subst hp
  have h1 : b * 2 ^ k ||| a = b * 2 ^ k + a := by rw [← Nat.shiftLeft_eq, Nat.shiftLeft_add_eq_or_of_lt ha]
  have h3 : UInt64.ofNat (b * 2 ^ k) ||| UInt64.ofNat a = UInt64.ofNat (b * 2 ^ k + a) := UInt64.toNat_inj.mp (by rw [UInt64.toNat_or, u_tn (by omega), u_tn (by omega), u_tn h, h1])
  have h2 := congrArg UInt64.toInt64 h3
  exact h2
theorem g_or' {k p a b : Nat} (hp : 2 ^ k = p) (ha : a < p) (h : a + b * p < 2 ^ 64) : lN a ||| lN (b * p) = lN (a + b * p) := by
  rw [Int64.or_comm, g_or hp ha (by omega), Nat.add_comm]
/-! the law's packed numbers -/
theorem pz_clr {m s M : Nat} (hs : s + 4 ≤ 64) (hm : m < 2 ^ 64) (hM : ∀ i, i < 64 → M.testBit i = !(decide (s ≤ i) && decide (i < s + 4))) :
    m &&& M = 2 ^ (s + 4) * (m / 2 ^ (s + 4)) + m % 2 ^ s := by
  apply Nat.eq_of_testBit_eq
  intro i
  have hlt : m % 2 ^ s < 2 ^ (s + 4) := Nat.lt_of_lt_of_le (Nat.mod_lt _ (Nat.two_pow_pos s)) (Nat.pow_le_pow_right (by decide) (by omega))
  rw [Nat.testBit_and, Nat.testBit_two_pow_mul_add _ hlt]
  by_cases h : i < s + 4
  · rw [if_pos h, Nat.testBit_mod_two_pow, hM i (by omega)]
    by_cases h2 : i < s
    · simp [h2, show ¬ s ≤ i by omega]
    · simp [h2, show s ≤ i by omega, h]
  · rw [if_neg h, Nat.testBit_div_two_pow, show i - (s + 4) + (s + 4) = i by omega]
    by_cases h2 : i < 64
    · rw [hM i h2]
      simp [h]
    · rw [Nat.testBit_lt_two_pow (Nat.lt_of_lt_of_le hm (Nat.pow_le_pow_right (by decide) (by omega))), Bool.false_and]
theorem pz_lo {m M : Nat} (hm : m < 2 ^ 64) (hM : ∀ i, i < 64 → M.testBit i = decide (3 ≤ i)) : m &&& M = m / 2 ^ 3 * 2 ^ 3 := by
  apply Nat.eq_of_testBit_eq
  intro i
  rw [Nat.testBit_and, Nat.testBit_mul_two_pow, Nat.testBit_div_two_pow]
  by_cases h2 : i < 64
  · rw [hM i h2]
    by_cases h : 3 ≤ i
    · simp [h]
    · simp [h]
  · rw [Nat.testBit_lt_two_pow (Nat.lt_of_lt_of_le hm (Nat.pow_le_pow_right (by decide) (by omega))), show i - 3 + 3 = i by omega, Nat.testBit_lt_two_pow (Nat.lt_of_lt_of_le hm (Nat.pow_le_pow_right (by decide) (by omega)))]
    simp
theorem pz_4r (r : Nat) : (4 : Int32) * nI r = nI (4 * r) := pk_mul 4 r
theorem pz_46 (i : Nat) : (4 : Int32) + (6 : Int32) * nI i = nI (4 + 6 * i) := by
  rw [show (6 : Int32) * nI i = nI (6 * i) from pk_mul 6 i]
  exact nI_add 4 (6 * i)
theorem pz_66 (i : Nat) : (6 : Int32) + (6 : Int32) * nI i = nI (6 + 6 * i) := by
  rw [show (6 : Int32) * nI i = nI (6 * i) from pk_mul 6 i]
  exact nI_add 6 (6 * i)
theorem pz_sm {m k : Nat} (hm : m < 2 ^ 64) : m / 2 ^ k < 2 ^ 64 := Nat.lt_of_le_of_lt (Nat.div_le_self _ _) hm
theorem pz_getV {m r : Nat} (hm : m < 2 ^ 64) (hr : r < 4) : (((lN m).toUInt64 >>> ((4 * nI r).toInt64.toUInt64 &&& Int64.toUInt64 63)).toInt64 &&& 15).toInt32 = nI (m / 16 ^ r % 16) := by
  rw [pz_4r, wb_shr hm (by omega), show (15 : Int64) = lN (2 ^ 4 - 1) from rfl, wb_mask (pz_sm hm) (by decide), lN_i, Nat.pow_mul]
theorem pz_cnt {m : Nat} (hm : m < 2 ^ 64) : (lN m &&& 7).toInt32 = nI (m % 8) := by
  rw [show (7 : Int64) = lN (2 ^ 3 - 1) from rfl, wb_mask hm (by decide), lN_i]
theorem pz_bit3 {m : Nat} (hm : m < 2 ^ 64) : ((lN m).toUInt64 >>> ((3 : Int32).toInt64.toUInt64 &&& Int64.toUInt64 63)).toInt64 &&& 1 = lN (m / 8 % 2) := wb_bit (k := 3) hm (by decide)
theorem pz_uRef {m i : Nat} (hm : m < 2 ^ 64) (hi : i < 4) : (((lN m).toUInt64 >>> ((4 + 6 * nI i).toInt64.toUInt64 &&& Int64.toUInt64 63)).toInt64 &&& 3).toInt32 = nI (m / 2 ^ (4 + 6 * i) % 4) := by
  rw [pz_46, wb_shr hm (by omega), show (3 : Int64) = lN (2 ^ 2 - 1) from rfl, wb_mask (pz_sm hm) (by decide), lN_i]
theorem pz_uNew {m i : Nat} (hm : m < 2 ^ 64) (hi : i < 4) : (((lN m).toUInt64 >>> ((6 + 6 * nI i).toInt64.toUInt64 &&& Int64.toUInt64 63)).toInt64 &&& 15).toInt32 = nI (m / 2 ^ (6 + 6 * i) % 16) := by
  rw [pz_66, wb_shr hm (by omega), show (15 : Int64) = lN (2 ^ 4 - 1) from rfl, wb_mask (pz_sm hm) (by decide), lN_i]
theorem pz_e : ∀ r, r < 4 → ∀ w, w < 16 → nI r ||| (nI w <<< ((2 : Int32) &&& 31)) = nI (r + 4 * w) := by decide +kernel
theorem pz_m8 : ∀ i, i < 64 → (2 ^ 64 - 8 : Nat).testBit i = decide (3 ≤ i) := by decide +kernel
theorem pz_k0 : ∀ i, i < 64 → (2 ^ 64 - 1 - 15 : Nat).testBit i = !(decide (0 ≤ i) && decide (i < 0 + 4)) := by decide +kernel
theorem pz_k4 : ∀ i, i < 64 → (2 ^ 64 - 1 - 240 : Nat).testBit i = !(decide (4 ≤ i) && decide (i < 4 + 4)) := by decide +kernel
theorem pz_k8 : ∀ i, i < 64 → (2 ^ 64 - 1 - 3840 : Nat).testBit i = !(decide (8 ≤ i) && decide (i < 8 + 4)) := by decide +kernel
theorem pz_k12 : ∀ i, i < 64 → (2 ^ 64 - 1 - 61440 : Nat).testBit i = !(decide (12 ≤ i) && decide (i < 12 + 4)) := by decide +kernel
theorem pz_n0 : ((15 : Int64) <<< ((4 * nI 0).toInt64 &&& 63)) ^^^ (-1) = lN (2 ^ 64 - 1 - 15) := by decide +kernel
theorem pz_n4 : ((15 : Int64) <<< ((4 * nI 1).toInt64 &&& 63)) ^^^ (-1) = lN (2 ^ 64 - 1 - 240) := by decide +kernel
theorem pz_n8 : ((15 : Int64) <<< ((4 * nI 2).toInt64 &&& 63)) ^^^ (-1) = lN (2 ^ 64 - 1 - 3840) := by decide +kernel
theorem pz_n12 : ((15 : Int64) <<< ((4 * nI 3).toInt64 &&& 63)) ^^^ (-1) = lN (2 ^ 64 - 1 - 61440) := by decide +kernel
theorem pz_set {m s w M : Nat} {y : Int64} (hs : s ≤ 12) (hm : m < 65536) (hw : w < 16) (hM64 : M < 2 ^ 64) (hM : ∀ i, i < 64 → M.testBit i = !(decide (s ≤ i) && decide (i < s + 4))) (hy : y = lN (w * 2 ^ s)) :
    (lN m &&& lN M) ||| y = lN (m / 2 ^ (s + 4) * 2 ^ (s + 4) + (m % 2 ^ s + w * 2 ^ s)) := by
  have hm64 : m < 2 ^ 64 := by omega
  have h1 : m / 2 ^ (s + 4) * 2 ^ (s + 4) ≤ m := Nat.div_mul_le_self _ _
  have h2 : m % 2 ^ s < 2 ^ s := Nat.mod_lt _ (Nat.two_pow_pos s)
  have h3 : 2 ^ (s + 4) = 2 ^ s * 16 := Nat.pow_add 2 s 4
  have h4 : 2 ^ s ≤ 2 ^ 12 := Nat.pow_le_pow_right (by decide) hs
  have h5 : w * 2 ^ s ≤ 15 * 2 ^ s := Nat.mul_le_mul_right _ (by omega)
  have e1 : lN m &&& lN M = lN (m / 2 ^ (s + 4) * 2 ^ (s + 4)) ||| lN (m % 2 ^ s) := by
    rw [wb_and hm64 hM64, pz_clr (by omega) hm64 hM, Nat.mul_comm, g_or (k := s + 4) rfl (by omega) (by omega)]
  rw [e1, hy, Int64.or_assoc, g_or' (k := s) rfl h2 (by omega), g_or (k := s + 4) rfl (by omega) (by omega)]
theorem pz_sh {w r : Nat} (hw : w < 16) (hr : r < 4) : (nI w).toInt64 <<< ((4 * nI r).toInt64 &&& 63) = lN (w * 2 ^ (4 * r)) := by
  rw [pz_4r, nI_l (by omega), wb_shl w (by omega)]
theorem pz_setV {m r w : Nat} (hm : m < 65536) (hr : r < 4) (hw : w < 16) : ∃ m', m' < 65536 ∧
    (lN m &&& (((15 : Int64) <<< ((4 * nI r).toInt64 &&& 63)) ^^^ (-1))) ||| ((nI w).toInt64 <<< ((4 * nI r).toInt64 &&& 63)) = lN m' ∧
    m' / 16 ^ r % 16 = w ∧ ∀ q, q < 4 → q ≠ r → m' / 16 ^ q % 16 = m / 16 ^ q % 16 := by
  have c4 : ∀ q, q < 4 → q = 0 ∨ q = 1 ∨ q = 2 ∨ q = 3 := fun q h => by omega
  rcases c4 r hr with rfl | rfl | rfl | rfl
  · rw [pz_n0, pz_set (s := 0) (by omega) hm hw (by decide) pz_k0 (pz_sh hw hr)]
    refine ⟨_, ?_, rfl, ?_, fun q h hq => ?_⟩
    · omega
    · omega
    · rcases c4 q h with rfl | rfl | rfl | rfl <;> omega
  · rw [pz_n4, pz_set (s := 4) (by omega) hm hw (by decide) pz_k4 (pz_sh hw hr)]
    refine ⟨_, ?_, rfl, ?_, fun q h hq => ?_⟩
    · omega
    · omega
    · rcases c4 q h with rfl | rfl | rfl | rfl <;> omega
  · rw [pz_n8, pz_set (s := 8) (by omega) hm hw (by decide) pz_k8 (pz_sh hw hr)]
    refine ⟨_, ?_, rfl, ?_, fun q h hq => ?_⟩
    · omega
    · omega
    · rcases c4 q h with rfl | rfl | rfl | rfl <;> omega
  · rw [pz_n12, pz_set (s := 12) (by omega) hm hw (by decide) pz_k12 (pz_sh hw hr)]
    refine ⟨_, ?_, rfl, ?_, fun q h hq => ?_⟩
    · omega
    · omega
    · rcases c4 q h with rfl | rfl | rfl | rfl <;> omega
/-- one more update: the count up by one, the new one behind the others -/
theorem pz_addU {m k r w : Nat} (hk : k < 4) (hm : m < 2 ^ (4 + 6 * k)) (h8 : m % 8 = k) (hr : r < 4) (hw : w < 16) :
    ((lN m &&& (-8)) ||| ((nI k + 1).toInt64)) ||| ((nI r ||| (nI w <<< ((2 : Int32) &&& 31))).toInt64 <<< ((4 + 6 * nI k).toInt64 &&& 63)) = lN (m + 1 + (r + 4 * w) * 2 ^ (4 + 6 * k)) := by
  have hp : 2 ^ (4 + 6 * k) ≤ 2 ^ 22 := Nat.pow_le_pow_right (by decide) (by omega)
  have hd : 2 ^ (4 + 6 * k) = 2 ^ (1 + 6 * k) * 8 := by rw [show 4 + 6 * k = (1 + 6 * k) + 3 by omega, Nat.pow_add]
  have hb : (r + 4 * w) * 2 ^ (4 + 6 * k) ≤ 63 * 2 ^ (4 + 6 * k) := Nat.mul_le_mul_right _ (by omega)
  have hm64 : m < 2 ^ 64 := by omega
  have e1 : lN m &&& (-8) = lN (m / 2 ^ 3 * 2 ^ 3) := by
    rw [show (-8 : Int64) = lN (2 ^ 64 - 8) from rfl, wb_and hm64 (by decide), pz_lo hm64 pz_m8]
  have e2 : m / 2 ^ 3 * 2 ^ 3 + (k + 1) = m + 1 := by omega
  have hlt : m + 1 < 2 ^ (4 + 6 * k) := by omega
  rw [e1, pz_e r hr w hw, nI_l (show r + 4 * w < 2 ^ 31 by omega), pz_46, wb_shl _ (by omega), nI_1, nI_l (show k + 1 < 2 ^ 31 by omega), g_or (k := 3) rfl (by omega) (by omega), e2, g_or' (k := 4 + 6 * k) rfl hlt (by omega)]
theorem pz_o8 : ∀ k, k < 8 → lN k ||| 8 = lN (k + 8) := by decide +kernel
theorem pz_or8 {m : Nat} (hm : m < 2 ^ 60) (h : m / 8 % 2 = 0) : lN m ||| 8 = lN (m + 8) := by
  have e : m = m / 16 * 16 + m % 8 := by omega
  have e1 : lN m = lN (m / 16 * 16) ||| lN (m % 8) := by
    rw [g_or (k := 4) rfl (by omega) (by omega), ← e]
  rw [e1, Int64.or_assoc, pz_o8 (m % 8) (by omega), g_or (k := 4) rfl (by omega) (by omega), show m / 16 * 16 + (m % 8 + 8) = m + 8 by omega]
end
section
/-! the reflog: a ring of L cells against a plain row -/
/-- the cell of the j-th entry of a ring of L cells that begins at b -/
def rx_g (L b j : Nat) : Nat := if b + j < L then b + j else b + j - L
theorem rx_g_lt {L b j : Nat} (hb : b < L) (hj : j ≤ L) : rx_g L b j < L := by
  unfold rx_g; split <;> omega
theorem rx_g_ne {L b i j : Nat} (hb : b < L) (hj : j < L) (hi : i < j) : rx_g L b i ≠ rx_g L b j := by
  unfold rx_g; split <;> split <;> omega
theorem rx_g_1 {L b j : Nat} (hb : b < L) (hj : j + 1 < L) : rx_g L (rx_g L b 1) j = rx_g L b (j + 1) := by
  by_cases h : b + 1 < L
  · rw [show rx_g L b 1 = b + 1 from if_pos h]; unfold rx_g; split <;> split <;> omega
  · rw [show rx_g L b 1 = b + 1 - L from if_neg h]; unfold rx_g; split <;> split <;> omega
/-- a row whose entries 1 .. i - 1 have moved down by one -/
def rx_sh (a : Nat → Int32) (i : Nat) : Nat → Int32 := fun j => if j + 1 < i then a (j + 1) else a j
theorem rx_sh1 (a : Nat → Int32) : rx_sh a 1 = a := funext fun j => if_neg (by omega)
theorem rx_shi (a : Nat → Int32) (i : Nat) : rx_sh a i i = a i := if_neg (by omega)
theorem rx_shs (a : Nat → Int32) (m : Nat) : upd (rx_sh a (m + 1)) m (a (m + 1)) = rx_sh a (m + 2) := by
  funext j
  unfold upd rx_sh
  by_cases h1 : j = m
  · subst h1
    rw [if_pos rfl, if_pos (by omega)]
  · rw [if_neg h1]
    by_cases h2 : j + 1 < m + 1
    · rw [if_pos h2, if_pos (by omega)]
    · rw [if_neg h2, if_neg (by omega)]
def rx_LG (L b n : Nat) (x y : Nat → Int32) : Prop := ∀ j, j < n → y j = x (rx_g L b j)
def rx_nn (L n : Nat) : Nat := if n < L then n else n - 1
def rx_bb (L b n : Nat) : Nat := if n < L then b else rx_g L b 1
def rx_ap (y : Nat → Int32) (L n : Nat) (r : Int32) : Nat → Int32 := upd (if n < L then y else rx_sh y n) (rx_nn L n) r
theorem rx_nn_lt {L n : Nat} (hL : 0 < L) (hn : n ≤ L) : rx_nn L n < L := by
  unfold rx_nn; split <;> omega
theorem rx_bb_lt {L b n : Nat} (hL : 1 ≤ L) (hb : b < L) : rx_bb L b n < L := by
  unfold rx_bb; split
  · exact hb
  · exact rx_g_lt hb hL
theorem rx_ap_lg {L b n : Nat} {x y : Nat → Int32} {r : Int32} (hL : 0 < L) (hb : b < L) (hn : n ≤ L) (h : rx_LG L b n x y) :
    rx_LG L (rx_bb L b n) (rx_nn L n + 1) (upd x (rx_g L (rx_bb L b n) (rx_nn L n)) r) (rx_ap y L n r) := by
  intro j hj
  by_cases hl : n < L
  · have e1 : rx_nn L n = n := if_pos hl
    have e2 : rx_bb L b n = b := if_pos hl
    have e3 : rx_ap y L n r = upd y n r := by unfold rx_ap; rw [if_pos hl, e1]
    rw [e1] at hj
    rw [e3, e2, e1]
    by_cases hjn : j = n
    · rw [hjn, pk_us, pk_us]
    · rw [pk_un hjn, pk_un (rx_g_ne hb hl (by omega)), h j (by omega)]
  · have e0 : n = L := by omega
    subst e0
    have e1 : rx_nn n n = n - 1 := if_neg hl
    have e2 : rx_bb n b n = rx_g n b 1 := if_neg hl
    have e3 : rx_ap y n n r = upd (rx_sh y n) (n - 1) r := by unfold rx_ap; rw [if_neg hl, e1]
    rw [e1] at hj
    rw [e3, e2, e1]
    by_cases hjn : j = n - 1
    · rw [hjn, pk_us, pk_us]
    · have hb1 : rx_g n b 1 < n := rx_g_lt hb (by omega)
      have hs : rx_sh y n j = y (j + 1) := if_pos (by omega)
      rw [pk_un hjn, pk_un (rx_g_ne hb1 (by omega) (by omega)), rx_g_1 hb (by omega), hs, h (j + 1) (by omega)]
/-! i entries appended, one behind the other: the row (rx_cn entries, rx_ca), the ring (rx_cb its begin, rx_cx) -/
def rx_cn (L n : Nat) : Nat → Nat
  | 0 => n
  | i + 1 => rx_nn L (rx_cn L n i) + 1
def rx_cb (L b n : Nat) : Nat → Nat
  | 0 => b
  | i + 1 => rx_bb L (rx_cb L b n i) (rx_cn L n i)
def rx_ca (f : Nat → Int32) (L n : Nat) (y : Nat → Int32) : Nat → Nat → Int32
  | 0 => y
  | i + 1 => rx_ap (rx_ca f L n y i) L (rx_cn L n i) (f i)
def rx_cx (f : Nat → Int32) (L b n : Nat) (x : Nat → Int32) : Nat → Nat → Int32
  | 0 => x
  | i + 1 => upd (rx_cx f L b n x i) (rx_g L (rx_bb L (rx_cb L b n i) (rx_cn L n i)) (rx_nn L (rx_cn L n i))) (f i)
theorem rx_cn_le {L n : Nat} (hL : 0 < L) (hn : n ≤ L) : ∀ i, rx_cn L n i ≤ L := by
  intro i
  induction i with
  | zero => exact hn
  | succ i ih =>
    have := rx_nn_lt hL ih
    show rx_nn L (rx_cn L n i) + 1 ≤ L
    omega
theorem rx_cb_lt {L b n : Nat} (hL : 0 < L) (hb : b < L) : ∀ i, rx_cb L b n i < L := by
  intro i
  induction i with
  | zero => exact hb
  | succ i ih => exact rx_bb_lt hL ih
theorem rx_c_lg {f x y : Nat → Int32} {L b n : Nat} (hL : 0 < L) (hb : b < L) (hn : n ≤ L) (h : rx_LG L b n x y) :
    ∀ i, rx_LG L (rx_cb L b n i) (rx_cn L n i) (rx_cx f L b n x i) (rx_ca f L n y i) := by
  intro i
  induction i with
  | zero => exact h
  | succ i ih => exact rx_ap_lg hL (rx_cb_lt hL hb i) (rx_cn_le hL hn i) ih
/-! the values after the first i updates of slot s -/
def rx_vv (ur un va : Nat → Int32) (s : Nat) : Nat → Nat → Int32
  | 0 => va
  | i + 1 => upd (rx_vv ur un va s i) (ur (s * 4 + i)).toNatClampNeg (un (s * 4 + i))
/-! a slot's own facts: status q, steps t, updates k -/
def rx_RF (R : Nat) (ur : Nat → Int32) (s k : Nat) : Prop :=
  (∀ i, i < k → ∃ r, r < R ∧ ur (s * 4 + i) = nI r) ∧ (∀ i j, i < j → j < k → ur (s * 4 + i) ≠ ur (s * 4 + j))
def rx_D9 (x : Int32) : Prop := x = 0 ∨ x = 1 ∨ x = 2 ∨ x = 3 ∨ x = 4 ∨ x = 5 ∨ x = 6 ∨ x = 7 ∨ x = 8
def rx_SI (R : Nat) (ss sn su ur : Nat → Int32) (s : Nat) : Prop :=
  ∃ t k : Nat, sn s = nI t ∧ su s = nI k ∧ k ≤ 4 ∧ t ≤ 2 * k + 2 ∧ rx_D9 (ss s) ∧ (ss s = 2 → t ≤ k) ∧ (ss s = 3 → k + 1 ≤ t ∧ t ≤ 2 * k + 1) ∧ rx_RF R ur s k
theorem rx_vv_o {R : Nat} {ur un va : Nat → Int32} {s k : Nat} (hR : R ≤ 16) (h : rx_RF R ur s k) :
    ∀ i j, i ≤ j → j < k → rx_vv ur un va s i (ur (s * 4 + j)).toNatClampNeg = va (ur (s * 4 + j)).toNatClampNeg := by
  intro i
  induction i with
  | zero => intro j _ _; rfl
  | succ i ih =>
    intro j hij hj
    have hne : (ur (s * 4 + j)).toNatClampNeg ≠ (ur (s * 4 + i)).toNatClampNeg := by
      obtain ⟨r, hr, er⟩ := h.1 j hj
      obtain ⟨r', hr', er'⟩ := h.1 i (by omega)
      have hd := h.2 i j (by omega) hj
      rw [er, er', nI_clamp (by omega), nI_clamp (by omega)]
      intro e
      exact hd (by rw [er, er', e])
    show upd (rx_vv ur un va s i) (ur (s * 4 + i)).toNatClampNeg (un (s * 4 + i)) _ = _
    rw [pk_un hne]
    exact ih j (by omega) hj
theorem rx_SI_up {R : Nat} {ss sn su ur ss' sn' su' ur' : Nat → Int32} (h : ∀ s, s < 4 → rx_SI R ss sn su ur s) (s0 : Nat)
    (h0 : rx_SI R ss' sn' su' ur' s0)
    (ho : ∀ s, s ≠ s0 → ss' s = ss s ∧ sn' s = sn s ∧ su' s = su s ∧ ∀ i, i < 4 → ur' (s * 4 + i) = ur (s * 4 + i)) :
    ∀ s, s < 4 → rx_SI R ss' sn' su' ur' s := by
  intro s hs
  by_cases e : s = s0
  · rw [e]; exact h0
  · obtain ⟨t, k, e2, e3, h1, h2, h3, h4, h5, h6, h7⟩ := h s hs
    obtain ⟨o1, o2, o3, o4⟩ := ho s e
    refine ⟨t, k, o2.trans e2, o3.trans e3, h1, h2, by rw [o1]; exact h3, by rw [o1]; exact h4, by rw [o1]; exact h5, ?_, ?_⟩
    · intro i hi
      rw [o4 i (by omega)]
      exact h6 i hi
    · intro i j hij hj
      rw [o4 i (by omega), o4 j (by omega)]
      exact h7 i j hij hj
/-! what a slot holds of locks -/
def rx_hn (ss sn su : Nat → Int32) (o : Nat) : Nat := if ss o = 2 then (sn o).toNatClampNeg else if ss o = 3 then (su o).toNatClampNeg else 0
def rx_Hd (ss sn su ur : Nat → Int32) (ref : Int32) (o : Nat) : Prop := ∃ i, i < rx_hn ss sn su o ∧ ur (o * 4 + i) = ref
def rx_Ot (S : Nat) (ss sn su ur : Nat → Int32) (ref : Int32) (s : Nat) : Prop := ∃ o, o < S ∧ o ≠ s ∧ rx_Hd ss sn su ur ref o
theorem rx_hn2 {ss sn su : Nat → Int32} {o t : Nat} (h : ss o = 2) (e : sn o = nI t) (ht : t < 2 ^ 31) : rx_hn ss sn su o = t := by
  unfold rx_hn
  rw [if_pos h, e, nI_clamp ht]
theorem rx_hn3 {ss sn su : Nat → Int32} {o k : Nat} (h : ss o = 3) (e : su o = nI k) (hk : k < 2 ^ 31) : rx_hn ss sn su o = k := by
  unfold rx_hn
  rw [if_neg (by rw [h]; decide), if_pos h, e, nI_clamp hk]
theorem rx_hn0 {ss sn su : Nat → Int32} {o : Nat} (h2 : ¬ ss o = 2) (h3 : ¬ ss o = 3) : rx_hn ss sn su o = 0 := by
  unfold rx_hn
  rw [if_neg h2, if_neg h3]
theorem rx_hn4 {R : Nat} {ss sn su ur : Nat → Int32} {o : Nat} (h : rx_SI R ss sn su ur o) : rx_hn ss sn su o ≤ 4 := by
  obtain ⟨t, k, e2, e3, h1, h2, h3, h4, h5, h6⟩ := h
  by_cases a : ss o = 2
  · rw [rx_hn2 a e2 (by omega)]; have := h4 a; omega
  · by_cases c : ss o = 3
    · rw [rx_hn3 c e3 (by omega)]; omega
    · rw [rx_hn0 a c]; omega
end
section
section RX4
variable {R L S b n p : Nat} {pk pd cr : Int32} {va ss sn su ur ue un xr xo xn yr yo yn : Nat → Int32}
theorem rx_m4 {s : Nat} : nI s * 4 = nI (s * 4) := pk_mul s 4
theorem rx_i4 {s i : Nat} : nI s * 4 + nI i = nI (s * 4 + i) := by rw [rx_m4, nI_add]
theorem rx_ci {s i : Nat} (hs : s < 4) (hi : i < 4) : (nI (s * 4) + nI i).toNatClampNeg = s * 4 + i := by rw [nI_add, nI_clamp (by omega)]
theorem rx_cj {s i : Nat} (hs : s < 4) (hi : i < 4) : (nI s * 4 + nI i).toNatClampNeg = s * 4 + i := by rw [rx_i4, nI_clamp (by omega)]
theorem rx_ij {s i : Nat} (hs : s < 4) (hi : i < 4) : vp_in (nI s * 4 + nI i) 16 := by rw [rx_i4]; exact vp_in_nI (by omega) (by omega)
/-! isNamed -/
theorem rx_xnm {post : Int32 → Prop} {s k : Nat} {ref : Int32} (hs : s < 4) (hk : k ≤ 4) : ∀ d i, i + d = k →
    ((∃ j, i ≤ j ∧ j < k ∧ ur (s * 4 + j) = ref) → post 1) → ((∀ j, i ≤ j → j < k → ¬ ur (s * 4 + j) = ref) → post 0) →
    wX_isNamed_8 post (nI k) ref (nI (s * 4)) (nI R) (nI L) (nI S) (nI b) (nI n) (nI p) cr va ss sn su ur ue un xr xo xn (d + 1) (nI i) := by
  intro d
  induction d with
  | zero =>
    intro i hi h1 h0
    exact br_t (nI_le (by omega) (by omega)) (h0 (fun j a c => absurd a (by omega)))
  | succ d ih =>
    intro i hi h1 h0
    refine br_f (nI_ge (by omega) (by omega)) ⟨by rw [nI_add]; exact vp_in_nI (by omega) (by omega), ?_⟩
    have ec : (nI (s * 4) + nI i).toNatClampNeg = s * 4 + i := rx_ci hs (by omega)
    by_cases e : ur (s * 4 + i) = ref
    · exact br_t (by rw [ec]; exact e) (h1 ⟨i, Nat.le_refl i, by omega, e⟩)
    · refine br_f (by rw [ec]; exact e) (nm_r (nI_1 i) (ih (i + 1) (by omega) (fun ⟨j, a, c, f⟩ => h1 ⟨j, by omega, c, f⟩) (fun h => h0 (fun j a c => ?_))))
      by_cases g : j = i
      · rw [g]; exact e
      · exact h j (by omega) c
theorem rx_xNamed {post : Int32 → Prop} {s k : Nat} {ref : Int32} (hs : s < 4) (hk : k ≤ 4)
    (h1 : (∃ j, j < k ∧ ur (s * 4 + j) = ref) → post 1) (h0 : (∀ j, j < k → ¬ ur (s * 4 + j) = ref) → post 0) :
    wpX_isNamed post (nI R, nI L, nI S, nI b, nI n, nI p, cr, va, ss, sn, su, ur, ue, un, xr, xo, xn) (nI s) (nI k) ref :=
  nm_r rx_m4 ⟨k + 1, rx_xnm hs hk k 0 (by omega) (fun ⟨j, _, c, f⟩ => h1 ⟨j, c, f⟩) (fun h => h0 (fun j c => h j (by omega) c))⟩
/-! who holds a ref: X -/
theorem rx_xHeld {post : Int32 → Prop} {s : Nat} (hs : s < 4) (h : rx_SI R ss sn su ur s) (hp : post (nI (rx_hn ss sn su s))) :
    wpX_heldUpdates post (nI R, nI L, nI S, nI b, nI n, nI p, cr, va, ss, sn, su, ur, ue, un, xr, xo, xn) (nI s) := by
  have hv : vp_in (nI s) 4 := vp_in_nI hs (by omega)
  have ec : (nI s).toNatClampNeg = s := nI_clamp (by omega)
  obtain ⟨t, k, e2, e3, h1, h2, h3, h4, h5, h6⟩ := h
  unfold wpX_heldUpdates
  dsimp only
  rw [ec]
  by_cases a : ss s = 2
  · rw [rx_hn2 a e2 (by omega)] at hp
    exact ⟨hv, br_t a ⟨hv, by rw [e2]; exact hp⟩⟩
  · by_cases c : ss s = 3
    · rw [rx_hn3 c e3 (by omega)] at hp
      exact ⟨hv, br_f a ⟨hv, br_t c ⟨hv, by rw [e3]; exact hp⟩⟩⟩
    · rw [rx_hn0 a c] at hp
      exact ⟨hv, br_f a ⟨hv, br_f c hp⟩⟩
theorem rx_xot {post : Int32 → Prop} {s : Nat} {ref : Int32} (hS : S ≤ 4) (hs : s < 4) (hI : ∀ s, s < 4 → rx_SI R ss sn su ur s) : ∀ d o, o + d = S →
    ((∃ q, o ≤ q ∧ q < S ∧ q ≠ s ∧ rx_Hd ss sn su ur ref q) → post 1) → ((∀ q, o ≤ q → q < S → q ≠ s → ¬ rx_Hd ss sn su ur ref q) → post 0) →
    wX_isHeldByOther_2 post (nI s) ref (nI R) (nI L) (nI S) (nI b) (nI n) (nI p) cr va ss sn su ur ue un xr xo xn (d + 1) (nI o) := by
  intro d
  induction d with
  | zero =>
    intro o ho h1 h0
    exact br_t (nI_le (by omega) (by omega)) (h0 (fun q a c => absurd a (by omega)))
  | succ d ih =>
    intro o ho h1 h0
    refine br_f (nI_ge (by omega) (by omega)) (rx_xHeld (by omega) (hI o (by omega)) ?_)
    have nx : (o = s ∨ ¬ rx_Hd ss sn su ur ref o) → wX_isHeldByOther_2 post (nI s) ref (nI R) (nI L) (nI S) (nI b) (nI n) (nI p) cr va ss sn su ur ue un xr xo xn (d + 1) (nI (o + 1)) := by
      intro hn
      refine ih (o + 1) (by omega) (fun ⟨q, a, c, f⟩ => h1 ⟨q, by omega, c, f⟩) (fun h => h0 (fun q a c f => ?_))
      by_cases g : q = o
      · rw [g]
        rcases hn with z | z
        · exact absurd (g.trans z) f
        · exact z
      · exact h q (by omega) c f
    refine pk_eq o s (fun e => nm_r (nI_1 o) (nx (Or.inl e))) (fun e => rx_xNamed (by omega) (rx_hn4 (hI o (by omega))) (fun hj => ?_) (fun hj => ?_))
    · exact br_f (by decide) (h1 ⟨o, Nat.le_refl o, by omega, e, hj⟩)
    · exact br_t rfl (nm_r (nI_1 o) (nx (Or.inr (fun ⟨j, a, c⟩ => hj j a c))))
theorem rx_xOther {post : Int32 → Prop} {s : Nat} {ref : Int32} (hS : S ≤ 4) (hs : s < 4) (hI : ∀ s, s < 4 → rx_SI R ss sn su ur s)
    (h1 : rx_Ot S ss sn su ur ref s → post 1) (h0 : ¬ rx_Ot S ss sn su ur ref s → post 0) : wpX_isHeldByOther post (nI R, nI L, nI S, nI b, nI n, nI p, cr, va, ss, sn, su, ur, ue, un, xr, xo, xn) (nI s) ref :=
  ⟨S + 1, rx_xot hS hs hI S 0 (by omega) (fun ⟨q, _, c, f, g⟩ => h1 ⟨q, c, f, g⟩) (fun h => h0 (fun ⟨q, c, f, g⟩ => h q (by omega) c f g))⟩
end RX4
end
section
section RX5
variable {R L S b n p : Nat} {pk pd cr : Int32} {va ss sn su ur ue un xr xo xn yr yo yn : Nat → Int32}
/-! an entry appended: X's ring -/
theorem rx_xCell {post : Int32 → Prop} {i : Nat} (hL : L ≤ 32) (hb : b < L) (hi : i ≤ L) (hp : post (nI (rx_g L b i))) :
    wpX_logCell post (nI R, nI L, nI S, nI b, nI n, nI p, cr, va, ss, sn, su, ur, ue, un, xr, xo, xn) (nI i) := by
  refine nm_r (nI_add b i) ?_
  by_cases h : b + i < L
  · rw [show rx_g L b i = b + i from if_pos h] at hp
    exact br_f (nI_ge h (by omega)) hp
  · rw [show rx_g L b i = b + i - L from if_neg h] at hp
    exact br_t (nI_le (by omega) (by omega)) (by rw [pk_sub (by omega)]; exact hp)
theorem rx_xApp30 {post : St2 → Prop} {x1 x2 x3 : Int32} (hL : L ≤ 32) (hb : b < L) (hn : n < L)
    (hp : post (nI R, nI L, nI S, nI b, nI (n + 1), nI p, cr, va, ss, sn, su, ur, ue, un, upd xr (rx_g L b n) x1, upd xo (rx_g L b n) x2, upd xn (rx_g L b n) x3)) :
    wX_appendToLog_30 post x1 x2 x3 (nI R) (nI L) (nI S) (nI b) (nI n) (nI p) cr va ss sn su ur ue un xr xo xn := by
  refine rx_xCell hL hb (by omega) ?_
  have hc := rx_g_lt hb (show n ≤ L by omega)
  have hv : vp_in (nI (rx_g L b n)) 32 := vp_in_nI (by omega) (by omega)
  have ec : (nI (rx_g L b n)).toNatClampNeg = rx_g L b n := nI_clamp (by omega)
  exact ⟨hv, nm_r (e' := upd xr (rx_g L b n) x1) (by rw [ec]) ⟨hv, nm_r (e' := upd xo (rx_g L b n) x2) (by rw [ec]) ⟨hv, nm_r (e' := upd xn (rx_g L b n) x3) (by rw [ec]) (nm_r (nI_1 n) hp)⟩⟩⟩
theorem rx_xApp {post : St2 → Prop} {x1 x2 x3 : Int32} (hL8 : 8 ≤ L) (hL : L ≤ 32) (hb : b < L) (hn : n ≤ L)
    (hp : post (nI R, nI L, nI S, nI (rx_bb L b n), nI (rx_nn L n + 1), nI p, cr, va, ss, sn, su, ur, ue, un, upd xr (rx_g L (rx_bb L b n) (rx_nn L n)) x1, upd xo (rx_g L (rx_bb L b n) (rx_nn L n)) x2, upd xn (rx_g L (rx_bb L b n) (rx_nn L n)) x3)) :
    wpX_appendToLog post (nI R, nI L, nI S, nI b, nI n, nI p, cr, va, ss, sn, su, ur, ue, un, xr, xo, xn) x1 x2 x3 := by
  by_cases h : n < L
  · rw [show rx_bb L b n = b from if_pos h, show rx_nn L n = n from if_pos h] at hp
    exact br_f (fun e => by have := (nI_eq (by omega) (by omega)).mp e; omega) (rx_xApp30 hL hb h hp)
  · have e : n = L := by omega
    subst e
    rw [show rx_bb n b n = rx_g n b 1 from if_neg h, show rx_nn n n = n - 1 from if_neg h] at hp
    exact br_t rfl (rx_xCell (i := 1) hL hb (by omega) (nm_r (e' := nI (n - 1)) (pk_sub (b := 1) (by omega)) (rx_xApp30 (L := n) (b := rx_g n b 1) (n := n - 1) hL (rx_g_lt hb (by omega)) (by omega) hp)))
/-! the commit step: k entries, k values -/
def rx_fr (ur : Nat → Int32) (s : Nat) : Nat → Int32 := fun i => ur (s * 4 + i)
def rx_fo (va ur : Nat → Int32) (s : Nat) : Nat → Int32 := fun i => va (ur (s * 4 + i)).toNatClampNeg
theorem rx_xcm {post : St2 → Prop} {s k : Nat} (hs : s < 4) (hk : k ≤ 4) (hR : R ≤ 16) (hL8 : 8 ≤ L) (hL : L ≤ 32) (hb : b < L) (hn : n ≤ L) (hf : rx_RF R ur s k)
    (hp : post (nI R, nI L, nI S, nI (rx_cb L b n k), nI (rx_cn L n k), nI p, cr, rx_vv ur un va s k, upd ss s 3, sn, su, ur, ue, un, rx_cx (rx_fr ur s) L b n xr k, rx_cx (rx_fo va ur s) L b n xo k, rx_cx (rx_fr un s) L b n xn k)) : ∀ d i, i + d = k →
    wX_takeCommitStep_14 post (nI s) (nI (s * 4)) (nI k) (d + 1) (nI i) (nI R) (nI L) (nI S) (nI (rx_cb L b n i)) (nI (rx_cn L n i)) (nI p) cr (rx_vv ur un va s i) ss sn su ur ue un (rx_cx (rx_fr ur s) L b n xr i) (rx_cx (rx_fo va ur s) L b n xo i) (rx_cx (rx_fr un s) L b n xn i) := by
  have hv : vp_in (nI s) 4 := vp_in_nI hs (by omega)
  have es : (nI s).toNatClampNeg = s := nI_clamp (by omega)
  intro d
  induction d with
  | zero =>
    intro i hi
    obtain rfl : i = k := by omega
    exact br_t (nI_le (by omega) (by omega)) ⟨hv, nm_r (e' := upd ss s 3) (by rw [es]) hp⟩
  | succ d ih =>
    intro i hi
    obtain ⟨r, hr, er⟩ := hf.1 i (by omega)
    have ec : (nI (s * 4) + nI i).toNatClampNeg = s * 4 + i := rx_ci hs (by omega)
    have hw : vp_in (nI (s * 4) + nI i) 16 := by rw [nI_add]; exact vp_in_nI (by omega) (by omega)
    have hvr : vp_in (ur (s * 4 + i)) 16 := by rw [er]; exact vp_in_nI (by omega) (by omega)
    have eo := rx_vv_o (un := un) (va := va) hR hf i i (Nat.le_refl i) (by omega)
    refine br_f (nI_ge (by omega) (by omega)) ⟨hw, nm_r (e' := ur (s * 4 + i)) (by rw [ec]) ⟨hw, nm_r (e' := un (s * 4 + i)) (by rw [ec]) ⟨hvr, rx_xApp hL8 hL (rx_cb_lt (by omega) hb i) (rx_cn_le (by omega) hn i) ⟨hvr, nm_e (nm_r (nI_1 i) ?_)⟩⟩⟩⟩
    rw [eo]
    exact ih (i + 1) (by omega)
theorem rx_xCommit {post : St2 → Prop} {s k : Nat} (hs : s < 4) (hk : k ≤ 4) (hR : R ≤ 16) (hL8 : 8 ≤ L) (hL : L ≤ 32) (hb : b < L) (hn : n ≤ L) (hf : rx_RF R ur s k) (ek : su s = nI k)
    (hp : post (nI R, nI L, nI S, nI (rx_cb L b n k), nI (rx_cn L n k), nI p, cr, rx_vv ur un va s k, upd ss s 3, sn, su, ur, ue, un, rx_cx (rx_fr ur s) L b n xr k, rx_cx (rx_fo va ur s) L b n xo k, rx_cx (rx_fr un s) L b n xn k)) :
    wpX_takeCommitStep post (nI R, nI L, nI S, nI b, nI n, nI p, cr, va, ss, sn, su, ur, ue, un, xr, xo, xn) (nI s) :=
  nm_r rx_m4 ⟨vp_in_nI hs (by omega), nm_r (e' := nI k) (by rw [nI_clamp (by omega)]; exact ek) ⟨k + 1, rx_xcm hs hk hR hL8 hL hb hn hf hp k 0 (by omega)⟩⟩
end RX5
end
section
section RX6
variable {R L S b n p : Nat} {pk pd cr : Int32} {va ss sn su ur ue un xr xo xn yr yo yn : Nat → Int32}
theorem rx_l2 (k : Nat) : (2 : Int32) * nI k + 2 = nI (2 * k + 2) := by
  rw [show (2 : Int32) * nI k = nI (2 * k) from pk_mul 2 k]
  exact nI_add (2 * k) 2
theorem rx_l1 (k : Nat) : (2 : Int32) * nI k + 1 = nI (2 * k + 1) := by
  rw [show (2 : Int32) * nI k = nI (2 * k) from pk_mul 2 k]
  exact nI_add (2 * k) 1
theorem rx_ne {a c : Nat} (ha : a < 100) (hc : c < 100) (h : a ≠ c) : ¬ nI a = nI c := fun e => h ((nI_eq (by omega) (by omega)).mp e)
theorem rx_ne1 {a c : Nat} (ha : a < 100) (hc : c < 99) (h : a ≠ c + 1) : ¬ nI a = nI c + 1 := by rw [nI_1]; exact rx_ne ha (by omega) h
/-! one step: X -/
theorem rx_xStepL {post : St2 → Prop} {s t k : Nat} (hs : s < 4) (hS : S ≤ 4) (hR : R ≤ 16) (hI : ∀ s, s < 4 → rx_SI R ss sn su ur s) (et : sn s = nI t) (ek : su s = nI k) (hk : k ≤ 4) (htk : t < k) (hf : rx_RF R ur s k)
    (h5 : rx_Ot S ss sn su ur (ur (s * 4 + t)) s → post (nI R, nI L, nI S, nI b, nI n, nI p, cr, va, upd ss s 5, sn, su, ur, ue, un, xr, xo, xn))
    (h6 : ¬ rx_Ot S ss sn su ur (ur (s * 4 + t)) s → ¬ ue (s * 4 + t) = -1 → ¬ ue (s * 4 + t) = va (ur (s * 4 + t)).toNatClampNeg → post (nI R, nI L, nI S, nI b, nI n, nI p, cr, va, upd ss s 6, sn, su, ur, ue, un, xr, xo, xn))
    (h0 : ¬ rx_Ot S ss sn su ur (ur (s * 4 + t)) s → (ue (s * 4 + t) = -1 ∨ ue (s * 4 + t) = va (ur (s * 4 + t)).toNatClampNeg) → post (nI R, nI L, nI S, nI b, nI n, nI p, cr, va, ss, upd sn s (nI (t + 1)), su, ur, ue, un, xr, xo, xn)) :
    wpX_takeStep post (nI R, nI L, nI S, nI b, nI n, nI p, cr, va, ss, sn, su, ur, ue, un, xr, xo, xn) (nI s) := by
  have hv : vp_in (nI s) 4 := vp_in_nI hs (by omega)
  have es : (nI s).toNatClampNeg = s := nI_clamp (by omega)
  have e2 : su (nI s).toNatClampNeg = nI k := by rw [es]; exact ek
  have e3 : sn (nI s).toNatClampNeg + 1 = nI (t + 1) := by rw [es, et, nI_1]
  have e4 : nI s * 4 + sn (nI s).toNatClampNeg = nI (s * 4 + t) := by rw [es, et, rx_i4]
  have e5 : upd sn (nI s).toNatClampNeg (sn (nI s).toNatClampNeg + 1) = upd sn s (nI (t + 1)) := by rw [e3, es]
  obtain ⟨r, hr, er⟩ := hf.1 t htk
  have ec : (nI (s * 4 + t)).toNatClampNeg = s * 4 + t := nI_clamp (by omega)
  have hw : vp_in (nI (s * 4 + t)) 16 := vp_in_nI (by omega) (by omega)
  have hvr : vp_in (ur (s * 4 + t)) 16 := by rw [er]; exact vp_in_nI (by omega) (by omega)
  refine ⟨hv, nm_r e2 ⟨hv, nm_r e3 (br_f (nI_nlt (by omega) (by omega)) ?_)⟩⟩
  refine ⟨hv, nm_r e4 ⟨hw, nm_r (e' := ur (s * 4 + t)) (by rw [ec]) ⟨hw, nm_r (e' := ue (s * 4 + t)) (by rw [ec]) (rx_xOther hS hs hI (fun ho => ?_) (fun ho => ?_))⟩⟩⟩
  · exact br_f (by decide) ⟨hv, nm_r (e' := upd ss s 5) (by rw [es]) (h5 ho)⟩
  · refine br_t rfl ?_
    by_cases a : ue (s * 4 + t) = -1
    · exact br_t a ⟨hv, hv, nm_r e5 (h0 ho (Or.inl a))⟩
    · by_cases c : ue (s * 4 + t) = va (ur (s * 4 + t)).toNatClampNeg
      · exact br_f a ⟨hvr, br_t c ⟨hv, hv, nm_r e5 (h0 ho (Or.inr c))⟩⟩
      · exact br_f a ⟨hvr, br_f c ⟨hv, nm_r (e' := upd ss s 6) (by rw [es]) (h6 ho a c)⟩⟩
theorem rx_xStepC {post : St2 → Prop} {s k : Nat} (hs : s < 4) (hk : k ≤ 4) (hR : R ≤ 16) (hL8 : 8 ≤ L) (hL : L ≤ 32) (hb : b < L) (hn : n ≤ L) (hf : rx_RF R ur s k) (et : sn s = nI k) (ek : su s = nI k)
    (hp : post (nI R, nI L, nI S, nI (rx_cb L b n k), nI (rx_cn L n k), nI p, cr, rx_vv ur un va s k, upd ss s 3, upd sn s (nI (k + 1)), su, ur, ue, un, rx_cx (rx_fr ur s) L b n xr k, rx_cx (rx_fo va ur s) L b n xo k, rx_cx (rx_fr un s) L b n xn k)) :
    wpX_takeStep post (nI R, nI L, nI S, nI b, nI n, nI p, cr, va, ss, sn, su, ur, ue, un, xr, xo, xn) (nI s) := by
  have hv : vp_in (nI s) 4 := vp_in_nI hs (by omega)
  have es : (nI s).toNatClampNeg = s := nI_clamp (by omega)
  have e2 : su (nI s).toNatClampNeg = nI k := by rw [es]; exact ek
  have e3 : sn (nI s).toNatClampNeg + 1 = nI (k + 1) := by rw [es, et, nI_1]
  exact ⟨hv, nm_r e2 ⟨hv, nm_r e3 (br_t (nI_lt (by omega) (by omega)) (br_t (nI_1 k).symm (rx_xCommit hs hk hR hL8 hL hb hn hf ek ⟨hv, nm_r (e' := upd sn s (nI (k + 1))) (by rw [es]) hp⟩)))⟩⟩
theorem rx_xStepA {post : St2 → Prop} {s t k : Nat} (hs : s < 4) (hk : k ≤ 4) (et : sn s = nI t) (ek : su s = nI k) (hkt : k < t) (ht : t ≤ 2 * k)
    (hp : post (nI R, nI L, nI S, nI b, nI n, nI p, cr, va, ss, upd sn s (nI (t + 1)), su, ur, ue, un, xr, xo, xn)) : wpX_takeStep post (nI R, nI L, nI S, nI b, nI n, nI p, cr, va, ss, sn, su, ur, ue, un, xr, xo, xn) (nI s) := by
  have hv : vp_in (nI s) 4 := vp_in_nI hs (by omega)
  have es : (nI s).toNatClampNeg = s := nI_clamp (by omega)
  have e2 : su (nI s).toNatClampNeg = nI k := by rw [es]; exact ek
  have e3 : sn (nI s).toNatClampNeg + 1 = nI (t + 1) := by rw [es, et, nI_1]
  exact ⟨hv, nm_r e2 ⟨hv, nm_r e3 (br_t (nI_lt (by omega) (by omega)) (br_f (rx_ne1 (by omega) (by omega) (by omega)) (br_f (by rw [rx_l2]; exact rx_ne (by omega) (by omega) (by omega)) ⟨hv, nm_r (e' := upd sn s (nI (t + 1))) (by rw [es]) hp⟩)))⟩⟩
theorem rx_xStepD {post : St2 → Prop} {s k : Nat} (hs : s < 4) (hk : k ≤ 4) (et : sn s = nI (2 * k + 1)) (ek : su s = nI k)
    (hp : post (nI R, nI L, nI S, nI b, nI n, nI p, cr, va, upd ss s 4, upd sn s (nI (2 * k + 2)), su, ur, ue, un, xr, xo, xn)) : wpX_takeStep post (nI R, nI L, nI S, nI b, nI n, nI p, cr, va, ss, sn, su, ur, ue, un, xr, xo, xn) (nI s) := by
  have hv : vp_in (nI s) 4 := vp_in_nI hs (by omega)
  have es : (nI s).toNatClampNeg = s := nI_clamp (by omega)
  have e2 : su (nI s).toNatClampNeg = nI k := by rw [es]; exact ek
  have e3 : sn (nI s).toNatClampNeg + 1 = nI (2 * k + 2) := by rw [es, et, nI_1]
  exact ⟨hv, nm_r e2 ⟨hv, nm_r e3 (br_t (nI_lt (by omega) (by omega)) (br_f (rx_ne1 (by omega) (by omega) (by omega)) (br_t (rx_l2 k).symm ⟨hv, nm_r (e' := upd ss s 4) (by rw [es]) ⟨hv, nm_r (e' := upd sn s (nI (2 * k + 2))) (by rw [es]) hp⟩⟩)))⟩⟩
end RX6
end
section
section RX7
variable {R L S b n p : Nat} {pk pd cr : Int32} {va ss sn su ur ue un xr xo xn yr yo yn : Nat → Int32}
theorem rx_d0 : rx_D9 0 := by unfold rx_D9; decide
theorem rx_d1 : rx_D9 1 := by unfold rx_D9; decide
theorem rx_d2 : rx_D9 2 := by unfold rx_D9; decide
theorem rx_d3 : rx_D9 3 := by unfold rx_D9; decide
theorem rx_d4 : rx_D9 4 := by unfold rx_D9; decide
theorem rx_d5 : rx_D9 5 := by unfold rx_D9; decide
theorem rx_d6 : rx_D9 6 := by unfold rx_D9; decide
theorem rx_d7 : rx_D9 7 := by unfold rx_D9; decide
theorem rx_d8 : rx_D9 8 := by unfold rx_D9; decide
theorem rx_SI_mk {s t k : Nat} {x : Int32} (ex : ss s = x) (et : sn s = nI t) (ek : su s = nI k) (hk : k ≤ 4) (ht : t ≤ 2 * k + 2) (hD : rx_D9 x) (h2 : x = 2 → t ≤ k) (h3 : x = 3 → k + 1 ≤ t ∧ t ≤ 2 * k + 1) (hf : rx_RF R ur s k) : rx_SI R ss sn su ur s :=
  ⟨t, k, et, ek, hk, ht, by rw [ex]; exact hD, by rw [ex]; exact h2, by rw [ex]; exact h3, hf⟩
/-- what a slot of k updates keeps of its steps -/
def rx_Tk (x : Int32) (t k : Nat) : Prop := t ≤ 2 * k + 2 ∧ (x = 2 → t ≤ k) ∧ (x = 3 → k + 1 ≤ t ∧ t ≤ 2 * k + 1)
theorem rx_xRun1 {post : Int32 → Prop} {s : Nat} (hs : s < 4) (h : ss s = 2 ∨ ss s = 3) (hp : post 1) : wpX_isRunning post (nI R, nI L, nI S, nI b, nI n, nI p, cr, va, ss, sn, su, ur, ue, un, xr, xo, xn) (nI s) := by
  have hv : vp_in (nI s) 4 := vp_in_nI hs (by omega)
  unfold wpX_isRunning
  dsimp only
  rw [nI_clamp (show s < 2 ^ 31 by omega)]
  by_cases a : ss s = 2
  · exact ⟨hv, br_t a hp⟩
  · exact ⟨hv, br_f a ⟨hv, br_t (h.resolve_left a) hp⟩⟩
theorem rx_xRun0 {post : Int32 → Prop} {s : Nat} (hs : s < 4) (h : ¬ (ss s = 2 ∨ ss s = 3)) (hp : post 0) : wpX_isRunning post (nI R, nI L, nI S, nI b, nI n, nI p, cr, va, ss, sn, su, ur, ue, un, xr, xo, xn) (nI s) := by
  have hv : vp_in (nI s) 4 := vp_in_nI hs (by omega)
  unfold wpX_isRunning
  dsimp only
  rw [nI_clamp (show s < 2 ^ 31 by omega)]
  exact ⟨hv, br_f (fun z => h (Or.inl z)) ⟨hv, br_f (fun z => h (Or.inr z)) hp⟩⟩
end RX7
end
section
section RX8
variable {R L S b n p : Nat} {pk pd cr : Int32} {va ss sn su ur ue un xr xo xn yr yo yn : Nat → Int32}
/-! is it a slot, a ref -/
theorem rx_xSl0 {post : Int32 → Prop} {x : Int32} (h : x < 0 ∨ nI S ≤ x) (hp : post 0) : wpX_isSlot post (nI R, nI L, nI S, nI b, nI n, nI p, cr, va, ss, sn, su, ur, ue, un, xr, xo, xn) x := br_c (fun _ => hp) (fun a => br_t (h.resolve_left a) hp)
theorem rx_xSl1 {post : Int32 → Prop} {s : Nat} (hs : s < S) (hS : S ≤ 4) (hp : post 1) : wpX_isSlot post (nI R, nI L, nI S, nI b, nI n, nI p, cr, va, ss, sn, su, ur, ue, un, xr, xo, xn) (nI s) := br_f (nI_pos (by omega)) (br_f (nI_ge hs (by omega)) hp)
theorem rx_xRf0 {post : Int32 → Prop} {x : Int32} (h : x < 0 ∨ nI R ≤ x) (hp : post 0) : wpX_isRef post (nI R, nI L, nI S, nI b, nI n, nI p, cr, va, ss, sn, su, ur, ue, un, xr, xo, xn) x := br_c (fun _ => hp) (fun a => br_t (h.resolve_left a) hp)
theorem rx_xRf1 {post : Int32 → Prop} {r : Nat} (hr : r < R) (hR : R ≤ 16) (hp : post 1) : wpX_isRef post (nI R, nI L, nI S, nI b, nI n, nI p, cr, va, ss, sn, su, ur, ue, un, xr, xo, xn) (nI r) := br_f (nI_pos (by omega)) (br_f (nI_ge hr (by omega)) hp)
/-! begin -/
theorem rx_xUse1 {post : Int32 → Prop} {s : Nat} (hs : s < 4) (h : ss s = 1 ∨ ss s = 2 ∨ ss s = 3) (hp : post 1) : wpX_isInUse post (nI R, nI L, nI S, nI b, nI n, nI p, cr, va, ss, sn, su, ur, ue, un, xr, xo, xn) (nI s) := by
  have hv : vp_in (nI s) 4 := vp_in_nI hs (by omega)
  have es : (nI s).toNatClampNeg = s := nI_clamp (by omega)
  by_cases a : ss s = 1
  · exact ⟨hv, br_t (by rw [es]; exact a) hp⟩
  · exact ⟨hv, br_f (by rw [es]; exact a) (rx_xRun1 hs (h.resolve_left a) (br_f (by decide) hp))⟩
theorem rx_xUse0 {post : Int32 → Prop} {s : Nat} (hs : s < 4) (h : ¬ (ss s = 1 ∨ ss s = 2 ∨ ss s = 3)) (hp : post 0) : wpX_isInUse post (nI R, nI L, nI S, nI b, nI n, nI p, cr, va, ss, sn, su, ur, ue, un, xr, xo, xn) (nI s) := by
  have hv : vp_in (nI s) 4 := vp_in_nI hs (by omega)
  have es : (nI s).toNatClampNeg = s := nI_clamp (by omega)
  exact ⟨hv, br_f (by rw [es]; exact fun z => h (Or.inl z)) (rx_xRun0 hs (fun z => h (Or.inr z)) (br_t rfl hp))⟩
/-! crash -/
theorem rx_xUnc1 {post : Int32 → Prop} {s : Nat} (hs : s < 4) (h : ss s = 1 ∨ ss s = 2) (hp : post 1) : wpX_isUncommitted post (nI R, nI L, nI S, nI b, nI n, nI p, cr, va, ss, sn, su, ur, ue, un, xr, xo, xn) (nI s) := by
  have hv : vp_in (nI s) 4 := vp_in_nI hs (by omega)
  have es : (nI s).toNatClampNeg = s := nI_clamp (by omega)
  by_cases a : ss s = 1
  · exact ⟨hv, br_t (by rw [es]; exact a) hp⟩
  · exact ⟨hv, br_f (by rw [es]; exact a) ⟨hv, br_t (by rw [es]; exact h.resolve_left a) hp⟩⟩
theorem rx_xUnc0 {post : Int32 → Prop} {s : Nat} (hs : s < 4) (h : ¬ (ss s = 1 ∨ ss s = 2)) (hp : post 0) : wpX_isUncommitted post (nI R, nI L, nI S, nI b, nI n, nI p, cr, va, ss, sn, su, ur, ue, un, xr, xo, xn) (nI s) := by
  have hv : vp_in (nI s) 4 := vp_in_nI hs (by omega)
  have es : (nI s).toNatClampNeg = s := nI_clamp (by omega)
  exact ⟨hv, br_f (by rw [es]; exact fun z => h (Or.inl z)) ⟨hv, br_f (by rw [es]; exact fun z => h (Or.inr z)) hp⟩⟩
theorem rx_xSet7 {post : St2 → Prop} {s : Nat} (hs : s < 4) (h : ss s = 1 ∨ ss s = 2) (hp : post (nI R, nI L, nI S, nI b, nI n, nI p, cr, va, upd ss s 7, sn, su, ur, ue, un, xr, xo, xn)) : wpX_settleAtCrash post (nI R, nI L, nI S, nI b, nI n, nI p, cr, va, ss, sn, su, ur, ue, un, xr, xo, xn) (nI s) := by
  have hv : vp_in (nI s) 4 := vp_in_nI hs (by omega)
  have es : (nI s).toNatClampNeg = s := nI_clamp (by omega)
  unfold wpX_settleAtCrash
  exact rx_xUnc1 hs h (br_f (by decide) ⟨hv, nm_r (e' := upd ss s 7) (by rw [es]) hp⟩)
theorem rx_xSet4 {post : St2 → Prop} {s k : Nat} (hs : s < 4) (h : ss s = 3) (ek : su s = nI k) (hp : post (nI R, nI L, nI S, nI b, nI n, nI p, cr, va, upd ss s 4, upd sn s (nI (2 * k + 2)), su, ur, ue, un, xr, xo, xn)) : wpX_settleAtCrash post (nI R, nI L, nI S, nI b, nI n, nI p, cr, va, ss, sn, su, ur, ue, un, xr, xo, xn) (nI s) := by
  have hv : vp_in (nI s) 4 := vp_in_nI hs (by omega)
  have es : (nI s).toNatClampNeg = s := nI_clamp (by omega)
  have eu : upd sn (nI s).toNatClampNeg (2 * su (nI s).toNatClampNeg + 2) = upd sn s (nI (2 * k + 2)) := by rw [es, ek, rx_l2]
  unfold wpX_settleAtCrash
  exact rx_xUnc0 hs (by rw [h]; decide) (br_t rfl ⟨hv, br_t (by rw [es]; exact h) ⟨hv, nm_r (e' := upd ss s 4) (by rw [es]) ⟨hv, hv, nm_r eu hp⟩⟩⟩)
theorem rx_xSetN {post : St2 → Prop} {s : Nat} (hs : s < 4) (h : ¬ (ss s = 1 ∨ ss s = 2)) (h3 : ¬ ss s = 3) (hp : post (nI R, nI L, nI S, nI b, nI n, nI p, cr, va, ss, sn, su, ur, ue, un, xr, xo, xn)) : wpX_settleAtCrash post (nI R, nI L, nI S, nI b, nI n, nI p, cr, va, ss, sn, su, ur, ue, un, xr, xo, xn) (nI s) := by
  have hv : vp_in (nI s) 4 := vp_in_nI hs (by omega)
  have es : (nI s).toNatClampNeg = s := nI_clamp (by omega)
  unfold wpX_settleAtCrash
  exact rx_xUnc0 hs h (br_t rfl ⟨hv, br_f (by rw [es]; exact h3) hp⟩)
end RX8
end
section
section PZ8
/-! the newest entry of each ref holds its value -/
def pz_NW (n : Nat) (yr yn va : Nat → Int32) : Prop := ∀ i, i < n → (∀ j, i < j → j < n → ¬ yr j = yr i) → yn i = va (yr i).toNatClampNeg
def pz_RG (n : Nat) (yr : Nat → Int32) : Prop := ∀ i, i < n → ∃ r, r < 4 ∧ yr i = nI r
theorem pz_nw1 {n r0 : Nat} {yr yn va : Nat → Int32} {w : Int32} (hr : r0 < 4) (h : pz_NW n yr yn va) (g : pz_RG n yr) :
    pz_NW (n + 1) (upd yr n (nI r0)) (upd yn n w) (upd va r0 w) ∧ pz_RG (n + 1) (upd yr n (nI r0)) := by
  constructor
  · intro i hi hj
    by_cases e : i = n
    · subst e
      rw [pk_us, pk_us, nI_clamp (by omega), pk_us]
    · obtain ⟨r, hr4, er⟩ := g i (by omega)
      have hne := hj n (by omega) (by omega)
      rw [pk_us, pk_un e, er] at hne
      have hrr : r ≠ r0 := fun z => hne (by rw [z])
      have hh := h i (by omega) (fun j h1 h2 => by
        have := hj j h1 (by omega)
        rw [pk_un (show j ≠ n by omega), pk_un e] at this
        exact this)
      rw [pk_un e, pk_un e, hh, er, nI_clamp (by omega), pk_un hrr]
  · intro i hi
    by_cases e : i = n
    · rw [e, pk_us]; exact ⟨r0, hr, rfl⟩
    · rw [pk_un e]; exact g i (by omega)
theorem pz_nw2 {n : Nat} {yr yn va : Nat → Int32} (h : pz_NW n yr yn va) (g : pz_RG n yr) : pz_NW (n - 1) (rx_sh yr n) (rx_sh yn n) va ∧ pz_RG (n - 1) (rx_sh yr n) := by
  have sh : ∀ (a : Nat → Int32) i, i < n - 1 → rx_sh a n i = a (i + 1) := fun a i hi => if_pos (by omega)
  constructor
  · intro i hi hj
    rw [sh yn i hi, sh yr i hi]
    refine h (i + 1) (by omega) (fun j h1 h2 => ?_)
    have := hj (j - 1) (by omega) (by omega)
    rw [sh yr i hi, sh yr (j - 1) (by omega), show j - 1 + 1 = j by omega] at this
    exact this
  · intro i hi
    rw [sh yr i hi]
    exact g (i + 1) (by omega)
theorem pz_nw {L n r0 : Nat} {yr yn va : Nat → Int32} {w : Int32} (hL : 0 < L) (hn : n ≤ L) (hr : r0 < 4) (h : pz_NW n yr yn va) (g : pz_RG n yr) :
    pz_NW (rx_nn L n + 1) (rx_ap yr L n (nI r0)) (rx_ap yn L n w) (upd va r0 w) ∧ pz_RG (rx_nn L n + 1) (rx_ap yr L n (nI r0)) := by
  by_cases hl : n < L
  · have e1 : rx_nn L n = n := if_pos hl
    have ea : ∀ (y : Nat → Int32) (r : Int32), rx_ap y L n r = upd y n r := fun y r => by unfold rx_ap; rw [if_pos hl, e1]
    rw [e1, ea, ea]
    exact pz_nw1 hr h g
  · have e1 : rx_nn L n = n - 1 := if_neg hl
    have ea : ∀ (y : Nat → Int32) (r : Int32), rx_ap y L n r = upd (rx_sh y n) (n - 1) r := fun y r => by unfold rx_ap; rw [if_neg hl, e1]
    rw [e1, ea, ea]
    have h2 := pz_nw2 h g
    exact pz_nw1 hr h2.1 h2.2
theorem pz_nwc {L n k s : Nat} {ur un va yr yn : Nat → Int32} (hL : 0 < L) (hn : n ≤ L) (hf : rx_RF 4 ur s k) (h : pz_NW n yr yn va) (g : pz_RG n yr) :
    ∀ i, i ≤ k → pz_NW (rx_cn L n i) (rx_ca (rx_fr ur s) L n yr i) (rx_ca (rx_fr un s) L n yn i) (rx_vv ur un va s i) ∧ pz_RG (rx_cn L n i) (rx_ca (rx_fr ur s) L n yr i) := by
  intro i
  induction i with
  | zero => intro _; exact ⟨h, g⟩
  | succ i ih =>
    intro hi
    obtain ⟨h1, g1⟩ := ih (by omega)
    obtain ⟨r, hr, er⟩ := hf.1 i (by omega)
    have st := pz_nw (w := un (s * 4 + i)) hL (rx_cn_le hL hn i) hr h1 g1
    have e2 : rx_vv ur un va s (i + 1) = upd (rx_vv ur un va s i) r (un (s * 4 + i)) := by
      show upd (rx_vv ur un va s i) (ur (s * 4 + i)).toNatClampNeg (un (s * 4 + i)) = _
      rw [er, nI_clamp (by omega)]
    have e3 : rx_ca (rx_fr ur s) L n yr (i + 1) = rx_ap (rx_ca (rx_fr ur s) L n yr i) L (rx_cn L n i) (nI r) := by
      show rx_ap (rx_ca (rx_fr ur s) L n yr i) L (rx_cn L n i) (ur (s * 4 + i)) = _
      rw [er]
    rw [e2, e3]
    exact st
theorem pz_cn {L n : Nat} (hL : 0 < L) (hn : n ≤ L) : ∀ i, rx_cn L n i = if n + i ≤ L then n + i else L := by
  intro i
  induction i with
  | zero => rw [if_pos (by omega)]; rfl
  | succ i ih =>
    show rx_nn L (rx_cn L n i) + 1 = _
    rw [ih]
    unfold rx_nn
    by_cases h : n + i < L
    · rw [if_pos (show n + i ≤ L by omega), if_pos h, if_pos (by omega)]; omega
    · by_cases h2 : n + i ≤ L
      · rw [if_pos h2, if_neg h, if_neg (by omega)]; omega
      · rw [if_neg h2, if_neg (by omega), if_neg (by omega)]; omega
/-! the law's picture of the values, and of a slot -/
def pz_V (x : Int64) (va : Nat → Int32) : Prop := ∃ m, m < 65536 ∧ x = lN m ∧ ∀ r, r < 4 → va r = nI (m / 16 ^ r % 16)
def pz_G (x : Int64) (j : Nat) (ss su ur un : Nat → Int32) : Prop :=
  ∃ m k : Nat, x = lN m ∧ su j = nI k ∧ k ≤ 4 ∧ m % 8 = k ∧ m < 2 ^ (4 + 6 * k) ∧ (m / 8 % 2 = 1 ↔ (ss j = 3 ∨ ss j = 4)) ∧
    ∀ i, i < k → ur (j * 4 + i) = nI (m / 2 ^ (4 + 6 * i) % 4) ∧ un (j * 4 + i) = nI (m / 2 ^ (6 + 6 * i) % 16)
/-- the facts of a slot's picture rest on its own cells alone -/
theorem pz_G_eq {x : Int64} {j : Nat} {ss su ur un ss' su' ur' un' : Nat → Int32} (h : pz_G x j ss su ur un) (h1 : (ss' j = 3 ∨ ss' j = 4) ↔ (ss j = 3 ∨ ss j = 4)) (h2 : su' j = su j)
    (h3 : ∀ i, i < 4 → ur' (j * 4 + i) = ur (j * 4 + i) ∧ un' (j * 4 + i) = un (j * 4 + i)) : pz_G x j ss' su' ur' un' := by
  obtain ⟨m, k, e1, e2, g1, g2, g3, g4, g5⟩ := h
  refine ⟨m, k, e1, h2.trans e2, g1, g2, g3, g4.trans h1.symm, fun i hi => ?_⟩
  rw [(h3 i (by omega)).1, (h3 i (by omega)).2]
  exact g5 i hi
theorem pz_G0 {j : Nat} {ss su ur un : Nat → Int32} (h : su j = 0) (h1 : ¬ (ss j = 3 ∨ ss j = 4)) : pz_G 0 j ss su ur un :=
  ⟨0, 0, rfl, h, by omega, rfl, by decide, ⟨fun z => absurd z (by decide), fun z => absurd z h1⟩, fun i hi => absurd hi (by omega)⟩
theorem pz_p16 (k : Nat) (hk : k ≤ 4) : 2 ^ (4 + 6 * k) ≤ 2 ^ 28 := Nat.pow_le_pow_right (by decide) (by omega)
/-- one more update in the picture -/
theorem pz_Gadd {x : Int64} {j k r w : Nat} {ss su ur un ue : Nat → Int32} (h : pz_G x j ss su ur un) (ek : su j = nI k) (hk : k < 4) (hr : r < 4) (hw : w < 16) (hs : ss j = 1) :
    ∃ m, x = lN m ∧ m < 2 ^ 22 ∧ m % 8 = k ∧ m < 2 ^ (4 + 6 * k) ∧ pz_G (lN (m + 1 + (r + 4 * w) * 2 ^ (4 + 6 * k))) j ss (upd su j (nI (k + 1))) (upd ur (j * 4 + k) (nI r)) (upd un (j * 4 + k) (nI w)) := by
  obtain ⟨m, k', e1, e2, g1, g2, g3, g4, g5⟩ := h
  have ekk : k' = k := (nI_eq (by omega) (by omega)).mp (e2.symm.trans ek)
  subst ekk
  have hp : 2 ^ (4 + 6 * k') ≤ 2 ^ 22 := Nat.pow_le_pow_right (by decide) (by omega)
  have ha : m / 8 % 2 = 0 := by
    have : ¬ m / 8 % 2 = 1 := fun z => by
      rcases g4.mp z with q | q
      · rw [hs] at q; exact absurd q (by decide)
      · rw [hs] at q; exact absurd q (by decide)
    omega
  refine ⟨m, e1, by omega, g2, g3, m + 1 + (r + 4 * w) * 2 ^ (4 + 6 * k'), k' + 1, rfl, pk_us, by omega, ?_, ?_, ?_, fun i hi => ?_⟩
  · have c : k' = 0 ∨ k' = 1 ∨ k' = 2 ∨ k' = 3 := by omega
    rcases c with rfl | rfl | rfl | rfl <;> omega
  · have c : k' = 0 ∨ k' = 1 ∨ k' = 2 ∨ k' = 3 := by omega
    rcases c with rfl | rfl | rfl | rfl <;> omega
  · have c : k' = 0 ∨ k' = 1 ∨ k' = 2 ∨ k' = 3 := by omega
    have z : (m + 1 + (r + 4 * w) * 2 ^ (4 + 6 * k')) / 8 % 2 = 0 := by
      rcases c with rfl | rfl | rfl | rfl <;> omega
    rw [z, hs]
    decide
  · by_cases e : i = k'
    · rw [e, pk_us, pk_us]
      have c : k' = 0 ∨ k' = 1 ∨ k' = 2 ∨ k' = 3 := by omega
      have z1 : (m + 1 + (r + 4 * w) * 2 ^ (4 + 6 * k')) / 2 ^ (4 + 6 * k') % 4 = r := by
        rcases c with rfl | rfl | rfl | rfl <;> omega
      have z2 : (m + 1 + (r + 4 * w) * 2 ^ (4 + 6 * k')) / 2 ^ (6 + 6 * k') % 16 = w := by
        rcases c with rfl | rfl | rfl | rfl <;> omega
      rw [z1, z2]
      exact ⟨rfl, rfl⟩
    · have hi' : i < k' := by omega
      rw [pk_un (show j * 4 + i ≠ j * 4 + k' by omega), pk_un (show j * 4 + i ≠ j * 4 + k' by omega), (g5 i hi').1, (g5 i hi').2]
      have c : k' = 1 ∨ k' = 2 ∨ k' = 3 := by omega
      have c2 : i = 0 ∨ i = 1 ∨ i = 2 := by omega
      have z1 : (m + 1 + (r + 4 * w) * 2 ^ (4 + 6 * k')) / 2 ^ (4 + 6 * i) % 4 = m / 2 ^ (4 + 6 * i) % 4 := by
        rcases c with rfl | rfl | rfl <;> rcases c2 with rfl | rfl | rfl <;> omega
      have z2 : (m + 1 + (r + 4 * w) * 2 ^ (4 + 6 * k')) / 2 ^ (6 + 6 * i) % 16 = m / 2 ^ (6 + 6 * i) % 16 := by
        rcases c with rfl | rfl | rfl <;> rcases c2 with rfl | rfl | rfl <;> omega
      rw [z1, z2]
      exact ⟨rfl, rfl⟩
/-- a slot's picture marked as applied -/
theorem pz_Gap {x : Int64} {j : Nat} {ss su ur un ss' : Nat → Int32} (h : pz_G x j ss su ur un) (hs : ¬ (ss j = 3 ∨ ss j = 4)) (hs' : ss' j = 3 ∨ ss' j = 4) : pz_G (x ||| 8) j ss' su ur un := by
  obtain ⟨m, k, e1, e2, g1, g2, g3, g4, g5⟩ := h
  have hp := pz_p16 k g1
  have ha : m / 8 % 2 = 0 := by
    have : ¬ m / 8 % 2 = 1 := fun z => hs (g4.mp z)
    omega
  refine ⟨m + 8, k, by rw [e1, pz_or8 (by omega) ha], e2, g1, by omega, ?_, ⟨fun _ => hs', fun _ => by omega⟩, fun i hi => ?_⟩
  · have c : k = 0 ∨ k = 1 ∨ k = 2 ∨ k = 3 ∨ k = 4 := by omega
    rcases c with rfl | rfl | rfl | rfl | rfl <;> omega
  · rw [(g5 i hi).1, (g5 i hi).2]
    have c2 : i = 0 ∨ i = 1 ∨ i = 2 ∨ i = 3 := by omega
    have z1 : (m + 8) / 2 ^ (4 + 6 * i) % 4 = m / 2 ^ (4 + 6 * i) % 4 := by
      rcases c2 with rfl | rfl | rfl | rfl <;> omega
    have z2 : (m + 8) / 2 ^ (6 + 6 * i) % 16 = m / 2 ^ (6 + 6 * i) % 16 := by
      rcases c2 with rfl | rfl | rfl | rfl <;> omega
    rw [z1, z2]
    exact ⟨rfl, rfl⟩
/-! the law's own small methods -/
theorem pz_wGet {post : Int32 → Prop} {x : Int64} {va : Nat → Int32} {r : Nat} (hv : pz_V x va) (hr : r < 4) (hp : post (va r)) : wpL_getV post () x (nI r) := by
  obtain ⟨m, hm, rfl, h⟩ := hv
  unfold wpL_getV
  rw [pz_getV (by omega) hr, ← h r hr]
  exact hp
theorem pz_wCnt {post : Int32 → Prop} {x : Int64} {j k : Nat} {ss su ur un : Nat → Int32} (h : pz_G x j ss su ur un) (ek : su j = nI k) (hk : k ≤ 4) (hp : post (nI k)) : wpL_cnt post () x := by
  obtain ⟨m, k', rfl, e2, g1, g2, g3, g4, g5⟩ := h
  have ekk : k' = k := (nI_eq (by omega) (by omega)).mp (e2.symm.trans ek)
  have h1 := pz_p16 k' g1
  unfold wpL_cnt
  rw [pz_cnt (by omega), g2, ekk]
  exact hp
theorem pz_wApp {post : Int32 → Prop} {x : Int64} {j : Nat} {ss su ur un : Nat → Int32} (h : pz_G x j ss su ur un) (h1 : (ss j = 3 ∨ ss j = 4) → post 1) (h0 : ¬ (ss j = 3 ∨ ss j = 4) → post 0) : wpL_applied post () x := by
  obtain ⟨m, k, rfl, e2, g1, g2, g3, g4, g5⟩ := h
  have hp := pz_p16 k g1
  unfold wpL_applied
  rw [pz_bit3 (by omega)]
  by_cases a : m / 8 % 2 = 1
  · rw [a]
    exact br_f (by decide) (h1 (g4.mp a))
  · have a0 : m / 8 % 2 = 0 := by omega
    rw [a0]
    exact br_t (by decide) (h0 (fun z => a (g4.mpr z)))
/-- the updates of a slot applied: the values are those of the commit step -/
theorem pz_all {post : Int64 → Prop} {x : Int64} {j k : Nat} {ss su ur un va : Nat → Int32} (h : pz_G x j ss su ur un) (ek : su j = nI k) (hk : k ≤ 4)
    (hp : ∀ y, pz_V y (rx_vv ur un va j k) → post y) : ∀ d i y, i + d = k → pz_V y (rx_vv ur un va j i) → wL_applyAll_9 post x (nI k) (d + 1) y (nI i) := by
  obtain ⟨m, k', rfl, e2, g1, g2, g3, g4, g5⟩ := h
  have ekk : k' = k := (nI_eq (by omega) (by omega)).mp (e2.symm.trans ek)
  subst ekk
  have h1 := pz_p16 k' g1
  intro d
  induction d with
  | zero =>
    intro i y hi hv
    obtain rfl : i = k' := by omega
    exact br_t (nI_le (by omega) (by omega)) (hp y hv)
  | succ d ih =>
    intro i y hi hv
    have hr : m / 2 ^ (4 + 6 * i) % 4 < 4 := Nat.mod_lt _ (by decide)
    have hw : m / 2 ^ (6 + 6 * i) % 16 < 16 := Nat.mod_lt _ (by decide)
    obtain ⟨u, hu, rfl, hvu⟩ := hv
    obtain ⟨u', hu', es, e0, eo⟩ := pz_setV (m := u) hu hr hw
    refine br_f (nI_ge (by omega) (by omega)) (br_f (nI_ge (b := 4) (by omega) (by decide)) ?_)
    unfold wpL_uRef wpL_uNew wpL_setV
    rw [pz_uRef (by omega) (by omega), pz_uNew (by omega) (by omega)]
    dsimp only
    rw [es]
    refine nm_r (nI_1 i) (ih (i + 1) (lN u') (by omega) ⟨u', hu', rfl, fun q hq => ?_⟩)
    show upd (rx_vv ur un va j i) (ur (j * 4 + i)).toNatClampNeg (un (j * 4 + i)) q = _
    rw [(g5 i (by omega)).1, (g5 i (by omega)).2, nI_clamp (by omega)]
    by_cases e : q = m / 2 ^ (4 + 6 * i) % 4
    · rw [e, pk_us, e0]
    · rw [pk_un e, eo q hq e]; exact hvu q hq
theorem pz_wAll {post : Int64 → Prop} {x y : Int64} {j k : Nat} {ss su ur un va : Nat → Int32} (h : pz_G x j ss su ur un) (ek : su j = nI k) (hk : k ≤ 4) (hv : pz_V y va)
    (hp : ∀ y, pz_V y (rx_vv ur un va j k) → post y) : wpL_applyAll post () y x := by
  unfold wpL_applyAll
  exact pz_wCnt h ek hk ⟨k + 1, pz_all h ek hk hp k 0 y (by omega) hv⟩
theorem pz_wAdd {post : Int64 → Prop} {m k r w : Nat} (hk : k < 4) (hm : m < 2 ^ (4 + 6 * k)) (h8 : m % 8 = k) (hr : r < 4) (hw : w < 16) (hp : post (lN (m + 1 + (r + 4 * w) * 2 ^ (4 + 6 * k)))) : wpL_addU post () (lN m) (nI r) (nI w) := by
  have h1 := pz_p16 k (by omega)
  unfold wpL_addU wpL_cnt
  rw [pz_cnt (by omega), h8]
  refine nm_e ?_
  rw [pz_addU hk hm h8 hr hw]
  exact hp
end PZ8
end
section
section PZ9
variable {b n p : Nat} {cr : Int32} {va ss sn su ur ue un xr xo xn yr yn : Nat → Int32}
/-! the readers -/
theorem pz_value {post : Int32 → Prop} {r : Nat} (c0 : cr = 0) (hr : r < 4) (hp : post (va r)) : wpX_value post (nI 4, nI 8, nI 2, nI b, nI n, nI p, cr, va, ss, sn, su, ur, ue, un, xr, xo, xn) (nI r) := by
  have hv : vp_in (nI r) 16 := vp_in_nI (by omega) (by omega)
  have er : (nI r).toNatClampNeg = r := nI_clamp (by omega)
  exact br_t c0 (rx_xRf1 hr (by omega) (br_f (by decide) ⟨hv, by rw [er]; exact hp⟩))
theorem pz_status {post : Int32 → Prop} {s : Nat} (c0 : cr = 0) (hs : s < 2) (hp : post (ss s)) : wpX_status post (nI 4, nI 8, nI 2, nI b, nI n, nI p, cr, va, ss, sn, su, ur, ue, un, xr, xo, xn) (nI s) := by
  have hv : vp_in (nI s) 4 := vp_in_nI (by omega) (by omega)
  have er : (nI s).toNatClampNeg = s := nI_clamp (by omega)
  exact br_t c0 (rx_xSl1 hs (by omega) (br_f (by decide) ⟨hv, by rw [er]; exact hp⟩))
theorem pz_ent0 {post : Int32 → Prop} {i : Nat} (c0 : cr = 0) (hb : b < 8) (hn : n ≤ 8) (hi : i < n) (h : rx_LG 8 b n xr yr) (hp : post (yr i)) : wpX_logEntry post (nI 4, nI 8, nI 2, nI b, nI n, nI p, cr, va, ss, sn, su, ur, ue, un, xr, xo, xn) (nI i) 0 := by
  have hg := rx_g_lt hb (show i ≤ 8 by omega)
  have hw : vp_in (nI (rx_g 8 b i)) 32 := vp_in_nI (by omega) (by omega)
  have eg : (nI (rx_g 8 b i)).toNatClampNeg = rx_g 8 b i := nI_clamp (by omega)
  exact br_t c0 (br_f (nI_pos (by omega)) (br_t (nI_lt hi (by omega)) (rx_xCell (by omega) hb (by omega) (br_f (by decide) (br_f (by decide) (br_t rfl ⟨hw, by rw [eg, ← h i hi]; exact hp⟩))))))
theorem pz_ent2 {post : Int32 → Prop} {i : Nat} (c0 : cr = 0) (hb : b < 8) (hn : n ≤ 8) (hi : i < n) (h : rx_LG 8 b n xn yn) (hp : post (yn i)) : wpX_logEntry post (nI 4, nI 8, nI 2, nI b, nI n, nI p, cr, va, ss, sn, su, ur, ue, un, xr, xo, xn) (nI i) 2 := by
  have hg := rx_g_lt hb (show i ≤ 8 by omega)
  have hw : vp_in (nI (rx_g 8 b i)) 32 := vp_in_nI (by omega) (by omega)
  have eg : (nI (rx_g 8 b i)).toNatClampNeg = rx_g 8 b i := nI_clamp (by omega)
  exact br_t c0 (br_f (nI_pos (by omega)) (br_t (nI_lt hi (by omega)) (rx_xCell (by omega) hb (by omega) (br_f (by decide) (br_f (by decide) (br_f (by decide) (br_f (by decide) (br_t rfl ⟨hw, by rw [eg, ← h i hi]; exact hp⟩))))))))
/-! begin -/
theorem pz_beg11 {post : Int32 → St2 → Prop} (h6 : post (-6) (nI 4, nI 8, nI 2, nI b, nI n, nI p, cr, va, ss, sn, su, ur, ue, un, xr, xo, xn)) (hj : ∀ j, j < 2 → ¬ (ss j = 1 ∨ ss j = 2 ∨ ss j = 3) → post (nI j) (nI 4, nI 8, nI 2, nI b, nI n, nI p, cr, va, upd ss j 1, upd sn j 0, upd su j 0, ur, ue, un, xr, xo, xn)) : ∀ d i, i + d = 2 → wX_begin_11 post (nI 4) (nI 8) (nI 2) (nI b) (nI n) (nI p) cr va ss sn su ur ue un xr xo xn (d + 1) (nI i) := by
  intro d
  induction d with
  | zero =>
    intro i hi
    exact br_t (nI_le (by omega) (by omega)) h6
  | succ d ih =>
    intro i hi
    have hv : vp_in (nI i) 4 := vp_in_nI (by omega) (by omega)
    have es : (nI i).toNatClampNeg = i := nI_clamp (by omega)
    by_cases hu : ss i = 1 ∨ ss i = 2 ∨ ss i = 3
    · exact br_f (nI_ge (by omega) (by omega)) (rx_xUse1 (by omega) hu (br_f (by decide) (nm_r (nI_1 i) (ih (i + 1) (by omega)))))
    · exact br_f (nI_ge (by omega) (by omega)) (rx_xUse0 (by omega) hu (br_t rfl ⟨hv, nm_r (e' := upd su i 0) (by rw [es]) ⟨hv, nm_r (e' := upd sn i 0) (by rw [es]) ⟨hv, nm_r (e' := upd ss i 1) (by rw [es]) (hj i (by omega) hu)⟩⟩⟩))
theorem pz_begin {post : Int32 → St2 → Prop} (c0 : cr = 0) (h6 : post (-6) (nI 4, nI 8, nI 2, nI b, nI n, nI p, cr, va, ss, sn, su, ur, ue, un, xr, xo, xn)) (hj : ∀ j, j < 2 → ¬ (ss j = 1 ∨ ss j = 2 ∨ ss j = 3) → post (nI j) (nI 4, nI 8, nI 2, nI b, nI n, nI p, cr, va, upd ss j 1, upd sn j 0, upd su j 0, ur, ue, un, xr, xo, xn)) : wpX_begin post (nI 4, nI 8, nI 2, nI b, nI n, nI p, cr, va, ss, sn, su, ur, ue, un, xr, xo, xn) :=
  br_t c0 ⟨3, pz_beg11 h6 hj 2 0 rfl⟩
/-! add -/
theorem pz_add {post : Int32 → St2 → Prop} {s k r : Nat} {v3 v4 : Int32} (c0 : cr = 0) (hs : s < 2) (hr : r < 4) (ek : su s = nI k) (hk4 : k ≤ 4) (hx : ∀ x, ¬ x = 0 → post x (nI 4, nI 8, nI 2, nI b, nI n, nI p, cr, va, ss, sn, su, ur, ue, un, xr, xo, xn))
    (h0 : ss s = 1 → k < 4 → (∀ j, j < k → ¬ ur (s * 4 + j) = nI r) → post 0 (nI 4, nI 8, nI 2, nI b, nI n, nI p, cr, va, ss, sn, upd su s (nI (k + 1)), upd ur (s * 4 + k) (nI r), upd ue (s * 4 + k) v3, upd un (s * 4 + k) v4, xr, xo, xn)) : wpX_add post (nI 4, nI 8, nI 2, nI b, nI n, nI p, cr, va, ss, sn, su, ur, ue, un, xr, xo, xn) (nI s) (nI r) v3 v4 := by
  have hs4 : s < 4 := by omega
  have hv : vp_in (nI s) 4 := vp_in_nI hs4 (by omega)
  have es : (nI s).toNatClampNeg = s := nI_clamp (by omega)
  have e2 : su (nI s).toNatClampNeg = nI k := by rw [es]; exact ek
  by_cases a1 : ss (nI s).toNatClampNeg = 1
  · by_cases a2 : v3 < -1
    · exact br_t c0 (rx_xSl1 hs (by omega) (br_f (by decide) ⟨hv, br_t a1 (rx_xRf1 hr (by omega) (br_f (by decide) (br_t a2 (hx _ (by decide)))))⟩))
    · by_cases a3 : 0 ≤ v4
      · by_cases a4 : su (nI s).toNatClampNeg < 4
        · have hk : k < 4 := by
            rw [e2] at a4
            rcases Nat.lt_or_ge k 4 with z | z
            · exact z
            · exact absurd a4 (nI_nlt (b := 4) z (by omega))
          have ec : (nI (s * 4 + k)).toNatClampNeg = s * 4 + k := nI_clamp (by omega)
          have hw : vp_in (nI (s * 4 + k)) 16 := vp_in_nI (by omega) (by omega)
          refine br_t c0 (rx_xSl1 hs (by omega) (br_f (by decide) ⟨hv, br_t a1 (rx_xRf1 hr (by omega) (br_f (by decide) (br_f a2 (br_t a3 ⟨hv, br_t a4 ⟨hv, ?_⟩⟩))))⟩))
          rw [e2]
          refine rx_xNamed hs4 hk4 (fun hj => ?_) (fun hj => ?_)
          · exact br_f (by decide) (hx _ (by decide))
          · exact br_t rfl ⟨hv, nm_r rx_i4 ⟨hw, nm_r (e' := upd ur (s * 4 + k) (nI r)) (by rw [ec]) ⟨hw, nm_r (e' := upd ue (s * 4 + k) v3) (by rw [ec]) ⟨hw, nm_r (e' := upd un (s * 4 + k) v4) (by rw [ec]) ⟨hv, hv, nm_r (e' := upd su s (nI (k + 1))) (by rw [es, nI_1]) (h0 (by rw [es] at a1; exact a1) hk hj)⟩⟩⟩⟩⟩
        · exact br_t c0 (rx_xSl1 hs (by omega) (br_f (by decide) ⟨hv, br_t a1 (rx_xRf1 hr (by omega) (br_f (by decide) (br_f a2 (br_t a3 ⟨hv, br_f a4 (hx _ (by decide))⟩))))⟩))
      · exact br_t c0 (rx_xSl1 hs (by omega) (br_f (by decide) ⟨hv, br_t a1 (rx_xRf1 hr (by omega) (br_f (by decide) (br_f a2 (br_f a3 (hx _ (by decide))))))⟩))
  · exact br_t c0 (rx_xSl1 hs (by omega) (br_f (by decide) ⟨hv, br_f a1 (hx _ (by decide))⟩))
/-! commit, abort -/
theorem pz_commit {post : Int32 → St2 → Prop} {s : Nat} (c0 : cr = 0) (hs : s < 2) (hx : ∀ x, post x (nI 4, nI 8, nI 2, nI b, nI n, nI p, cr, va, ss, sn, su, ur, ue, un, xr, xo, xn)) (h0 : ss s = 1 → post 0 (nI 4, nI 8, nI 2, nI b, nI n, nI p, cr, va, upd ss s 2, upd sn s 0, su, ur, ue, un, xr, xo, xn)) : wpX_commit post (nI 4, nI 8, nI 2, nI b, nI n, nI p, cr, va, ss, sn, su, ur, ue, un, xr, xo, xn) (nI s) := by
  have hv : vp_in (nI s) 4 := vp_in_nI (by omega) (by omega)
  have es : (nI s).toNatClampNeg = s := nI_clamp (by omega)
  by_cases a1 : ss (nI s).toNatClampNeg = 1
  · by_cases a2 : su (nI s).toNatClampNeg = 0
    · exact br_t c0 (rx_xSl1 hs (by omega) (br_f (by decide) ⟨hv, br_t a1 ⟨hv, br_t a2 (hx _)⟩⟩))
    · exact br_t c0 (rx_xSl1 hs (by omega) (br_f (by decide) ⟨hv, br_t a1 ⟨hv, br_f a2 ⟨hv, nm_r (e' := upd ss s 2) (by rw [es]) ⟨hv, nm_r (e' := upd sn s 0) (by rw [es]) (h0 (by rw [es] at a1; exact a1))⟩⟩⟩⟩))
  · exact br_t c0 (rx_xSl1 hs (by omega) (br_f (by decide) ⟨hv, br_f a1 (hx _)⟩))
theorem pz_abort {post : Int32 → St2 → Prop} {s : Nat} (c0 : cr = 0) (hs : s < 2) (hx : ∀ x, post x (nI 4, nI 8, nI 2, nI b, nI n, nI p, cr, va, ss, sn, su, ur, ue, un, xr, xo, xn)) (h0 : (ss s = 1 ∨ ss s = 2) → post 0 (nI 4, nI 8, nI 2, nI b, nI n, nI p, cr, va, upd ss s 8, sn, su, ur, ue, un, xr, xo, xn)) : wpX_abort post (nI 4, nI 8, nI 2, nI b, nI n, nI p, cr, va, ss, sn, su, ur, ue, un, xr, xo, xn) (nI s) := by
  have hv : vp_in (nI s) 4 := vp_in_nI (by omega) (by omega)
  have es : (nI s).toNatClampNeg = s := nI_clamp (by omega)
  by_cases hu : ss s = 1 ∨ ss s = 2
  · exact br_t c0 (rx_xSl1 hs (by omega) (br_f (by decide) (rx_xUnc1 (by omega) hu (br_f (by decide) ⟨hv, nm_r (e' := upd ss s 8) (by rw [es]) (h0 hu)⟩))))
  · exact br_t c0 (rx_xSl1 hs (by omega) (br_f (by decide) (rx_xUnc0 (by omega) hu (br_t rfl (hx _)))))
/-! packStart, packRun -/
theorem pz_xPk0 {post : Int32 → Prop} (h : ¬ p < 3) (hp3 : p ≤ 3) (hp : post 0) : wpX_isPacking post (nI 4, nI 8, nI 2, nI b, nI n, nI p, cr, va, ss, sn, su, ur, ue, un, xr, xo, xn) := br_t (nI_le (a := 3) (by omega) (by omega)) hp
theorem pz_xPk1 {post : Int32 → Prop} (h : p < 3) (hp : post 1) : wpX_isPacking post (nI 4, nI 8, nI 2, nI b, nI n, nI p, cr, va, ss, sn, su, ur, ue, un, xr, xo, xn) := br_f (nI_ge (b := 3) h (by decide)) hp
theorem pz_ps21 {post : Int32 → St2 → Prop} (hx : ∀ x, post x (nI 4, nI 8, nI 2, nI b, nI n, nI p, cr, va, ss, sn, su, ur, ue, un, xr, xo, xn)) (h0 : post 0 (nI 4, nI 8, nI 2, nI b, nI n, nI 0, cr, va, ss, sn, su, ur, ue, un, xr, xo, xn)) : ∀ d i, i + d = 2 → wX_packStart_21 post (nI 4) (nI 8) (nI 2) (nI b) (nI n) (nI p) cr va ss sn su ur ue un xr xo xn (d + 1) (nI i) := by
  intro d
  induction d with
  | zero =>
    intro i hi
    exact br_t (nI_le (by omega) (by omega)) h0
  | succ d ih =>
    intro i hi
    by_cases hu : ss i = 2 ∨ ss i = 3
    · exact br_f (nI_ge (by omega) (by omega)) (rx_xRun1 (by omega) hu (br_f (by decide) (hx _)))
    · exact br_f (nI_ge (by omega) (by omega)) (rx_xRun0 (by omega) hu (br_t rfl (nm_r (nI_1 i) (ih (i + 1) (by omega)))))
theorem pz_packStart {post : Int32 → St2 → Prop} (c0 : cr = 0) (hp3 : p ≤ 3) (hx : ∀ x, post x (nI 4, nI 8, nI 2, nI b, nI n, nI p, cr, va, ss, sn, su, ur, ue, un, xr, xo, xn)) (h0 : post 0 (nI 4, nI 8, nI 2, nI b, nI n, nI 0, cr, va, ss, sn, su, ur, ue, un, xr, xo, xn)) : wpX_packStart post (nI 4, nI 8, nI 2, nI b, nI n, nI p, cr, va, ss, sn, su, ur, ue, un, xr, xo, xn) := by
  by_cases h : p < 3
  · exact br_t c0 (pz_xPk1 h (br_f (by decide) (hx _)))
  · exact br_t c0 (pz_xPk0 h hp3 (br_t rfl ⟨3, pz_ps21 hx h0 2 0 rfl⟩))
theorem pz_packRun {post : Int32 → St2 → Prop} {c : Nat} (c0 : cr = 0) (hp3 : p ≤ 3) (hc : c < 2 ^ 31) (h1 : 1 ≤ c) (hx : ∀ x (p' : Nat), p' ≤ 3 → post x (nI 4, nI 8, nI 2, nI b, nI n, nI p', cr, va, ss, sn, su, ur, ue, un, xr, xo, xn)) : wpX_packRun post (nI 4, nI 8, nI 2, nI b, nI n, nI p, cr, va, ss, sn, su, ur, ue, un, xr, xo, xn) (nI c) := by
  have a1 : (1 : Int32) ≤ nI c := nI_le (a := 1) h1 hc
  by_cases h : p < 3
  · refine br_t c0 (br_t a1 (pz_xPk1 h (br_f (by decide) (nm_r (e' := nI (3 - p)) (pk_sub (a := 3) (by omega)) ?_))))
    by_cases hl : 3 - p ≤ c
    · exact br_t (nI_le hl hc) (nm_r (nI_add p (3 - p)) (hx _ _ (by omega)))
    · exact br_f (nI_ge (by omega) (by omega)) (nm_r (nI_add p c) (hx _ _ (by omega)))
  · exact br_t c0 (br_t a1 (pz_xPk0 h hp3 (br_t rfl (hx _ p hp3))))
/-! crash, recover -/
theorem pz_cr11 {post : Int32 → St2 → Prop}
    (h : ∀ ss' sn' : Nat → Int32, (∀ s, s < 4 → rx_SI 4 ss' sn' su ur s) → (∀ j, j < 2 → (¬ ss' j = 1 ∧ ¬ ss' j = 2 ∧ ¬ ss' j = 3) ∧ ((ss' j = 3 ∨ ss' j = 4) ↔ (ss j = 3 ∨ ss j = 4))) → post 0 (nI 4, nI 8, nI 2, nI b, nI n, nI 3, 1, va, ss', sn', su, ur, ue, un, xr, xo, xn)) :
    ∀ (d i : Nat) (s1 n1 : Nat → Int32), i + d = 2 → (∀ s, s < 4 → rx_SI 4 s1 n1 su ur s) → (∀ j, j < i → (¬ s1 j = 1 ∧ ¬ s1 j = 2 ∧ ¬ s1 j = 3) ∧ ((s1 j = 3 ∨ s1 j = 4) ↔ (ss j = 3 ∨ ss j = 4))) → (∀ j, i ≤ j → s1 j = ss j) →
    wX_crash_11 post (d + 1) (nI i) (nI 4) (nI 8) (nI 2) (nI b) (nI n) (nI p) cr va s1 n1 su ur ue un xr xo xn := by
  intro d
  induction d with
  | zero =>
    intro i s1 n1 hi hI hd hr
    exact br_t (nI_le (by omega) (by omega)) (h s1 n1 hI (fun j hj => hd j (by omega)))
  | succ d ih =>
    intro i s1 n1 hi hI hd hr
    have hi4 : i < 4 := by omega
    obtain ⟨t, k, et, ek, hk, ht, hD, h2, h3, hf⟩ := hI i hi4
    have ei := hr i (Nat.le_refl i)
    have dn : ∀ (s2 : Nat → Int32), (∀ j, j ≠ i → s2 j = s1 j) → ((¬ s2 i = 1 ∧ ¬ s2 i = 2 ∧ ¬ s2 i = 3) ∧ ((s2 i = 3 ∨ s2 i = 4) ↔ (ss i = 3 ∨ ss i = 4))) → (∀ j, j < i + 1 → (¬ s2 j = 1 ∧ ¬ s2 j = 2 ∧ ¬ s2 j = 3) ∧ ((s2 j = 3 ∨ s2 j = 4) ↔ (ss j = 3 ∨ ss j = 4))) := by
      intro s2 ho hh j hj
      by_cases e : j = i
      · rw [e]; exact hh
      · rw [ho j e]; exact hd j (by omega)
    by_cases hu : s1 i = 1 ∨ s1 i = 2
    · refine br_f (nI_ge (by omega) (by omega)) (rx_xSet7 hi4 hu (nm_r (nI_1 i) (ih (i + 1) (upd s1 i 7) n1 (by omega) ?_ (dn _ (fun j hj => pk_un hj) ?_) (fun j hj => ?_))))
      · exact rx_SI_up hI i (rx_SI_mk (x := 7) pk_us et ek hk ht rx_d7 (fun z => absurd z (by decide)) (fun z => absurd z (by decide)) hf) (fun j hj => ⟨pk_un hj, rfl, rfl, fun _ _ => rfl⟩)
      · rw [pk_us]
        refine ⟨by decide, ⟨fun z => absurd z (by decide), fun z => ?_⟩⟩
        rw [← ei] at z
        rcases hu with q | q
        · rw [q] at z; exact absurd z (by decide)
        · rw [q] at z; exact absurd z (by decide)
      · rw [pk_un (show j ≠ i by omega)]; exact hr j (by omega)
    · by_cases e3 : s1 i = 3
      · refine br_f (nI_ge (by omega) (by omega)) (rx_xSet4 hi4 e3 ek (nm_r (nI_1 i) (ih (i + 1) (upd s1 i 4) (upd n1 i (nI (2 * k + 2))) (by omega) ?_ (dn _ (fun j hj => pk_un hj) ?_) (fun j hj => ?_))))
        · exact rx_SI_up hI i (rx_SI_mk (x := 4) pk_us pk_us ek hk (by omega) rx_d4 (fun z => absurd z (by decide)) (fun z => absurd z (by decide)) hf) (fun j hj => ⟨pk_un hj, pk_un hj, rfl, fun _ _ => rfl⟩)
        · rw [pk_us]
          exact ⟨by decide, ⟨fun _ => Or.inl (ei.symm.trans e3), fun _ => by decide⟩⟩
        · rw [pk_un (show j ≠ i by omega)]; exact hr j (by omega)
      · refine br_f (nI_ge (by omega) (by omega)) (rx_xSetN hi4 hu e3 (nm_r (nI_1 i) (ih (i + 1) s1 n1 (by omega) hI (dn s1 (fun _ _ => rfl) ?_) (fun j hj => hr j (by omega)))))
        exact ⟨⟨fun z => hu (Or.inl z), fun z => hu (Or.inr z), e3⟩, by rw [ei]⟩
theorem pz_crash {post : Int32 → St2 → Prop} (c0 : cr = 0) (hI : ∀ s, s < 4 → rx_SI 4 ss sn su ur s)
    (h : ∀ ss' sn' : Nat → Int32, (∀ s, s < 4 → rx_SI 4 ss' sn' su ur s) → (∀ j, j < 2 → (¬ ss' j = 1 ∧ ¬ ss' j = 2 ∧ ¬ ss' j = 3) ∧ ((ss' j = 3 ∨ ss' j = 4) ↔ (ss j = 3 ∨ ss j = 4))) → post 0 (nI 4, nI 8, nI 2, nI b, nI n, nI 3, 1, va, ss', sn', su, ur, ue, un, xr, xo, xn)) : wpX_crash post (nI 4, nI 8, nI 2, nI b, nI n, nI p, cr, va, ss, sn, su, ur, ue, un, xr, xo, xn) :=
  br_t c0 ⟨3, pz_cr11 h 2 0 ss sn rfl hI (fun j hj => absurd hj (by omega)) (fun _ _ => rfl)⟩
end PZ9
end
section
section PZ10
variable {b n p : Nat} {cr : Int32} {va ss sn su ur ue un xr xo xn yr yn : Nat → Int32}
def pz_K (b n p : Nat) (va ss sn su ur xr xn yr yn : Nat → Int32) : Prop :=
  b < 8 ∧ n ≤ 8 ∧ p ≤ 3 ∧ (∀ s, s < 4 → rx_SI 4 ss sn su ur s) ∧ rx_LG 8 b n xr yr ∧ rx_LG 8 b n xn yn ∧ pz_NW n yr yn va ∧ pz_RG n yr
theorem pz_K_up {ss' sn' su' ur' : Nat → Int32} (K : pz_K b n p va ss sn su ur xr xn yr yn) (s0 : Nat) (h0 : rx_SI 4 ss' sn' su' ur' s0)
    (ho : ∀ s, s ≠ s0 → ss' s = ss s ∧ sn' s = sn s ∧ su' s = su s ∧ ∀ i, i < 4 → ur' (s * 4 + i) = ur (s * 4 + i)) : pz_K b n p va ss' sn' su' ur' xr xn yr yn := by
  obtain ⟨k1, k2, k3, k4, k5, k6, k7, k8⟩ := K
  exact ⟨k1, k2, k3, rx_SI_up k4 s0 h0 ho, k5, k6, k7, k8⟩
/-- what a run may do: nothing to the values and the count of entries, or the commit step -/
def pz_O (ur un : Nat → Int32) (s k n : Nat) (va : Nat → Int32) (x : Int32) (n' : Nat) (va' : Nat → Int32) (x' : Int32) : Prop :=
  (va' = va ∧ n' = n ∧ (x' = x ∨ (x = 2 ∧ (x' = 5 ∨ x' = 6)) ∨ (x = 3 ∧ x' = 4))) ∨ (x = 2 ∧ (x' = 3 ∨ x' = 4) ∧ va' = rx_vv ur un va s k ∧ n' = rx_cn 8 n k)
theorem pz_O_tr {s k n n1 n2 : Nat} {va va1 va2 : Nat → Int32} {x x1 x2 : Int32} (h : pz_O ur un s k n va x n1 va1 x1) (g : pz_O ur un s k n1 va1 x1 n2 va2 x2) : pz_O ur un s k n va x n2 va2 x2 := by
  rcases h with ⟨rfl, rfl, rfl | ⟨rfl, h⟩ | ⟨rfl, rfl⟩⟩ | ⟨rfl, h, e1, e2⟩
  · exact g
  · rcases g with ⟨rfl, rfl, rfl | ⟨z, _⟩ | ⟨z, _⟩⟩ | ⟨z, _⟩
    · exact Or.inl ⟨rfl, rfl, Or.inr (Or.inl ⟨rfl, h⟩)⟩
    · rw [z] at h; exact absurd h (by decide)
    · rw [z] at h; exact absurd h (by decide)
    · rw [z] at h; exact absurd h (by decide)
  · rcases g with ⟨rfl, rfl, rfl | ⟨z, _⟩ | ⟨z, _⟩⟩ | ⟨z, _⟩
    · exact Or.inl ⟨rfl, rfl, Or.inr (Or.inr ⟨rfl, rfl⟩)⟩
    · exact absurd z (by decide)
    · exact absurd z (by decide)
    · exact absurd z (by decide)
  · rcases g with ⟨rfl, rfl, rfl | ⟨z, _⟩ | ⟨_, z⟩⟩ | ⟨z, _⟩
    · exact Or.inr ⟨rfl, h, e1, e2⟩
    · rw [z] at h; exact absurd h (by decide)
    · exact Or.inr ⟨rfl, Or.inr z, e1, e2⟩
    · rw [z] at h; exact absurd h (by decide)
theorem pz_step {s t k : Nat} (hs : s < 2) (K : pz_K b n p va ss sn su ur xr xn yr yn) (hr : ss s = 2 ∨ ss s = 3) (et : sn s = nI t) (ek : su s = nI k) (hk : k ≤ 4) (hT : rx_Tk (ss s) t k) (hf : rx_RF 4 ur s k) :
    ∃ (b' n' : Nat) (va' ss' sn' xr' xo' xn' yr' yn' : Nat → Int32) (t' : Nat),
      pz_K b' n' p va' ss' sn' su ur xr' xn' yr' yn' ∧ sn' s = nI t' ∧ rx_Tk (ss' s) t' k ∧ ((ss' s = 2 ∨ ss' s = 3) → t' = t + 1) ∧ (∀ j, j ≠ s → ss' j = ss j) ∧ pz_O ur un s k n va (ss s) n' va' (ss' s) ∧
      (∀ post : St2 → Prop, post (nI 4, nI 8, nI 2, nI b', nI n', nI p, cr, va', ss', sn', su, ur, ue, un, xr', xo', xn') → wpX_takeStep post (nI 4, nI 8, nI 2, nI b, nI n, nI p, cr, va, ss, sn, su, ur, ue, un, xr, xo, xn) (nI s)) := by
  have K0 := K
  obtain ⟨k1, k2, k3, k4, k5, k6, k7, k8⟩ := K0
  have hs4 : s < 4 := by omega
  obtain ⟨T1, T2, T3⟩ := hT
  have up : ∀ (ss' sn' : Nat → Int32) (x : Int32) (t' : Nat), ss' s = x → sn' s = nI t' → rx_D9 x → rx_Tk x t' k → (∀ j, j ≠ s → ss' j = ss j ∧ sn' j = sn j) → pz_K b n p va ss' sn' su ur xr xn yr yn := by
    intro ss' sn' x t' ex et' hD hT' ho
    exact pz_K_up K s (rx_SI_mk ex et' ek hk hT'.1 hD hT'.2.1 hT'.2.2 hf) (fun j hj => ⟨(ho j hj).1, (ho j hj).2, rfl, fun _ _ => rfl⟩)
  by_cases c1 : t < k
  · have e2 : ss s = 2 := by
      rcases hr with z | z
      · exact z
      · have := T3 z; omega
    by_cases ho : rx_Ot 2 ss sn su ur (ur (s * 4 + t)) s
    · have hT' : rx_Tk 5 t k := ⟨T1, fun z => absurd z (by decide), fun z => absurd z (by decide)⟩
      refine ⟨b, n, va, upd ss s 5, sn, xr, xo, xn, yr, yn, t, up (upd ss s 5) sn 5 t pk_us et rx_d5 hT' (fun j hj => ⟨pk_un hj, rfl⟩), et, by rw [pk_us]; exact hT', fun z => ?_, fun j hj => pk_un hj, ?_, fun post hp => ?_⟩
      · rw [pk_us] at z; exact absurd z (by decide)
      · rw [pk_us]; exact Or.inl ⟨rfl, rfl, Or.inr (Or.inl ⟨e2, Or.inl rfl⟩)⟩
      · exact rx_xStepL hs4 (by omega) (by omega) k4 et ek hk c1 hf (fun _ => hp) (fun z => absurd ho z) (fun z => absurd ho z)
    · by_cases hm : ue (s * 4 + t) = -1 ∨ ue (s * 4 + t) = va (ur (s * 4 + t)).toNatClampNeg
      · have hT' : rx_Tk (ss s) (t + 1) k := ⟨by omega, fun _ => by omega, fun z => absurd (e2.symm.trans z) (by decide)⟩
        exact ⟨b, n, va, ss, upd sn s (nI (t + 1)), xr, xo, xn, yr, yn, t + 1, up ss (upd sn s (nI (t + 1))) (ss s) (t + 1) rfl pk_us (by rw [e2]; exact rx_d2) hT' (fun j hj => ⟨rfl, pk_un hj⟩), pk_us, hT', fun _ => rfl, fun _ _ => rfl, Or.inl ⟨rfl, rfl, Or.inl rfl⟩, fun post hp => rx_xStepL hs4 (by omega) (by omega) k4 et ek hk c1 hf (fun z => absurd z ho) (fun _ a c => absurd hm (fun z => z.elim a c)) (fun _ _ => hp)⟩
      · have hT' : rx_Tk 6 t k := ⟨T1, fun z => absurd z (by decide), fun z => absurd z (by decide)⟩
        refine ⟨b, n, va, upd ss s 6, sn, xr, xo, xn, yr, yn, t, up (upd ss s 6) sn 6 t pk_us et rx_d6 hT' (fun j hj => ⟨pk_un hj, rfl⟩), et, by rw [pk_us]; exact hT', fun z => ?_, fun j hj => pk_un hj, ?_, fun post hp => ?_⟩
        · rw [pk_us] at z; exact absurd z (by decide)
        · rw [pk_us]; exact Or.inl ⟨rfl, rfl, Or.inr (Or.inl ⟨e2, Or.inr rfl⟩)⟩
        · exact rx_xStepL hs4 (by omega) (by omega) k4 et ek hk c1 hf (fun z => absurd z ho) (fun _ _ _ => hp) (fun _ z => absurd z hm)
  · by_cases c2 : t = k
    · subst c2
      have e2 : ss s = 2 := by
        rcases hr with z | z
        · exact z
        · have := T3 z; omega
      have hT' : rx_Tk 3 (t + 1) t := ⟨by omega, fun z => absurd z (by decide), fun _ => by omega⟩
      refine ⟨rx_cb 8 b n t, rx_cn 8 n t, rx_vv ur un va s t, upd ss s 3, upd sn s (nI (t + 1)), rx_cx (rx_fr ur s) 8 b n xr t, rx_cx (rx_fo va ur s) 8 b n xo t, rx_cx (rx_fr un s) 8 b n xn t, rx_ca (rx_fr ur s) 8 n yr t, rx_ca (rx_fr un s) 8 n yn t, t + 1, ?_, pk_us, by rw [pk_us]; exact hT', fun _ => rfl, fun j hj => pk_un hj, ?_, fun post hp => ?_⟩
      · obtain ⟨_, _, _, u4, _⟩ := up (upd ss s 3) (upd sn s (nI (t + 1))) 3 (t + 1) pk_us pk_us rx_d3 hT' (fun j hj => ⟨pk_un hj, pk_un hj⟩)
        have nw := pz_nwc (L := 8) (by omega) k2 hf (un := un) k7 k8 t (Nat.le_refl t)
        exact ⟨rx_cb_lt (by omega) k1 t, rx_cn_le (by omega) k2 t, k3, u4, rx_c_lg (by omega) k1 k2 k5 t, rx_c_lg (by omega) k1 k2 k6 t, nw.1, nw.2⟩
      · rw [pk_us]; exact Or.inr ⟨e2, Or.inl rfl, rfl, rfl⟩
      · exact rx_xStepC hs4 hk (by omega) (by omega) (by omega) k1 k2 hf et ek hp
    · have e3 : ss s = 3 := by
        rcases hr with z | z
        · have := T2 z; omega
        · exact z
      have T3' := T3 e3
      by_cases c3 : t ≤ 2 * k
      · have hT' : rx_Tk (ss s) (t + 1) k := ⟨by omega, fun z => absurd (e3.symm.trans z) (by decide), fun _ => by omega⟩
        exact ⟨b, n, va, ss, upd sn s (nI (t + 1)), xr, xo, xn, yr, yn, t + 1, up ss (upd sn s (nI (t + 1))) (ss s) (t + 1) rfl pk_us (by rw [e3]; exact rx_d3) hT' (fun j hj => ⟨rfl, pk_un hj⟩), pk_us, hT', fun _ => rfl, fun _ _ => rfl, Or.inl ⟨rfl, rfl, Or.inl rfl⟩, fun post hp => rx_xStepA hs4 hk et ek (by omega) c3 hp⟩
      · obtain rfl : t = 2 * k + 1 := by omega
        have hT' : rx_Tk 4 (2 * k + 2) k := ⟨by omega, fun z => absurd z (by decide), fun z => absurd z (by decide)⟩
        refine ⟨b, n, va, upd ss s 4, upd sn s (nI (2 * k + 2)), xr, xo, xn, yr, yn, 2 * k + 2, up (upd ss s 4) (upd sn s (nI (2 * k + 2))) 4 (2 * k + 2) pk_us pk_us rx_d4 hT' (fun j hj => ⟨pk_un hj, pk_un hj⟩), pk_us, by rw [pk_us]; exact hT', fun _ => rfl, fun j hj => pk_un hj, ?_, fun post hp => rx_xStepD hs4 hk et ek hp⟩
        rw [pk_us]; exact Or.inl ⟨rfl, rfl, Or.inr (Or.inr ⟨e3, rfl⟩)⟩
theorem pz_run {s k c t0 m : Nat} (hs : s < 2) (ek : su s = nI k) (hk : k ≤ 4) (hf : rx_RF 4 ur s k) (hm : m ≤ c) (hm2 : m < 2 ^ 31) (hm3 : ∀ i, i < c → t0 + i < 2 * k + 2 → i < m) :
    ∀ (d i b n : Nat) (va ss sn xr xo xn yr yn : Nat → Int32) (t : Nat), pz_K b n p va ss sn su ur xr xn yr yn → sn s = nI t → rx_Tk (ss s) t k → ((ss s = 2 ∨ ss s = 3) → t + d = 2 * k + 2 ∧ t = t0 + i) → i + d ≤ 10 →
    ∃ (b' n' : Nat) (va' ss' sn' xr' xo' xn' yr' yn' : Nat → Int32) (r : Int32),
      pz_K b' n' p va' ss' sn' su ur xr' xn' yr' yn' ∧ (∀ j, j ≠ s → ss' j = ss j) ∧ pz_O ur un s k n va (ss s) n' va' (ss' s) ∧
      (∀ post : Int32 → St2 → Prop, post r (nI 4, nI 8, nI 2, nI b', nI n', nI p, cr, va', ss', sn', su, ur, ue, un, xr', xo', xn') → wX_run_86 post (nI s) (nI t0) (nI m) (d + 1) (nI i) (nI 4) (nI 8) (nI 2) (nI b) (nI n) (nI p) cr va ss sn su ur ue un xr xo xn) := by
  have hs4 : s < 4 := by omega
  have hv : vp_in (nI s) 4 := vp_in_nI hs4 (by omega)
  have es : (nI s).toNatClampNeg = s := nI_clamp (by omega)
  intro d
  induction d with
  | zero =>
    intro i b n va ss sn xr xo xn yr yn t K et hT hd hi
    have hr : ¬ (ss s = 2 ∨ ss s = 3) := by
      intro hr
      have h1 := hd hr
      rcases hr with z | z
      · have := hT.2.1 z; omega
      · have := hT.2.2 z; omega
    exact ⟨b, n, va, ss, sn, xr, xo, xn, yr, yn, sn (nI s).toNatClampNeg - nI t0, K, fun _ _ => rfl, Or.inl ⟨rfl, rfl, Or.inl rfl⟩, fun post hp => br_c (fun _ => ⟨hv, hp⟩) (fun _ => rx_xRun0 hs4 hr (br_t rfl ⟨hv, hp⟩))⟩
  | succ d ih =>
    intro i b n va ss sn xr xo xn yr yn t K et hT hd hi
    by_cases hr : ss s = 2 ∨ ss s = 3
    · have h1 := hd hr
      by_cases hci : i < c
      · have hmi : i < m := hm3 i hci (by omega)
        obtain ⟨b1, n1, va1, ss1, sn1, xr1, xo1, xn1, yr1, yn1, t1, K1, et1, hT1, hd1, ho1, hO1, hX⟩ := pz_step (cr := cr) (ue := ue) (un := un) (xo := xo) hs K hr et ek hk hT hf
        obtain ⟨b2, n2, va2, ss2, sn2, xr2, xo2, xn2, yr2, yn2, r2, K2, ho2, hO2, iX⟩ := ih (i + 1) b1 n1 va1 ss1 sn1 xr1 xo1 xn1 yr1 yn1 t1 K1 et1 hT1 (fun z => by have := hd1 z; omega) (by omega)
        exact ⟨b2, n2, va2, ss2, sn2, xr2, xo2, xn2, yr2, yn2, r2, K2, fun j hj => (ho2 j hj).trans (ho1 j hj), pz_O_tr hO1 hO2, fun post hp => br_f (nI_ge hmi hm2) (rx_xRun1 hs4 hr (br_f (by decide) (hX _ (nm_r (nI_1 i) (iX post hp)))))⟩
      · exact ⟨b, n, va, ss, sn, xr, xo, xn, yr, yn, sn (nI s).toNatClampNeg - nI t0, K, fun _ _ => rfl, Or.inl ⟨rfl, rfl, Or.inl rfl⟩, fun post hp => br_t (nI_le (by omega) (by omega)) ⟨hv, hp⟩⟩
    · exact ⟨b, n, va, ss, sn, xr, xo, xn, yr, yn, sn (nI s).toNatClampNeg - nI t0, K, fun _ _ => rfl, Or.inl ⟨rfl, rfl, Or.inl rfl⟩, fun post hp => br_c (fun _ => ⟨hv, hp⟩) (fun _ => rx_xRun0 hs4 hr (br_t rfl ⟨hv, hp⟩))⟩
/-- run, whole: some answer, and a state as pz_O says -/
theorem pz_runM {s k c : Nat} {post : Int32 → St2 → Prop} (c0 : cr = 0) (hs : s < 2) (ek : su s = nI k) (hk : k ≤ 4) (hc : c < 2 ^ 31) (hc1 : 1 ≤ c) (K : pz_K b n p va ss sn su ur xr xn yr yn)
    (h : ∀ (r : Int32) (b' n' : Nat) (va' ss' sn' xr' xo' xn' yr' yn' : Nat → Int32), pz_K b' n' p va' ss' sn' su ur xr' xn' yr' yn' → (∀ j, j ≠ s → ss' j = ss j) → pz_O ur un s k n va (ss s) n' va' (ss' s) →
      post r (nI 4, nI 8, nI 2, nI b', nI n', nI p, cr, va', ss', sn', su, ur, ue, un, xr', xo', xn')) : wpX_run post (nI 4, nI 8, nI 2, nI b, nI n, nI p, cr, va, ss, sn, su, ur, ue, un, xr, xo, xn) (nI s) (nI c) := by
  have hs4 : s < 4 := by omega
  have hv : vp_in (nI s) 4 := vp_in_nI hs4 (by omega)
  have es : (nI s).toNatClampNeg = s := nI_clamp (by omega)
  have a1 : (1 : Int32) ≤ nI c := nI_le (a := 1) hc1 hc
  have same : ∀ r, post r (nI 4, nI 8, nI 2, nI b, nI n, nI p, cr, va, ss, sn, su, ur, ue, un, xr, xo, xn) := fun r => h r b n va ss sn xr xo xn yr yn K (fun _ _ => rfl) (Or.inl ⟨rfl, rfl, Or.inl rfl⟩)
  obtain ⟨t, q, et, eq, hq4, ht, hD, h2, h3, hf⟩ := K.2.2.2.1 s hs4
  have eqk : q = k := (nI_eq (by omega) (by omega)).mp (eq.symm.trans ek)
  subst eqk
  by_cases hu : ss s = 2 ∨ ss s = 3
  · by_cases hp : p < 3
    · exact br_t c0 (rx_xSl1 hs (by omega) (br_f (by decide) (br_t a1 (rx_xRun1 hs4 hu (br_f (by decide) (pz_xPk1 hp (br_f (by decide) (same _))))))))
    · have lp : ∀ m, m ≤ c → m < 2 ^ 31 → (∀ i, i < c → t + i < 2 * q + 2 → i < m) → ∃ n86 : Nat, wX_run_86 post (nI s) (nI t) (nI m) n86 0 (nI 4) (nI 8) (nI 2) (nI b) (nI n) (nI p) cr va ss sn su ur ue un xr xo xn := by
        intro m hm hm2 hm3
        obtain ⟨b', n', va', ss', sn', xr', xo', xn', yr', yn', r, K', ho', hO', hX⟩ := pz_run (cr := cr) (ue := ue) (un := un) hs ek hk hf hm hm2 hm3 (2 * q + 2 - t) 0 b n va ss sn xr xo xn yr yn t K et ⟨ht, h2, h3⟩ (fun _ => by omega) (by omega)
        exact ⟨_, hX _ (h r b' n' va' ss' sn' xr' xo' xn' yr' yn' K' ho' hO')⟩
      have el : 2 * su (nI s).toNatClampNeg + 2 - nI t = nI (2 * q + 2 - t) := by rw [es, ek, rx_l2, pk_sub ht]
      refine br_t c0 (rx_xSl1 hs (by omega) (br_f (by decide) (br_t a1 (rx_xRun1 hs4 hu (br_f (by decide) (pz_xPk0 hp K.2.2.1 (br_t rfl ⟨hv, nm_r (e' := nI t) (by rw [es]; exact et) ⟨hv, nm_r el ?_⟩⟩)))))))
      by_cases hl : 2 * q + 2 - t ≤ c
      · exact br_t (nI_le hl hc) (lp (2 * q + 2 - t) hl (by omega) (fun i _ h => by omega))
      · exact br_f (nI_ge (by omega) (by omega)) (lp c (Nat.le_refl c) hc (fun i h _ => h))
  · exact br_t c0 (rx_xSl1 hs (by omega) (br_f (by decide) (br_t a1 (rx_xRun0 hs4 hu (br_t rfl (same _))))))
end PZ10
end
section
section PZ11
abbrev pz_TJ : Type := Int64 → Int64 → Int64 → Int32 → Int32 → Int32 → Int32 → Int32 → Int32 → Int32 → Int32 → Int32 → Int32 → (Nat → Int32) → (Nat → Int32) → (Nat → Int32) → (Nat → Int32) → (Nat → Int32) → (Nat → Int32) → (Nat → Int32) → (Nat → Int32) → (Nat → Int32) → (Nat → Int32) → Prop
variable {Ls q kc ks b n p : Nat} {xs : Nat → Int32} {J : pz_TJ} {post : Int32 → Prop} {x2 x4 x6 : Int64} {x8 x9 cr : Int32} {va ss sn su ur ue un xr xo xn yr yn : Nat → Int32}
/-- no crash, or a crash: then no slot is open, locking or committed, and no pack runs -/
def pz_C (x9 cr : Int32) (p : Nat) (ss : Nat → Int32) : Prop := (x9 = 0 ∧ cr = 0) ∨ (x9 = 1 ∧ cr = 1 ∧ p = 3 ∧ ∀ j, j < 2 → ¬ ss j = 1 ∧ ¬ ss j = 2 ∧ ¬ ss j = 3)
def pz_I (x2 x4 x6 : Int64) (x8 x9 : Int32) (b n p : Nat) (cr : Int32) (va ss sn su ur un xr xn yr yn : Nat → Int32) : Prop :=
  pz_K b n p va ss sn su ur xr xn yr yn ∧ pz_V x2 va ∧ pz_G x4 0 ss su ur un ∧ pz_G x6 1 ss su ur un ∧ x8 = nI n ∧ pz_C x9 cr p ss
def pz_HJ (J : pz_TJ) (q : Nat) : Prop := ∀ (x2 x4 x6 : Int64) (x8 x9 : Int32) (b n p : Nat) (cr : Int32) (va ss sn su ur ue un xr xo xn yr yn : Nat → Int32),
  pz_I x2 x4 x6 x8 x9 b n p cr va ss sn su ur un xr xn yr yn → J x2 x4 x6 x8 x9 (nI (q + 5)) (nI 4) (nI 8) (nI 2) (nI b) (nI n) (nI p) cr va ss sn su ur ue un xr xo xn
/-! the checks behind a group -/
theorem pz_690 {J650 : Int32 → Prop} {z0 : Int64} {x18 : Int32} {i j : Nat} (G : pz_G z0 j ss su ur un) (h : (ss j = 3 ∨ ss j = 4) → x18 = 4) (hj : J650 (nI (i + 1))) :
    wL_law_690 post Ls xs J J650 x2 x4 x6 x8 x9 (nI q) (nI i) x18 z0 kc ks (nI 4) (nI 8) (nI 2) (nI b) (nI n) (nI p) cr va ss sn su ur ue un xr xo xn := by
  unfold wL_law_690
  exact pz_wApp G (fun a => br_f (by decide) (br_t (h a) (nm_r (nI_1 i) hj))) (fun _ => br_t rfl (nm_r (nI_1 i) hj))
theorem pz_650 (c0 : cr = 0) (hp3 : p = 3) (hs : ∀ j, j < 2 → ¬ ss j = 1 ∧ ¬ ss j = 2 ∧ ¬ ss j = 3) (G0 : pz_G x4 0 ss su ur un) (G1 : pz_G x6 1 ss su ur un) (hJ : J x2 x4 x6 x8 x9 (nI (q + 5)) (nI 4) (nI 8) (nI 2) (nI b) (nI n) (nI p) cr va ss sn su ur ue un xr xo xn) : ∀ d i, i + d = 2 →
    wL_law_650 post Ls xs J x2 x4 x6 x8 x9 (nI q) kc ks (nI 4) (nI 8) (nI 2) (nI b) (nI n) (nI p) cr va ss sn su ur ue un xr xo xn (d + 1) (nI i) := by
  subst hp3
  intro d
  induction d with
  | zero =>
    intro i hi
    exact br_t (nI_le (a := 2) (by omega) (by omega)) (br_t c0 (br_t rfl (nm_r (nI_add q 5) hJ)))
  | succ d ih =>
    intro i hi
    have h4 : (ss i = 3 ∨ ss i = 4) → ss i = 4 := fun z => z.resolve_left (hs i (by omega)).2.2
    refine br_f (nI_ge (b := 2) (by omega) (by decide)) (pz_status c0 (by omega) (br_f (hs i (by omega)).2.1 (br_f (hs i (by omega)).2.2 ?_)))
    have c : i = 0 ∨ i = 1 := by omega
    rcases c with rfl | rfl
    · exact br_t rfl (pz_690 G0 h4 (ih 1 (by omega)))
    · exact br_f (by decide) (pz_690 G1 h4 (ih 2 (by omega)))
theorem pz_m1 (m : Nat) : nI m + (-1) = nI m - 1 := (Int32.sub_eq_add_neg (nI m) 1).symm
theorem pz_595 {J583 : Int32 → Prop} {x16 : Int32} {r : Nat} (c0 : cr = 0) (K : pz_K b n p va ss sn su ur xr xn yr yn) (hr : r < 4) (hJ : J583 (nI (r + 1))) : ∀ m, m ≤ n → (∀ j, m ≤ j → j < n → ¬ yr j = nI r) →
    wL_law_595 post Ls xs J J583 x2 x4 x6 x8 x9 (nI q) x16 (nI r) kc ks (nI 4) (nI 8) (nI 2) (nI b) (nI n) (nI p) cr va ss sn su ur ue un xr xo xn (m + 1) (nI m - 1) := by
  obtain ⟨k1, k2, k3, k4, k5, k6, k7, k8⟩ := K
  intro m
  induction m with
  | zero => intro _ _; exact br_t (by decide) (nm_r (nI_1 r) hJ)
  | succ m ih =>
    intro hm hj
    rw [nI_pred]
    refine br_f (nI_pos (by omega)) (pz_ent0 c0 k1 k2 (by omega) k5 ?_)
    by_cases e : yr m = nI r
    · have ev : yn m = va r := by
        have := k7 m (by omega) (fun j h1 h2 => by rw [e]; exact hj j (by omega) h2)
        rw [this, e, nI_clamp (by omega)]
      exact br_t e (pz_ent2 c0 k1 k2 (by omega) k6 (pz_value c0 hr (br_t ev (nm_r (nI_1 r) hJ))))
    · refine br_f e (nm_r (pz_m1 m) (ih (by omega) (fun j h1 h2 => ?_)))
      by_cases g : j = m
      · rw [g]; exact e
      · exact hj j (by omega) h2
theorem pz_583 {x16 : Int32} (c0 : cr = 0) (K : pz_K b n p va ss sn su ur xr xn yr yn) (G0 : pz_G x4 0 ss su ur un) (G1 : pz_G x6 1 ss su ur un) (e8 : x8 = nI n) (hrec : ¬ x16 = 0 → p = 3 ∧ ∀ j, j < 2 → ¬ ss j = 1 ∧ ¬ ss j = 2 ∧ ¬ ss j = 3) (hJ : J x2 x4 x6 x8 x9 (nI (q + 5)) (nI 4) (nI 8) (nI 2) (nI b) (nI n) (nI p) cr va ss sn su ur ue un xr xo xn) : ∀ d i, i + d = 4 →
    wL_law_583 post Ls xs J x2 x4 x6 x8 x9 (nI q) x16 kc ks (nI 4) (nI 8) (nI 2) (nI b) (nI n) (nI p) cr va ss sn su ur ue un xr xo xn (d + 1) (nI i) := by
  subst e8
  intro d
  induction d with
  | zero =>
    intro i hi
    refine br_t (nI_le (a := 4) (by omega) (by omega)) (br_c (fun _ => nm_r (nI_add q 5) hJ) (fun z => ?_))
    obtain ⟨h1, h2⟩ := hrec z
    exact ⟨3, pz_650 c0 h1 h2 G0 G1 hJ 2 0 rfl⟩
  | succ d ih =>
    intro i hi
    exact br_f (nI_ge (b := 4) (by omega) (by decide)) (nm_e ⟨n + 1, pz_595 c0 K (by omega) (ih (i + 1) (by omega)) n (Nat.le_refl n) (fun j h1 h2 => absurd h1 (by omega))⟩)
theorem pz_540 {x16 : Int32} (c0 : cr = 0) (K : pz_K b n p va ss sn su ur xr xn yr yn) (V : pz_V x2 va) (G0 : pz_G x4 0 ss su ur un) (G1 : pz_G x6 1 ss su ur un) (e8 : x8 = nI n) (hrec : ¬ x16 = 0 → p = 3 ∧ ∀ j, j < 2 → ¬ ss j = 1 ∧ ¬ ss j = 2 ∧ ¬ ss j = 3) (hJ : J x2 x4 x6 x8 x9 (nI (q + 5)) (nI 4) (nI 8) (nI 2) (nI b) (nI n) (nI p) cr va ss sn su ur ue un xr xo xn) : ∀ d i, i + d = 4 →
    wL_law_540 post Ls xs J x2 x4 x6 x8 x9 (nI q) x16 kc ks (nI 4) (nI 8) (nI 2) (nI b) (nI n) (nI p) cr va ss sn su ur ue un xr xo xn (d + 1) (nI i) := by
  intro d
  induction d with
  | zero =>
    intro i hi
    exact br_t (nI_le (a := 4) (by omega) (by omega)) (br_t c0 (br_t e8.symm ⟨5, pz_583 c0 K G0 G1 e8 hrec hJ 4 0 rfl⟩))
  | succ d ih =>
    intro i hi
    exact br_f (nI_ge (b := 4) (by omega) (by decide)) (pz_value c0 (by omega) (pz_wGet V (by omega) (br_t rfl (nm_r (nI_1 i) (ih (i + 1) (by omega))))))
theorem pz_529 {x16 : Int32} (I : pz_I x2 x4 x6 x8 x9 b n p cr va ss sn su ur un xr xn yr yn) (hrec : ¬ x16 = 0 → p = 3 ∧ ∀ j, j < 2 → ¬ ss j = 1 ∧ ¬ ss j = 2 ∧ ¬ ss j = 3) (HJ : pz_HJ J q) :
    wL_law_529 post Ls xs J x2 x4 x6 x8 x9 (nI q) x16 kc ks (nI 4) (nI 8) (nI 2) (nI b) (nI n) (nI p) cr va ss sn su ur ue un xr xo xn := by
  have hJ := HJ x2 x4 x6 x8 x9 b n p cr va ss sn su ur ue un xr xo xn yr yn I
  obtain ⟨K, V, G0, G1, e8, C⟩ := I
  rcases C with ⟨e9, c0⟩ | ⟨e9, _⟩
  · exact br_t e9 ⟨5, pz_540 c0 K V G0 G1 e8 hrec hJ 4 0 rfl⟩
  · exact br_f (by rw [e9]; decide) (nm_r (nI_add q 5) hJ)
theorem pz_go (I : pz_I x2 x4 x6 x8 x9 b n p cr va ss sn su ur un xr xn yr yn) (HJ : pz_HJ J q) : wL_law_529 post Ls xs J x2 x4 x6 x8 x9 (nI q) 0 kc ks (nI 4) (nI 8) (nI 2) (nI b) (nI n) (nI p) cr va ss sn su ur ue un xr xo xn :=
  pz_529 I (fun z => absurd rfl z) HJ
/-! the state after a call that changes statuses alone -/
theorem pz_I_st {p' : Nat} {ss' sn' : Nat → Int32} (I : pz_I x2 x4 x6 x8 x9 b n p cr va ss sn su ur un xr xn yr yn) (e9 : x9 = 0) (c0 : cr = 0) (K : pz_K b n p' va ss' sn' su ur xr xn yr yn)
    (h : ∀ j, j < 2 → ((ss' j = 3 ∨ ss' j = 4) ↔ (ss j = 3 ∨ ss j = 4))) : pz_I x2 x4 x6 x8 x9 b n p' cr va ss' sn' su ur un xr xn yr yn := by
  obtain ⟨_, V, G0, G1, e8, C⟩ := I
  exact ⟨K, V, pz_G_eq G0 (h 0 (by omega)) rfl (fun _ _ => ⟨rfl, rfl⟩), pz_G_eq G1 (h 1 (by omega)) rfl (fun _ _ => ⟨rfl, rfl⟩), e8, Or.inl ⟨e9, c0⟩⟩
theorem pz_ch {s : Nat} {x : Int32} (hx : ¬ (x = 3 ∨ x = 4)) (h : ¬ (ss s = 3 ∨ ss s = 4)) : ∀ j, j < 2 → ((upd ss s x j = 3 ∨ upd ss s x j = 4) ↔ (ss j = 3 ∨ ss j = 4)) := by
  intro j _
  by_cases e : j = s
  · rw [e, pk_us]; exact ⟨fun z => absurd z hx, fun z => absurd z h⟩
  · rw [pk_un e]
theorem pz_K_p {p' : Nat} (K : pz_K b n p va ss sn su ur xr xn yr yn) (h : p' ≤ 3) : pz_K b n p' va ss sn su ur xr xn yr yn := by
  obtain ⟨k1, k2, k3, k4, k5, k6, k7, k8⟩ := K
  exact ⟨k1, k2, h, k4, k5, k6, k7, k8⟩
theorem pz_K_b {j : Nat} (K : pz_K b n p va ss sn su ur xr xn yr yn) : pz_K b n p va (upd ss j 1) (upd sn j 0) (upd su j 0) ur xr xn yr yn :=
  pz_K_up K j (rx_SI_mk (x := 1) (t := 0) (k := 0) pk_us (pk_us.trans nI_0.symm) (pk_us.trans nI_0.symm) (by omega) (by omega) rx_d1 (fun z => absurd z (by decide)) (fun z => absurd z (by decide)) ⟨fun j h => absurd h (by omega), fun _ _ _ h => absurd h (by omega)⟩) (fun j hj => ⟨pk_un hj, pk_un hj, pk_un hj, fun _ _ => rfl⟩)
theorem pz_b0 (I : pz_I x2 x4 x6 x8 x9 b n p cr va ss sn su ur un xr xn yr yn) (e9 : x9 = 0) (c0 : cr = 0) : pz_I x2 0 x6 x8 x9 b n p cr va (upd ss 0 1) (upd sn 0 0) (upd su 0 0) ur un xr xn yr yn := by
  obtain ⟨K, V, G0, G1, e8, C⟩ := I
  exact ⟨pz_K_b K, V, pz_G0 pk_us (by rw [pk_us]; decide), pz_G_eq G1 (by rw [pk_un (show 1 ≠ 0 by decide)]) (pk_un (by decide)) (fun _ _ => ⟨rfl, rfl⟩), e8, Or.inl ⟨e9, c0⟩⟩
theorem pz_b1 (I : pz_I x2 x4 x6 x8 x9 b n p cr va ss sn su ur un xr xn yr yn) (e9 : x9 = 0) (c0 : cr = 0) : pz_I x2 x4 0 x8 x9 b n p cr va (upd ss 1 1) (upd sn 1 0) (upd su 1 0) ur un xr xn yr yn := by
  obtain ⟨K, V, G0, G1, e8, C⟩ := I
  exact ⟨pz_K_b K, V, pz_G_eq G0 (by rw [pk_un (show 0 ≠ 1 by decide)]) (pk_un (by decide)) (fun _ _ => ⟨rfl, rfl⟩), pz_G0 pk_us (by rw [pk_us]; decide), e8, Or.inl ⟨e9, c0⟩⟩
/-! add -/
theorem pz_K_a {s k r : Nat} (K : pz_K b n p va ss sn su ur xr xn yr yn) (hs : s < 2) (ek : su s = nI k) (hk : k < 4) (hr : r < 4) (e1 : ss s = 1) (hj : ∀ j, j < k → ¬ ur (s * 4 + j) = nI r) :
    pz_K b n p va ss sn (upd su s (nI (k + 1))) (upd ur (s * 4 + k) (nI r)) xr xn yr yn := by
  obtain ⟨t, k', et, ek', hk4, ht, hD, h2, h3, hf⟩ := K.2.2.2.1 s (by omega)
  have ekk : k' = k := (nI_eq (by omega) (by omega)).mp (ek'.symm.trans ek)
  subst ekk
  have lo : ∀ j, j < k' → upd ur (s * 4 + k') (nI r) (s * 4 + j) = ur (s * 4 + j) := fun j h => pk_un (by omega)
  have hh : upd ur (s * 4 + k') (nI r) (s * 4 + k') = nI r := pk_us
  refine pz_K_up K s (rx_SI_mk (x := 1) (t := t) (k := k' + 1) e1 et pk_us (by omega) (by omega) rx_d1 (fun z => absurd z (by decide)) (fun z => absurd z (by decide)) ⟨fun j h => ?_, fun i j h h' => ?_⟩) (fun j hj => ⟨rfl, rfl, pk_un hj, fun i hi => pk_un (by omega)⟩)
  · by_cases g : j = k'
    · rw [g]; exact ⟨r, hr, hh⟩
    · rw [lo j (by omega)]; exact hf.1 j (by omega)
  · by_cases g : j = k'
    · rw [g, hh, lo i (by omega)]; exact hj i (by omega)
    · rw [lo j (by omega), lo i (by omega)]; exact hf.2 i j h (by omega)
theorem pz_239_0 {r w : Nat} {e : Int32} (I : pz_I x2 x4 x6 x8 x9 b n p cr va ss sn su ur un xr xn yr yn) (HJ : pz_HJ J q) (e9 : x9 = 0) (c0 : cr = 0) (hr : r < 4) (hw : w < 16) :
    wL_law_239 post Ls xs J x2 x4 x6 x8 x9 (nI q) 0 (nI 0) (nI r) (nI w) e x4 kc ks (nI 4) (nI 8) (nI 2) (nI b) (nI n) (nI p) cr va ss sn su ur ue un xr xo xn := by
  have I0 := I
  obtain ⟨K, V, G0, G1, e8, C⟩ := I0
  obtain ⟨t, k, et, ek, hk4, ht, hD, h2, h3, hf⟩ := K.2.2.2.1 0 (by omega)
  unfold wL_law_239
  refine pz_add c0 (by omega) hr ek hk4 (fun x hx => br_f hx (pz_go I HJ)) (fun e1 hk hj => br_t rfl ?_)
  obtain ⟨m, em, hm22, hm8, hm, G'⟩ := pz_Gadd (ue := ue) G0 ek hk hr hw e1
  refine pz_wCnt G0 ek hk4 (br_t (nI_lt (b := 4) hk (by decide)) ?_)
  rw [em]
  refine pz_wAdd hk hm hm8 hr hw (br_t rfl ?_)
  exact pz_go (x4 := lN (m + 1 + (r + 4 * w) * 2 ^ (4 + 6 * k))) ⟨pz_K_a K (by omega) ek hk hr e1 hj, V, G', pz_G_eq G1 Iff.rfl (pk_un (by decide)) (fun i hi => ⟨pk_un (by omega), pk_un (by omega)⟩), e8, Or.inl ⟨e9, c0⟩⟩ HJ
theorem pz_239_1 {r w : Nat} {e : Int32} (I : pz_I x2 x4 x6 x8 x9 b n p cr va ss sn su ur un xr xn yr yn) (HJ : pz_HJ J q) (e9 : x9 = 0) (c0 : cr = 0) (hr : r < 4) (hw : w < 16) :
    wL_law_239 post Ls xs J x2 x4 x6 x8 x9 (nI q) 0 (nI 1) (nI r) (nI w) e x6 kc ks (nI 4) (nI 8) (nI 2) (nI b) (nI n) (nI p) cr va ss sn su ur ue un xr xo xn := by
  have I0 := I
  obtain ⟨K, V, G0, G1, e8, C⟩ := I0
  obtain ⟨t, k, et, ek, hk4, ht, hD, h2, h3, hf⟩ := K.2.2.2.1 1 (by omega)
  unfold wL_law_239
  refine pz_add c0 (by omega) hr ek hk4 (fun x hx => br_f hx (pz_go I HJ)) (fun e1 hk hj => br_t rfl ?_)
  obtain ⟨m, em, hm22, hm8, hm, G'⟩ := pz_Gadd (ue := ue) G1 ek hk hr hw e1
  refine pz_wCnt G1 ek hk4 (br_t (nI_lt (b := 4) hk (by decide)) ?_)
  rw [em]
  refine pz_wAdd hk hm hm8 hr hw (br_f (by decide) ?_)
  exact pz_go (x6 := lN (m + 1 + (r + 4 * w) * 2 ^ (4 + 6 * k))) ⟨pz_K_a K (by omega) ek hk hr e1 hj, V, pz_G_eq G0 Iff.rfl (pk_un (by decide)) (fun i hi => ⟨pk_un (by omega), pk_un (by omega)⟩), G', e8, Or.inl ⟨e9, c0⟩⟩ HJ
theorem pz_159 {a12 a13 a14 a15 : Int32} (I : pz_I x2 x4 x6 x8 x9 b n p cr va ss sn su ur un xr xn yr yn) (HJ : pz_HJ J q) (e9 : x9 = 0) (c0 : cr = 0) :
    wL_law_159 post Ls xs J x2 x4 x6 x8 x9 (nI q) a12 a13 a14 a15 0 kc ks (nI 4) (nI 8) (nI 2) (nI b) (nI n) (nI p) cr va ss sn su ur ue un xr xo xn := by
  obtain ⟨s, hs, es⟩ := pk_andE a12 (m := 1) 1 (by decide)
  obtain ⟨r, hr, er⟩ := pk_andE a13 (m := 3) 2 (by decide)
  obtain ⟨w, hw, ew⟩ := pk_andE a15 (m := 15) 4 (by decide)
  have key : ∀ e : Int32, wL_law_225 post Ls xs J x2 x4 x6 x8 x9 (nI q) 0 (nI s) (nI r) (nI w) e kc ks (nI 4) (nI 8) (nI 2) (nI b) (nI n) (nI p) cr va ss sn su ur ue un xr xo xn := by
    intro e
    have c : s = 0 ∨ s = 1 := by omega
    rcases c with rfl | rfl
    · exact br_t rfl (pz_239_0 I HJ e9 c0 hr hw)
    · exact br_f (by decide) (pz_239_1 I HJ e9 c0 hr hw)
  exact nm_r es (nm_r er (nm_e (nm_r ew (br_c (fun _ => key _) (fun _ => br_c (fun _ => pz_wGet I.2.1 hr (key _)) (fun _ => br_c (fun _ => key _) (fun _ => key _)))))))
/-! run -/
theorem pz_eqv {s k n' : Nat} {va' : Nat → Int32} {x x' : Int32} (h : va' = va ∧ n' = n ∧ (x' = x ∨ (x = 2 ∧ (x' = 5 ∨ x' = 6)) ∨ (x = 3 ∧ x' = 4))) : (x' = 3 ∨ x' = 4) ↔ (x = 3 ∨ x = 4) := by
  rcases h with ⟨_, _, rfl | ⟨rfl, rfl | rfl⟩ | ⟨rfl, rfl⟩⟩
  · exact Iff.rfl
  · decide
  · decide
  · decide
theorem pz_383_0 {k b' n' : Nat} {va' ss' sn' xr' xo' xn' yr' yn' : Nat → Int32} (I : pz_I x2 x4 x6 x8 x9 b n p cr va ss sn su ur un xr xn yr yn) (HJ : pz_HJ J q) (e9 : x9 = 0) (c0 : cr = 0) (ek : su 0 = nI k) (hk : k ≤ 4)
    (K' : pz_K b' n' p va' ss' sn' su ur xr' xn' yr' yn') (ho : ∀ j, j ≠ 0 → ss' j = ss j) (hO : pz_O ur un 0 k n va (ss 0) n' va' (ss' 0)) :
    wL_law_383 post Ls xs J x2 x4 x6 x8 x9 (nI q) 0 (nI 0) (ss' 0) x4 kc ks (nI 4) (nI 8) (nI 2) (nI b') (nI n') (nI p) cr va' ss' sn' su ur ue un xr' xo' xn' := by
  obtain ⟨K, V, G0, G1, e8, C⟩ := I
  have oth : (ss' 1 = 3 ∨ ss' 1 = 4) ↔ (ss 1 = 3 ∨ ss 1 = 4) := by rw [ho 1 (by decide)]
  rcases hO with hA | ⟨x2', hx, rfl, rfl⟩
  · have ev := pz_eqv (s := 0) (k := 0) hA
    obtain ⟨rfl, rfl, _⟩ := hA
    have I' : pz_I x2 x4 x6 x8 x9 b' n' p cr va' ss' sn' su ur un xr' xn' yr' yn' := ⟨K', V, pz_G_eq G0 ev rfl (fun _ _ => ⟨rfl, rfl⟩), pz_G_eq G1 oth rfl (fun _ _ => ⟨rfl, rfl⟩), e8, Or.inl ⟨e9, c0⟩⟩
    have app : (ss' 0 = 3 ∨ ss' 0 = 4) → wL_law_397 post Ls xs J x2 x4 x6 x8 x9 (nI q) 0 (nI 0) x4 kc ks (nI 4) (nI 8) (nI 2) (nI b') (nI n') (nI p) cr va' ss' sn' su ur ue un xr' xo' xn' := by
      intro hz
      unfold wL_law_397
      exact pz_wApp G0 (fun _ => br_f (by decide) (pz_go I' HJ)) (fun z => absurd (ev.mp hz) z)
    exact br_c (fun z => app (Or.inl z)) (fun _ => br_c (fun z => app (Or.inr z)) (fun _ => pz_go I' HJ))
  · have nap : ¬ (ss 0 = 3 ∨ ss 0 = 4) := by rw [x2']; decide
    have e8' : x8 + nI k = nI (n + k) := by rw [e8, nI_add]
    have fin : ∀ y, pz_V y (rx_vv ur un va 0 k) → wL_law_433 post Ls xs J y x4 x6 (nI (rx_cn 8 n k)) x9 (nI q) 0 (nI 0) x4 kc ks (nI 4) (nI 8) (nI 2) (nI b') (nI (rx_cn 8 n k)) (nI p) cr (rx_vv ur un va 0 k) ss' sn' su ur ue un xr' xo' xn' := by
      intro y hy
      refine nm_e (br_t rfl ?_)
      exact pz_go (x4 := x4 ||| 8) ⟨K', hy, pz_Gap G0 nap hx, pz_G_eq G1 oth rfl (fun _ _ => ⟨rfl, rfl⟩), rfl, Or.inl ⟨e9, c0⟩⟩ HJ
    have app : wL_law_397 post Ls xs J x2 x4 x6 x8 x9 (nI q) 0 (nI 0) x4 kc ks (nI 4) (nI 8) (nI 2) (nI b') (nI (rx_cn 8 n k)) (nI p) cr (rx_vv ur un va 0 k) ss' sn' su ur ue un xr' xo' xn' := by
      unfold wL_law_397
      refine pz_wApp G0 (fun z => absurd z nap) (fun _ => br_t rfl (pz_wAll G0 ek hk V (fun y hy => pz_wCnt G0 ek hk (nm_r e8' ?_))))
      have cn := pz_cn (L := 8) (n := n) (by omega) K.2.1 k
      have f := fin y hy
      by_cases hl : n + k ≤ 8
      · rw [cn, if_pos hl] at f ⊢
        exact br_t (nI_le (b := 8) hl (by omega)) f
      · rw [cn, if_neg hl] at f ⊢
        exact br_f (nI_ge (a := 8) (by omega) (by have := K.2.1; omega)) f
    rcases hx with z | z
    · exact br_t z app
    · exact br_f (by rw [z]; decide) (br_t z app)
theorem pz_383_1 {k b' n' : Nat} {va' ss' sn' xr' xo' xn' yr' yn' : Nat → Int32} (I : pz_I x2 x4 x6 x8 x9 b n p cr va ss sn su ur un xr xn yr yn) (HJ : pz_HJ J q) (e9 : x9 = 0) (c0 : cr = 0) (ek : su 1 = nI k) (hk : k ≤ 4)
    (K' : pz_K b' n' p va' ss' sn' su ur xr' xn' yr' yn') (ho : ∀ j, j ≠ 1 → ss' j = ss j) (hO : pz_O ur un 1 k n va (ss 1) n' va' (ss' 1)) :
    wL_law_383 post Ls xs J x2 x4 x6 x8 x9 (nI q) 0 (nI 1) (ss' 1) x6 kc ks (nI 4) (nI 8) (nI 2) (nI b') (nI n') (nI p) cr va' ss' sn' su ur ue un xr' xo' xn' := by
  obtain ⟨K, V, G0, G1, e8, C⟩ := I
  have oth : (ss' 0 = 3 ∨ ss' 0 = 4) ↔ (ss 0 = 3 ∨ ss 0 = 4) := by rw [ho 0 (by decide)]
  rcases hO with hA | ⟨x2', hx, rfl, rfl⟩
  · have ev := pz_eqv (s := 0) (k := 0) hA
    obtain ⟨rfl, rfl, _⟩ := hA
    have I' : pz_I x2 x4 x6 x8 x9 b' n' p cr va' ss' sn' su ur un xr' xn' yr' yn' := ⟨K', V, pz_G_eq G0 oth rfl (fun _ _ => ⟨rfl, rfl⟩), pz_G_eq G1 ev rfl (fun _ _ => ⟨rfl, rfl⟩), e8, Or.inl ⟨e9, c0⟩⟩
    have app : (ss' 1 = 3 ∨ ss' 1 = 4) → wL_law_397 post Ls xs J x2 x4 x6 x8 x9 (nI q) 0 (nI 1) x6 kc ks (nI 4) (nI 8) (nI 2) (nI b') (nI n') (nI p) cr va' ss' sn' su ur ue un xr' xo' xn' := by
      intro hz
      unfold wL_law_397
      exact pz_wApp G1 (fun _ => br_f (by decide) (pz_go I' HJ)) (fun z => absurd (ev.mp hz) z)
    exact br_c (fun z => app (Or.inl z)) (fun _ => br_c (fun z => app (Or.inr z)) (fun _ => pz_go I' HJ))
  · have nap : ¬ (ss 1 = 3 ∨ ss 1 = 4) := by rw [x2']; decide
    have e8' : x8 + nI k = nI (n + k) := by rw [e8, nI_add]
    have fin : ∀ y, pz_V y (rx_vv ur un va 1 k) → wL_law_433 post Ls xs J y x4 x6 (nI (rx_cn 8 n k)) x9 (nI q) 0 (nI 1) x6 kc ks (nI 4) (nI 8) (nI 2) (nI b') (nI (rx_cn 8 n k)) (nI p) cr (rx_vv ur un va 1 k) ss' sn' su ur ue un xr' xo' xn' := by
      intro y hy
      refine nm_e (br_f (by decide) ?_)
      exact pz_go (x6 := x6 ||| 8) ⟨K', hy, pz_G_eq G0 oth rfl (fun _ _ => ⟨rfl, rfl⟩), pz_Gap G1 nap hx, rfl, Or.inl ⟨e9, c0⟩⟩ HJ
    have app : wL_law_397 post Ls xs J x2 x4 x6 x8 x9 (nI q) 0 (nI 1) x6 kc ks (nI 4) (nI 8) (nI 2) (nI b') (nI (rx_cn 8 n k)) (nI p) cr (rx_vv ur un va 1 k) ss' sn' su ur ue un xr' xo' xn' := by
      unfold wL_law_397
      refine pz_wApp G1 (fun z => absurd z nap) (fun _ => br_t rfl (pz_wAll G1 ek hk V (fun y hy => pz_wCnt G1 ek hk (nm_r e8' ?_))))
      have cn := pz_cn (L := 8) (n := n) (by omega) K.2.1 k
      have f := fin y hy
      by_cases hl : n + k ≤ 8
      · rw [cn, if_pos hl] at f ⊢
        exact br_t (nI_le (b := 8) hl (by omega)) f
      · rw [cn, if_neg hl] at f ⊢
        exact br_f (nI_ge (a := 8) (by omega) (by have := K.2.1; omega)) f
    rcases hx with z | z
    · exact br_t z app
    · exact br_f (by rw [z]; decide) (br_t z app)
theorem pz_341 {a12 a13 : Int32} (I : pz_I x2 x4 x6 x8 x9 b n p cr va ss sn su ur un xr xn yr yn) (HJ : pz_HJ J q) (e9 : x9 = 0) (c0 : cr = 0) :
    wL_law_341 post Ls xs J x2 x4 x6 x8 x9 (nI q) a12 a13 0 kc ks (nI 4) (nI 8) (nI 2) (nI b) (nI n) (nI p) cr va ss sn su ur ue un xr xo xn := by
  obtain ⟨s, hs, es⟩ := pk_andE ((a12.toUInt32 >>> ((1 : Int32).toUInt32 &&& Int32.toUInt32 31)).toInt32) (m := 1) 1 (by decide)
  obtain ⟨c, hc, ec⟩ := pk_andE a13 (m := 7) 3 (by decide)
  have ec1 : 1 + (a13 &&& 7) = nI (1 + c) := by rw [ec]; exact nI_add 1 c
  have K := I.1
  obtain ⟨t, k, et, ek, hk4, ht, hD, h2, h3, hf⟩ := K.2.2.2.1 s (by omega)
  refine nm_r es ?_
  rw [ec1]
  refine pz_runM c0 (by omega) ek hk4 (by omega) (by omega) K (fun r b' n' va' ss' sn' xr' xo' xn' yr' yn' K' ho hO => pz_status c0 (by omega) ?_)
  have cc : s = 0 ∨ s = 1 := by omega
  rcases cc with rfl | rfl
  · exact br_t rfl (pz_383_0 I HJ e9 c0 ek hk4 K' ho hO)
  · exact br_f (by decide) (pz_383_1 I HJ e9 c0 ek hk4 K' ho hO)
/-! abort, pack, crash -/
theorem pz_460 {x11 a12 a13 a14 : Int32} (I : pz_I x2 x4 x6 x8 x9 b n p cr va ss sn su ur un xr xn yr yn) (HJ : pz_HJ J q) (e9 : x9 = 0) (c0 : cr = 0) :
    wL_law_460 post Ls xs J x2 x4 x6 x8 x9 (nI q) x11 a12 a13 a14 0 kc ks (nI 4) (nI 8) (nI 2) (nI b) (nI n) (nI p) cr va ss sn su ur ue un xr xo xn := by
  have I0 := I
  obtain ⟨K, V, G0, G1, e8, C⟩ := I0
  have k3 := K.2.2.1
  refine br_c (fun _ => nm_e (br_c (fun _ => br_c (fun _ => ?_) (fun _ => ?_)) (fun _ => ?_))) (fun _ => ?_)
  · exact pz_packStart c0 k3 (fun _ => pz_go I HJ) (pz_go (pz_I_st I e9 c0 (pz_K_p K (by omega)) (fun _ _ => Iff.rfl)) HJ)
  · obtain ⟨c, hc, ec⟩ := pk_andE a14 (m := 3) 2 (by decide)
    rw [show 1 + (a14 &&& 3) = nI (1 + c) by rw [ec]; exact nI_add 1 c]
    exact pz_packRun c0 k3 (by omega) (by omega) (fun _ p' hp' => pz_go (pz_I_st I e9 c0 (pz_K_p K hp') (fun _ _ => Iff.rfl)) HJ)
  · obtain ⟨s, hs, es⟩ := pk_andE a12 (m := 1) 1 (by decide)
    obtain ⟨t, k, et, ek, hk4, ht, hD, h2, h3, hf⟩ := K.2.2.2.1 s (by omega)
    rw [es]
    refine pz_abort c0 (by omega) (fun _ => pz_go I HJ) (fun hu => pz_go (pz_I_st I e9 c0 (pz_K_up K s (rx_SI_mk (x := 8) pk_us et ek hk4 ht rx_d8 (fun z => absurd z (by decide)) (fun z => absurd z (by decide)) hf) (fun j hj => ⟨pk_un hj, rfl, rfl, fun _ _ => rfl⟩)) (pz_ch (by decide) ?_)) HJ)
    rcases hu with z | z
    · rw [z]; decide
    · rw [z]; decide
  · refine pz_crash c0 K.2.2.2.1 (fun ss' sn' hI hd => br_t rfl (pz_go (yr := yr) (yn := yn) ⟨?_, V, pz_G_eq G0 (hd 0 (by omega)).2 rfl (fun _ _ => ⟨rfl, rfl⟩), pz_G_eq G1 (hd 1 (by omega)).2 rfl (fun _ _ => ⟨rfl, rfl⟩), e8, Or.inr ⟨rfl, rfl, rfl, fun j hj => (hd j hj).1⟩⟩ HJ))
    obtain ⟨k1, k2, k3, k4, k5, k6, k7, k8⟩ := K
    exact ⟨k1, k2, by omega, hI, k5, k6, k7, k8⟩
theorem pz_cell {po : Int32 → Prop} {x : Int32} {m : Nat} (e : x = nI m) (hm : m < 2 ^ 31) (hL : Ls ≤ 260) (h : ∀ c, po c) : wpL_cell po Ls xs () x := by
  subst e
  by_cases g : Ls ≤ m
  · exact br_t (nI_le g hm) (h _)
  · exact br_f (nI_ge (by omega) (by omega)) ⟨vp_in_nI (by omega) (by omega), h _⟩
theorem pz_loop (hL : Ls ≤ 260) : ∀ (d q : Nat) (x2 x4 x6 : Int64) (x8 x9 : Int32) (b n p : Nat) (cr : Int32) (va ss sn su ur ue un xr xo xn yr yn : Nat → Int32), Ls ≤ q + d → q ≤ 300 →
    pz_I x2 x4 x6 x8 x9 b n p cr va ss sn su ur un xr xn yr yn → wL_law_29 (fun r => r = 1) Ls xs kc ks (d + 1) x2 x4 x6 x8 x9 (nI q) (nI 4) (nI 8) (nI 2) (nI b) (nI n) (nI p) cr va ss sn su ur ue un xr xo xn := by
  intro d
  induction d with
  | zero =>
    intro q x2 x4 x6 x8 x9 b n p cr va ss sn su ur ue un xr xo xn yr yn hd hq I
    exact br_t (nI_le (by omega) (by omega)) rfl
  | succ d ih =>
    intro q x2 x4 x6 x8 x9 b n p cr va ss sn su ur ue un xr xo xn yr yn hd hq I
    by_cases hq2 : Ls ≤ q
    · exact br_t (nI_le (by omega) (by omega)) rfl
    · have HJ : pz_HJ (wL_law_29 (fun r => r = 1) Ls xs kc ks (d + 1)) q := fun x2 x4 x6 x8 x9 b n p cr va ss sn su ur ue un xr xo xn yr yn I => ih (q + 5) x2 x4 x6 x8 x9 b n p cr va ss sn su ur ue un xr xo xn yr yn (by omega) (by omega) I
      refine br_f (nI_ge (by omega) (by omega)) (pz_cell (m := q) rfl (by omega) hL (fun a11 => nm_e (pz_cell (m := q + 1) (nI_add q 1) (by omega) hL (fun a12 => pz_cell (m := q + 2) (nI_add q 2) (by omega) hL (fun a13 => pz_cell (m := q + 3) (nI_add q 3) (by omega) hL (fun a14 => pz_cell (m := q + 4) (nI_add q 4) (by omega) hL (fun a15 => ?_)))))))
      have I0 := I
      obtain ⟨K, V, G0, G1, e8, C⟩ := I0
      rcases C with ⟨e9, c0⟩ | ⟨e9, c1, hp3, hst⟩
      · refine br_t e9 (br_c (fun _ => ?_) (fun _ => br_c (fun _ => pz_159 I HJ e9 c0) (fun _ => br_c (fun _ => pz_159 I HJ e9 c0) (fun _ => br_c (fun _ => ?_) (fun _ => br_c (fun _ => pz_341 I HJ e9 c0) (fun _ => br_c (fun _ => pz_341 I HJ e9 c0) (fun _ => br_c (fun _ => br_c (fun _ => pz_460 I HJ e9 c0) (fun _ => pz_341 I HJ e9 c0)) (fun _ => pz_460 I HJ e9 c0))))))))
        · refine pz_begin c0 (br_f (by decide) (br_f (by decide) (pz_go I HJ))) (fun j hj hu => ?_)
          have c : j = 0 ∨ j = 1 := by omega
          rcases c with rfl | rfl
          · exact br_t rfl (pz_go (pz_b0 I e9 c0) HJ)
          · exact br_f (by decide) (br_t rfl (pz_go (pz_b1 I e9 c0) HJ))
        · obtain ⟨s, hs, es⟩ := pk_andE a12 (m := 1) 1 (by decide)
          obtain ⟨t, k, et, ek, hk4, ht, hD, h2, h3, hf⟩ := K.2.2.2.1 s (by omega)
          rw [es]
          refine pz_commit c0 (by omega) (fun _ => pz_go I HJ) (fun e1 => pz_go (pz_I_st I e9 c0 (pz_K_up K s (rx_SI_mk (x := 2) (t := 0) (k := k) pk_us (pk_us.trans nI_0.symm) ek hk4 (by omega) rx_d2 (fun _ => by omega) (fun z => absurd z (by decide)) hf) (fun j hj => ⟨pk_un hj, pk_un hj, rfl, fun _ _ => rfl⟩)) (pz_ch (by decide) ?_)) HJ)
          rw [e1]; decide
      · subst c1
        exact br_f (by rw [e9]; decide) (br_f (by decide) (br_t rfl (pz_529 ⟨K, V, G0, G1, e8, Or.inl ⟨rfl, rfl⟩⟩ (fun _ => ⟨hp3, hst⟩) HJ)))
theorem pz_I0 : pz_I 0 0 0 0 0 0 0 3 0 (fun _ => 0) (fun _ => 0) (fun _ => 0) (fun _ => 0) (fun _ => 0) (fun _ => 0) (fun _ => 0) (fun _ => 0) (fun _ => 0) (fun _ => 0) :=
  ⟨⟨by omega, by omega, by omega,
    fun s _ => rx_SI_mk (x := 0) (t := 0) (k := 0) rfl nI_0.symm nI_0.symm (by omega) (by omega) rx_d0 (fun z => absurd z (by decide)) (fun z => absurd z (by decide)) ⟨fun j h => absurd h (by omega), fun _ _ _ h => absurd h (by omega)⟩,
    fun j h => absurd h (by omega), fun j h => absurd h (by omega), fun j h => absurd h (by omega), fun j h => absurd h (by omega)⟩,
   ⟨0, by omega, rfl, fun r _ => by rw [Nat.zero_div]; rfl⟩, pz_G0 rfl (by decide), pz_G0 rfl (by decide), rfl, Or.inl ⟨rfl, rfl⟩⟩
theorem i_vc (xs : Nat → Int32) (L : Nat) (hL : L ≤ 260) : wpL_law (fun r => r = 1) L xs := by
  refine ⟨10, 172, by decide, by decide, ?_⟩
  refine ⟨by decide, by decide, by decide, by decide, by decide, by decide, by decide, by decide, by decide, by decide, by decide, by decide, by decide, by decide, by decide, by decide, by decide, by decide, by decide, by decide, ?_⟩
  refine br_t (by decide) (br_t (by decide) (br_t (by decide) (br_t (by decide) (br_t (by decide) (br_t (by decide) ⟨L + 1, ?_⟩)))))
  exact pz_loop hL L 0 0 0 0 0 0 0 0 3 0 (fun _ => 0) (fun _ => 0) (fun _ => 0) (fun _ => 0) (fun _ => 0) (fun _ => 0) (fun _ => 0) (fun _ => 0) (fun _ => 0) (fun _ => 0) (fun _ => 0) (fun _ => 0) (by omega) (by omega) pz_I0
end PZ11
end
