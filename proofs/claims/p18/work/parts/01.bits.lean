/-! ===== lN n to 2^64: shifts, and, or, masks, one bit ===== -/
theorem wb_tb (n : Nat) : (lN n).toBitVec = BitVec.ofNat 64 n := rfl
theorem wb_inj {a b : Int64} (h : a.toBitVec = b.toBitVec) : a = b := Int64.toBitVec_inj.mp h
theorem wb_tn {n : Nat} (h : n < 2 ^ 64) : (lN n).toBitVec.toNat = n := by rw [wb_tb, BitVec.toNat_ofNat, Nat.mod_eq_of_lt h]
theorem wb_of (x : Int64) : ∃ n, n < 2 ^ 64 ∧ x = lN n := ⟨x.toBitVec.toNat, x.toBitVec.isLt, wb_inj (by rw [wb_tb]; simp)⟩
theorem wb_of32 (x : Int32) : ∃ n, n < 2 ^ 32 ∧ x = nI n := ⟨x.toBitVec.toNat, x.toBitVec.isLt, Int32.toBitVec_inj.mp (by show _ = BitVec.ofNat 32 _; simp)⟩
theorem wb_c : ∀ k, k < 64 → ((nI k).toInt64 &&& 63) = lN k := by decide +kernel
theorem wb_cu : ∀ k, k < 64 → ((nI k).toInt64.toUInt64 &&& Int64.toUInt64 63) = UInt64.ofNat k := by decide +kernel
theorem wb_sm : ∀ k, k < 64 → (BitVec.ofNat 64 k).smod 64 = BitVec.ofNat 64 k := by decide +kernel
theorem wb_pw {a b : Nat} (h : a ≤ b) : 2 ^ b = 2 ^ a * 2 ^ (b - a) := by rw [← Nat.pow_add]; congr 1; omega
theorem wb_lt2 {a b : Nat} (h : a < b) : 2 ^ a < 2 ^ b := Nat.pow_lt_pow_right (by decide) h
theorem wb_mod (n : Nat) : lN n = lN (n % 2 ^ 64) := wb_inj (by rw [wb_tb, wb_tb]; apply BitVec.eq_of_toNat_eq; rw [BitVec.toNat_ofNat, BitVec.toNat_ofNat, Nat.mod_mod])
theorem wb_shr {n k : Nat} (hn : n < 2 ^ 64) (hk : k < 64) : ((lN n).toUInt64 >>> ((nI k).toInt64.toUInt64 &&& Int64.toUInt64 63)).toInt64 = lN (n / 2 ^ k) := by
  rw [wb_cu k hk]
  apply wb_inj
  apply BitVec.eq_of_toNat_eq
  show ((lN n).toUInt64 >>> UInt64.ofNat k).toNat = (BitVec.ofNat 64 _).toNat
  have h1 : (UInt64.ofNat k).toNat = k := by
    show (BitVec.ofNat 64 k).toNat = k
    rw [BitVec.toNat_ofNat, Nat.mod_eq_of_lt (by omega)]
  have h2 : (lN n).toUInt64.toNat = n := wb_tn hn
  rw [UInt64.toNat_shiftRight, h1, h2, Nat.mod_eq_of_lt hk, Nat.shiftRight_eq_div_pow, BitVec.toNat_ofNat, Nat.mod_eq_of_lt (Nat.lt_of_le_of_lt (Nat.div_le_self _ _) hn)]
theorem wb_shl (n : Nat) {k : Nat} (hk : k < 64) : lN n <<< ((nI k).toInt64 &&& 63) = lN (n * 2 ^ k) := by
  rw [wb_c k hk]
  apply wb_inj
  rw [Int64.toBitVec_shiftLeft, wb_tb, wb_tb, wb_tb, wb_sm k hk]
  apply BitVec.eq_of_toNat_eq
  rw [BitVec.shiftLeft_eq', BitVec.toNat_shiftLeft, BitVec.toNat_ofNat, BitVec.toNat_ofNat, BitVec.toNat_ofNat, Nat.mod_eq_of_lt (show k < 2 ^ 64 by omega), Nat.shiftLeft_eq, Nat.mul_mod, Nat.mod_mod, ← Nat.mul_mod]
theorem wb_and {a b : Nat} (ha : a < 2 ^ 64) (hb : b < 2 ^ 64) : lN a &&& lN b = lN (a &&& b) := by
  apply wb_inj
  rw [Int64.toBitVec_and, wb_tb, wb_tb, wb_tb]
  apply BitVec.eq_of_toNat_eq
  rw [BitVec.toNat_and, BitVec.toNat_ofNat, BitVec.toNat_ofNat, BitVec.toNat_ofNat, Nat.mod_eq_of_lt ha, Nat.mod_eq_of_lt hb, Nat.mod_eq_of_lt (Nat.and_lt_two_pow _ hb)]
theorem wb_or {a b : Nat} (ha : a < 2 ^ 64) (hb : b < 2 ^ 64) : lN a ||| lN b = lN (a ||| b) := by
  apply wb_inj
  rw [Int64.toBitVec_or, wb_tb, wb_tb, wb_tb]
  apply BitVec.eq_of_toNat_eq
  rw [BitVec.toNat_or, BitVec.toNat_ofNat, BitVec.toNat_ofNat, BitVec.toNat_ofNat, Nat.mod_eq_of_lt ha, Nat.mod_eq_of_lt hb, Nat.mod_eq_of_lt (Nat.or_lt_two_pow ha hb)]
theorem wb_mask {n k : Nat} (hn : n < 2 ^ 64) (hk : k < 64) : lN n &&& lN (2 ^ k - 1) = lN (n % 2 ^ k) := by
  rw [wb_and hn (by have := wb_lt2 hk; omega), Nat.and_two_pow_sub_one_eq_mod]
theorem wb_a1 {n : Nat} (hn : n < 2 ^ 64) : lN n &&& 1 = lN (n % 2) := wb_mask (k := 1) hn (by decide)
theorem wb_bit {n k : Nat} (hn : n < 2 ^ 64) (hk : k < 64) : ((lN n).toUInt64 >>> ((nI k).toInt64.toUInt64 &&& Int64.toUInt64 63)).toInt64 &&& 1 = lN (n / 2 ^ k % 2) := by
  rw [wb_shr hn hk, wb_a1 (Nat.lt_of_le_of_lt (Nat.div_le_self _ _) hn)]
/-! ===== lN: masks, 'or' of parts that don't overlap is a sum ===== -/
theorem u_tn {n : Nat} (h : n < 2 ^ 64) : (UInt64.ofNat n).toNat = n := Nat.mod_eq_of_lt h
theorem g_and {a b c : Nat} (ha : a < 2 ^ 64) (hb : b < 2 ^ 64) (hc : a &&& b = c) : lN a &&& lN b = lN c := by
  subst hc
  have h : UInt64.ofNat a &&& UInt64.ofNat b = UInt64.ofNat (a &&& b) := UInt64.toNat_inj.mp (by rw [UInt64.toNat_and, u_tn ha, u_tn hb, u_tn (Nat.and_lt_two_pow a hb)])
  have h2 := congrArg UInt64.toInt64 h
  exact h2
theorem g_and1 {a : Nat} (ha : a < 2 ^ 64) : lN a &&& 1 = lN (a % 2) := g_and (b := 1) ha (by decide) (Nat.and_two_pow_sub_one_eq_mod a 1)
theorem g_mask {a s p : Nat} (hp : 2 ^ s = p) (hs : s < 64) (ha : a < 2 ^ 64) : lN a &&& lN (p - 1) = lN (a % p) := by
  subst hp
  have := Nat.pow_lt_pow_right (show 1 < 2 by decide) hs
  exact g_and ha (by omega) (Nat.and_two_pow_sub_one_eq_mod a s)
theorem g_or {k p a b : Nat} (hp : 2 ^ k = p) (ha : a < p) (h : b * p + a < 2 ^ 64) : lN (b * p) ||| lN a = lN (b * p + a) := by
  subst hp
  have h1 : b * 2 ^ k ||| a = b * 2 ^ k + a := by rw [← Nat.shiftLeft_eq, Nat.shiftLeft_add_eq_or_of_lt ha]
  have h3 : UInt64.ofNat (b * 2 ^ k) ||| UInt64.ofNat a = UInt64.ofNat (b * 2 ^ k + a) := UInt64.toNat_inj.mp (by rw [UInt64.toNat_or, u_tn (by omega), u_tn (by omega), u_tn h, h1])
  have h2 := congrArg UInt64.toInt64 h3
  exact h2
theorem g_or' {k p a b : Nat} (hp : 2 ^ k = p) (ha : a < p) (h : a + b * p < 2 ^ 64) : lN a ||| lN (b * p) = lN (a + b * p) := by
  rw [Int64.or_comm, g_or hp ha (by omega), Nat.add_comm]
/-! the law's packed numbers -/
theorem pz_clr {m s M : Nat} (hs : s + 4 ≤ 64) (hm : m < 2 ^ 64) (hM : ∀ i, i < 64 → M.testBit i = !(decide (s ≤ i) && decide (i < s + 4))) :
    m &&& M = 2 ^ (s + 4) * (m / 2 ^ (s + 4)) + m % 2 ^ s := by
  apply Nat.eq_of_testBit_eq
  intro i
  have hlt : m % 2 ^ s < 2 ^ (s + 4) := Nat.lt_of_lt_of_le (Nat.mod_lt _ (Nat.two_pow_pos s)) (Nat.pow_le_pow_right (by decide) (by omega))
  rw [Nat.testBit_and, Nat.testBit_two_pow_mul_add _ hlt]
  by_cases h : i < s + 4
  · rw [if_pos h, Nat.testBit_mod_two_pow, hM i (by omega)]
    by_cases h2 : i < s
    · simp [h2, show ¬ s ≤ i by omega]
    · simp [h2, show s ≤ i by omega, h]
  · rw [if_neg h, Nat.testBit_div_two_pow, show i - (s + 4) + (s + 4) = i by omega]
    by_cases h2 : i < 64
    · rw [hM i h2]
      simp [h]
    · rw [Nat.testBit_lt_two_pow (Nat.lt_of_lt_of_le hm (Nat.pow_le_pow_right (by decide) (by omega))), Bool.false_and]
theorem pz_lo {m M : Nat} (hm : m < 2 ^ 64) (hM : ∀ i, i < 64 → M.testBit i = decide (3 ≤ i)) : m &&& M = m / 2 ^ 3 * 2 ^ 3 := by
  apply Nat.eq_of_testBit_eq
  intro i
  rw [Nat.testBit_and, Nat.testBit_mul_two_pow, Nat.testBit_div_two_pow]
  by_cases h2 : i < 64
  · rw [hM i h2]
    by_cases h : 3 ≤ i
    · simp [h]
    · simp [h]
  · rw [Nat.testBit_lt_two_pow (Nat.lt_of_lt_of_le hm (Nat.pow_le_pow_right (by decide) (by omega))), show i - 3 + 3 = i by omega, Nat.testBit_lt_two_pow (Nat.lt_of_lt_of_le hm (Nat.pow_le_pow_right (by decide) (by omega)))]
    simp
theorem pz_4r (r : Nat) : (4 : Int32) * nI r = nI (4 * r) := pk_mul 4 r
theorem pz_46 (i : Nat) : (4 : Int32) + (6 : Int32) * nI i = nI (4 + 6 * i) := by
  rw [show (6 : Int32) * nI i = nI (6 * i) from pk_mul 6 i]
  exact nI_add 4 (6 * i)
theorem pz_66 (i : Nat) : (6 : Int32) + (6 : Int32) * nI i = nI (6 + 6 * i) := by
  rw [show (6 : Int32) * nI i = nI (6 * i) from pk_mul 6 i]
  exact nI_add 6 (6 * i)
theorem pz_sm {m k : Nat} (hm : m < 2 ^ 64) : m / 2 ^ k < 2 ^ 64 := Nat.lt_of_le_of_lt (Nat.div_le_self _ _) hm
theorem pz_getV {m r : Nat} (hm : m < 2 ^ 64) (hr : r < 4) : (((lN m).toUInt64 >>> ((4 * nI r).toInt64.toUInt64 &&& Int64.toUInt64 63)).toInt64 &&& 15).toInt32 = nI (m / 16 ^ r % 16) := by
  rw [pz_4r, wb_shr hm (by omega), show (15 : Int64) = lN (2 ^ 4 - 1) from rfl, wb_mask (pz_sm hm) (by decide), lN_i, Nat.pow_mul]
theorem pz_cnt {m : Nat} (hm : m < 2 ^ 64) : (lN m &&& 7).toInt32 = nI (m % 8) := by
  rw [show (7 : Int64) = lN (2 ^ 3 - 1) from rfl, wb_mask hm (by decide), lN_i]
theorem pz_bit3 {m : Nat} (hm : m < 2 ^ 64) : ((lN m).toUInt64 >>> ((3 : Int32).toInt64.toUInt64 &&& Int64.toUInt64 63)).toInt64 &&& 1 = lN (m / 8 % 2) := wb_bit (k := 3) hm (by decide)
theorem pz_uRef {m i : Nat} (hm : m < 2 ^ 64) (hi : i < 4) : (((lN m).toUInt64 >>> ((4 + 6 * nI i).toInt64.toUInt64 &&& Int64.toUInt64 63)).toInt64 &&& 3).toInt32 = nI (m / 2 ^ (4 + 6 * i) % 4) := by
  rw [pz_46, wb_shr hm (by omega), show (3 : Int64) = lN (2 ^ 2 - 1) from rfl, wb_mask (pz_sm hm) (by decide), lN_i]
theorem pz_uNew {m i : Nat} (hm : m < 2 ^ 64) (hi : i < 4) : (((lN m).toUInt64 >>> ((6 + 6 * nI i).toInt64.toUInt64 &&& Int64.toUInt64 63)).toInt64 &&& 15).toInt32 = nI (m / 2 ^ (6 + 6 * i) % 16) := by
  rw [pz_66, wb_shr hm (by omega), show (15 : Int64) = lN (2 ^ 4 - 1) from rfl, wb_mask (pz_sm hm) (by decide), lN_i]
theorem pz_e : ∀ r, r < 4 → ∀ w, w < 16 → nI r ||| (nI w <<< ((2 : Int32) &&& 31)) = nI (r + 4 * w) := by decide +kernel
theorem pz_m8 : ∀ i, i < 64 → (2 ^ 64 - 8 : Nat).testBit i = decide (3 ≤ i) := by decide +kernel
theorem pz_k0 : ∀ i, i < 64 → (2 ^ 64 - 1 - 15 : Nat).testBit i = !(decide (0 ≤ i) && decide (i < 0 + 4)) := by decide +kernel
theorem pz_k4 : ∀ i, i < 64 → (2 ^ 64 - 1 - 240 : Nat).testBit i = !(decide (4 ≤ i) && decide (i < 4 + 4)) := by decide +kernel
theorem pz_k8 : ∀ i, i < 64 → (2 ^ 64 - 1 - 3840 : Nat).testBit i = !(decide (8 ≤ i) && decide (i < 8 + 4)) := by decide +kernel
theorem pz_k12 : ∀ i, i < 64 → (2 ^ 64 - 1 - 61440 : Nat).testBit i = !(decide (12 ≤ i) && decide (i < 12 + 4)) := by decide +kernel
theorem pz_n0 : ((15 : Int64) <<< ((4 * nI 0).toInt64 &&& 63)) ^^^ (-1) = lN (2 ^ 64 - 1 - 15) := by decide +kernel
theorem pz_n4 : ((15 : Int64) <<< ((4 * nI 1).toInt64 &&& 63)) ^^^ (-1) = lN (2 ^ 64 - 1 - 240) := by decide +kernel
theorem pz_n8 : ((15 : Int64) <<< ((4 * nI 2).toInt64 &&& 63)) ^^^ (-1) = lN (2 ^ 64 - 1 - 3840) := by decide +kernel
theorem pz_n12 : ((15 : Int64) <<< ((4 * nI 3).toInt64 &&& 63)) ^^^ (-1) = lN (2 ^ 64 - 1 - 61440) := by decide +kernel
theorem pz_set {m s w M : Nat} {y : Int64} (hs : s ≤ 12) (hm : m < 65536) (hw : w < 16) (hM64 : M < 2 ^ 64) (hM : ∀ i, i < 64 → M.testBit i = !(decide (s ≤ i) && decide (i < s + 4))) (hy : y = lN (w * 2 ^ s)) :
    (lN m &&& lN M) ||| y = lN (m / 2 ^ (s + 4) * 2 ^ (s + 4) + (m % 2 ^ s + w * 2 ^ s)) := by
  have hm64 : m < 2 ^ 64 := by omega
  have h1 : m / 2 ^ (s + 4) * 2 ^ (s + 4) ≤ m := Nat.div_mul_le_self _ _
  have h2 : m % 2 ^ s < 2 ^ s := Nat.mod_lt _ (Nat.two_pow_pos s)
  have h3 : 2 ^ (s + 4) = 2 ^ s * 16 := Nat.pow_add 2 s 4
  have h4 : 2 ^ s ≤ 2 ^ 12 := Nat.pow_le_pow_right (by decide) hs
  have h5 : w * 2 ^ s ≤ 15 * 2 ^ s := Nat.mul_le_mul_right _ (by omega)
  have e1 : lN m &&& lN M = lN (m / 2 ^ (s + 4) * 2 ^ (s + 4)) ||| lN (m % 2 ^ s) := by
    rw [wb_and hm64 hM64, pz_clr (by omega) hm64 hM, Nat.mul_comm, g_or (k := s + 4) rfl (by omega) (by omega)]
  rw [e1, hy, Int64.or_assoc, g_or' (k := s) rfl h2 (by omega), g_or (k := s + 4) rfl (by omega) (by omega)]
theorem pz_sh {w r : Nat} (hw : w < 16) (hr : r < 4) : (nI w).toInt64 <<< ((4 * nI r).toInt64 &&& 63) = lN (w * 2 ^ (4 * r)) := by
  rw [pz_4r, nI_l (by omega), wb_shl w (by omega)]
theorem pz_setV {m r w : Nat} (hm : m < 65536) (hr : r < 4) (hw : w < 16) : ∃ m', m' < 65536 ∧
    (lN m &&& (((15 : Int64) <<< ((4 * nI r).toInt64 &&& 63)) ^^^ (-1))) ||| ((nI w).toInt64 <<< ((4 * nI r).toInt64 &&& 63)) = lN m' ∧
    m' / 16 ^ r % 16 = w ∧ ∀ q, q < 4 → q ≠ r → m' / 16 ^ q % 16 = m / 16 ^ q % 16 := by
  have c4 : ∀ q, q < 4 → q = 0 ∨ q = 1 ∨ q = 2 ∨ q = 3 := fun q h => by omega
  rcases c4 r hr with rfl | rfl | rfl | rfl
  · rw [pz_n0, pz_set (s := 0) (by omega) hm hw (by decide) pz_k0 (pz_sh hw hr)]
    refine ⟨_, ?_, rfl, ?_, fun q h hq => ?_⟩
    · omega
    · omega
    · rcases c4 q h with rfl | rfl | rfl | rfl <;> omega
  · rw [pz_n4, pz_set (s := 4) (by omega) hm hw (by decide) pz_k4 (pz_sh hw hr)]
    refine ⟨_, ?_, rfl, ?_, fun q h hq => ?_⟩
    · omega
    · omega
    · rcases c4 q h with rfl | rfl | rfl | rfl <;> omega
  · rw [pz_n8, pz_set (s := 8) (by omega) hm hw (by decide) pz_k8 (pz_sh hw hr)]
    refine ⟨_, ?_, rfl, ?_, fun q h hq => ?_⟩
    · omega
    · omega
    · rcases c4 q h with rfl | rfl | rfl | rfl <;> omega
  · rw [pz_n12, pz_set (s := 12) (by omega) hm hw (by decide) pz_k12 (pz_sh hw hr)]
    refine ⟨_, ?_, rfl, ?_, fun q h hq => ?_⟩
    · omega
    · omega
    · rcases c4 q h with rfl | rfl | rfl | rfl <;> omega
/-- one more update: the count up by one, the new one behind the others -/
theorem pz_addU {m k r w : Nat} (hk : k < 4) (hm : m < 2 ^ (4 + 6 * k)) (h8 : m % 8 = k) (hr : r < 4) (hw : w < 16) :
    ((lN m &&& (-8)) ||| ((nI k + 1).toInt64)) ||| ((nI r ||| (nI w <<< ((2 : Int32) &&& 31))).toInt64 <<< ((4 + 6 * nI k).toInt64 &&& 63)) = lN (m + 1 + (r + 4 * w) * 2 ^ (4 + 6 * k)) := by
  have hp : 2 ^ (4 + 6 * k) ≤ 2 ^ 22 := Nat.pow_le_pow_right (by decide) (by omega)
  have hd : 2 ^ (4 + 6 * k) = 2 ^ (1 + 6 * k) * 8 := by rw [show 4 + 6 * k = (1 + 6 * k) + 3 by omega, Nat.pow_add]
  have hb : (r + 4 * w) * 2 ^ (4 + 6 * k) ≤ 63 * 2 ^ (4 + 6 * k) := Nat.mul_le_mul_right _ (by omega)
  have hm64 : m < 2 ^ 64 := by omega
  have e1 : lN m &&& (-8) = lN (m / 2 ^ 3 * 2 ^ 3) := by
    rw [show (-8 : Int64) = lN (2 ^ 64 - 8) from rfl, wb_and hm64 (by decide), pz_lo hm64 pz_m8]
  have e2 : m / 2 ^ 3 * 2 ^ 3 + (k + 1) = m + 1 := by omega
  have hlt : m + 1 < 2 ^ (4 + 6 * k) := by omega
  rw [e1, pz_e r hr w hw, nI_l (show r + 4 * w < 2 ^ 31 by omega), pz_46, wb_shl _ (by omega), nI_1, nI_l (show k + 1 < 2 ^ 31 by omega), g_or (k := 3) rfl (by omega) (by omega), e2, g_or' (k := 4 + 6 * k) rfl hlt (by omega)]
theorem pz_o8 : ∀ k, k < 8 → lN k ||| 8 = lN (k + 8) := by decide +kernel
theorem pz_or8 {m : Nat} (hm : m < 2 ^ 60) (h : m / 8 % 2 = 0) : lN m ||| 8 = lN (m + 8) := by
  have e : m = m / 16 * 16 + m % 8 := by omega
  have e1 : lN m = lN (m / 16 * 16) ||| lN (m % 8) := by
    rw [g_or (k := 4) rfl (by omega) (by omega), ← e]
  rw [e1, Int64.or_assoc, pz_o8 (m % 8) (by omega), g_or (k := 4) rfl (by omega) (by omega), show m / 16 * 16 + (m % 8 + 8) = m + 8 by omega]
