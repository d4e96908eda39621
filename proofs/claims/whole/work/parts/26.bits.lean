/-! BYTES OF FRAMES: the kit's rows on bits (given for pasting), and how the bytes of a frame make up its parts -/
/-! ===== lN n to 2^64: shifts, and, or, masks, one bit ===== -/
theorem wb_tb (n : Nat) : (lN n).toBitVec = BitVec.ofNat 64 n := rfl
theorem wb_inj {a b : Int64} (h : a.toBitVec = b.toBitVec) : a = b := Int64.toBitVec_inj.mp h
theorem wb_tn {n : Nat} (h : n < 2 ^ 64) : (lN n).toBitVec.toNat = n := by rw [wb_tb, BitVec.toNat_ofNat, Nat.mod_eq_of_lt h]
theorem wb_of (x : Int64) : ∃ n, n < 2 ^ 64 ∧ x = lN n := ⟨x.toBitVec.toNat, x.toBitVec.isLt, wb_inj (by rw [wb_tb]; simp)⟩
theorem wb_of32 (x : Int32) : ∃ n, n < 2 ^ 32 ∧ x = nI n := ⟨x.toBitVec.toNat, x.toBitVec.isLt, Int32.toBitVec_inj.mp (by show _ = BitVec.ofNat 32 _; simp)⟩
theorem wb_c : ∀ k, k < 64 → ((nI k).toInt64 &&& 63) = lN k := by decide +kernel
theorem wb_cu : ∀ k, k < 64 → ((nI k).toInt64.toUInt64 &&& Int64.toUInt64 63) = UInt64.ofNat k := by decide +kernel
theorem wb_sm : ∀ k, k < 64 → (BitVec.ofNat 64 k).smod 64 = BitVec.ofNat 64 k := by decide +kernel
theorem wb_pw {a b : Nat} (h : a ≤ b) : 2 ^ b = 2 ^ a * 2 ^ (b - a) := by rw [← Nat.pow_add]; congr 1; omega
theorem wb_lt2 {a b : Nat} (h : a < b) : 2 ^ a < 2 ^ b := Nat.pow_lt_pow_right (by decide) h
theorem wb_mod (n : Nat) : lN n = lN (n % 2 ^ 64) := wb_inj (by rw [wb_tb, wb_tb]; apply BitVec.eq_of_toNat_eq; rw [BitVec.toNat_ofNat, BitVec.toNat_ofNat, Nat.mod_mod])
theorem wb_shr {n k : Nat} (hn : n < 2 ^ 64) (hk : k < 64) : ((lN n).toUInt64 >>> ((nI k).toInt64.toUInt64 &&& Int64.toUInt64 63)).toInt64 = lN (n / 2 ^ k) := by
  rw [wb_cu k hk]
  apply wb_inj
  apply BitVec.eq_of_toNat_eq
  show ((lN n).toUInt64 >>> UInt64.ofNat k).toNat = (BitVec.ofNat 64 _).toNat
  have h1 : (UInt64.ofNat k).toNat = k := by
    show (BitVec.ofNat 64 k).toNat = k
    rw [BitVec.toNat_ofNat, Nat.mod_eq_of_lt (by omega)]
  have h2 : (lN n).toUInt64.toNat = n := wb_tn hn
  rw [UInt64.toNat_shiftRight, h1, h2, Nat.mod_eq_of_lt hk, Nat.shiftRight_eq_div_pow, BitVec.toNat_ofNat, Nat.mod_eq_of_lt (Nat.lt_of_le_of_lt (Nat.div_le_self _ _) hn)]
theorem wb_shl (n : Nat) {k : Nat} (hk : k < 64) : lN n <<< ((nI k).toInt64 &&& 63) = lN (n * 2 ^ k) := by
  rw [wb_c k hk]
  apply wb_inj
  rw [Int64.toBitVec_shiftLeft, wb_tb, wb_tb, wb_tb, wb_sm k hk]
  apply BitVec.eq_of_toNat_eq
  rw [BitVec.shiftLeft_eq', BitVec.toNat_shiftLeft, BitVec.toNat_ofNat, BitVec.toNat_ofNat, BitVec.toNat_ofNat, Nat.mod_eq_of_lt (show k < 2 ^ 64 by omega), Nat.shiftLeft_eq, Nat.mul_mod, Nat.mod_mod, ← Nat.mul_mod]
theorem wb_and {a b : Nat} (ha : a < 2 ^ 64) (hb : b < 2 ^ 64) : lN a &&& lN b = lN (a &&& b) := by
  apply wb_inj
  rw [Int64.toBitVec_and, wb_tb, wb_tb, wb_tb]
  apply BitVec.eq_of_toNat_eq
  rw [BitVec.toNat_and, BitVec.toNat_ofNat, BitVec.toNat_ofNat, BitVec.toNat_ofNat, Nat.mod_eq_of_lt ha, Nat.mod_eq_of_lt hb, Nat.mod_eq_of_lt (Nat.and_lt_two_pow _ hb)]
theorem wb_or {a b : Nat} (ha : a < 2 ^ 64) (hb : b < 2 ^ 64) : lN a ||| lN b = lN (a ||| b) := by
  apply wb_inj
  rw [Int64.toBitVec_or, wb_tb, wb_tb, wb_tb]
  apply BitVec.eq_of_toNat_eq
  rw [BitVec.toNat_or, BitVec.toNat_ofNat, BitVec.toNat_ofNat, BitVec.toNat_ofNat, Nat.mod_eq_of_lt ha, Nat.mod_eq_of_lt hb, Nat.mod_eq_of_lt (Nat.or_lt_two_pow ha hb)]
theorem wb_mask {n k : Nat} (hn : n < 2 ^ 64) (hk : k < 64) : lN n &&& lN (2 ^ k - 1) = lN (n % 2 ^ k) := by
  rw [wb_and hn (by have := wb_lt2 hk; omega), Nat.and_two_pow_sub_one_eq_mod]
theorem wb_a1 {n : Nat} (hn : n < 2 ^ 64) : lN n &&& 1 = lN (n % 2) := wb_mask (k := 1) hn (by decide)
theorem wb_bit {n k : Nat} (hn : n < 2 ^ 64) (hk : k < 64) : ((lN n).toUInt64 >>> ((nI k).toInt64.toUInt64 &&& Int64.toUInt64 63)).toInt64 &&& 1 = lN (n / 2 ^ k % 2) := by
  rw [wb_shr hn hk, wb_a1 (Nat.lt_of_le_of_lt (Nat.div_le_self _ _) hn)]
theorem wb_xor {q k : Nat} (hk : k < 63) (h : 2 ^ k ≤ q) (h2 : q < 2 ^ (k + 1)) : lN q ^^^ lN (2 ^ k) = lN (q - 2 ^ k) := by
  obtain ⟨r, rfl⟩ : ∃ r, q = 2 ^ k + r := ⟨q - 2 ^ k, by omega⟩
  have hr : r < 2 ^ k := by rw [Nat.pow_succ] at h2; omega
  have hx : (2 ^ k + r) ^^^ 2 ^ k = r := by
    apply Nat.eq_of_testBit_eq
    intro i
    rw [Nat.testBit_xor, Nat.testBit_two_pow]
    rcases Nat.lt_trichotomy i k with h | h | h
    · rw [Nat.testBit_two_pow_add_gt h]
      simp [show ¬ k = i by omega]
    · subst h
      rw [Nat.testBit_two_pow_add_eq]
      simp
    · have a1 : 2 ^ (k + 1) ≤ 2 ^ i := Nat.pow_le_pow_right (by decide) h
      rw [Nat.testBit_lt_two_pow (show 2 ^ k + r < 2 ^ i by omega), Nat.testBit_lt_two_pow (show r < 2 ^ i by omega)]
      simp [show ¬ k = i by omega]
  have b1 := wb_lt2 (show k + 1 < 64 by omega)
  have b2 := wb_lt2 (show k < 64 by omega)
  apply wb_inj
  rw [Int64.toBitVec_xor, wb_tb, wb_tb, wb_tb]
  apply BitVec.eq_of_toNat_eq
  rw [BitVec.toNat_xor, BitVec.toNat_ofNat, BitVec.toNat_ofNat, BitVec.toNat_ofNat, Nat.mod_eq_of_lt (by omega : 2 ^ k + r < 2 ^ 64), Nat.mod_eq_of_lt b2, hx, Nat.add_sub_cancel_left, Nat.mod_eq_of_lt (by omega)]
/-! ===== lN: masks, 'or' of parts that don't overlap is a sum ===== -/
theorem u_tn {n : Nat} (h : n < 2 ^ 64) : (UInt64.ofNat n).toNat = n := Nat.mod_eq_of_lt h
theorem g_and {a b c : Nat} (ha : a < 2 ^ 64) (hb : b < 2 ^ 64) (hc : a &&& b = c) : lN a &&& lN b = lN c := by
  subst hc
  have h : UInt64.ofNat a &&& UInt64.ofNat b = UInt64.ofNat (a &&& b) := UInt64.toNat_inj.mp (by rw [UInt64.toNat_and, u_tn ha, u_tn hb, u_tn (Nat.and_lt_two_pow a hb)])
  have h2 := congrArg UInt64.toInt64 h
  exact h2
theorem g_and1 {a : Nat} (ha : a < 2 ^ 64) : lN a &&& 1 = lN (a % 2) := g_and (b := 1) ha (by decide) (Nat.and_two_pow_sub_one_eq_mod a 1)
theorem g_mask {a s p : Nat} (hp : 2 ^ s = p) (hs : s < 64) (ha : a < 2 ^ 64) : lN a &&& lN (p - 1) = lN (a % p) := by
  subst hp
  have := Nat.pow_lt_pow_right (show 1 < 2 by decide) hs
  exact g_and ha (by omega) (Nat.and_two_pow_sub_one_eq_mod a s)
theorem g_or {k p a b : Nat} (hp : 2 ^ k = p) (ha : a < p) (h : b * p + a < 2 ^ 64) : lN (b * p) ||| lN a = lN (b * p + a) := by
  subst hp
  have h1 : b * 2 ^ k ||| a = b * 2 ^ k + a := by rw [← Nat.shiftLeft_eq, Nat.shiftLeft_add_eq_or_of_lt ha]
  have h3 : UInt64.ofNat (b * 2 ^ k) ||| UInt64.ofNat a = UInt64.ofNat (b * 2 ^ k + a) := UInt64.toNat_inj.mp (by rw [UInt64.toNat_or, u_tn (by omega), u_tn (by omega), u_tn h, h1])
  have h2 := congrArg UInt64.toInt64 h3
  exact h2
theorem g_or' {k p a b : Nat} (hp : 2 ^ k = p) (ha : a < p) (h : a + b * p < 2 ^ 64) : lN a ||| lN (b * p) = lN (a + b * p) := by
  rw [Int64.or_comm, g_or hp ha (by omega), Nat.add_comm]
theorem g_ushr {a k p : Nat} {y : UInt64} (hy : y = UInt64.ofNat k) (hk : k < 64) (hp : 2 ^ k = p) (ha : a < 2 ^ 64) : ((lN a).toUInt64 >>> y).toInt64 = lN (a / p) := by
  subst hy hp
  have h : UInt64.ofNat a >>> UInt64.ofNat k = UInt64.ofNat (a / 2 ^ k) := UInt64.toNat_inj.mp (by rw [UInt64.toNat_shiftRight, u_tn ha, u_tn (by omega), u_tn (Nat.lt_of_le_of_lt (Nat.div_le_self _ _) ha), Nat.mod_eq_of_lt hk, Nat.shiftRight_eq_div_pow])
  have h2 := congrArg UInt64.toInt64 h
  exact h2
theorem g_shl {a k p : Nat} {y : Int64} (hy : y.toBitVec.smod 64 = BitVec.ofNat 64 k) (hk : k < 64) (hp : 2 ^ k = p) (ha : a < 2 ^ 64) : lN a <<< y = lN (a * p) := by
  subst hp
  apply Int64.toBitVec_inj.mp
  rw [Int64.toBitVec_shiftLeft, hy]
  apply BitVec.eq_of_toNat_eq
  have hb : (lN a).toBitVec.toNat = a := Nat.mod_eq_of_lt ha
  have hk' : (BitVec.ofNat 64 k).toNat = k := Nat.mod_eq_of_lt (by omega)
  have h : ((lN a).toBitVec <<< BitVec.ofNat 64 k).toNat = (a * 2 ^ k) % 2 ^ 64 := by simp only [BitVec.shiftLeft_eq', BitVec.toNat_shiftLeft, hb, hk', Nat.shiftLeft_eq]
  exact h

theorem s_l : ∀ n, n < 32 → ((nI n &&& 31).toBitVec.smod 32).toNat = n := by decide +kernel
theorem s_u : ∀ n, n < 32 → (((nI n).toUInt32 &&& Int32.toUInt32 31).toBitVec % 32).toNat = n := by decide +kernel
theorem nI_tn (n : Nat) : (nI n).toBitVec.toNat = n % 2 ^ 32 := rfl
theorem nI_of32 (y : Int32) : nI y.toBitVec.toNat = y := Int32.toBitVec_inj.mp (by show BitVec.ofNat 32 _ = _; simp)
theorem lN_of64 (x : Int64) : lN x.toBitVec.toNat = x := wb_inj (by rw [wb_tb]; simp)
theorem nI_mod (n : Nat) : nI (n % 2 ^ 32) = nI n := Int32.toBitVec_inj.mp (BitVec.eq_of_toNat_eq (by rw [nI_tn, nI_tn, Nat.mod_mod]))
theorem nI_255 (n : Nat) : nI n &&& 255 = nI (n % 256) := by
  rw [pk_and (nI n) (m := 255) 8 (by decide +kernel), nI_tn]
  refine congrArg nI ?_
  omega
theorem nI_65535 (n : Nat) : nI n &&& 65535 = nI (n % 65536) := by
  rw [pk_and (nI n) (m := 65535) 16 (by decide +kernel), nI_tn]
  refine congrArg nI ?_
  omega
theorem nI_and1 (n : Nat) : nI n &&& 1 = nI (n % 2) := by
  rw [pk_and (nI n) (m := 1) 1 (by decide +kernel), nI_tn]
  refine congrArg nI ?_
  omega
theorem lN_w (n : Nat) : (lN n).toInt32 = nI n := by
  apply Int32.toBitVec_inj.mp
  show (lN n).toBitVec.signExtend 32 = BitVec.ofNat 32 n
  rw [BitVec.signExtend_eq_setWidth_of_le _ (by decide), wb_tb]
  apply BitVec.eq_of_toNat_eq
  rw [BitVec.toNat_setWidth, BitVec.toNat_ofNat, BitVec.toNat_ofNat]
  omega
theorem m255 : ∀ i, i < 64 → (255 : Int64).toBitVec.getLsbD i = decide (i < 8) := by decide +kernel
theorem m32 : ∀ i, i < 64 → (4294967295 : Int64).toBitVec.getLsbD i = decide (i < 32) := by decide +kernel
theorem m255i : ∀ i, i < 32 → (255 : Int32).toBitVec.getLsbD i = decide (i < 8) := by decide +kernel
theorem l_sar {X s : Nat} (hX : X < 2 ^ 64) (hs : s ≤ 56) : (lN X >>> ((nI s).toInt64 &&& 63)) &&& 255 = lN (X / 2 ^ s % 256) := by
  rw [wb_c s (by omega)]
  apply wb_inj
  apply BitVec.eq_of_getLsbD_eq
  intro i hi
  rw [Int64.toBitVec_and, BitVec.getLsbD_and, m255 i hi, Int64.toBitVec_shiftRight]
  show (((lN X).toBitVec.sshiftRight ((lN s).toBitVec.smod 64).toNat).getLsbD i && decide (i < 8)) = _
  have e : ((lN s).toBitVec.smod 64).toNat = s := by
    rw [wb_tb, wb_sm s (by omega)]
    exact Nat.mod_eq_of_lt (by omega)
  rw [e, BitVec.getLsbD_sshiftRight, wb_tb, wb_tb, BitVec.getLsbD_ofNat, BitVec.getLsbD_ofNat, show (256 : Nat) = 2 ^ 8 from rfl, Nat.testBit_mod_two_pow, Nat.testBit_div_two_pow]
  by_cases h8 : i < 8
  · rw [if_pos (by omega)]
    simp [h8, show i < 64 from hi, show s + i < 64 by omega, Nat.add_comm]
  · simp [h8]
theorem i_sar {Y s : Nat} (hY : Y < 2 ^ 32) (hs : s ≤ 24) : (nI Y >>> (nI s &&& 31)) &&& 255 = nI (Y / 2 ^ s % 256) := by
  apply Int32.toBitVec_inj.mp
  apply BitVec.eq_of_getLsbD_eq
  intro i hi
  rw [Int32.toBitVec_and, BitVec.getLsbD_and, m255i i hi, Int32.toBitVec_shiftRight]
  show (((nI Y).toBitVec.sshiftRight ((nI s &&& 31).toBitVec.smod 32).toNat).getLsbD i && decide (i < 8)) = (BitVec.ofNat 32 (Y / 2 ^ s % 256)).getLsbD i
  rw [s_l s (by omega), BitVec.getLsbD_sshiftRight, BitVec.getLsbD_ofNat, show (256 : Nat) = 2 ^ 8 from rfl, Nat.testBit_mod_two_pow, Nat.testBit_div_two_pow]
  by_cases h8 : i < 8
  · rw [if_pos (by omega)]
    show ((!decide (32 ≤ i) && (BitVec.ofNat 32 Y).getLsbD (s + i)) && decide (i < 8)) = _
    rw [BitVec.getLsbD_ofNat]
    simp [h8, show i < 32 from hi, show s + i < 32 by omega, Nat.add_comm]
  · simp [h8]
theorem l_mask (y : Int32) : y.toInt64 &&& 4294967295 = lN y.toBitVec.toNat := by
  apply wb_inj
  apply BitVec.eq_of_getLsbD_eq
  intro i hi
  rw [Int64.toBitVec_and, BitVec.getLsbD_and, m32 i hi]
  show ((y.toBitVec.signExtend 64).getLsbD i && decide (i < 32)) = (BitVec.ofNat 64 y.toBitVec.toNat).getLsbD i
  rw [BitVec.getLsbD_signExtend, BitVec.getLsbD_ofNat]
  by_cases h : i < 32
  · rw [if_pos h]
    simp [h, show i < 64 from hi, BitVec.testBit_toNat]
  · have : y.toBitVec.toNat.testBit i = false := Nat.testBit_lt_two_pow (Nat.lt_of_lt_of_le y.toBitVec.isLt (Nat.pow_le_pow_right (by decide) (by omega)))
    simp [h, this]
/-! bytes -/
def fB (f : Int64 × Int32) (j : Nat) : Nat := if j < 8 then f.1.toBitVec.toNat / 2 ^ (8 * (7 - j)) % 256 else f.2.toBitVec.toNat / 2 ^ (8 * (11 - j)) % 256
theorem fB_lt (f : Int64 × Int32) (j : Nat) : fB f j < 256 := by
  unfold fB
  split <;> exact Nat.mod_lt _ (by decide)
theorem f_byteN (x : Int64) {n : Nat} (h : n < 8) : f_byte x (nI (8 * n)) = nI (x.toBitVec.toNat / 2 ^ (8 * n) % 256) := by
  obtain ⟨X, hX, rfl⟩ := wb_of x
  unfold f_byte
  rw [wb_shr hX (by omega), lN_w, nI_255, wb_tn hX]
theorem m_byteN (x : Int64) {n : Nat} (h : n < 8) : ((x >>> ((nI (8 * n)).toInt64 &&& 63)) &&& 255).toInt32 = nI (x.toBitVec.toNat / 2 ^ (8 * n) % 256) := by
  obtain ⟨X, hX, rfl⟩ := wb_of x
  rw [l_sar hX (by omega), lN_w, wb_tn hX]
theorem m_chkN (y : Int32) {n : Nat} (h : n < 4) : (y >>> (nI (8 * n) &&& 31)) &&& 255 = nI (y.toBitVec.toNat / 2 ^ (8 * n) % 256) := by
  obtain ⟨Y, hY, rfl⟩ := wb_of32 y
  rw [i_sar hY (by omega), nI_tn, Nat.mod_eq_of_lt hY]
def acN (g : Nat → Nat) : Nat → Nat
  | 0 => 0
  | k + 1 => acN g k * 256 + g k
theorem acN_ext {g f : Nat → Nat} : ∀ n, (∀ k, k < n → g k = f k) → acN g n = acN f n
  | 0, _ => rfl
  | n + 1, h => by rw [acN, acN, acN_ext n (fun k hk => h k (by omega)), h n (by omega)]
theorem acN_eq (X t : Nat) : ∀ n, n ≤ t + 1 → acN (fun k => X / 2 ^ (8 * (t - k)) % 256) n = X / 2 ^ (8 * (t + 1 - n)) % 2 ^ (8 * n)
  | 0, _ => by simp [acN, Nat.mod_one]
  | n + 1, h => by
    rw [acN, acN_eq X t n (by omega), show t + 1 - (n + 1) = t - n by omega, show 8 * (t + 1 - n) = 8 * (t - n) + 8 by omega, Nat.pow_add, ← Nat.div_div_eq_div_mul, show 8 * (n + 1) = 8 + 8 * n by omega, Nat.pow_add]
    generalize X / 2 ^ (8 * (t - n)) = Z
    rw [Nat.mod_mul, Nat.add_comm, Nat.mul_comm]
theorem acN_lt {g : Nat → Nat} (hg : ∀ k, g k < 256) : ∀ n, acN g n < 2 ^ (8 * n)
  | 0 => by simp [acN]
  | n + 1 => by
    have h1 := acN_lt hg n
    have h2 := hg n
    rw [acN, show 8 * (n + 1) = 8 * n + 8 by omega, Nat.pow_add]
    omega
theorem b_step {v b : Nat} (hb : b < 256) (hv : v * 256 + b < 2 ^ 64) : (lN v <<< ((8 : Int32).toInt64 &&& 63)) ||| (nI b).toInt64 = lN (v * 256 + b) := by
  rw [nI_l (by omega), show (8 : Int32) = nI 8 from rfl, wb_shl v (by decide)]
  exact g_or (k := 8) rfl hb hv
theorem ac8 (f : Int64 × Int32) : lN (acN (fun k => fB f (0 + k)) 8) = f.1 := by
  have e : acN (fun k => fB f (0 + k)) 8 = acN (fun k => f.1.toBitVec.toNat / 2 ^ (8 * (7 - k)) % 256) 8 := acN_ext 8 (fun k hk => by
    show fB f (0 + k) = _
    rw [Nat.zero_add, fB, if_pos hk])
  rw [e, acN_eq _ 7 8 (by omega)]
  have h := f.1.toBitVec.isLt
  have e2 : f.1.toBitVec.toNat / 2 ^ (8 * (7 + 1 - 8)) % 2 ^ (8 * 8) = f.1.toBitVec.toNat := by omega
  rw [e2, lN_of64]
theorem ac4 (f : Int64 × Int32) : acN (fun k => fB f (8 + k)) 4 = f.2.toBitVec.toNat := by
  have e : acN (fun k => fB f (8 + k)) 4 = acN (fun k => f.2.toBitVec.toNat / 2 ^ (8 * (3 - k)) % 256) 4 := acN_ext 4 (fun k hk => by
    show fB f (8 + k) = _
    rw [fB, if_neg (by omega), show 11 - (8 + k) = 3 - k by omega])
  rw [e, acN_eq _ 3 4 (by omega)]
  have h := f.2.toBitVec.isLt
  omega
theorem acW (f : Int64 × Int32) : (lN (acN (fun k => fB f (2 + k)) 4)).toInt32 = f_word f.1 := by
  have e : acN (fun k => fB f (2 + k)) 4 = acN (fun k => f.1.toBitVec.toNat / 2 ^ (8 * (5 - k)) % 256) 4 := acN_ext 4 (fun k hk => by
    show fB f (2 + k) = _
    rw [fB, if_pos (by omega), show 7 - (2 + k) = 5 - k by omega])
  rw [e, acN_eq _ 5 4 (by omega), lN_w]
  obtain ⟨⟨x, y⟩, rfl⟩ : ∃ g : Int64 × Int32, f = g := ⟨f, rfl⟩
  obtain ⟨X, hX, rfl⟩ := wb_of x
  show nI ((lN X).toBitVec.toNat / 2 ^ 16 % 2 ^ 32) = (f_ushr (lN X) 16).toInt32
  unfold f_ushr
  rw [show (16 : Int32) = nI 16 from rfl, wb_shr hX (by decide), lN_w, wb_tn hX, nI_mod]
theorem fB_num (f : Int64 × Int32) : nI (fB f 1) = f_num f.1 := by
  obtain ⟨x, y⟩ := f
  obtain ⟨X, hX, rfl⟩ := wb_of x
  show nI ((lN X).toBitVec.toNat / 2 ^ 48 % 256) = (f_ushr (lN X) 48).toInt32 &&& 255
  unfold f_ushr
  rw [show (48 : Int32) = nI 48 from rfl, wb_shr hX (by decide), lN_w, wb_tn hX, nI_255]
theorem fB_kind (f : Int64 × Int32) : nI (fB f 0) = f_kind f.1 := by
  obtain ⟨x, y⟩ := f
  obtain ⟨X, hX, rfl⟩ := wb_of x
  show nI ((lN X).toBitVec.toNat / 2 ^ 56 % 256) = (f_ushr (lN X) 56).toInt32
  unfold f_ushr
  rw [show (56 : Int32) = nI 56 from rfl, wb_shr hX (by decide), lN_w, wb_tn hX, Nat.mod_eq_of_lt (by omega)]
theorem nI_or8 {a b : Nat} (hb : b < 256) : nI (a * 256) ||| nI b = nI (a * 256 + b) := by
  apply Int32.toBitVec_inj.mp
  show BitVec.ofNat 32 (a * 256) ||| BitVec.ofNat 32 b = BitVec.ofNat 32 (a * 256 + b)
  rw [← BitVec.ofNat_or]
  have h1 : a * 256 ||| b = a * 256 + b := by rw [show a * 256 = a <<< 8 from (Nat.shiftLeft_eq a 8).symm, Nat.shiftLeft_add_eq_or_of_lt (i := 8) hb]
  rw [h1]
theorem fB_map (f : Int64 × Int32) : (nI (fB f 6) <<< ((8 : Int32) &&& 31)) ||| nI (fB f 7) = f_map f.1 := by
  rw [pk_shlN (n := fB f 6) ((8 : Int32) &&& 31) 8 (by decide) (by have := fB_lt f 6; omega), nI_or8 (fB_lt f 7)]
  obtain ⟨x, y⟩ := f
  obtain ⟨X, hX, rfl⟩ := wb_of x
  show nI ((lN X).toBitVec.toNat / 2 ^ 8 % 256 * 256 + (lN X).toBitVec.toNat / 2 ^ 0 % 256) = (lN X).toInt32 &&& 65535
  rw [lN_w, nI_65535, wb_tn hX]
  refine congrArg nI ?_
  omega
theorem f_mapN (x : Int64) : ∃ M, M < 65536 ∧ f_map x = nI M := by
  obtain ⟨X, hX, rfl⟩ := wb_of x
  exact ⟨X % 65536, Nat.mod_lt _ (by decide), by unfold f_map; rw [lN_w, nI_65535]⟩
theorem f_bitN {M i : Nat} (hM : M < 65536) (hi : i < 16) : f_bit (nI M) (nI i) = nI (M / 2 ^ i % 2) := by
  unfold f_bit
  rw [pk_ushrN (by omega) (nI i) i (s_u i (by omega)), nI_and1]
theorem m_bitN {M i : Nat} (hM : M < 65536) (hi : i < 16) : (nI M >>> (nI i &&& 31)) &&& 1 = nI (M / 2 ^ i % 2) := by
  rw [pk_shrN (by omega) (nI i &&& 31) i (s_l i (by omega)), nI_and1]
/-! a bit turned -/
theorem x_byte (X b k : Nat) : (X ^^^ 2 ^ b) / 2 ^ (8 * k) % 256 = if k = b / 8 then (X / 2 ^ (8 * k) % 256) ^^^ 2 ^ (b % 8) else X / 2 ^ (8 * k) % 256 := by
  apply Nat.eq_of_testBit_eq
  intro i
  rw [show (256 : Nat) = 2 ^ 8 from rfl, Nat.testBit_mod_two_pow, Nat.testBit_div_two_pow, Nat.testBit_xor, Nat.testBit_two_pow]
  split
  · rename_i h
    rw [Nat.testBit_xor, Nat.testBit_mod_two_pow, Nat.testBit_div_two_pow, Nat.testBit_two_pow]
    by_cases h8 : i < 8
    · have : (b = i + 8 * k) ↔ (b % 8 = i) := by omega
      simp [h8, this]
    · have : ¬ b % 8 = i := by omega
      simp [h8, this]
  · rename_i h
    rw [Nat.testBit_mod_two_pow, Nat.testBit_div_two_pow]
    by_cases h8 : i < 8
    · have : ¬ b = i + 8 * k := by omega
      simp [h8, this]
    · simp [h8]
theorem nI_xor (a b : Nat) : nI a ^^^ nI b = nI (a ^^^ b) := by
  apply Int32.toBitVec_inj.1
  show BitVec.ofNat 32 a ^^^ BitVec.ofNat 32 b = BitVec.ofNat 32 (a ^^^ b)
  apply BitVec.eq_of_getLsbD_eq
  intro i hi
  simp [hi]
theorem one_shl : ∀ b, b < 32 → (1 : Int32) <<< (nI b &&& 31) = nI (2 ^ b) := by decide +kernel
theorem one_shlL : ∀ b, b < 64 → (1 : Int64) <<< ((nI b).toInt64 &&& 63) = lN (2 ^ b) := by decide +kernel
theorem fB_ch (f : Int64 × Int32) {b j : Nat} (hb : b < 96) (hj : j < 12) : fB (chF (nI b) f) j = if j = 11 - b / 8 then fB f j ^^^ 2 ^ (b % 8) else fB f j := by
  obtain ⟨x, y⟩ := f
  unfold chF
  by_cases h : b < 32
  · have h9 : ¬ (32 : Int32) ≤ nI b := nI_ge (b := 32) h (by decide)
    rw [if_neg h9, one_shl b h]
    obtain ⟨Y, hY, rfl⟩ := wb_of32 y
    have e : (nI Y ^^^ nI (2 ^ b)).toBitVec.toNat = Y ^^^ 2 ^ b := by
      rw [nI_xor, nI_tn, Nat.mod_eq_of_lt]
      exact Nat.xor_lt_two_pow hY (Nat.pow_lt_pow_right (by decide) h)
    unfold fB
    by_cases h8 : j < 8
    · rw [if_pos h8, if_pos h8, if_neg (by omega)]
    · rw [if_neg h8, if_neg h8]
      show (nI Y ^^^ nI (2 ^ b)).toBitVec.toNat / 2 ^ (8 * (11 - j)) % 256 = _
      rw [e, x_byte, nI_tn, Nat.mod_eq_of_lt hY]
      have : (11 - j = b / 8) ↔ (j = 11 - b / 8) := by omega
      simp only [this]
  · have h9 : (32 : Int32) ≤ nI b := nI_le (a := 32) (by omega) (by omega)
    rw [if_pos h9, show nI b - 32 = nI (b - 32) from pk_sub (b := 32) (by omega), one_shlL (b - 32) (by omega)]
    obtain ⟨X, hX, rfl⟩ := wb_of x
    have hp : 2 ^ (b - 32) < 2 ^ 64 := Nat.pow_lt_pow_right (by decide) (by omega)
    have e : (lN X ^^^ lN (2 ^ (b - 32))).toBitVec.toNat = X ^^^ 2 ^ (b - 32) := by
      rw [Int64.toBitVec_xor, BitVec.toNat_xor, wb_tn hX, wb_tn hp]
    unfold fB
    by_cases h8 : j < 8
    · rw [if_pos h8, if_pos h8]
      show (lN X ^^^ lN (2 ^ (b - 32))).toBitVec.toNat / 2 ^ (8 * (7 - j)) % 256 = _
      rw [e, x_byte, wb_tn hX, show (b - 32) % 8 = b % 8 by omega]
      have : (7 - j = (b - 32) / 8) ↔ (j = 11 - b / 8) := by omega
      simp only [this]
    · rw [if_neg h8, if_neg h8, if_neg (by omega)]
