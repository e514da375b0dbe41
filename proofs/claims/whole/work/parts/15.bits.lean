/-! Longs by naturals: rows wb_ are pasted from the kit's BITS.to-paste; then words and bits of a request's value. -/
theorem wb_tb (n : Nat) : (lN n).toBitVec = BitVec.ofNat 64 n := rfl
theorem wb_inj {a b : Int64} (h : a.toBitVec = b.toBitVec) : a = b := Int64.toBitVec_inj.mp h
theorem wb_tn {n : Nat} (h : n < 2 ^ 64) : (lN n).toBitVec.toNat = n := by rw [wb_tb, BitVec.toNat_ofNat, Nat.mod_eq_of_lt h]
theorem wb_of (x : Int64) : ∃ n, n < 2 ^ 64 ∧ x = lN n := ⟨x.toBitVec.toNat, x.toBitVec.isLt, wb_inj (by rw [wb_tb]; simp)⟩
theorem wb_of32 (x : Int32) : ∃ n, n < 2 ^ 32 ∧ x = nI n := ⟨x.toBitVec.toNat, x.toBitVec.isLt, Int32.toBitVec_inj.mp (by show _ = BitVec.ofNat 32 _; simp)⟩
theorem wb_c : ∀ k, k < 64 → ((nI k).toInt64 &&& 63) = lN k := by decide +kernel
theorem wb_cu : ∀ k, k < 64 → ((nI k).toInt64.toUInt64 &&& Int64.toUInt64 63) = UInt64.ofNat k := by decide +kernel
theorem wb_sm : ∀ k, k < 64 → (BitVec.ofNat 64 k).smod 64 = BitVec.ofNat 64 k := by decide +kernel
theorem wb_pw {a b : Nat} (h : a ≤ b) : 2 ^ b = 2 ^ a * 2 ^ (b - a) := by rw [← Nat.pow_add]; congr 1; omega
theorem wb_lt2 {a b : Nat} (h : a < b) : 2 ^ a < 2 ^ b := Nat.pow_lt_pow_right (by decide) h
theorem wb_mod (n : Nat) : lN n = lN (n % 2 ^ 64) := wb_inj (by rw [wb_tb, wb_tb]; apply BitVec.eq_of_toNat_eq; rw [BitVec.toNat_ofNat, BitVec.toNat_ofNat, Nat.mod_mod])
theorem wb_shr {n k : Nat} (hn : n < 2 ^ 64) (hk : k < 64) : ((lN n).toUInt64 >>> ((nI k).toInt64.toUInt64 &&& Int64.toUInt64 63)).toInt64 = lN (n / 2 ^ k) := by
  rw [wb_cu k hk]
  apply wb_inj
  apply BitVec.eq_of_toNat_eq
  show ((lN n).toUInt64 >>> UInt64.ofNat k).toNat = (BitVec.ofNat 64 _).toNat
  have h1 : (UInt64.ofNat k).toNat = k := by
    show (BitVec.ofNat 64 k).toNat = k
    rw [BitVec.toNat_ofNat, Nat.mod_eq_of_lt (by omega)]
  have h2 : (lN n).toUInt64.toNat = n := wb_tn hn
  rw [UInt64.toNat_shiftRight, h1, h2, Nat.mod_eq_of_lt hk, Nat.shiftRight_eq_div_pow, BitVec.toNat_ofNat, Nat.mod_eq_of_lt (Nat.lt_of_le_of_lt (Nat.div_le_self _ _) hn)]
theorem wb_shl (n : Nat) {k : Nat} (hk : k < 64) : lN n <<< ((nI k).toInt64 &&& 63) = lN (n * 2 ^ k) := by
  rw [wb_c k hk]
  apply wb_inj
  rw [Int64.toBitVec_shiftLeft, wb_tb, wb_tb, wb_tb, wb_sm k hk]
  apply BitVec.eq_of_toNat_eq
  rw [BitVec.shiftLeft_eq', BitVec.toNat_shiftLeft, BitVec.toNat_ofNat, BitVec.toNat_ofNat, BitVec.toNat_ofNat, Nat.mod_eq_of_lt (show k < 2 ^ 64 by omega), Nat.shiftLeft_eq, Nat.mul_mod, Nat.mod_mod, ← Nat.mul_mod]
theorem wb_and {a b : Nat} (ha : a < 2 ^ 64) (hb : b < 2 ^ 64) : lN a &&& lN b = lN (a &&& b) := by
  apply wb_inj
  rw [Int64.toBitVec_and, wb_tb, wb_tb, wb_tb]
  apply BitVec.eq_of_toNat_eq
  rw [BitVec.toNat_and, BitVec.toNat_ofNat, BitVec.toNat_ofNat, BitVec.toNat_ofNat, Nat.mod_eq_of_lt ha, Nat.mod_eq_of_lt hb, Nat.mod_eq_of_lt (Nat.and_lt_two_pow _ hb)]
theorem wb_or {a b : Nat} (ha : a < 2 ^ 64) (hb : b < 2 ^ 64) : lN a ||| lN b = lN (a ||| b) := by
  apply wb_inj
  rw [Int64.toBitVec_or, wb_tb, wb_tb, wb_tb]
  apply BitVec.eq_of_toNat_eq
  rw [BitVec.toNat_or, BitVec.toNat_ofNat, BitVec.toNat_ofNat, BitVec.toNat_ofNat, Nat.mod_eq_of_lt ha, Nat.mod_eq_of_lt hb, Nat.mod_eq_of_lt (Nat.or_lt_two_pow ha hb)]
theorem wb_mask {n k : Nat} (hn : n < 2 ^ 64) (hk : k < 64) : lN n &&& lN (2 ^ k - 1) = lN (n % 2 ^ k) := by
  rw [wb_and hn (by have := wb_lt2 hk; omega), Nat.and_two_pow_sub_one_eq_mod]
theorem wb_a1 {n : Nat} (hn : n < 2 ^ 64) : lN n &&& 1 = lN (n % 2) := wb_mask (k := 1) hn (by decide)
theorem wb_bit {n k : Nat} (hn : n < 2 ^ 64) (hk : k < 64) : ((lN n).toUInt64 >>> ((nI k).toInt64.toUInt64 &&& Int64.toUInt64 63)).toInt64 &&& 1 = lN (n / 2 ^ k % 2) := by
  rw [wb_shr hn hk, wb_a1 (Nat.lt_of_le_of_lt (Nat.div_le_self _ _) hn)]
/-! words, bits and bytes of a value v -/
def wN (v k : Nat) : Nat := v / 2 ^ (16 * (k % 4)) % 65536
def bN (v c j : Nat) : Nat := v % 2 ^ c / 2 ^ (8 * j) % 256
theorem wN_lt (v k : Nat) : wN v k < 65536 := Nat.mod_lt _ (by decide)
theorem bN_lt (v c j : Nat) : bN v c j < 256 := Nat.mod_lt _ (by decide)
theorem n_and3 (k : Nat) (hk : k < 2 ^ 31) : nI k &&& (3 : Int32) = nI (k % 4) := pk_andN (by omega) 2 (by decide)
theorem n_sh16 {k : Nat} (hk : k < 2 ^ 31) : (16 : Int32) * (nI k &&& (3 : Int32)) = nI (16 * (k % 4)) := by
  rw [n_and3 k hk]
  exact pk_mul 16 _
/-- the model's word, and the program's -/
theorem wv_m {v k : Nat} (hv : v < 2 ^ 64) (hk : k < 2 ^ 31) : ((((lN v).toUInt64 >>> (((16 : Int32) * (nI k &&& (3 : Int32))).toInt64.toUInt64 &&& Int64.toUInt64 63)).toInt64) &&& (65535 : Int64)).toInt32 = nI (wN v k) := by
  rw [n_sh16 hk, wb_shr hv (by omega)]
  have h := wb_mask (n := v / 2 ^ (16 * (k % 4))) (k := 16) (Nat.lt_of_le_of_lt (Nat.div_le_self _ _) hv) (by decide)
  rw [show (65535 : Int64) = lN (2 ^ 16 - 1) from rfl, h, lN_i]
  rfl
theorem wv_c {v k : Nat} (hv : v < 2 ^ 64) (hk : k < 2 ^ 31) : (((lN v).toUInt64 >>> (((16 : Int32) * (nI k &&& (3 : Int32))).toInt64.toUInt64 &&& Int64.toUInt64 63)).toInt64).toInt32 &&& (65535 : Int32) = nI (wN v k) := by
  rw [← wv_m hv hk, Int64.toInt32_and]
  rfl
theorem bt_m {v k : Nat} (hv : v < 2 ^ 64) (hk : k < 64) : ((((lN v).toUInt64 >>> ((nI k).toInt64.toUInt64 &&& Int64.toUInt64 63)).toInt64) &&& (1 : Int64)).toInt32 = nI (v / 2 ^ k % 2) := by
  rw [wb_bit hv hk, lN_i]
theorem bt_c {v k : Nat} (hv : v < 2 ^ 64) (hk : k < 64) : (((lN v).toUInt64 >>> ((nI k).toInt64.toUInt64 &&& Int64.toUInt64 63)).toInt64).toInt32 &&& (1 : Int32) = nI (v / 2 ^ k % 2) := by
  rw [← bt_m hv hk, Int64.toInt32_and]
  rfl
theorem lN_one {c : Nat} (hc : c < 64) : ((1 : Int64) <<< ((nI c).toInt64 &&& 63)) - (1 : Int64) = lN (2 ^ c - 1) := by
  have h := wb_shl 1 hc
  rw [show (1 : Int64) = lN 1 from rfl, h, Nat.one_mul, lN_sub (Nat.one_le_two_pow)]
/-- the program's byte j of the lowest c bits -/
theorem by_c {v c j : Nat} (hv : v < 2 ^ 64) (hc : c < 64) (hj : j < 8) : ((((lN v) &&& (((1 : Int64) <<< ((nI c).toInt64 &&& 63)) - (1 : Int64))).toUInt64 >>> (((8 : Int32) * nI j).toInt64.toUInt64 &&& Int64.toUInt64 63)).toInt64).toInt32 &&& (255 : Int32) = nI (bN v c j) := by
  rw [lN_one hc, wb_mask hv hc, show (8 : Int32) * nI j = nI (8 * j) from pk_mul 8 j, wb_shr (Nat.lt_of_le_of_lt (Nat.mod_le _ _) hv) (by omega), lN_i]
  have h := pk_and (nI (v % 2 ^ c / 2 ^ (8 * j))) (m := 255) 8 (by decide)
  rw [h]
  have h2 : (nI (v % 2 ^ c / 2 ^ (8 * j))).toBitVec.toNat = v % 2 ^ c / 2 ^ (8 * j) % 2 ^ 32 := by
    show (BitVec.ofNat 32 _).toNat = _
    rw [BitVec.toNat_ofNat]
  rw [h2]
  congr 1
  unfold bN
  omega
theorem lg0 {x y : Int64} : lg_cmp x y = 0 ↔ x = y := by
  unfold lg_cmp
  by_cases h : x = y
  · subst h
    simp
  · by_cases h2 : x > y
    · simp [h2, h]
    · simp [h2, h]
theorem n_or_pow {a i : Nat} (ha : a < 2 ^ i) (hi : i < 31) : nI a ||| ((1 : Int32) <<< (nI i &&& 31)) = nI (a + 2 ^ i) := by
  have e : ((1 : Int32) <<< (nI i &&& 31)) = nI (2 ^ i) := by
    have h : ∀ i, i < 31 → ((1 : Int32) <<< (nI i &&& 31)) = nI (2 ^ i) := by decide +kernel
    exact h i hi
  rw [e, nz_or]
  congr 1
  have h := Nat.two_pow_add_eq_or_of_lt ha 1
  rw [Nat.mul_one] at h
  rw [Nat.or_comm, ← h, Nat.add_comm]
theorem div_bit (v i : Nat) : v % 2 ^ (i + 1) = v % 2 ^ i + 2 ^ i * (v / 2 ^ i % 2) := by
  rw [Nat.pow_succ, Nat.mod_mul]
/-- the model's byte j: its bits one by one -/
theorem by_m {v c j : Nat} (hv : v < 2 ^ 64) (hc : c ≤ 16) (hj : 8 * j < c) : lp (fMo_addBits_L33 (lN v) (nI c) (nI j)) 1000 ((0 : Int32), (0 : Int32)) = some (nI (bN v c j)) := by
  have hm : ∀ i, i ≤ min 8 (c - 8 * j) → bN v c j % 2 ^ i = v / 2 ^ (8 * j) % 2 ^ i := by
    intro i hi
    unfold bN
    have h1 : i ≤ 8 := by omega
    have h2 : 8 * j + i ≤ c := by omega
    rw [show (256 : Nat) = 2 ^ 8 by rfl, Nat.mod_mod_of_dvd _ (Nat.pow_dvd_pow 2 h1)]
    have e : v % 2 ^ c / 2 ^ (8 * j) = v / 2 ^ (8 * j) % 2 ^ (c - 8 * j) := by
      rw [wb_pw (show 8 * j ≤ c by omega), Nat.mod_mul_right_div_self]
    rw [e, Nat.mod_mod_of_dvd _ (Nat.pow_dvd_pow 2 (by omega))]
  have hlast : bN v c j = v / 2 ^ (8 * j) % 2 ^ (min 8 (c - 8 * j)) := by
    rw [← hm _ (Nat.le_refl _)]
    refine (Nat.mod_eq_of_lt ?_).symm
    by_cases h : c - 8 * j ≤ 8
    · rw [Nat.min_eq_right h]
      unfold bN
      refine Nat.lt_of_le_of_lt (Nat.mod_le _ _) ?_
      rw [Nat.div_lt_iff_lt_mul (Nat.two_pow_pos _), Nat.mul_comm, ← wb_pw (show 8 * j ≤ c by omega)]
      exact Nat.mod_lt _ (Nat.two_pow_pos _)
    · rw [Nat.min_eq_left (by omega)]
      exact bN_lt _ _ _
  rw [hlast]
  have h := lp_traj (step := fMo_addBits_L33 (lN v) (nI c) (nI j)) (r := nI (v / 2 ^ (8 * j) % 2 ^ (min 8 (c - 8 * j)))) (fun i => (nI (v / 2 ^ (8 * j) % 2 ^ i), nI i)) (min 8 (c - 8 * j)) ?_ ?_ 1000 (by omega)
  · simpa [Nat.mod_one, nI_0] using h
  · intro i hi
    have h1 : ¬ (8 : Int32) ≤ nI i := nI_ge (b := 8) (by omega) (by decide)
    have e1 : (8 : Int32) * nI j + nI i = nI (8 * j + i) := m_idx 8 j i
    have h2 : ¬ nI c ≤ nI (8 * j + i) := nI_ge (by omega) (by omega)
    have hb := wb_bit hv (show 8 * j + i < 64 by omega)
    have hlt : v / 2 ^ (8 * j) % 2 ^ i < 2 ^ i := Nat.mod_lt _ (Nat.two_pow_pos _)
    have e2 : v / 2 ^ (8 * j + i) = v / 2 ^ (8 * j) / 2 ^ i := by rw [Nat.pow_add, Nat.div_div_eq_div_mul]
    have e3 := div_bit (v / 2 ^ (8 * j)) i
    unfold fMo_addBits_L33
    simp only [if_neg h1, e1, if_neg h2, hb, lg0]
    rw [e2]
    rcases Nat.mod_two_eq_zero_or_one (v / 2 ^ (8 * j) / 2 ^ i) with h3 | h3
    · rw [h3] at e3 ⊢
      rw [if_neg (by decide), Option.bind_some, e3, nI_1]
      simp
    · rw [h3] at e3 ⊢
      rw [if_pos (by rfl), Option.bind_some, e3, nI_1, n_or_pow hlt (by omega)]
      simp
  · unfold fMo_addBits_L33
    by_cases h : c - 8 * j ≤ 8
    · rw [Nat.min_eq_right h]
      have e1 : (8 : Int32) * nI j + nI (c - 8 * j) = nI (8 * j + (c - 8 * j)) := m_idx 8 j _
      have h2 : nI c ≤ nI (8 * j + (c - 8 * j)) := nI_le (by omega) (by omega)
      simp only [e1, if_pos h2]
      split <;> rfl
    · rw [Nat.min_eq_left (by omega)]
      simp only [if_pos (show (8 : Int32) ≤ nI 8 by decide)]
