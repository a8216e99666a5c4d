/-! PURE: fields of numbers; the bit operations of the class as arithmetic -/
theorem tb_set {x s m v i : Nat} (hv : v < 2 ^ m) : (x - x / 2 ^ s % 2 ^ m * 2 ^ s + v * 2 ^ s).testBit i = if i < s then x.testBit i else if i < s + m then v.testBit (i - s) else x.testBit i := by
  have hs : 0 < 2 ^ s := Nat.two_pow_pos s
  have hm : 0 < 2 ^ m := Nat.two_pow_pos m
  have hlo : x % 2 ^ s < 2 ^ s := Nat.mod_lt _ hs
  have hf : x / 2 ^ s % 2 ^ m < 2 ^ m := Nat.mod_lt _ hm
  have e1 : x = 2 ^ s * (2 ^ m * (x / 2 ^ s / 2 ^ m) + x / 2 ^ s % 2 ^ m) + x % 2 ^ s := by
    rw [Nat.div_add_mod, Nat.div_add_mod]
  have e2 : x - x / 2 ^ s % 2 ^ m * 2 ^ s + v * 2 ^ s = 2 ^ s * (2 ^ m * (x / 2 ^ s / 2 ^ m) + v) + x % 2 ^ s := by
    have e3 : x - x / 2 ^ s % 2 ^ m * 2 ^ s = 2 ^ s * (2 ^ m * (x / 2 ^ s / 2 ^ m)) + x % 2 ^ s := by
      have e4 : x = x / 2 ^ s % 2 ^ m * 2 ^ s + (2 ^ s * (2 ^ m * (x / 2 ^ s / 2 ^ m)) + x % 2 ^ s) := by
        have e5 := e1
        rw [Nat.mul_add] at e5
        have e6 : x / 2 ^ s % 2 ^ m * 2 ^ s = 2 ^ s * (x / 2 ^ s % 2 ^ m) := Nat.mul_comm _ _
        omega
      omega
    rw [e3, Nat.mul_add, Nat.mul_comm v]
    omega
  rw [e2, Nat.testBit_two_pow_mul_add _ hlo]
  by_cases h1 : i < s
  · rw [if_pos h1, if_pos h1]
    conv => rhs; rw [e1, Nat.testBit_two_pow_mul_add _ hlo, if_pos h1]
  · rw [if_neg h1, if_neg h1, Nat.testBit_two_pow_mul_add _ hv]
    by_cases h2 : i < s + m
    · rw [if_pos h2, if_pos (by omega)]
    · rw [if_neg h2, if_neg (by omega)]
      conv => rhs; rw [e1, Nat.testBit_two_pow_mul_add _ hlo, if_neg h1, Nat.testBit_two_pow_mul_add _ hf, if_neg (by omega)]
theorem bv_set {n x s m v : Nat} (hsm : s + m ≤ n) (hv : v < 2 ^ m) : (BitVec.ofNat n x &&& ~~~(BitVec.ofNat n (2 ^ m - 1) <<< s)) ||| (BitVec.ofNat n v <<< s) = BitVec.ofNat n (x - x / 2 ^ s % 2 ^ m * 2 ^ s + v * 2 ^ s) := by
  apply BitVec.eq_of_getLsbD_eq
  intro i hi
  rw [BitVec.getLsbD_or, BitVec.getLsbD_and, BitVec.getLsbD_not, BitVec.getLsbD_shiftLeft, BitVec.getLsbD_shiftLeft, BitVec.getLsbD_ofNat, BitVec.getLsbD_ofNat, BitVec.getLsbD_ofNat, BitVec.getLsbD_ofNat, Nat.testBit_two_pow_sub_one, tb_set hv]
  by_cases h1 : i < s
  · simp [h1, hi]
  · by_cases h2 : i < s + m
    · have h3 : i - s < m := by omega
      have h4 : i - s < n := by omega
      simp [h1, h2, h3, h4, hi]
    · have h3 : ¬ i - s < m := by omega
      have h5 : v.testBit (i - s) = false := Nat.testBit_lt_two_pow (Nat.lt_of_lt_of_le hv (Nat.pow_le_pow_right (by omega) (by omega)))
      simp [h1, h2, h3, h5, hi]
theorem l_set {x s m v : Nat} {msk sh : Int64} (hm : msk = lN (2 ^ m - 1)) (hsh : (sh.toBitVec.smod 64).toNat = s) (hsm : s + m ≤ 64) (hv : v < 2 ^ m) : ((lN x &&& ((msk <<< sh) ^^^ (-1 : Int64))) ||| (lN v <<< sh)) = lN (x - x / 2 ^ s % 2 ^ m * 2 ^ s + v * 2 ^ s) := by
  subst hm
  apply Int64.toBitVec_inj.1
  show ((BitVec.ofNat 64 x &&& ((BitVec.ofNat 64 (2 ^ m - 1) <<< (sh.toBitVec.smod 64)) ^^^ (-1 : Int64).toBitVec)) ||| (BitVec.ofNat 64 v <<< (sh.toBitVec.smod 64))) = BitVec.ofNat 64 (x - x / 2 ^ s % 2 ^ m * 2 ^ s + v * 2 ^ s)
  have e1 : (-1 : Int64).toBitVec = BitVec.allOnes 64 := by decide
  rw [← bv_set hsm hv, e1, BitVec.xor_allOnes]
  show ((BitVec.ofNat 64 x &&& ~~~(BitVec.ofNat 64 (2 ^ m - 1) <<< (sh.toBitVec.smod 64).toNat)) ||| (BitVec.ofNat 64 v <<< (sh.toBitVec.smod 64).toNat)) = _
  rw [hsh]
theorem i_set {x s m v : Nat} {msk sh : Int32} (hm : msk.toBitVec = ~~~(BitVec.ofNat 32 (2 ^ m - 1) <<< s)) (hsh : (sh.toBitVec.smod 32).toNat = s) (hsm : s + m ≤ 32) (hv : v < 2 ^ m) : ((nI x &&& msk) ||| (nI v <<< sh)) = nI (x - x / 2 ^ s % 2 ^ m * 2 ^ s + v * 2 ^ s) := by
  apply Int32.toBitVec_inj.1
  show ((BitVec.ofNat 32 x &&& msk.toBitVec) ||| (BitVec.ofNat 32 v <<< (sh.toBitVec.smod 32).toNat)) = BitVec.ofNat 32 (x - x / 2 ^ s % 2 ^ m * 2 ^ s + v * 2 ^ s)
  rw [hm, hsh, bv_set hsm hv]
theorem i_or {a b s : Nat} (h : a < 2 ^ s) : nI a ||| nI (b * 2 ^ s) = nI (a + b * 2 ^ s) := by
  apply Int32.toBitVec_inj.1
  show BitVec.ofNat 32 a ||| BitVec.ofNat 32 (b * 2 ^ s) = BitVec.ofNat 32 (a + b * 2 ^ s)
  rw [← BitVec.ofNat_or]
  congr 1
  rw [Nat.mul_comm b, Nat.or_comm, ← Nat.two_pow_add_eq_or_of_lt h, Nat.add_comm]
theorem i_or' {a b s : Nat} (h : a < 2 ^ s) : nI (b * 2 ^ s) ||| nI a = nI (b * 2 ^ s + a) := by
  rw [Int32.or_comm, i_or h, Nat.add_comm]
theorem ush {x s : Nat} (hx : x < 18446744073709551616) (hs : s < 64) : ((lN x).toUInt64 >>> UInt64.ofNat s).toInt64 = lN (x / 2 ^ s) := by
  have e : UInt64.ofNat x >>> UInt64.ofNat s = UInt64.ofNat (x / 2 ^ s) := by
    apply UInt64.toNat_inj.1
    rw [UInt64.toNat_shiftRight, UInt64.toNat_ofNat', UInt64.toNat_ofNat', UInt64.toNat_ofNat', Nat.shiftRight_eq_div_pow]
    have h1 : x / 2 ^ s ≤ x := Nat.div_le_self _ _
    rw [Nat.mod_eq_of_lt (a := x) (by omega), Nat.mod_eq_of_lt (a := s) (by omega), Nat.mod_eq_of_lt (a := s) (by omega), Nat.mod_eq_of_lt (by omega)]
  show (UInt64.ofNat x >>> UInt64.ofNat s).toInt64 = _
  rw [e]
  rfl
theorem i_and (n : Nat) {m : Int32} (k : Nat) (hm : m.toBitVec.toNat = 2 ^ k - 1) (hk : k ≤ 32) : nI n &&& m = nI (n % 2 ^ k) := by
  rw [pk_and (nI n) k hm]
  have e : (nI n).toBitVec.toNat = n % 4294967296 := by
    show (BitVec.ofNat 32 n).toNat = _
    rw [BitVec.toNat_ofNat]
  rw [e]
  congr 1
  have : 4294967296 = 2 ^ k * 2 ^ (32 - k) := by rw [← Nat.pow_add, Nat.add_sub_cancel' hk]
  rw [this, Nat.mod_mul_right_mod]
theorem and_1 (n : Nat) : nI n &&& nI 1 = nI (n % 2) := i_and n 1 (by decide) (by decide)
theorem and_3 (n : Nat) : nI n &&& nI 3 = nI (n % 4) := i_and n 2 (by decide) (by decide)
theorem and_15 (n : Nat) : nI n &&& nI 15 = nI (n % 16) := i_and n 4 (by decide) (by decide)
theorem and_31 (n : Nat) : nI n &&& nI 31 = nI (n % 32) := i_and n 5 (by decide) (by decide)
theorem and_63 (n : Nat) : nI n &&& nI 63 = nI (n % 64) := i_and n 6 (by decide) (by decide)
theorem and_255 (n : Nat) : nI n &&& nI 255 = nI (n % 256) := i_and n 8 (by decide) (by decide)
theorem and_511 (n : Nat) : nI n &&& nI 511 = nI (n % 512) := i_and n 9 (by decide) (by decide)
theorem and_16383 (n : Nat) : nI n &&& nI 16383 = nI (n % 16384) := i_and n 14 (by decide) (by decide)
theorem and_19 (n : Nat) : nI n &&& nI 524287 = nI (n % 524288) := i_and n 19 (by decide) (by decide)
theorem shr_2 {n : Nat} (h : n < 2147483648) : nI n >>> (nI 2 &&& nI 31) = nI (n / 4) := pk_shrN (by omega) _ 2 (by decide)
theorem shr_5 {n : Nat} (h : n < 2147483648) : nI n >>> (nI 5 &&& nI 31) = nI (n / 32) := pk_shrN (by omega) _ 5 (by decide)
theorem shr_7 {n : Nat} (h : n < 2147483648) : nI n >>> (nI 7 &&& nI 31) = nI (n / 128) := pk_shrN (by omega) _ 7 (by decide)
theorem shr_9 {n : Nat} (h : n < 2147483648) : nI n >>> (nI 9 &&& nI 31) = nI (n / 512) := pk_shrN (by omega) _ 9 (by decide)
theorem shr_11 {n : Nat} (h : n < 2147483648) : nI n >>> (nI 11 &&& nI 31) = nI (n / 2048) := pk_shrN (by omega) _ 11 (by decide)
theorem shr_13 {n : Nat} (h : n < 2147483648) : nI n >>> (nI 13 &&& nI 31) = nI (n / 8192) := pk_shrN (by omega) _ 13 (by decide)
theorem shr_15 {n : Nat} (h : n < 2147483648) : nI n >>> (nI 15 &&& nI 31) = nI (n / 32768) := pk_shrN (by omega) _ 15 (by decide)
theorem shl_2 {n : Nat} (h : n < 1073741824) : nI n <<< (nI 2 &&& nI 31) = nI (n * 4) := pk_shlN _ 2 (by decide) (by omega)
theorem shl_9 {n : Nat} (h : n < 8388608) : nI n <<< (nI 9 &&& nI 31) = nI (n * 512) := pk_shlN _ 9 (by decide) (by omega)
theorem shl_11 {n : Nat} (h : n < 2097152) : nI n <<< (nI 11 &&& nI 31) = nI (n * 2048) := pk_shlN _ 11 (by decide) (by omega)
theorem shl_15 {n : Nat} (h : n < 131072) : nI n <<< (nI 15 &&& nI 31) = nI (n * 32768) := pk_shlN _ 15 (by decide) (by omega)
theorem and_m512 {w : Nat} (h : w < 524288) : (nI w &&& -nI 512 = nI 0) = (w < 512) := by
  have e : nI w &&& -nI 512 = nI (w / 512 * 512) := by
    apply Int32.toBitVec_inj.1
    show BitVec.ofNat 32 w &&& (-nI 512).toBitVec = BitVec.ofNat 32 (w / 512 * 512)
    have e1 : (-nI 512).toBitVec = ~~~(BitVec.ofNat 32 (2 ^ 9 - 1) <<< 0) := by decide
    have e2 := bv_set (n := 32) (x := w) (s := 0) (m := 9) (v := 0) (by decide) (by decide)
    rw [e1]
    have e3 : BitVec.ofNat 32 0 <<< 0 = 0#32 := by decide
    rw [e3, BitVec.or_zero] at e2
    rw [e2]
    congr 1
    omega
  rw [e, nI_eq (by omega) (by omega)]
  apply propext
  omega
/-- a state: cells by 2 bits, hands by 19 -/
def cv (x c : Nat) : Nat := x / 4 ^ c % 4
def hw (h : Nat) : Nat := 64 * 524288 ^ h
def hd (x h : Nat) : Nat := x / hw h % 524288
def setV (x c v : Nat) : Nat := x - cv x c * 4 ^ c + v * 4 ^ c
def setH (x h w : Nat) : Nat := x - hd x h * hw h + w * hw h
theorem lt3 {c : Nat} (h : c < 3) : c = 0 ∨ c = 1 ∨ c = 2 := by omega
theorem hw0 : hw 0 = 64 := rfl
theorem hw1 : hw 1 = 33554432 := rfl
theorem hw2 : hw 2 = 17592186044416 := rfl
theorem p40 : 4 ^ 0 = 1 := rfl
theorem p41 : 4 ^ 1 = 4 := rfl
theorem p42 : 4 ^ 2 = 16 := rfl
theorem cv_lt (x c : Nat) : cv x c < 4 := Nat.mod_lt _ (by decide)
theorem hd_lt (x h : Nat) : hd x h < 524288 := Nat.mod_lt _ (by decide)
theorem cv_setV {x c v : Nat} (hc : c < 3) (hv : v < 4) : cv (setV x c v) c = v := by
  rcases lt3 hc with rfl | rfl | rfl <;> simp only [cv, setV, p40, p41, p42] <;> omega
theorem cv_setVn {x c v d : Nat} (hc : c < 3) (hd : d < 3) (hv : v < 4) (hn : d ≠ c) : cv (setV x c v) d = cv x d := by
  rcases lt3 hc with rfl | rfl | rfl <;> rcases lt3 hd with rfl | rfl | rfl <;> simp only [cv, setV, p40, p41, p42] <;> omega
theorem hd_setV {x c v h : Nat} (hc : c < 3) (hh : h < 3) (hv : v < 4) : hd (setV x c v) h = hd x h := by
  rcases lt3 hc with rfl | rfl | rfl <;> rcases lt3 hh with rfl | rfl | rfl <;> simp only [cv, hd, setV, p40, p41, p42, hw0, hw1, hw2] <;> omega
theorem cv_setH {x c h w : Nat} (hc : c < 3) (hh : h < 3) (hv : w < 524288) : cv (setH x h w) c = cv x c := by
  rcases lt3 hc with rfl | rfl | rfl <;> rcases lt3 hh with rfl | rfl | rfl <;> simp only [cv, hd, setH, p40, p41, p42, hw0, hw1, hw2] <;> omega
theorem hd_setH {x h w : Nat} (hh : h < 3) (hv : w < 524288) : hd (setH x h w) h = w := by
  rcases lt3 hh with rfl | rfl | rfl <;> simp only [hd, setH, hw0, hw1, hw2] <;> omega
theorem hd_setHn {x h w g : Nat} (hh : h < 3) (hg : g < 3) (hv : w < 524288) (hn : g ≠ h) : hd (setH x h w) g = hd x g := by
  rcases lt3 hh with rfl | rfl | rfl <;> rcases lt3 hg with rfl | rfl | rfl <;> simp only [hd, setH, hw0, hw1, hw2] <;> omega
theorem setV_lt {x c v : Nat} (hx : x < 9223372036854775808) (hc : c < 3) (hv : v < 4) : setV x c v < 9223372036854775808 := by
  rcases lt3 hc with rfl | rfl | rfl <;> simp only [cv, setV, p40, p41, p42] <;> omega
theorem setH_lt {x h w : Nat} (hx : x < 9223372036854775808) (hh : h < 3) (hv : w < 524288) : setH x h w < 9223372036854775808 := by
  rcases lt3 hh with rfl | rfl | rfl <;> simp only [hd, setH, hw0, hw1, hw2] <;> omega
theorem st_ext {x y : Nat} (hx : x < 9223372036854775808) (hy : y < 9223372036854775808) (hc : ∀ c, c < 3 → cv x c = cv y c) (hh : ∀ h, h < 3 → hd x h = hd y h) : x = y := by
  have c0 := hc 0 (by decide)
  have c1 := hc 1 (by decide)
  have c2 := hc 2 (by decide)
  have h0 := hh 0 (by decide)
  have h1 := hh 1 (by decide)
  have h2 := hh 2 (by decide)
  simp only [cv, hd, p40, p41, p42, hw0, hw1, hw2] at c0 c1 c2 h0 h1 h2
  omega
/-- a hand: its place, A, B, how many writes wait, the oldest, the latest -/
def mkw (p a b n o l : Nat) : Nat := p + 32 * a + 128 * b + 512 * n + 2048 * o + 32768 * l
def pl (w : Nat) : Nat := w % 32
def ha (w : Nat) : Nat := w / 32 % 4
def hb (w : Nat) : Nat := w / 128 % 4
def hn (w : Nat) : Nat := w / 512 % 4
def ho (w : Nat) : Nat := w / 2048 % 16
def hl (w : Nat) : Nat := w / 32768 % 16
theorem pl_lt (w : Nat) : pl w < 32 := Nat.mod_lt _ (by decide)
theorem ha_lt (w : Nat) : ha w < 4 := Nat.mod_lt _ (by decide)
theorem hb_lt (w : Nat) : hb w < 4 := Nat.mod_lt _ (by decide)
theorem hn_lt (w : Nat) : hn w < 4 := Nat.mod_lt _ (by decide)
theorem ho_lt (w : Nat) : ho w < 16 := Nat.mod_lt _ (by decide)
theorem hl_lt (w : Nat) : hl w < 16 := Nat.mod_lt _ (by decide)
theorem mkw_lt {p a b n o l : Nat} (h0 : p < 32) (h1 : a < 4) (h2 : b < 4) (h3 : n < 4) (h4 : o < 16) (h5 : l < 16) : mkw p a b n o l < 524288 := by unfold mkw; omega
theorem pl_mkw {p a b n o l : Nat} (h0 : p < 32) : pl (mkw p a b n o l) = p := by unfold mkw pl; omega
theorem ha_mkw {p a b n o l : Nat} (h0 : p < 32) (h1 : a < 4) : ha (mkw p a b n o l) = a := by unfold mkw ha; omega
theorem hb_mkw {p a b n o l : Nat} (h0 : p < 32) (h1 : a < 4) (h2 : b < 4) : hb (mkw p a b n o l) = b := by unfold mkw hb; omega
theorem hn_mkw {p a b n o l : Nat} (h0 : p < 32) (h1 : a < 4) (h2 : b < 4) (h3 : n < 4) : hn (mkw p a b n o l) = n := by unfold mkw hn; omega
theorem ho_mkw {p a b n o l : Nat} (h0 : p < 32) (h1 : a < 4) (h2 : b < 4) (h3 : n < 4) (h4 : o < 16) : ho (mkw p a b n o l) = o := by unfold mkw ho; omega
theorem hl_mkw {p a b n o l : Nat} (h0 : p < 32) (h1 : a < 4) (h2 : b < 4) (h3 : n < 4) (h4 : o < 16) (h5 : l < 16) : hl (mkw p a b n o l) = l := by unfold mkw hl; omega
theorem w_eta {w : Nat} (h : w < 524288) : w = mkw (pl w) (ha w) (hb w) (hn w) (ho w) (hl w) := by unfold mkw pl ha hb hn ho hl; omega
theorem w_512 {w : Nat} (h : w < 524288) : w / 512 = hn w + 4 * ho w + 64 * hl w := by unfold hn ho hl; omega
