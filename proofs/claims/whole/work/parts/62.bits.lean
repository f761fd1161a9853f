/-! ===== bits of small numbers ===== -/
theorem i32_nat {a : Int32} {n : Nat} (h : a.toBitVec.toNat = n) (hn : n < 2147483648) : a.toInt = n := by
  rw [← Int32.toInt_toBitVec, BitVec.toInt_eq_toNat_cond, h]
  split <;> omega
theorem of_nat {x : Int} (h0 : 0 ≤ x) (h1 : x < 4294967296) : (Int32.ofInt x).toBitVec.toNat = x.toNat := by
  rw [Int32.toBitVec_ofInt, BitVec.toNat_ofInt]
  congr 1
  exact Int.emod_eq_of_lt h0 (by omega)
theorem iOr_nat {x y : Int} (x0 : 0 ≤ x) (x1 : x < 2147483648) (y0 : 0 ≤ y) (y1 : y < 2147483648) : iOr x y = ((x.toNat ||| y.toNat : Nat) : Int) := by
  unfold iOr
  refine i32_nat ?_ (Nat.or_lt_two_pow (n := 31) (by omega) (by omega))
  rw [Int32.toBitVec_or, BitVec.toNat_or, of_nat x0 (by omega), of_nat y0 (by omega)]
theorem iAnd_nat {x y : Int} (x0 : 0 ≤ x) (x1 : x < 2147483648) (y0 : 0 ≤ y) (y1 : y < 2147483648) : iAnd x y = ((x.toNat &&& y.toNat : Nat) : Int) := by
  unfold iAnd
  refine i32_nat ?_ (Nat.lt_of_le_of_lt Nat.and_le_left (by omega))
  rw [Int32.toBitVec_and, BitVec.toNat_and, of_nat x0 (by omega), of_nat y0 (by omega)]
/-- a number below a power of two beside a multiple of it -/
theorem iOr_add {x y : Int} {i : Nat} (a : Int) (hx : x = a * 2 ^ i) (a0 : 0 ≤ a) (x1 : x < 2147483648) (y0 : 0 ≤ y) (y1 : y < 2 ^ i) (y2 : y < 2147483648) : iOr x y = x + y := by
  have hp : (0 : Int) < 2 ^ i := Int.pow_pos (by decide)
  have x0 : 0 ≤ x := by rw [hx]; exact Int.mul_nonneg a0 (by omega)
  rw [iOr_nat x0 x1 y0 y2]
  have e1 : x.toNat = 2 ^ i * a.toNat := by
    have : ((2 ^ i * a.toNat : Nat) : Int) = x := by
      rw [hx, Int.natCast_mul, Int.natCast_pow, Int.toNat_of_nonneg a0, Int.mul_comm]; rfl
    omega
  have e2 : y.toNat < 2 ^ i := by
    have : ((2 ^ i : Nat) : Int) = 2 ^ i := by rw [Int.natCast_pow]; rfl
    omega
  rw [e1, ← Nat.two_pow_add_eq_or_of_lt e2, ← e1]
  omega
theorem iAnd_mod {x : Int} (m k : Nat) (hm : m = 2 ^ k - 1) (x0 : 0 ≤ x) (x1 : x < 2147483648) (m1 : m < 2147483648) : iAnd x (m : Int) = x % ((2 ^ k : Nat) : Int) := by
  rw [iAnd_nat x0 x1 (by omega) (by omega), show ((m : Int)).toNat = 2 ^ k - 1 by omega, Nat.and_two_pow_sub_one_eq_mod, Int.natCast_emod, Int.toNat_of_nonneg x0]
theorem shrN {x : Int} {K : Int32} (k : Nat) (hK : (K.toBitVec.smod 32).toNat = k) (hx : inR x) : (Int32.ofInt x >>> K).toInt = x / ((2 ^ k : Nat) : Int) := by
  show ((Int32.ofInt x).toBitVec.sshiftRight (K.toBitVec.smod 32).toNat).toInt = _
  rw [hK, BitVec.toInt_sshiftRight, Int.shiftRight_eq_div_pow]
  congr 1
  have := inR_to hx
  rw [← Int32.toInt_toBitVec] at this
  exact this
theorem shlN {x : Int} {K : Int32} (k : Nat) (hK : (K.toBitVec.smod 32).toNat = k) (x0 : 0 ≤ x) (x1 : x * ((2 ^ k : Nat) : Int) < 2147483648) : (Int32.ofInt x <<< K).toInt = x * ((2 ^ k : Nat) : Int) := by
  have hp : 0 < 2 ^ k := Nat.pow_pos (by decide)
  have hle : x ≤ x * ((2 ^ k : Nat) : Int) := by
    have := Int.mul_le_mul_of_nonneg_left (show (1 : Int) ≤ ((2 ^ k : Nat) : Int) by omega) x0
    omega
  have e : ((x.toNat * 2 ^ k : Nat) : Int) = x * ((2 ^ k : Nat) : Int) := by rw [Int.natCast_mul, Int.toNat_of_nonneg x0]
  rw [← e]
  refine i32_nat ?_ (by omega)
  show ((Int32.ofInt x).toBitVec <<< (K.toBitVec.smod 32)).toNat = _
  rw [BitVec.shiftLeft_eq', BitVec.toNat_shiftLeft, hK, of_nat x0 (by omega), Nat.shiftLeft_eq]
  exact Nat.mod_eq_of_lt (by omega)
theorem iShl_8 {x : Int} (x0 : 0 ≤ x) (x1 : x * 256 < 2147483648) : iShl x 8 = x * 256 := shlN 8 (by decide) x0 x1
theorem iShl_16 {x : Int} (x0 : 0 ≤ x) (x1 : x * 65536 < 2147483648) : iShl x 16 = x * 65536 := shlN 16 (by decide) x0 x1
theorem iShl_3 {x : Int} (x0 : 0 ≤ x) (x1 : x * 8 < 2147483648) : iShl x 3 = x * 8 := shlN 3 (by decide) x0 x1
theorem iShl_4 {x : Int} (x0 : 0 ≤ x) (x1 : x * 16 < 2147483648) : iShl x 4 = x * 16 := shlN 4 (by decide) x0 x1
theorem iShl_15 {x : Int} (x0 : 0 ≤ x) (x1 : x * 32768 < 2147483648) : iShl x 15 = x * 32768 := shlN 15 (by decide) x0 x1
theorem iShr_8 {x : Int} (hx : inR x) : iShr x 8 = x / 256 := shrN 8 (by decide) hx
theorem iShr_16 {x : Int} (hx : inR x) : iShr x 16 = x / 65536 := shrN 16 (by decide) hx
theorem iShr_3 {x : Int} (hx : inR x) : iShr x 3 = x / 8 := shrN 3 (by decide) hx
theorem iShr_4 {x : Int} (hx : inR x) : iShr x 4 = x / 16 := shrN 4 (by decide) hx
theorem iShr_15 {x : Int} (hx : inR x) : iShr x 15 = x / 32768 := shrN 15 (by decide) hx
/-! ===== what the law told, in one number ===== -/
def tolN (c0 c1 pr : Int) : Int := 1073741824 + pr * 65536 + c1 * 256 + c0
theorem tol_or {c0 c1 pr : Int} (h0 : 0 ≤ c0 ∧ c0 ≤ 100) (h1 : 0 ≤ c1 ∧ c1 ≤ 100) (hp : 0 ≤ pr ∧ pr ≤ 990) : iOr (iOr 1073741824 (iShl pr 16)) (iOr c0 (iShl c1 8)) = tolN c0 c1 pr := by
  rw [iShl_16 hp.1 (by omega), iShl_8 h1.1 (by omega)]
  have e1 : iOr 1073741824 (pr * 65536) = 1073741824 + pr * 65536 := iOr_add (i := 30) 1 (by decide) (by decide) (by decide) (by omega) (by omega) (by omega)
  have e2 : iOr c0 (c1 * 256) = c1 * 256 + c0 := by
    have : iOr c0 (c1 * 256) = iOr (c1 * 256) c0 := by
      unfold iOr; rw [Int32.or_comm]
    rw [this]
    exact iOr_add (i := 8) c1 (by omega) h1.1 (by omega) h0.1 (by omega) (by omega)
  rw [e1, e2]
  have := iOr_add (x := 1073741824 + pr * 65536) (y := c1 * 256 + c0) (i := 16) (16384 + pr) (by omega) (by omega) (by omega) (by omega) (by omega) (by omega)
  rw [this]; unfold tolN; omega
theorem tol_ok {c0 c1 pr : Int} (h0 : 0 ≤ c0 ∧ c0 ≤ 100) (h1 : 0 ≤ c1 ∧ c1 ≤ 100) (hp : 0 ≤ pr ∧ pr ≤ 990) : iAnd (tolN c0 c1 pr) 127 = c0 ∧ iAnd (iShr (tolN c0 c1 pr) 8) 127 = c1 ∧ iAnd (iShr (tolN c0 c1 pr) 16) 1023 = pr ∧ 0 < tolN c0 c1 pr ∧ tolN c0 c1 pr < 2147483648 := by
  have hb : 0 < tolN c0 c1 pr ∧ tolN c0 c1 pr < 2147483648 := by unfold tolN; omega
  rw [iShr_8 ⟨by omega, by omega⟩, iShr_16 ⟨by omega, by omega⟩]
  have a1 := iAnd_mod (x := tolN c0 c1 pr) 127 7 rfl (by omega) (by omega) (by decide)
  have a2 := iAnd_mod (x := tolN c0 c1 pr / 256) 127 7 rfl (by omega) (by omega) (by decide)
  have a3 := iAnd_mod (x := tolN c0 c1 pr / 65536) 1023 10 rfl (by omega) (by omega) (by decide)
  have p7 : ((2 ^ 7 : Nat) : Int) = 128 := rfl
  have p10 : ((2 ^ 10 : Nat) : Int) = 1024 := rfl
  rw [p7] at a1 a2
  rw [p10] at a3
  refine ⟨by rw [show (127 : Int) = ((127 : Nat) : Int) from rfl, a1]; unfold tolN; omega, by rw [show (127 : Int) = ((127 : Nat) : Int) from rfl, a2]; unfold tolN; omega, by rw [show (1023 : Int) = ((1023 : Nat) : Int) from rfl, a3]; unfold tolN; omega, hb.1, hb.2⟩
