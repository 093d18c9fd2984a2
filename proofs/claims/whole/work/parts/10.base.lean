/-! own base rows: whole numbers as Int32 (zI), truth as Int32 (bI), rows of numbers as arrays (aN, aL), and short rows over the kit's -/
def zI (a : Int) : Int32 := Int32.ofInt a
def bI (b : Bool) : Int32 := if b then 1 else 0
def aN (g : Nat → Nat) : Nat → Int32 := fun k => nI (g k)
def aL (g : Nat → Nat) : Nat → Int64 := fun k => lN (g k)
def up (g : Nat → Nat) (k v : Nat) : Nat → Nat := fun j => if j = k then v else g j
theorem up_s (g : Nat → Nat) (k v : Nat) : up g k v k = v := if_pos rfl
theorem up_n (g : Nat → Nat) {k j : Nat} (v : Nat) (h : j ≠ k) : up g k v j = g j := if_neg h
theorem zI_toInt {a : Int} (h1 : -2147483648 ≤ a) (h2 : a < 2147483648) : (zI a).toInt = a := by
  show (Int32.ofInt a).toInt = a
  rw [Int32.toInt_ofInt]
  show Int.bmod a 4294967296 = a
  exact Int.bmod_eq_of_le (by omega) (by omega)
theorem zI_ex (x : Int32) : ∃ a : Int, -2147483648 ≤ a ∧ a < 2147483648 ∧ x = zI a := ⟨x.toInt, by have := Int32.le_toInt x; omega, by have := Int32.toInt_lt x; omega, (Int32.ofInt_toInt x).symm⟩
theorem zI_nat (n : Nat) : zI (n : Int) = nI n := by
  show Int32.ofInt (n : Int) = Int32.ofNat n
  exact Int32.ofInt_eq_ofNat
theorem zI_le {a b : Int} (h1 : -2147483648 ≤ a) (h2 : a < 2147483648) (h3 : -2147483648 ≤ b) (h4 : b < 2147483648) : zI a ≤ zI b ↔ a ≤ b := by
  rw [Int32.le_iff_toInt_le, zI_toInt h1 h2, zI_toInt h3 h4]
theorem zI_lt {a b : Int} (h1 : -2147483648 ≤ a) (h2 : a < 2147483648) (h3 : -2147483648 ≤ b) (h4 : b < 2147483648) : zI a < zI b ↔ a < b := by
  rw [Int32.lt_iff_toInt_lt, zI_toInt h1 h2, zI_toInt h3 h4]
theorem zI_eq {a b : Int} (h1 : -2147483648 ≤ a) (h2 : a < 2147483648) (h3 : -2147483648 ≤ b) (h4 : b < 2147483648) : zI a = zI b ↔ a = b := by
  refine ⟨fun h => ?_, fun h => by rw [h]⟩
  have := congrArg Int32.toInt h
  rwa [zI_toInt h1 h2, zI_toInt h3 h4] at this
theorem zI_add (a b : Int) : zI a + zI b = zI (a + b) := (Int32.ofInt_add a b).symm
theorem zI_sub (a b : Int) : zI a - zI b = zI (a - b) := (Int32.ofInt_sub a b).symm
theorem zI_mul (a b : Int) : zI a * zI b = zI (a * b) := (Int32.ofInt_mul a b).symm
theorem zI_0 : zI 0 = 0 := rfl
theorem nz_le {n : Nat} {a : Int} (h : n < 2147483648) (h1 : -2147483648 ≤ a) (h2 : a < 2147483648) : nI n ≤ zI a ↔ (n : Int) ≤ a := by rw [← zI_nat, zI_le (by omega) (by omega) h1 h2]
theorem nz_lt {n : Nat} {a : Int} (h : n < 2147483648) (h1 : -2147483648 ≤ a) (h2 : a < 2147483648) : nI n < zI a ↔ (n : Int) < a := by rw [← zI_nat, zI_lt (by omega) (by omega) h1 h2]
theorem nz_eq {n : Nat} {a : Int} (h : n < 2147483648) (h1 : -2147483648 ≤ a) (h2 : a < 2147483648) : nI n = zI a ↔ (n : Int) = a := by rw [← zI_nat, zI_eq (by omega) (by omega) h1 h2]
theorem zn_le {n : Nat} {a : Int} (h : n < 2147483648) (h1 : -2147483648 ≤ a) (h2 : a < 2147483648) : zI a ≤ nI n ↔ a ≤ (n : Int) := by rw [← zI_nat, zI_le h1 h2 (by omega) (by omega)]
theorem zn_lt {n : Nat} {a : Int} (h : n < 2147483648) (h1 : -2147483648 ≤ a) (h2 : a < 2147483648) : zI a < nI n ↔ a < (n : Int) := by rw [← zI_nat, zI_lt h1 h2 (by omega) (by omega)]
theorem zn_eq {n : Nat} {a : Int} (h : n < 2147483648) (h1 : -2147483648 ≤ a) (h2 : a < 2147483648) : zI a = nI n ↔ a = (n : Int) := by rw [← zI_nat, zI_eq h1 h2 (by omega) (by omega)]
theorem n0_eq {a : Nat} (h : a < 2147483648) : nI a = 0 ↔ a = 0 := by rw [← nI_0, nI_eq h (by omega)]
theorem n0_lt {a : Nat} (h : a < 2147483648) : nI a < 0 ↔ a < 0 := by rw [← nI_0, nI_ltI h (by omega)]
theorem n0_ge {a : Nat} (h : a < 2147483648) : 0 ≤ nI a ↔ 0 ≤ a := by rw [← nI_0, nI_leI (by omega) h]
theorem n0_gt {a : Nat} (h : a < 2147483648) : 0 < nI a ↔ 0 < a := by rw [← nI_0, nI_ltI (by omega) h]
theorem n0_le {a : Nat} (h : a < 2147483648) : nI a ≤ 0 ↔ a ≤ 0 := by rw [← nI_0, nI_leI h (by omega)]
theorem z0_eq {a : Int} (h1 : -2147483648 ≤ a) (h2 : a < 2147483648) : zI a = 0 ↔ a = 0 := by rw [← zI_0, zI_eq h1 h2 (by omega) (by omega)]
theorem z0_lt {a : Int} (h1 : -2147483648 ≤ a) (h2 : a < 2147483648) : zI a < 0 ↔ a < 0 := by rw [← zI_0, zI_lt h1 h2 (by omega) (by omega)]
theorem z0_ge {a : Int} (h1 : -2147483648 ≤ a) (h2 : a < 2147483648) : 0 ≤ zI a ↔ 0 ≤ a := by rw [← zI_0, zI_le (by omega) (by omega) h1 h2]
theorem z0_gt {a : Int} (h1 : -2147483648 ≤ a) (h2 : a < 2147483648) : 0 < zI a ↔ 0 < a := by rw [← zI_0, zI_lt (by omega) (by omega) h1 h2]
theorem z0_le {a : Int} (h1 : -2147483648 ≤ a) (h2 : a < 2147483648) : zI a ≤ 0 ↔ a ≤ 0 := by rw [← zI_0, zI_le h1 h2 (by omega) (by omega)]
theorem nf_t {b : Bool} (h : ¬ b = false) : b = true := by cases b <;> simp_all
theorem b0_eq (b : Bool) : bI b = 0 ↔ b = false := by cases b <;> decide
theorem nI_zc (n : Nat) : nI n = zI (n : Int) := (zI_nat n).symm
/-! arithmetic on numbers -/
theorem e_sub {a b : Nat} (h : b ≤ a) : nI a - nI b = nI (a - b) := pk_sub h
theorem e_div {a d : Nat} (ha : a < 2147483648) (h0 : 0 < d) (hd : d < 2147483648) : nI a / nI d = nI (a / d) := pk_div ha h0 hd
theorem e_rem {a d : Nat} (ha : a < 2147483648) (h0 : 0 < d) (hd : d < 2147483648) : nI a - nI a / nI d * nI d = nI (a % d) := pk_rem ha h0 hd
theorem e_s5 : ∀ k, k < 32 → ((nI k &&& 31).toBitVec.smod 32).toNat = k := by decide +kernel
theorem e_shl (n : Nat) {k : Nat} (hk : k < 32) : nI n <<< (nI k &&& 31) = nI (n * 2 ^ k) := by
  apply Int32.toBitVec_inj.mp
  apply BitVec.eq_of_toNat_eq
  rw [pk_shl (nI n) (nI k &&& 31) k (e_s5 k hk)]
  show (Int32.ofNat n).toBitVec.toNat * _ % _ = (Int32.ofNat (n * 2 ^ k)).toBitVec.toNat
  rw [Int32.toBitVec_ofNat', Int32.toBitVec_ofNat', BitVec.toNat_ofNat, BitVec.toNat_ofNat, Nat.mod_mul_mod]
theorem e_shr {n k : Nat} (hn : n < 2147483648) (hk : k < 32) : nI n >>> (nI k &&& 31) = nI (n / 2 ^ k) := pk_shrN hn _ k (e_s5 k hk)
theorem e_and (a b : Nat) : nI a &&& nI b = nI (a &&& b) := by
  show Int32.ofNat a &&& Int32.ofNat b = Int32.ofNat (a &&& b)
  apply Int32.toBitVec_inj.mp
  rw [Int32.toBitVec_and, Int32.toBitVec_ofNat', Int32.toBitVec_ofNat', Int32.toBitVec_ofNat', BitVec.ofNat_and]
theorem e_or (a b : Nat) : nI a ||| nI b = nI (a ||| b) := by
  show Int32.ofNat a ||| Int32.ofNat b = Int32.ofNat (a ||| b)
  apply Int32.toBitVec_inj.mp
  rw [Int32.toBitVec_or, Int32.toBitVec_ofNat', Int32.toBitVec_ofNat', Int32.toBitVec_ofNat', BitVec.ofNat_or]
theorem e_xor (a b : Nat) : nI a ^^^ nI b = nI (a ^^^ b) := by
  show Int32.ofNat a ^^^ Int32.ofNat b = Int32.ofNat (a ^^^ b)
  apply Int32.toBitVec_inj.mp
  rw [Int32.toBitVec_xor, Int32.toBitVec_ofNat', Int32.toBitVec_ofNat', Int32.toBitVec_ofNat', BitVec.ofNat_xor]
theorem e_mask (n k : Nat) {m : Nat} (h : m = 2 ^ k - 1) : nI n &&& nI m = nI (n % 2 ^ k) := by
  rw [e_and, h, Nat.and_two_pow_sub_one_eq_mod]
theorem e_shlL (n : Nat) {k : Nat} (hk : k < 64) : lN n <<< ((nI k).toInt64 &&& 63) = lN (n * 2 ^ k) := by
  have h5 : ∀ k, k < 64 → (((nI k).toInt64 &&& 63).toBitVec.smod 64) = BitVec.ofNat 64 k := by decide +kernel
  apply Int64.toBitVec_inj.mp
  rw [Int64.toBitVec_shiftLeft, h5 k hk, BitVec.shiftLeft_eq', BitVec.toNat_ofNat, Nat.mod_eq_of_lt (by omega : k < 2 ^ 64)]
  apply BitVec.eq_of_toNat_eq
  rw [BitVec.toNat_shiftLeft]
  show (Int64.ofNat n).toBitVec.toNat <<< k % _ = (Int64.ofNat (n * 2 ^ k)).toBitVec.toNat
  rw [Int64.toBitVec_ofNat', Int64.toBitVec_ofNat', BitVec.toNat_ofNat, BitVec.toNat_ofNat, Nat.shiftLeft_eq, Nat.mod_mul_mod]
theorem e_shrL {n k : Nat} (hn : n < 9223372036854775808) (hk : k < 64) : lN n >>> ((nI k).toInt64 &&& 63) = lN (n / 2 ^ k) := by
  have h5 : ∀ k, k < 64 → (((nI k).toInt64 &&& 63).toBitVec.smod 64) = BitVec.ofNat 64 k := by decide +kernel
  apply Int64.toInt_inj.mp
  show ((lN n) >>> _).toInt = _
  rw [← Int64.toInt_toBitVec, Int64.toBitVec_shiftRight, h5 k hk, BitVec.sshiftRight_eq', BitVec.toInt_sshiftRight, Int64.toInt_toBitVec, BitVec.toNat_ofNat, Nat.mod_eq_of_lt (by omega : k < 2 ^ 64), pk_lT (by omega), pk_lT (by have := Nat.div_le_self n (2 ^ k); omega), Int.shiftRight_eq_div_pow]
  exact Int.ofNat_ediv_ofNat
theorem e_andL (a b : Nat) : lN a &&& lN b = lN (a &&& b) := by
  show Int64.ofNat a &&& Int64.ofNat b = Int64.ofNat (a &&& b)
  apply Int64.toBitVec_inj.mp
  rw [Int64.toBitVec_and, Int64.toBitVec_ofNat', Int64.toBitVec_ofNat', Int64.toBitVec_ofNat', BitVec.ofNat_and]
theorem e_orL (a b : Nat) : lN a ||| lN b = lN (a ||| b) := by
  show Int64.ofNat a ||| Int64.ofNat b = Int64.ofNat (a ||| b)
  apply Int64.toBitVec_inj.mp
  rw [Int64.toBitVec_or, Int64.toBitVec_ofNat', Int64.toBitVec_ofNat', Int64.toBitVec_ofNat', BitVec.ofNat_or]
theorem e_maskL (n k : Nat) {m : Nat} (h : m = 2 ^ k - 1) : lN n &&& lN m = lN (n % 2 ^ k) := by
  rw [e_andL, h, Nat.and_two_pow_sub_one_eq_mod]
theorem e_lit (n : Nat) : (OfNat.ofNat n : Int32) = nI n := rfl
theorem e_litL (n : Nat) : (OfNat.ofNat n : Int64) = lN n := rfl
/-! arrays -/
theorem aN_rd (g : Nat → Nat) {k : Nat} (h : k < 2147483648) : aN g (nI k).toNatClampNeg = nI (g k) := by rw [nI_clamp h]; rfl
theorem aL_rd (g : Nat → Nat) {k : Nat} (h : k < 2147483648) : aL g (nI k).toNatClampNeg = lN (g k) := by rw [nI_clamp h]; rfl
theorem aN_st (g : Nat → Nat) {k : Nat} (v : Nat) (h : k < 2147483648) : upd (aN g) (nI k).toNatClampNeg (nI v) = aN (up g k v) := by
  rw [nI_clamp h]
  funext j
  unfold upd aN up
  by_cases hj : j = k
  · simp [hj]
  · simp [hj]
theorem aL_st (g : Nat → Nat) {k : Nat} (v : Nat) (h : k < 2147483648) : vp_updL (aL g) (nI k).toNatClampNeg (lN v) = aL (up g k v) := by
  rw [nI_clamp h]
  funext j
  unfold vp_updL aL up
  by_cases hj : j = k
  · simp [hj]
  · simp [hj]
section
variable {p : Program} {l : Launch} {e : Env} {R : Room} {s : State} {m : MethodId} {args : Array Value} {below : List Frame} {meth : Method} {c : Code} {H : Heap} {locs : List Loc} {cells slots : Nat} {Q : State → Prop} {pc : Nat} {ls : Array Slot} {rest : List Value}
theorem lv_evi {x : Int32} (y : Int32) (h : x = y) (k : W p l e R s m args below meth c H locs cells slots Q (F0 m pc ls (.int y :: rest))) : W p l e R s m args below meth c H locs cells slots Q (F0 m pc ls (.int x :: rest)) := by
  rw [h]; exact k
theorem lv_evl {x : Int64} (y : Int64) (h : x = y) (k : W p l e R s m args below meth c H locs cells slots Q (F0 m pc ls (.long y :: rest))) : W p l e R s m args below meth c H locs cells slots Q (F0 m pc ls (.long x :: rest)) := by
  rw [h]; exact k
end
