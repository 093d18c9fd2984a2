/-! digits and packed rows -/
def dg (b N i : Nat) : Nat := N / b ^ i % b
def pk (b : Nat) (f : Nat → Nat) : Nat → Nat
  | 0 => 0
  | n + 1 => pk b f n + f n * b ^ n
theorem dg_lt {b : Nat} (hb : 0 < b) (N i : Nat) : dg b N i < b := Nat.mod_lt _ hb
theorem pkb_lt {b : Nat} {f : Nat → Nat} : ∀ {n : Nat}, (∀ i, i < n → f i < b) → pk b f n < b ^ n
  | 0, _ => by simp [pk]
  | n + 1, h => by
    have h1 := pkb_lt (n := n) (fun i hi => h i (by omega))
    have h2 := h n (by omega)
    have h3 : (f n + 1) * b ^ n ≤ b * b ^ n := Nat.mul_le_mul_right _ h2
    rw [pk, Nat.pow_succ, Nat.mul_comm (b ^ n) b]
    rw [Nat.succ_mul] at h3
    omega
theorem pk_cong {b : Nat} {f g : Nat → Nat} : ∀ {n : Nat}, (∀ i, i < n → f i = g i) → pk b f n = pk b g n
  | 0, _ => rfl
  | n + 1, h => by rw [pk, pk, pk_cong (fun i hi => h i (by omega)), h n (by omega)]
theorem dg_0 (b N : Nat) : dg b N 0 = N % b := by rw [dg, Nat.pow_zero, Nat.div_one]
theorem dg_s (b N i : Nat) : dg b N (i + 1) = dg b (N / b) i := by rw [dg, dg, Nat.pow_succ, Nat.mul_comm, Nat.div_div_eq_div_mul]
theorem dg_pk {b : Nat} {f : Nat → Nat} : ∀ {n i : Nat}, (∀ j, j < n → f j < b) → i < n → dg b (pk b f n) i = f i
  | 0, _, _, hi => absurd hi (Nat.not_lt_zero _)
  | n + 1, i, h, hi => by
    have hb : 0 < b := Nat.lt_of_le_of_lt (Nat.zero_le _) (h n (by omega))
    have hl := pkb_lt (b := b) (f := f) (n := n) (fun j hj => h j (by omega))
    rcases Nat.lt_or_ge i n with hin | hin
    · have h0 := dg_pk (n := n) (i := i) (fun j hj => h j (by omega)) hin
      rw [← h0, dg, dg, pk]
      have e : b ^ n = b ^ i * (b * b ^ (n - i - 1)) := by
        rw [← Nat.mul_assoc, ← Nat.pow_succ, ← Nat.pow_add]
        congr 1
        omega
      rw [e, show f n * (b ^ i * (b * b ^ (n - i - 1))) = b ^ i * (f n * (b * b ^ (n - i - 1))) by rw [Nat.mul_left_comm], Nat.add_mul_div_left _ _ (Nat.pow_pos hb), show f n * (b * b ^ (n - i - 1)) = b * (f n * b ^ (n - i - 1)) by rw [Nat.mul_left_comm], Nat.add_mul_mod_self_left]
    · have e : i = n := by omega
      subst e
      rw [dg, pk, Nat.add_mul_div_right _ _ (Nat.pow_pos hb), Nat.div_eq_of_lt hl, Nat.zero_add, Nat.mod_eq_of_lt (h i (by omega))]
theorem dg_hi {b N i n : Nat} (hb : 0 < b) (h : N < b ^ n) (hi : n ≤ i) : dg b N i = 0 := by
  rw [dg, Nat.div_eq_of_lt (Nat.lt_of_lt_of_le h (Nat.pow_le_pow_right hb hi)), Nat.zero_mod]
theorem pk_dg {b : Nat} (hb : 0 < b) : ∀ (n N : Nat), pk b (dg b N) n = N % b ^ n
  | 0, N => by rw [pk, Nat.pow_zero, Nat.mod_one]
  | n + 1, N => by
    rw [pk, pk_dg hb n N, dg, Nat.pow_succ, Nat.mod_mul, Nat.mul_comm]
theorem pk_ext {b : Nat} {f : Nat → Nat} {N n : Nat} (hb : 0 < b) (h : N < b ^ n) (hf : ∀ i, i < n → dg b N i = f i) : pk b f n = N := by
  rw [← pk_cong hf, pk_dg hb, Nat.mod_eq_of_lt h]
theorem or_add {a k : Nat} (b : Nat) (h : a < 2 ^ k) : a ||| b * 2 ^ k = a + b * 2 ^ k := by
  rw [Nat.or_comm, Nat.mul_comm, ← Nat.two_pow_add_eq_or_of_lt h, Nat.add_comm]
theorem or_add' {a k : Nat} (b : Nat) (h : a < 2 ^ k) : b * 2 ^ k ||| a = b * 2 ^ k + a := by
  rw [Nat.mul_comm, ← Nat.two_pow_add_eq_or_of_lt h]
theorem p8 (p : Nat) : 2 ^ (3 * p) = 8 ^ p := by rw [Nat.pow_mul]
theorem p256 (p : Nat) : 2 ^ (8 * p) = 256 ^ p := by rw [Nat.pow_mul]
/-! sums, rises, lessons -/
def sm (v : Nat → Nat) (a : Nat) : Nat → Nat
  | 0 => 0
  | n + 1 => sm v a n + v (a + n)
theorem sm_cong {v w : Nat → Nat} {a : Nat} : ∀ {n : Nat}, (∀ i, i < n → v (a + i) = w (a + i)) → sm v a n = sm w a n
  | 0, _ => rfl
  | n + 1, h => by rw [sm, sm, sm_cong (fun i hi => h i (by omega)), h n (by omega)]
theorem sm_le {v : Nat → Nat} {a c : Nat} : ∀ {n : Nat}, (∀ i, i < n → v (a + i) ≤ c) → sm v a n ≤ n * c
  | 0, _ => by simp [sm]
  | n + 1, h => by
    have h1 := sm_le (n := n) (fun i hi => h i (by omega))
    have h2 := h n (by omega)
    rw [sm, Nat.succ_mul]
    omega
def prm (v : Nat) : Bool := decide (2 ≤ v ∧ ∀ d, d < v → 2 ≤ d → d * d ≤ v → v % d ≠ 0)
def sqr (v : Nat) : Bool := decide (∃ d, d < v + 1 ∧ d * d = v)
def mlt (a b : Nat) : Bool := decide (a = 0 ∨ (0 < b ∧ a % b = 0))
/-- the longest rise and the one that ends here, of the first i + 1 -/
def lr (v : Nat → Nat) : Nat → Nat × Nat
  | 0 => (1, 1)
  | i + 1 => (max (lr v i).1 (if v i < v (i + 1) then (lr v i).2 + 1 else 1), if v i < v (i + 1) then (lr v i).2 + 1 else 1)
def lrise (v : Nat → Nat) (q : Nat) : Nat := (lr v (q - 1)).1
theorem lr_bd (v : Nat → Nat) : ∀ i, 1 ≤ (lr v i).2 ∧ (lr v i).2 ≤ (lr v i).1 ∧ (lr v i).1 ≤ i + 1
  | 0 => by simp [lr]
  | i + 1 => by
    have h := lr_bd v i
    simp only [lr]
    split <;> omega
theorem lr_all (v : Nat → Nat) : ∀ i, ((lr v i).1 = i + 1 ↔ ∀ p, p < i → v p < v (p + 1)) ∧ ((lr v i).1 = i + 1 → (lr v i).2 = i + 1)
  | 0 => by simp [lr]
  | i + 1 => by
    have h := lr_all v i
    have hb := lr_bd v i
    simp only [lr]
    split
    · rename_i hv
      refine ⟨⟨fun e p hp => ?_, fun hp => ?_⟩, fun e => ?_⟩
      · have h1 : (lr v i).2 = i + 1 := by omega
        have h2 : (lr v i).1 = i + 1 := by omega
        rcases Nat.lt_or_ge p i with q | q
        · exact h.1.mp h2 p q
        · have : p = i := by omega
          subst this; exact hv
      · have h1 := h.1.mpr (fun p q => hp p (by omega))
        have h2 := h.2 h1
        omega
      · have h1 : (lr v i).2 = i + 1 := by omega
        omega
    · rename_i hv
      refine ⟨⟨fun e => ?_, fun hp => ?_⟩, fun e => ?_⟩
      · omega
      · exact absurd (hp i (by omega)) hv
      · omega
/-- is a lesson taught by the values v of q places -/
def tau (k : Nat) (v : Nat → Nat) (q : Nat) : Bool :=
  if k = 0 then decide (∀ p, p < q - 1 → v p < v (p + 1))
  else if k = 1 then decide (∀ p, p < q - 1 → ¬ (v p % 2 = 1 ∧ v (p + 1) % 2 = 0))
  else if k = 2 then prm (v 0)
  else if k = 3 then sqr (sm v 0 (min 3 q))
  else if k = 4 then decide (∀ p, p < q - 1 → v p % 2 ≠ v (p + 1) % 2)
  else if k = 5 then decide (∀ p, p < q - 1 → mlt (v p) (v (p + 1)) = true ∨ mlt (v (p + 1)) (v p) = true)
  else if k = 6 then decide (sm v 0 (q / 2) = sm v (q / 2) (q - q / 2))
  else false
theorem lrise_all {v : Nat → Nat} {q : Nat} (hq : 0 < q) : lrise v q = q ↔ ∀ p, p < q - 1 → v p < v (p + 1) := by
  have h := (lr_all v (q - 1)).1
  rw [Nat.sub_add_cancel hq] at h
  exact h
/-- how much the one who takes next is ahead -/
def ldN (N : Nat) : Nat → Int
  | 0 => 0
  | n + 1 => max ((dg 256 N 0 : Int) - ldN (N / 256) n) ((dg 256 N n : Int) - ldN N n)
theorem ldN_bd : ∀ (n N : Nat), -(256 * (n : Int)) ≤ ldN N n ∧ ldN N n ≤ 256 * (n : Int)
  | 0, N => by simp [ldN]
  | n + 1, N => by
    have h1 := ldN_bd n (N / 256)
    have h2 := ldN_bd n N
    have h3 := dg_lt (b := 256) (by omega) N 0
    have h4 := dg_lt (b := 256) (by omega) N n
    simp only [ldN]
    omega
def stc (v : Nat → Nat) (s a : Nat) : Nat → Nat
  | 0 => 0
  | n + 1 => stc v s a n + (if sm v a (n + 1) = s then 1 else 0)
def str (v : Nat → Nat) (s q : Nat) : Nat → Nat
  | 0 => 0
  | a + 1 => str v s q a + stc v s a (q - a)
theorem e_max {a b : Nat} (ha : a < 2147483648) (hb : b < 2147483648) : (if nI a < nI b then nI b else nI a) = nI (max a b) := by
  by_cases h : a < b
  · rw [if_pos ((nI_ltI ha hb).mpr h), Nat.max_eq_right (by omega)]
  · rw [if_neg (fun c => h ((nI_ltI ha hb).mp c)), Nat.max_eq_left (by omega)]
theorem e_min {a b : Nat} (ha : a < 2147483648) (hb : b < 2147483648) : (if nI b < nI a then nI b else nI a) = nI (min a b) := by
  by_cases h : b < a
  · rw [if_pos ((nI_ltI hb ha).mpr h), Nat.min_eq_right (by omega)]
  · rw [if_neg (fun c => h ((nI_ltI hb ha).mp c)), Nat.min_eq_left (by omega)]
theorem z_max {a b : Int} (h1 : -2147483648 ≤ a) (h2 : a < 2147483648) (h3 : -2147483648 ≤ b) (h4 : b < 2147483648) : (if zI a < zI b then zI b else zI a) = zI (max a b) := by
  by_cases h : a < b
  · rw [if_pos ((zI_lt h1 h2 h3 h4).mpr h), Int.max_eq_right (by omega)]
  · rw [if_neg (fun c => h ((zI_lt h1 h2 h3 h4).mp c)), Int.max_eq_left (by omega)]
theorem bI_nar (b : Bool) : narrow .boolean (.int (bI b)) = .int (bI b) := by cases b <;> decide
theorem bI_t {b : Bool} (h : b = true) : nI 1 = bI b := by rw [h]; rfl
theorem bI_f {b : Bool} (h : b = false) : nI 0 = bI b := by rw [h]; rfl
theorem bI_if (b : Bool) : bI b = nI (if b then 1 else 0) := by cases b <;> rfl
theorem e_dec {a k : Nat} (h : k ≤ a) : nI a + Int32.ofInt (-(k : Int)) = nI (a - k) := by
  rw [← zI_nat, show Int32.ofInt (-(k : Int)) = zI (-(k : Int)) from rfl, zI_add, ← zI_nat]
  congr 1
  omega
theorem prm_t {v d : Nat} (h2 : 2 ≤ v) (hd : v < d * d) (h : ∀ k, 2 ≤ k → k < d → v % k ≠ 0) : prm v = true := by
  refine decide_eq_true ⟨h2, fun k _ hk hkk => h k hk ?_⟩
  rcases Nat.lt_or_ge k d with q | q
  · exact q
  · have := Nat.mul_le_mul q q
    omega
theorem prm_f {v d : Nat} (hd : 2 ≤ d) (hdd : d * d ≤ v) (h : v % d = 0) : prm v = false := by
  refine decide_eq_false fun hh => hh.2 d ?_ hd hdd h
  have : 2 * d ≤ d * d := Nat.mul_le_mul_right d hd
  omega
theorem prm_f1 {v : Nat} (h : v < 2) : prm v = false := decide_eq_false fun hh => by omega
theorem prm_lt : ∀ v, v < 100 → ∀ d, d < 10 → 2 ≤ d → d < v → v % d = 0 → prm v = false := by decide +kernel
theorem prm_ge : ∀ v, v < 100 → prm v = true ∨ v < 2 ∨ (2 < v ∧ v % 2 = 0) ∨ (3 < v ∧ v % 3 = 0) ∨ (5 < v ∧ v % 5 = 0) ∨ (7 < v ∧ v % 7 = 0) := by decide +kernel
theorem pk99 {f : Nat → Nat} {q : Nat} (h : ∀ j, j < q → f j ≤ 99) : ∀ i, i < q → dg 256 (pk 256 f q) i ≤ 99 := fun i hi => by
  rw [dg_pk (fun j hj => Nat.lt_of_le_of_lt (h j hj) (by omega)) hi]; exact h i hi
theorem sqr_t {v d : Nat} (h : d * d = v) : sqr v = true := by
  refine decide_eq_true ⟨d, ?_, h⟩
  rcases Nat.eq_zero_or_pos d with q | q
  · subst q; omega
  · have := Nat.le_mul_of_pos_right d q
    omega
theorem sqr_f {v d : Nat} (hd : v < d * d) (h : ∀ k, k < d → k * k ≠ v) : sqr v = false := by
  refine decide_eq_false fun ⟨k, _, hk⟩ => h k ?_ hk
  rcases Nat.lt_or_ge k d with q | q
  · exact q
  · have := Nat.mul_le_mul q q
    omega
/-! rows and lines as the class packs them -/
def soldC (R p : Nat) : Nat := (R &&& ((1 * 2 ^ (3 * p)) - 1)) ||| ((R / 2 ^ (3 * (p + 1))) * 2 ^ (3 * p))
def breadC (R p : Nat) : Nat := (((R / 2 ^ (3 * (p + 1))) * 2 ^ (3 * (p + 1))) ||| ((R &&& ((1 * 2 ^ (3 * p)) - 1)) * 2 ^ 3)) ||| (dg 8 R p)
def pikeC (R p q : Nat) : Nat := (soldC R p) ||| ((dg 8 R p) * 2 ^ (3 * (q - 1)))
def rainC (R : Nat) : Nat → Nat
  | 0 => 0
  | i + 1 => ((rainC R i) * 2 ^ 3) ||| (dg 8 R i)
def gustC (R p : Nat) : Nat := (R ^^^ (((dg 8 R p) ^^^ (dg 8 R (p + 1))) * 2 ^ (3 * p))) ^^^ (((dg 8 R p) ^^^ (dg 8 R (p + 1))) * 2 ^ (3 * (p + 1)))
def evC (R q k p : Nat) : Nat := if k = 0 then breadC R p else if k = 1 then pikeC R p q else if k = 2 then rainC R q else if k = 3 then gustC R p else soldC R p
def ofS (c : Nat) : Int := if c = 98 then 0 else if c = 103 then 3 else if c = 112 then 1 else if c = 114 then 2 else if c = 120 then 4 else -1
def plC (k q : Nat) : Nat := if k = 0 then q else if k = 1 then q else if k = 2 then 1 else if k = 3 then q - 1 else if 1 < q then q else 0
def withC (N k v : Nat) : Nat := N % 256 ^ k + v * 256 ^ k + N / 256 ^ (k + 1) * 256 ^ (k + 1)
theorem andmask {N k : Nat} (hN : N < 2 ^ 64) (hk : k ≤ 7) : N &&& ((255 * 2 ^ (8 * k)) ^^^ (2 ^ 64 - 1)) = N % 2 ^ (8 * k) ||| N / 2 ^ (8 * k + 8) * 2 ^ (8 * k + 8) := by
  apply Nat.eq_of_testBit_eq
  intro i
  rw [Nat.testBit_and, Nat.testBit_xor, Nat.testBit_or, Nat.testBit_two_pow_sub_one, Nat.testBit_mul_two_pow, show (255 : Nat) = 2 ^ 8 - 1 from rfl, Nat.testBit_two_pow_sub_one, Nat.testBit_mod_two_pow, Nat.testBit_mul_two_pow, Nat.testBit_div_two_pow]
  rcases Nat.lt_or_ge i 64 with h | h
  · by_cases h1 : 8 * k ≤ i
    · by_cases h2 : i < 8 * k + 8
      · simp [h, h1, h2, Nat.not_lt.mpr h1, show i - 8 * k < 8 by omega, show ¬ 8 * k + 8 ≤ i by omega]
      · simp [h, h1, Nat.not_lt.mpr h1, show ¬ i - 8 * k < 8 by omega, show 8 * k + 8 ≤ i by omega, show i - (8 * k + 8) + (8 * k + 8) = i by omega]
    · simp [h, h1, Nat.lt_of_not_le h1, show ¬ 8 * k + 8 ≤ i by omega]
  · have hz : N.testBit i = false := Nat.testBit_lt_two_pow (Nat.lt_of_lt_of_le hN (Nat.pow_le_pow_right (by omega) h))
    by_cases h2 : 8 * k + 8 ≤ i
    · simp [hz, show i - (8 * k + 8) + (8 * k + 8) = i by omega]
    · simp [hz, h2]
theorem withC_eq {N k v : Nat} (hN : N < 9223372036854775808) (hk : k ≤ 7) (hv : v < 256) : ((lN N) &&& ((lN (255 * 2 ^ (8 * k))) ^^^ (-1))) ||| (lN (v * 2 ^ (8 * k))) = lN (withC N k v) := by
  rw [show (-1 : Int64) = lN (2 ^ 64 - 1) from by decide, show ∀ a b : Nat, lN a ^^^ lN b = lN (a ^^^ b) from fun a b => by
    show Int64.ofNat a ^^^ Int64.ofNat b = Int64.ofNat (a ^^^ b)
    apply Int64.toBitVec_inj.mp
    rw [Int64.toBitVec_xor, Int64.toBitVec_ofNat', Int64.toBitVec_ofNat', Int64.toBitVec_ofNat', BitVec.ofNat_xor], e_andL, andmask (by omega) hk, e_orL]
  congr 1
  have h1 : N % 2 ^ (8 * k) < 2 ^ (8 * k) := Nat.mod_lt _ (Nat.pow_pos (by omega))
  have h2 : v * 2 ^ (8 * k) + N % 2 ^ (8 * k) < 2 ^ (8 * k + 8) := by
    have h3 : (v + 1) * 2 ^ (8 * k) ≤ 256 * 2 ^ (8 * k) := Nat.mul_le_mul_right _ hv
    rw [Nat.pow_add, Nat.mul_comm (2 ^ (8 * k)) (2 ^ 8)]
    rw [Nat.succ_mul] at h3
    omega
  rw [Nat.or_assoc, Nat.or_comm (N / _ * _), ← Nat.or_assoc, or_add _ h1, or_add _ (by omega), withC, p256, show 2 ^ (8 * k + 8) = 256 ^ (k + 1) from by rw [← p256]; rfl]
section
variable {p : Program} {l : Launch} {e : Env} {R : Room} {s : State} {m : MethodId} {args : Array Value} {below : List Frame} {meth : Method} {c : Code} {H : Heap} {locs : List Loc} {cells slots : Nat} {Q : State → Prop} {pc : Nat} {ls : Array Slot}
theorem lv_evs {st : List Value} (st' : List Value) (h : st = st') (k : W p l e R s m args below meth c H locs cells slots Q (F0 m pc ls st')) : W p l e R s m args below meth c H locs cells slots Q (F0 m pc ls st) := by
  rw [h]; exact k
end
def tbits (v : Nat → Nat) (q : Nat) : Nat → Nat
  | 0 => 0
  | i + 1 => tbits v q i ||| (if tau i v q then 1 * 2 ^ i else 0)
/-- where the first stretch begins -/
def fstS (v : Nat → Nat) (s q : Nat) (z : Int) : Prop := (∃ a j : Nat, z = (a : Int) ∧ a + j < q ∧ sm v a (j + 1) = s ∧ ∀ x, x < a → ∀ j, x + j < q → sm v x (j + 1) ≠ s) ∨ (z = -6 ∧ ∀ x j, x + j < q → sm v x (j + 1) ≠ s)
/-- how long the shortest stretch is -/
def shtS (v : Nat → Nat) (s q : Nat) (z : Int) : Prop := (∃ a n : Nat, z = ((n + 1 : Nat) : Int) ∧ a + n < q ∧ sm v a (n + 1) = s ∧ ∀ i, i < n → ∀ x, x + i < q → sm v x (i + 1) ≠ s) ∨ (z = -6 ∧ ∀ x j, x + j < q → sm v x (j + 1) ≠ s)
