/-! the reference's state: one object and thirteen rows; pure pictures of its private methods -/
abbrev wM (mo : Nat) (ma : Nat) (mb : Nat) (mc : Nat) (md : Nat) (me : Nat) (mf : Nat) (mg : Nat) (mh : Nat) (mi : Nat) (mj : Nat) (mk : Nat) (ml : Nat) (mn : Nat) (cI : ClassId) (cZ : ClassId) (n : Nat) (q : Nat) (c : Nat) (w : Nat) (z : Nat) (ev : Nat) (num : Nat → Nat) (plc : Nat → Nat) (sig : Nat → Nat) (pad : Nat → Nat) (row : Nat → Nat) (dig : Nat → Nat) (far : Nat → Int32) (cfr : Nat → Nat) (cby : Nat → Nat) (que : Nat → Nat) (has : Nat → Nat) (img : Nat → Nat) (kep : Nat → Nat) : va_W := [(mo, .inr (4, [.int (nI n), .int (nI q), .ref ma, .ref mb, .int (nI c), .ref mc, .int (nI w), .ref md, .ref me, .int (nI z), .int (nI ev), .ref mf, .ref mg, .ref mh, .ref mi, .ref mj, .ref mk, .ref ml, .ref mn])), (ma, .inl (cI, 7, .inl (aN num))), (mb, .inl (cI, 7, .inl (aN plc))), (mc, .inl (cI, 12, .inl (aN sig))), (md, .inl (cI, 60, .inl (aN pad))), (me, .inl (cI, 8, .inl (aN row))), (mf, .inl (cI, 7, .inl (aN dig))), (mg, .inl (cI, 5040, .inl far)), (mh, .inl (cI, 5040, .inl (aN cfr))), (mi, .inl (cI, 5040, .inl (aN cby))), (mj, .inl (cI, 5040, .inl (aN que))), (mk, .inl (cI, 64, .inl (aN has))), (ml, .inl (cI, 64, .inl (aN img))), (mn, .inl (cZ, 2, .inl (aN kep)))]

theorem e_dec1 {a : Nat} (h : 1 ≤ a) : nI a + Int32.ofInt (-1) = nI (a - 1) := e_dec (k := 1) h
def isLet (c : Nat) : Bool := decide (c = 98 ∨ c = 112 ∨ c = 103 ∨ c = 120)
def lesR (k a b : Nat) : Bool := if k = 0 then decide (a < b) else if k = 1 then decide (a % 2 ≤ b % 2) else if k = 4 then decide (a % 2 ≠ b % 2) else (mlt a b || mlt b a)
theorem tau_les {k q : Nat} {v : Nat → Nat} (hk : k = 0 ∨ k = 1 ∨ k = 4 ∨ k = 5) : tau k v q = decide (∀ x, x < q - 1 → lesR k (v x) (v (x + 1)) = true) := by
  rcases hk with rfl | rfl | rfl | rfl
  · simp [tau, lesR]
  · show decide _ = decide _
    congr 1
    apply propext
    refine forall_congr' fun x => forall_congr' fun hx => ?_
    simp only [lesR]
    simp
    omega
  · simp [tau, lesR]
  · simp [tau, lesR]
def cq (g : Nat → Nat) : Nat → Nat
  | 0 => 0
  | i + 1 => cq g i + (if g i = 63 then 1 else 0)
theorem cq_le (g : Nat → Nat) : ∀ i, cq g i ≤ i
  | 0 => Nat.le_refl _
  | i + 1 => by have := cq_le g i; simp only [cq]; split <;> omega
/-- what the sign at i waits for: 0 a letter, else the letter that wants a digit; and how many ? came -/
def wnt (g : Nat → Nat) : Nat → Nat
  | 0 => 0
  | i + 1 => if wnt g i = 0 ∧ g i ≠ 114 then g i else 0
def fitS (g : Nat → Nat) (i : Nat) : Bool := if wnt g i = 0 then decide (g i = 114) || isLet (g i) else decide ((48 ≤ g i ∧ g i ≤ 57) ∨ (g i = 63 ∧ wnt g i ≠ 120 ∧ cq g (i + 1) < 4))
def fltG (g : Nat → Nat) : Nat → Option Nat
  | 0 => none
  | i + 1 => match fltG g i with
    | some k => some k
    | none => if fitS g i then none else some i
def fltZ (g : Nat → Nat) (n : Nat) : Int := match fltG g n with
  | some k => (k : Int)
  | none => if wnt g n = 0 then -6 else (n : Int)
theorem flt_go {g : Nat → Nat} {i : Nat} (h : fltG g i = none) (hf : fitS g i = true) : fltG g (i + 1) = none := by simp [fltG, h, hf]
theorem flt_at {g : Nat → Nat} {i : Nat} (h : fltG g i = none) (hf : fitS g i = false) : ∀ n, i < n → fltG g n = some i
  | 0, hn => absurd hn (Nat.not_lt_zero _)
  | n + 1, hn => by
    rcases Nat.lt_or_ge i n with q | q
    · simp [fltG, flt_at h hf n q]
    · obtain rfl : i = n := by omega
      simp [fltG, h, hf]
theorem fltZ_at {g : Nat → Nat} {i n : Nat} (h : fltG g i = none) (hf : fitS g i = false) (hn : i < n) : fltZ g n = (i : Int) := by simp [fltZ, flt_at h hf n hn]
def cpy (f g : Nat → Nat) (i : Nat) : Nat → Nat := fun k => if k < i then f k else g k
theorem cpy_0 (f g : Nat → Nat) : cpy f g 0 = g := by funext k; simp [cpy]
theorem cpy_s (f g : Nat → Nat) (i : Nat) : up (cpy f g i) i (f i) = cpy f g (i + 1) := by
  funext k
  simp only [up, cpy]
  by_cases h : k = i
  · subst h; simp
  · rw [if_neg h]
    by_cases h2 : k < i
    · rw [if_pos h2, if_pos (by omega)]
    · rw [if_neg h2, if_neg (by omega)]
def swp (i j : Nat) (f : Nat → Nat) : Nat → Nat := up (up f i (f j)) j (f i)
def breadF (p : Nat) (f : Nat → Nat) : Nat → Nat := fun k => if k = 0 then f p else if k ≤ p then f (k - 1) else f k
def brd (k p : Nat) (f : Nat → Nat) : Nat → Nat := fun j => if j = k then f p else if k < j ∧ j ≤ p then f (j - 1) else f j
theorem brd_p (p : Nat) (f : Nat → Nat) : brd p p f = f := by
  funext j
  simp only [brd]
  by_cases h : j = p
  · rw [if_pos h, h]
  · rw [if_neg h, if_neg (by omega)]
theorem brd_0 (p : Nat) (f : Nat → Nat) : brd 0 p f = breadF p f := by
  funext j
  simp only [brd, breadF]
  by_cases h : j = 0
  · rw [if_pos h, if_pos h]
  · rw [if_neg h, if_neg h]
    by_cases h2 : j ≤ p
    · rw [if_pos (by omega), if_pos h2]
    · rw [if_neg (by omega), if_neg h2]
theorem brd_s {k p : Nat} (f : Nat → Nat) (hk : k + 1 ≤ p) : swp (k + 1) k (brd (k + 1) p f) = brd k p f := by
  funext j
  simp only [swp, up, brd]
  by_cases h : j = k
  · subst h; simp
  · by_cases h2 : j = k + 1
    · subst h2
      rw [if_neg (by omega), if_pos rfl, if_neg (by omega), if_neg (by omega), if_neg (by omega), if_pos (by omega)]
      simp
    · rw [if_neg h, if_neg h2, if_neg h2, if_neg h]
      by_cases h3 : k < j ∧ j ≤ p
      · rw [if_pos (by omega), if_pos h3]
      · rw [if_neg (by omega), if_neg h3]
/-- from p to e: the others one on, who was at p stands at e -/
def pikeF (p e : Nat) (f : Nat → Nat) : Nat → Nat := fun j => if j = e then f p else if p ≤ j ∧ j < e then f (j + 1) else f j
theorem pikeF_p (p : Nat) (f : Nat → Nat) : pikeF p p f = f := by
  funext j
  simp only [pikeF]
  by_cases h : j = p
  · rw [if_pos h, h]
  · rw [if_neg h, if_neg (by omega)]
theorem pikeF_s {p e : Nat} (f : Nat → Nat) (h : p ≤ e) : swp e (e + 1) (pikeF p e f) = pikeF p (e + 1) f := by
  funext j
  simp only [swp, up, pikeF]
  by_cases h1 : j = e + 1
  · subst h1; simp
  · by_cases h2 : j = e
    · subst h2
      rw [if_neg h1, if_pos rfl, if_neg (by omega), if_neg (by omega), if_neg h1, if_pos (by omega)]
    · rw [if_neg h1, if_neg h2, if_neg h2, if_neg h1]
      by_cases h3 : p ≤ j ∧ j < e
      · rw [if_pos h3, if_pos (by omega)]
      · rw [if_neg h3, if_neg (by omega)]
def rainF (z : Nat) (f : Nat → Nat) : Nat → Nat := fun j => if j < z then f (z - 1 - j) else f j
def rnF (i z : Nat) (f : Nat → Nat) : Nat → Nat := fun j => if j < i ∨ (z - i ≤ j ∧ j < z) then f (z - 1 - j) else f j
theorem rnF_0 (z : Nat) (f : Nat → Nat) : rnF 0 z f = f := by
  funext j
  simp only [rnF]
  rw [if_neg (by omega)]
theorem rnF_e {i z : Nat} (f : Nat → Nat) (h : z / 2 ≤ i) (h2 : i ≤ z / 2) : rnF i z f = rainF z f := by
  funext j
  simp only [rnF, rainF]
  by_cases h3 : j < i ∨ (z - i ≤ j ∧ j < z)
  · rw [if_pos h3, if_pos (by omega)]
  · rw [if_neg h3]
    by_cases h4 : j < z
    · rw [if_pos h4, show z - 1 - j = j by omega]
    · rw [if_neg h4]
theorem rnF_s {i z : Nat} (f : Nat → Nat) (h : i < z / 2) : swp i (z - 1 - i) (rnF i z f) = rnF (i + 1) z f := by
  funext j
  simp only [swp, up, rnF]
  by_cases h1 : j = z - 1 - i
  · rw [if_pos h1, if_neg (by omega), if_pos (by omega), h1, show z - 1 - (z - 1 - i) = i by omega]
  · rw [if_neg h1]
    by_cases h2 : j = i
    · rw [if_pos h2, if_neg (by omega), if_pos (by omega), h2]
    · rw [if_neg h2]
      by_cases h3 : j < i ∨ (z - i ≤ j ∧ j < z)
      · rw [if_pos h3, if_pos (by omega)]
      · rw [if_neg h3, if_neg (by omega)]
/-- an event by its letter: can it be, and what becomes of the row and of how many there are -/
def hapC (a p z : Nat) : Bool := decide (a = 114 ∨ (a = 103 ∧ p + 1 < z) ∨ (a = 120 ∧ p < z ∧ 1 < z) ∨ ((a = 98 ∨ a = 112) ∧ p < z))
def hapR (a p z : Nat) (f : Nat → Nat) : Nat → Nat := if hapC a p z then (if a = 114 then rainF z f else if a = 98 then breadF p f else if a = 112 then pikeF p (z - 1) f else if a = 103 then swp p (p + 1) f else pikeF p (z - 1) f) else f
def hapZ (a p z : Nat) : Nat := if hapC a p z ∧ a = 120 then z - 1 else z
def fac : Nat → Nat
  | 0 => 1
  | n + 1 => fac n * (n + 1)
theorem prm_st {b : Bool} {v d : Nat} (hp : b = true ↔ (2 ≤ v ∧ ∀ k, 2 ≤ k → k < d → v % k ≠ 0)) (hb : b = true) (h : ¬ v % d ≤ 0) : true = true ↔ (2 ≤ v ∧ ∀ k, 2 ≤ k → k < d + 1 → v % k ≠ 0) :=
  ⟨fun _ => ⟨(hp.mp hb).1, fun k h2 hk => (Nat.lt_or_ge k d).elim (fun q => (hp.mp hb).2 k h2 q) (fun q => by obtain rfl : k = d := (by omega); omega)⟩, fun _ => rfl⟩
theorem prm_sf {b : Bool} {v d : Nat} (_ : b = true ↔ (2 ≤ v ∧ ∀ k, 2 ≤ k → k < d → v % k ≠ 0)) (_ : b = true) (h : v % d ≤ 0) (hd : 2 ≤ d) : false = true ↔ (2 ≤ v ∧ ∀ k, 2 ≤ k → k < d + 1 → v % k ≠ 0) :=
  ⟨fun h => (by cases h), fun hh => absurd (hh.2 d hd (by omega)) (by omega)⟩
theorem prm_sn {b : Bool} {v d : Nat} (hp : b = true ↔ (2 ≤ v ∧ ∀ k, 2 ≤ k → k < d → v % k ≠ 0)) (hb : b = false) : false = true ↔ (2 ≤ v ∧ ∀ k, 2 ≤ k → k < d + 1 → v % k ≠ 0) :=
  ⟨fun h => (by cases h), fun hh => by rw [hb] at hp; exact hp.mpr ⟨hh.1, fun k h2 hk => hh.2 k h2 (by omega)⟩⟩
theorem prm_ex {b : Bool} {v d : Nat} (hp : b = true ↔ (2 ≤ v ∧ ∀ k, 2 ≤ k → k < d → v % k ≠ 0)) (hs : ∀ k, 2 ≤ k → k < d → k * k ≤ v) (h : v < d * d) : b = prm v := by
  cases hb : b with
  | true => exact (prm_t (hp.mp hb).1 h (hp.mp hb).2).symm
  | false =>
    refine (decide_eq_false fun hh => ?_).symm
    have : b = true := hp.mpr ⟨hh.1, fun k h2 hk => hh.2 k (by have := hs k h2 hk; have := Nat.mul_le_mul_right k h2; omega) h2 (hs k h2 hk)⟩
    rw [this] at hb; cases hb
theorem les_n {b : Bool} {i : Nat} {Q : Nat → Bool} (hb : b = true ↔ ∀ x, x < i → Q x = true) (h : b = false) : false = true ↔ ∀ x, x < i + 1 → Q x = true :=
  ⟨fun h => (by cases h), fun hh => by rw [h] at hb; exact hb.mpr fun x hx => hh x (by omega)⟩
theorem les_f {b : Bool} {i : Nat} {Q : Nat → Bool} (_ : b = true ↔ ∀ x, x < i → Q x = true) (_ : b = true) (h : Q i = false) : false = true ↔ ∀ x, x < i + 1 → Q x = true :=
  ⟨fun h => (by cases h), fun hh => by rw [hh i (by omega)] at h; cases h⟩
theorem les_t {b : Bool} {i : Nat} {Q : Nat → Bool} (hb : b = true ↔ ∀ x, x < i → Q x = true) (h : b = true) (h2 : Q i = true) : true = true ↔ ∀ x, x < i + 1 → Q x = true :=
  ⟨fun _ x hx => (Nat.lt_or_ge x i).elim (fun q => hb.mp h x q) (fun q => by obtain rfl : x = i := (by omega); exact h2), fun _ => rfl⟩
