/-! counting: how many numbers below do, the least one -/
def cnT (P : Nat → Bool) : Nat → Nat
  | 0 => 0
  | i + 1 => cnT P i + (if P i then 1 else 0)
theorem cnT_le (P : Nat → Bool) : ∀ i, cnT P i ≤ i
  | 0 => Nat.le_refl _
  | i + 1 => by have := cnT_le P i; simp only [cnT]; split <;> omega
theorem cnT_cong {P Q : Nat → Bool} : ∀ i, (∀ x, x < i → P x = Q x) → cnT P i = cnT Q i
  | 0, _ => rfl
  | i + 1, h => by rw [cnT, cnT, cnT_cong i (fun x hx => h x (by omega)), h i (by omega)]
def fsZ (P : Nat → Bool) : Nat → Int
  | 0 => -6
  | i + 1 => if fsZ P i < 0 ∧ P i = true then (i : Int) else fsZ P i
def fsN (P : Nat → Bool) : Nat → Nat
  | 0 => 0
  | i + 1 => if cnT P i = 0 ∧ P i = true then i else fsN P i
theorem fsZ_bd (P : Nat → Bool) : ∀ i, -6 ≤ fsZ P i ∧ fsZ P i ≤ i
  | 0 => by simp [fsZ]
  | i + 1 => by have := fsZ_bd P i; simp only [fsZ]; split <;> omega
theorem fsN_bd (P : Nat → Bool) : ∀ i, fsN P i ≤ i
  | 0 => by simp [fsN]
  | i + 1 => by have := fsN_bd P i; simp only [fsN]; split <;> omega
theorem cnT_list (P : Nat → Bool) : ∀ i, cnT P i = ((List.range i).filter P).length
  | 0 => rfl
  | i + 1 => by
    rw [cnT, List.range_succ, List.filter_append, List.length_append, cnT_list P i]
    congr 1
    cases h : P i <;> simp [h]
theorem fsZ_list (P : Nat → Bool) : ∀ i, fsZ P i = match ((List.range i).filter P).head? with | none => -6 | some x => (x : Int)
  | 0 => rfl
  | i + 1 => by
    rw [fsZ, List.range_succ, List.filter_append, fsZ_list P i]
    cases h : (List.range i).filter P with
    | nil => cases h2 : P i <;> simp [h2]
    | cons a t =>
      show (if ((a : Nat) : Int) < 0 ∧ P i = true then (i : Int) else ((a : Nat) : Int)) = ((a : Nat) : Int)
      exact if_neg (fun h9 => by omega)
theorem fsN_list (P : Nat → Bool) : ∀ i, fsN P i = match ((List.range i).filter P).head? with | none => 0 | some x => x
  | 0 => rfl
  | i + 1 => by
    rw [fsN, List.range_succ, List.filter_append, fsN_list P i, cnT_list]
    cases h : (List.range i).filter P with
    | nil => cases h2 : P i <;> simp [h2]
    | cons a t => simp
/-! pikes -/
def pkR (q : Nat) (plc : Nat → Nat) (fill : Nat) : Nat → Nat → Nat
  | 0 => plc
  | i + 1 => pikeF (dg q fill i) (q - 1) (pkR q plc fill i)
theorem pkR_in {q : Nat} {plc : Nat → Nat} {fill : Nat} {P : Nat → Prop} (hq : 1 ≤ q) (h : ∀ k, k < q → P (plc k)) : ∀ i k, k < q → P (pkR q plc fill i k)
  | 0 => h
  | i + 1 => fun k hk => by
    have hd := dg_lt (b := q) (by omega) fill i
    have ih := pkR_in (fill := fill) hq h i
    simp only [pkR, pikeF]
    split
    · exact ih _ hd
    · split
      · exact ih _ (by omega)
      · exact ih _ hk
def pkT (num plc : Nat → Nat) (k q m : Nat) (fill : Nat) : Bool := tau k (fun p => num (pkR q plc fill m p)) q
def pkG (num plc : Nat → Nat) (k q m : Nat) : Nat := Nat.gcd (cnT (pkT num plc k q m) (q ^ m)) (q ^ m)
abbrev pikOk (a b e : Int) : Prop := (0 ≤ a ∧ a ≤ 6) ∧ (0 ≤ b ∧ b ≤ 3) ∧ (0 ≤ e ∧ e ≤ 1)
def pikJ (num plc : Nat → Nat) (q : Nat) (a b e : Int) : Int64 := if pikOk a b e then lN ((if e = 0 then cnT (pkT num plc a.toNat q b.toNat) (q ^ b.toNat) else q ^ b.toNat) / pkG num plc a.toNat q b.toNat) else (-1000000000000000002)
theorem qm_bd {q m : Nat} (hq1 : 1 ≤ q) (hq : q ≤ 7) (hm : m ≤ 3) : 1 ≤ q ^ m ∧ q ^ m ≤ 343 :=
  ⟨Nat.pow_pos hq1, Nat.le_trans (Nat.pow_le_pow_left hq m) (Nat.le_trans (Nat.pow_le_pow_right (n := 7) (by omega) hm) (by decide))⟩
theorem qm_s {q i m : Nat} (hq : 1 ≤ q) (h : i ≤ m) : q ^ i ≤ q ^ m := Nat.pow_le_pow_right hq h
theorem gcd_s {x y g : Nat} (h : Nat.gcd x y = g) : Nat.gcd y (x % y) = g := by rw [← h, Nat.gcd_comm x y, Nat.gcd_rec y x, Nat.gcd_comm]
theorem gcd_z {x g : Nat} (h : Nat.gcd x 0 = g) : x = g := by rw [← h, Nat.gcd_zero_right]
theorem dg_qs (q fill i : Nat) : fill / q ^ i / q = fill / q ^ (i + 1) := by rw [Nat.div_div_eq_div_mul, Nat.pow_succ]
/-- the greater one halves in two rounds -/
theorem cd_s {G l k : Nat} (h : G * l * 2 ^ k ≤ 117649) (hl : 0 < l) (hle : l ≤ G) : l * (G % l) * 2 ^ (k + 1) ≤ 117649 := by
  have h1 : G % l < l := Nat.mod_lt _ hl
  have h2 : 2 * (G % l) ≤ G := by
    have h3 := Nat.div_add_mod G l
    have h4 : 1 ≤ G / l := Nat.div_pos hle hl
    have h5 : l * 1 ≤ l * (G / l) := Nat.mul_le_mul_left l h4
    omega
  have h6 : l * (G % l) * 2 ^ (k + 1) = (2 * (G % l)) * l * 2 ^ k := by
    rw [Nat.pow_succ, Nat.mul_comm l, Nat.mul_comm (2 ^ k) 2, ← Nat.mul_assoc, Nat.mul_comm (G % l * l) 2, ← Nat.mul_assoc]
  rw [h6]
  exact Nat.le_trans (Nat.mul_le_mul_right _ (Nat.mul_le_mul_right l h2)) h
theorem cd_e {G l : Nat} (h : G * l * 2 ^ 64 ≤ 117649) (hl : 0 < l) (hle : l ≤ G) : False := by
  have h1 : 1 * 1 ≤ G * l := Nat.mul_le_mul (by omega) hl
  omega
theorem cd_0 {a b : Nat} (ha : a ≤ 343) (hb : b ≤ 343) : b * a * 2 ^ 0 ≤ 117649 := by
  have h1 : b * a ≤ 343 * 343 := Nat.mul_le_mul hb ha
  omega
/-! years -/
def yx (seed : Nat) : Nat → Nat
  | 0 => seed
  | k + 1 => (75 * yx seed k + 74) % 65537
def yrow (q : Nat) (plc : Nat → Nat) (seed : Nat) : Nat → Nat → Nat
  | 0 => plc
  | k + 1 => if yx seed (k + 1) % 2 = 0 then breadF (yx seed (k + 1) / 2 % q) (yrow q plc seed k) else pikeF (yx seed (k + 1) / 2 % q) (q - 1) (yrow q plc seed k)
theorem yrow_in {q : Nat} {plc : Nat → Nat} {seed : Nat} {P : Nat → Prop} (hq : 1 ≤ q) (h : ∀ k, k < q → P (plc k)) : ∀ i k, k < q → P (yrow q plc seed i k)
  | 0 => h
  | i + 1 => fun k hk => by
    have hd : yx seed (i + 1) / 2 % q < q := Nat.mod_lt _ hq
    have ih := yrow_in (seed := seed) hq h i
    simp only [yrow]
    split
    · simp only [breadF]
      split
      · exact ih _ hd
      · split
        · exact ih _ (by omega)
        · exact ih _ hk
    · simp only [pikeF]
      split
      · exact ih _ hd
      · split
        · exact ih _ (by omega)
        · exact ih _ hk
theorem yx_lt {seed : Nat} (h : seed < 65537) : ∀ k, yx seed k < 65537
  | 0 => h
  | k + 1 => Nat.mod_lt _ (by omega)
def yrP (num plc : Nat → Nat) (q seed : Nat) (e : Int) (k : Nat) : Bool := if 10 ≤ e then decide ((yrow q plc seed (k + 1) 0 : Int) = e - 10) else tau e.toNat (fun p => num (yrow q plc seed (k + 1) p)) q
abbrev yrOk (n : Nat) (a b e : Int) : Prop := (0 ≤ a ∧ a ≤ 9999) ∧ (1 ≤ b ∧ b ≤ 99) ∧ ((0 ≤ e ∧ e ≤ 6) ∨ (10 ≤ e ∧ e < 10 + n))
def yrZ (num plc : Nat → Nat) (n q : Nat) (a b e : Int) : Int := if yrOk n a b e then (cnT (yrP num plc q a.toNat e) b.toNat : Int) else -2
/-! what can stand for the gaps -/
def filP (D pad : Nat → Nat) (w : Nat) (plc : Nat → Nat) (q : Nat) (sig : Nat → Nat) (c : Nat) : Bool :=
  decide (dayZ D pad plc q (evn pad w) = -6 ∧ ∀ k, k < c → sig (2 * k + 1) < (dst D pad plc q (evn pad w)).2 ∧ (dst D pad plc q (evn pad w)).1 (sig (2 * k + 1)) = sig (2 * k))
def filX (pad : Nat → Nat) (w : Nat) (plc : Nat → Nat) (q : Nat) (sig : Nat → Nat) (c b : Nat) (code : Nat) : Bool := filP (fun j => dg b code (cq pad w - 1 - j)) pad w plc q sig c
theorem filX_t {pad plc sig : Nat → Nat} {w q c b code : Nat} (h1 : dayZ (fun j => dg b code (cq pad w - 1 - j)) pad plc q (evn pad w) = -6)
    (h2 : ∀ k, k < c → sig (2 * k + 1) < (dst (fun j => dg b code (cq pad w - 1 - j)) pad plc q (evn pad w)).2 ∧ (dst (fun j => dg b code (cq pad w - 1 - j)) pad plc q (evn pad w)).1 (sig (2 * k + 1)) = sig (2 * k)) : filX pad w plc q sig c b code = true := decide_eq_true ⟨h1, h2⟩
theorem filX_e {pad plc sig : Nat → Nat} {w q c b code : Nat} (h : filX pad w plc q sig c b code = true) : dayZ (fun j => dg b code (cq pad w - 1 - j)) pad plc q (evn pad w) = -6 ∧
    ∀ k, k < c → sig (2 * k + 1) < (dst (fun j => dg b code (cq pad w - 1 - j)) pad plc q (evn pad w)).2 ∧ (dst (fun j => dg b code (cq pad w - 1 - j)) pad plc q (evn pad w)).1 (sig (2 * k + 1)) = sig (2 * k) := of_decide_eq_true h
def filB (pad : Nat → Nat) (w : Nat) (plc : Nat → Nat) (q : Nat) (sig : Nat → Nat) (c b : Nat) (a : Int) : Int :=
  if fltZ pad w = -6 then
    (if a = -1 then (cnT (filX pad w plc q sig c b) (b ^ cq pad w) : Int)
     else if 0 ≤ a ∧ a < cq pad w ∧ cnT (filX pad w plc q sig c b) (b ^ cq pad w) ≠ 0 then (dg b (fsN (filX pad w plc q sig c b) (b ^ cq pad w)) (cq pad w - 1 - a.toNat) : Int) else -6)
  else -5
theorem fs_c (P : Nat → Bool) (i : Nat) : (fsZ P i < 0 ↔ cnT P i = 0) ∧ (cnT P i ≠ 0 → fsZ P i = (fsN P i : Int)) := by
  rw [fsZ_list, cnT_list, fsN_list]
  cases h : (List.range i).filter P with
  | nil => simp
  | cons a t => simp <;> omega
theorem t10_bd {o : Nat} (ho : o ≤ 3) : 1 ≤ 10 ^ o ∧ 10 ^ o ≤ 1000 :=
  ⟨Nat.pow_pos (by omega), Nat.le_trans (Nat.pow_le_pow_right (n := 10) (by omega) ho) (by decide)⟩
/-- the whole numbers whose first digits by ten are below q are those by q -/
def digT (q fill : Nat) : Nat → Nat
  | 0 => 0
  | o + 1 => digT q (fill / q) o * 10 + fill % q
theorem filT : ∀ q, q < 8 → ∀ o, o < 4 → (List.range (10 ^ o)).filter (fun x => (List.range o).all (fun j => decide (dg 10 x j < q))) = (List.range (q ^ o)).map (fun x => digT q x o) := by decide +kernel
theorem digD : ∀ q, q < 8 → ∀ o, o < 4 → (List.range (q ^ o)).all (fun x => (List.range o).all (fun j => decide (dg 10 (digT q x o) j = dg q x j))) = true := by decide +kernel
theorem opd_cong {D D2 g : Nat → Nat} {k : Nat} (h : g (k + 1) = 63 → D (cq g (k + 1)) = D2 (cq g (k + 1))) : opd D g k = opd D2 g k := by
  unfold opd
  split
  · rfl
  · split
    · rename_i h2; exact h h2
    · rfl
theorem day_D {D D2 g f : Nat → Nat} {w q E : Nat} (hw : wfD g w E) (h : ∀ j, j < cq g w → D j = D2 j) : ∀ e, e ≤ E → dst D g f q e = dst D2 g f q e ∧ dayG D g f q e = dayG D2 g f q e
  | 0, _ => ⟨rfl, rfl⟩
  | e + 1, he => by
    obtain ⟨h1, h2⟩ := day_D hw h e (by omega)
    have ho : opd D g (pos g e) = opd D2 g (pos g e) := by
      by_cases hr : g (pos g e) = 114
      · unfold opd; rw [if_pos hr, if_pos hr]
      · refine opd_cong fun h63 => h _ ?_
        have h3 := (hw.2 e (by omega)).2 hr
        have h4 : cq g (pos g e + 1 + 1) ≤ cq g w := cq_mon (by omega)
        have h5 : cq g (pos g e + 1 + 1) = cq g (pos g e + 1) + 1 := by simp [cq, h63]
        omega
    have hk : okE D g f q e = okE D2 g f q e := by simp only [okE]; rw [ho, h1]
    refine ⟨by simp only [dst]; rw [ho, h1], by simp only [dayG, h2, hk]⟩
theorem filP_D {D D2 pad plc sig : Nat → Nat} {w q c : Nat} (hw : wfD pad w (evn pad w)) (h : ∀ j, j < cq pad w → D j = D2 j) : filP D pad w plc q sig c = filP D2 pad w plc q sig c := by
  obtain ⟨h1, h2⟩ := day_D (f := plc) (q := q) hw h (evn pad w) (Nat.le_refl _)
  unfold filP dayZ
  rw [h1, h2]
/-- a place beyond the row can't be -/
theorem hapC_q {a p z : Nat} (h : hapC a p z = true) (ha : a ≠ 114) : p < z := by
  have := of_decide_eq_true h
  omega
theorem day_q {D g f : Nat → Nat} {w q E : Nat} (hw : wfD g w E) : ∀ e, e ≤ E → dayG D g f q e = none → ∀ j, j < cq g (pos g e) → D j < q
  | 0, _, _ => fun j hj => absurd hj (Nat.not_lt_zero _)
  | e + 1, he, h => by
    have h0 : dayG D g f q e = none := by
      cases hx : dayG D g f q e with
      | none => rfl
      | some k => simp [dayG, hx] at h
    have hk : okE D g f q e = true := by
      cases hx : okE D g f q e with
      | true => rfl
      | false => simp [dayG, h0, hx] at h
    have ih := day_q hw e (by omega) h0
    obtain ⟨hlet, hop⟩ := hw.2 e (by omega)
    intro j hj
    by_cases hr : g (pos g e) = 114
    · rw [pos_sr hr, cq_s (by omega)] at hj
      exact ih j hj
    · rw [pos_sw hr, cq_2 (by omega)] at hj
      by_cases h63 : g (pos g e + 1) = 63
      · rw [if_pos h63] at hj
        rcases Nat.lt_or_ge j (cq g (pos g e)) with x | x
        · exact ih j x
        · have hjj : j = cq g (pos g e) := by omega
          have h9 := hapC_q hk hr
          rw [opd, if_neg hr, if_pos h63, cq_s (by omega), ← hjj] at h9
          have hz : (dst D g f q e).2 ≤ q := by
            have : ∀ e, (dst D g f q e).2 ≤ q := by
              intro e
              induction e with
              | zero => exact Nat.le_refl _
              | succ e ih => exact Nat.le_trans (hapZ_le _ _ _) ih
            exact this e
          omega
      · rw [if_neg h63, Nat.add_zero] at hj
        exact ih j hj
theorem filP_q {D pad plc sig : Nat → Nat} {w q c : Nat} (hw : wfD pad w (evn pad w)) (h : filP D pad w plc q sig c = true) : ∀ j, j < cq pad w → D j < q := by
  have h1 := (of_decide_eq_true h).1
  have h2 := day_q hw (evn pad w) (Nat.le_refl _) (dayZ_m6 h1)
  rwa [hw.1] at h2
theorem fil_map {pad plc sig : Nat → Nat} {w q c : Nat} (hw : wfD pad w (evn pad w)) (hq : q < 8) (ho : cq pad w < 4) :
    (List.range (10 ^ cq pad w)).filter (filX pad w plc q sig c 10) = ((List.range (q ^ cq pad w)).filter (filX pad w plc q sig c q)).map (fun x => digT q x (cq pad w)) := by
  have e1 : (List.range (10 ^ cq pad w)).filter (filX pad w plc q sig c 10) = ((List.range (10 ^ cq pad w)).filter (fun x => (List.range (cq pad w)).all (fun j => decide (dg 10 x j < q)))).filter (filX pad w plc q sig c 10) := by
    rw [List.filter_filter]
    refine List.filter_congr fun x _ => ?_
    cases hx : filX pad w plc q sig c 10 x with
    | false => rfl
    | true =>
      have h1 := filP_q hw hx
      symm
      rw [Bool.true_and]
      refine List.all_eq_true.mpr fun j hj => decide_eq_true ?_
      have hj2 := List.mem_range.mp hj
      have h2 := h1 (cq pad w - 1 - j) (by omega)
      rwa [show cq pad w - 1 - (cq pad w - 1 - j) = j by omega] at h2
  rw [e1, filT q hq _ ho, List.filter_map]
  congr 1
  refine List.filter_congr fun x hx => ?_
  have h1 := List.all_eq_true.mp (List.all_eq_true.mp (digD q hq _ ho) x hx)
  show filX pad w plc q sig c 10 (digT q x (cq pad w)) = _
  refine filP_D hw fun j hj => ?_
  exact of_decide_eq_true (h1 _ (List.mem_range.mpr (by omega)))
theorem fil_eq {pad plc sig : Nat → Nat} {w q c : Nat} (hq : q < 8) (a : Int) : filB pad w plc q sig c 10 a = filB pad w plc q sig c q a := by
  unfold filB
  by_cases hf : fltZ pad w = -6
  · have hw := wf_evn hf
    have ho := cq_3 (fltZ_m6 hf).1
    have hm := fil_map (plc := plc) (sig := sig) (c := c) hw hq (by omega : cq pad w < 4)
    have hc : cnT (filX pad w plc q sig c 10) (10 ^ cq pad w) = cnT (filX pad w plc q sig c q) (q ^ cq pad w) := by rw [cnT_list, cnT_list, hm, List.length_map]
    rw [if_pos hf, if_pos hf, hc]
    by_cases ha : a = -1
    · rw [if_pos ha, if_pos ha]
    · rw [if_neg ha, if_neg ha]
      by_cases hb : 0 ≤ a ∧ a < cq pad w ∧ cnT (filX pad w plc q sig c q) (q ^ cq pad w) ≠ 0
      · rw [if_pos hb, if_pos hb, fsN_list, fsN_list, hm]
        have h3 := hb.2.2
        rw [cnT_list] at h3
        cases hl : (List.range (q ^ cq pad w)).filter (filX pad w plc q sig c q) with
        | nil => rw [hl] at h3; exact absurd rfl h3
        | cons x t =>
          have hx : x ∈ List.range (q ^ cq pad w) := by
            have : x ∈ (List.range (q ^ cq pad w)).filter (filX pad w plc q sig c q) := by rw [hl]; exact List.mem_cons_self
            exact (List.mem_filter.mp this).1
          have h1 := List.all_eq_true.mp (List.all_eq_true.mp (digD q hq _ (by omega : cq pad w < 4)) x hx)
          have h2 := of_decide_eq_true (h1 (cq pad w - 1 - a.toNat) (List.mem_range.mpr (by omega)))
          simp only [List.map_cons, List.head?_cons]
          rw [h2]
      · rw [if_neg hb, if_neg hb]
  · rw [if_neg hf, if_neg hf]
