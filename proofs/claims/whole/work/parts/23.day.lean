/-! a day on the pad: its events by number, the places that they name, what becomes of the row -/
theorem wnt_lt {g : Nat → Nat} {w c : Nat} (h : ∀ k, k < w → g k < c) (hc : 0 < c) : ∀ i, i ≤ w → wnt g i < c
  | 0, _ => hc
  | i + 1, hi => by
    simp only [wnt]
    split
    · exact h i (by omega)
    · exact hc
def nxt (g : Nat → Nat) (k : Nat) : Nat := if g k = 114 then k + 1 else k + 2
def pos (g : Nat → Nat) : Nat → Nat
  | 0 => 0
  | e + 1 => nxt g (pos g e)
theorem pos_ge (g : Nat → Nat) : ∀ e, e ≤ pos g e
  | 0 => Nat.le_refl _
  | e + 1 => by have := pos_ge g e; simp only [pos, nxt]; split <;> omega
theorem pos_mono (g : Nat → Nat) {a : Nat} : ∀ b, a < b → pos g a < pos g b
  | 0, h => absurd h (Nat.not_lt_zero _)
  | b + 1, h => by
    have h1 : pos g b < pos g (b + 1) := by simp only [pos, nxt]; split <;> omega
    rcases Nat.lt_or_ge a b with q | q
    · exact Nat.lt_trans (pos_mono g b q) h1
    · obtain rfl : a = b := by omega
      exact h1
def opd (D : Nat → Nat) (g : Nat → Nat) (k : Nat) : Nat := if g k = 114 then 0 else if g (k + 1) = 63 then D (cq g (k + 1)) else g (k + 1) - 48
def dst (D : Nat → Nat) (g f : Nat → Nat) (q : Nat) : Nat → (Nat → Nat) × Nat
  | 0 => (f, q)
  | e + 1 => (hapR (g (pos g e)) (opd D g (pos g e)) (dst D g f q e).2 (dst D g f q e).1, hapZ (g (pos g e)) (opd D g (pos g e)) (dst D g f q e).2)
def okE (D : Nat → Nat) (g f : Nat → Nat) (q e : Nat) : Bool := hapC (g (pos g e)) (opd D g (pos g e)) (dst D g f q e).2
def dayG (D : Nat → Nat) (g f : Nat → Nat) (q : Nat) : Nat → Option Nat
  | 0 => none
  | e + 1 => match dayG D g f q e with
    | some k => some k
    | none => if okE D g f q e then none else some e
/-- the first event that can not be, or none; how many were -/
def dayZ (D : Nat → Nat) (g f : Nat → Nat) (q E : Nat) : Int := match dayG D g f q E with
  | some k => (k : Int)
  | none => -6
def dayN (D : Nat → Nat) (g f : Nat → Nat) (q E : Nat) : Nat := match dayG D g f q E with
  | some k => k
  | none => E
theorem day_go {D g f : Nat → Nat} {q i : Nat} (h : dayG D g f q i = none) (hf : okE D g f q i = true) : dayG D g f q (i + 1) = none := by simp [dayG, h, hf]
theorem day_at {D g f : Nat → Nat} {q i : Nat} (h : dayG D g f q i = none) (hf : okE D g f q i = false) : ∀ n, i < n → dayG D g f q n = some i
  | 0, hn => absurd hn (Nat.not_lt_zero _)
  | n + 1, hn => by
    rcases Nat.lt_or_ge i n with x | x
    · simp [dayG, day_at h hf n x]
    · obtain rfl : i = n := by omega
      simp [dayG, h, hf]
/-- a pad without fault: E events, and what stands where -/
def wfD (g : Nat → Nat) (w E : Nat) : Prop := pos g E = w ∧ ∀ e, e < E → (g (pos g e) = 98 ∨ g (pos g e) = 112 ∨ g (pos g e) = 103 ∨ g (pos g e) = 120 ∨ g (pos g e) = 114) ∧ (g (pos g e) ≠ 114 → pos g e + 1 < w ∧ ((48 ≤ g (pos g e + 1) ∧ g (pos g e + 1) ≤ 57) ∨ g (pos g e + 1) = 63))
theorem hapZ_le (a p z : Nat) : hapZ a p z ≤ z := by simp only [hapZ]; split <;> omega
theorem hapZ_pos {a p z : Nat} (h : 1 ≤ z) : 1 ≤ hapZ a p z := by
  simp only [hapZ]
  split
  · rename_i hh
    have := of_decide_eq_true hh.1
    omega
  · exact h
theorem dst_z {D g f : Nat → Nat} {q : Nat} (hq : 1 ≤ q) : ∀ e, 1 ≤ (dst D g f q e).2 ∧ (dst D g f q e).2 ≤ q
  | 0 => ⟨hq, Nat.le_refl _⟩
  | e + 1 => by
    have h := dst_z (D := D) (g := g) (f := f) hq e
    exact ⟨hapZ_pos h.1, Nat.le_trans (hapZ_le _ _ _) h.2⟩
theorem hapR_in {a p z : Nat} {f : Nat → Nat} {P : Nat → Prop} (h : ∀ k, k < z → P (f k)) : ∀ k, k < hapZ a p z → P (hapR a p z f k) := by
  intro k hk
  have hz := hapZ_le a p z
  by_cases hc : hapC a p z = true
  · have hd := of_decide_eq_true hc
    rw [hapR, if_pos hc]
    by_cases h1 : a = 114
    · rw [if_pos h1, rainF, if_pos (by omega)]; exact h _ (by omega)
    · rw [if_neg h1]
      by_cases h2 : a = 98
      · rw [if_pos h2, breadF]
        split
        · exact h _ (by omega)
        · split
          · exact h _ (by omega)
          · exact h _ (by omega)
      · rw [if_neg h2]
        by_cases h3 : a = 112
        · rw [if_pos h3, pikeF]
          split
          · exact h _ (by omega)
          · split
            · exact h _ (by omega)
            · exact h _ (by omega)
        · rw [if_neg h3]
          by_cases h4 : a = 103
          · rw [if_pos h4, swp, up]
            split
            · exact h _ (by omega)
            · rw [up]
              split
              · exact h _ (by omega)
              · exact h _ (by omega)
          · rw [if_neg h4, pikeF]
            rw [hapZ, if_pos ⟨hc, by omega⟩] at hk
            rw [if_neg (by omega)]
            split
            · exact h _ (by omega)
            · exact h _ (by omega)
  · rw [hapR, if_neg hc]
    exact h k (by omega)
theorem dst_in {D g f : Nat → Nat} {q : Nat} {P : Nat → Prop} (h : ∀ k, k < q → P (f k)) : ∀ e k, k < (dst D g f q e).2 → P ((dst D g f q e).1 k)
  | 0 => h
  | e + 1 => hapR_in (dst_in h e)
theorem cq_s {g : Nat → Nat} {k : Nat} (h : g k ≠ 63) : cq g (k + 1) = cq g k := by simp [cq, h]
theorem cq_mono (g : Nat → Nat) (a : Nat) : ∀ b, cq g a ≤ cq g (a + b)
  | 0 => Nat.le_refl _
  | b + 1 => by
    have := cq_mono g a b
    rw [← Nat.add_assoc]
    simp only [cq]
    omega
theorem cq_mon {g : Nat → Nat} {a b : Nat} (h : a ≤ b) : cq g a ≤ cq g b := by
  have := cq_mono g a (b - a)
  rwa [show a + (b - a) = b by omega] at this
/-- no fault: the events -/
theorem nofault {g : Nat → Nat} {w : Nat} (h : fltG g w = none) (h0 : wnt g w = 0) : ∃ E, wfD g w E := by
  have all : ∀ i, i ≤ w → fltG g i = none := by
    intro i hi
    cases hx : fltG g i with
    | none => rfl
    | some k =>
      have : ∀ j, fltG g (i + j) = some k := by
        intro j
        induction j with
        | zero => exact hx
        | succ j ih => rw [← Nat.add_assoc, fltG, ih]
      rw [← h, ← this (w - i)]
      congr 1
      omega
  have fit : ∀ i, i < w → fitS g i = true := by
    intro i hi
    have h1 := all i (by omega)
    have h2 := all (i + 1) (by omega)
    cases hb : fitS g i with
    | true => rfl
    | false => simp [fltG, h1, hb] at h2
  have step : ∀ e, pos g e ≤ w → wnt g (pos g e) = 0 := by
    intro e
    induction e with
    | zero => intro _; rfl
    | succ e ih =>
      intro he
      have hlt : pos g e < pos g (e + 1) := pos_mono g _ (Nat.lt_succ_self e)
      have i0 := ih (by omega)
      by_cases hr : g (pos g e) = 114
      · simp only [pos, nxt, hr, if_true, wnt]
        simp
      · simp only [pos, nxt, hr, if_false] at he ⊢
        have hf := fit (pos g e) (by omega)
        have h1 : wnt g (pos g e + 1) = g (pos g e) := by simp [wnt, i0, hr]
        have hl : g (pos g e) ≠ 0 := by
          simp [fitS, i0, hr, isLet] at hf
          omega
        show wnt g (pos g e + 1 + 1) = 0
        simp [wnt, h1, hl]
        intro hh
        omega
  have ex : ∀ n, ∀ e, pos g e ≤ w → w - pos g e < n → ∃ E, pos g E = w := by
    intro n
    induction n with
    | zero => intro e _ hn; exact absurd hn (Nat.not_lt_zero _)
    | succ n ih =>
      intro e he hn
      rcases Nat.lt_or_ge (pos g e) w with q | q
      · have hlt : pos g e < pos g (e + 1) := pos_mono g _ (Nat.lt_succ_self e)
        refine ih (e + 1) ?_ (by omega)
        by_cases hr : g (pos g e) = 114
        · simp only [pos, nxt, hr, if_true]; omega
        · simp only [pos, nxt, hr, if_false]
          rcases Nat.lt_or_ge (pos g e + 1) w with x | x
          · omega
          · have hw : w = pos g e + 1 := by omega
            have i0 := step e he
            have hf := fit (pos g e) q
            rw [hw] at h0
            simp [wnt, i0, hr] at h0
            simp [fitS, i0, hr, isLet, h0] at hf
      · exact ⟨e, by omega⟩
  obtain ⟨E, hE⟩ := ex (w + 1) 0 (Nat.zero_le _) (by show w - 0 < w + 1; omega)
  refine ⟨E, hE, fun e he => ?_⟩
  have hlt : pos g e < w := by rw [← hE]; exact pos_mono g _ he
  have i0 := step e (by omega)
  have hf := fit (pos g e) hlt
  have hlet : g (pos g e) = 98 ∨ g (pos g e) = 112 ∨ g (pos g e) = 103 ∨ g (pos g e) = 120 ∨ g (pos g e) = 114 := by
    simp [fitS, i0, isLet] at hf
    omega
  refine ⟨hlet, fun hr => ?_⟩
  have hnx : pos g (e + 1) ≤ w := by
    rw [← hE]
    rcases Nat.lt_or_ge (e + 1) E with q | q
    · exact Nat.le_of_lt (pos_mono g _ q)
    · obtain rfl : E = e + 1 := by omega
      exact Nat.le_refl _
  simp only [pos, nxt, hr, if_false] at hnx
  refine ⟨by omega, ?_⟩
  have hf2 := fit (pos g e + 1) (by omega)
  have h1 : wnt g (pos g e + 1) = g (pos g e) := by simp [wnt, i0, hr]
  simp only [fitS, h1] at hf2
  rw [if_neg (by omega)] at hf2
  have := of_decide_eq_true hf2
  omega
theorem pow10_le {k : Nat} (h : k ≤ 2) : 1 ≤ 10 ^ k ∧ 10 ^ k ≤ 100 := by
  have : k = 0 ∨ k = 1 ∨ k = 2 := by omega
  rcases this with rfl | rfl | rfl <;> decide
theorem p10s {i : Nat} (h : 1 ≤ i) : 10 ^ (i - 1) * 10 = 10 ^ (i + 1 - 1) := by
  obtain ⟨j, rfl⟩ : ∃ j, i = j + 1 := ⟨i - 1, by omega⟩
  rw [Nat.add_sub_cancel, Nat.add_sub_cancel, Nat.pow_succ]
theorem by_b {a b : Nat} (h : 10 ^ (a - b) ≤ 1) : 10 ^ (a - b) = 10 ^ (a - (b + 1)) := by
  rcases Nat.eq_zero_or_pos (a - b) with q | q
  · rw [q, show a - (b + 1) = 0 by omega]
  · have : 10 ^ 1 ≤ 10 ^ (a - b) := Nat.pow_le_pow_right (by omega) q
    omega
theorem by_c {a b : Nat} (h : ¬ 10 ^ (a - b) ≤ 1) : 10 ^ (a - b) / 10 = 10 ^ (a - (b + 1)) := by
  rcases Nat.eq_zero_or_pos (a - b) with q | q
  · rw [q] at h; exact absurd (Nat.le_refl _) h
  · rw [show a - b = a - (b + 1) + 1 by omega, Nat.pow_succ, Nat.mul_div_cancel _ (by omega)]
theorem opd_q {D g : Nat → Nat} {k : Nat} (h1 : g k ≠ 114) (h2 : g (k + 1) = 63) (h3 : g k ≠ 63) : D (cq g k) = opd D g k := by rw [opd, if_neg h1, if_pos h2, cq_s h3]
theorem opd_d {D g : Nat → Nat} {k : Nat} (h1 : g k ≠ 114) (h2 : g (k + 1) ≠ 63) : g (k + 1) - 48 = opd D g k := by rw [opd, if_neg h1, if_neg h2]
theorem opd_lt {D g : Nat → Nat} {k c : Nat} (hD : ∀ j, D j < c) (hc : 127 ≤ c) (h : g k ≠ 114 → g (k + 1) < 127) : opd D g k < c := by
  unfold opd
  split
  · omega
  · rename_i h1
    split
    · exact hD _
    · have := h h1; omega
theorem pos_inv {g : Nat → Nat} {e E : Nat} (h : pos g e < pos g E) : e < E := by
  rcases Nat.lt_or_ge e E with q | q
  · exact q
  · rcases Nat.lt_or_ge E e with x | x
    · have := pos_mono g e x; omega
    · obtain rfl : e = E := by omega
      omega
theorem pos_inj {g : Nat → Nat} {e E : Nat} (h : pos g e = pos g E) : e = E := by
  rcases Nat.lt_or_ge e E with q | q
  · have := pos_mono g E q; omega
  · rcases Nat.lt_or_ge E e with x | x
    · have := pos_mono g e x; omega
    · omega
theorem cq_2 {g : Nat → Nat} {k : Nat} (h : g k ≠ 63) : cq g (k + 2) = cq g k + (if g (k + 1) = 63 then 1 else 0) := by
  show cq g (k + 1) + _ = _
  rw [cq_s h]
theorem dayZ_at {D g f : Nat → Nat} {q e E : Nat} (h : dayG D g f q e = none) (hf : okE D g f q e = false) (he : e < E) : dayZ D g f q E = (e : Int) := by rw [dayZ, day_at h hf E he]
theorem dayN_at {D g f : Nat → Nat} {q e E : Nat} (h : dayG D g f q e = none) (hf : okE D g f q e = false) (he : e < E) : dayN D g f q E = e := by rw [dayN, day_at h hf E he]
theorem dayZ_n {D g f : Nat → Nat} {q E : Nat} (h : dayG D g f q E = none) : dayZ D g f q E = -6 := by rw [dayZ, h]
theorem dayN_n {D g f : Nat → Nat} {q E : Nat} (h : dayG D g f q E = none) : dayN D g f q E = E := by rw [dayN, h]
theorem hapR_f {a p z : Nat} {f : Nat → Nat} (h : hapC a p z = false) : hapR a p z f = f := by simp [hapR, h]
theorem hapZ_f {a p z : Nat} (h : hapC a p z = false) : hapZ a p z = z := by simp [hapZ, h]
