theorem pikeF_cong {p q : Nat} {f f2 : Nat → Nat} (hp : p < q) (h : ∀ k, k < q → f k = f2 k) : ∀ k, k < q → pikeF p (q - 1) f k = pikeF p (q - 1) f2 k := by
  intro k hk
  simp only [pikeF]
  by_cases h1 : k = q - 1
  · rw [if_pos h1, if_pos h1]; exact h p hp
  · rw [if_neg h1, if_neg h1]
    by_cases h2 : p ≤ k ∧ k < q - 1
    · rw [if_pos h2, if_pos h2]; exact h _ (by omega)
    · rw [if_neg h2, if_neg h2]; exact h _ hk
theorem pikeF_in {p q : Nat} {f : Nat → Nat} {P : Nat → Prop} (hp : p < q) (h : ∀ k, k < q → P (f k)) : ∀ k, k < q → P (pikeF p (q - 1) f k) := by
  intro k hk
  simp only [pikeF]
  split
  · exact h p hp
  · split
    · exact h _ (by omega)
    · exact h _ hk
theorem breadF_cong {p q : Nat} {f f2 : Nat → Nat} (hp : p < q) (h : ∀ k, k < q → f k = f2 k) : ∀ k, k < q → breadF p f k = breadF p f2 k := by
  intro k hk
  simp only [breadF]
  by_cases h1 : k = 0
  · rw [if_pos h1, if_pos h1]; exact h p hp
  · rw [if_neg h1, if_neg h1]
    by_cases h2 : k ≤ p
    · rw [if_pos h2, if_pos h2]; exact h _ (by omega)
    · rw [if_neg h2, if_neg h2]; exact h _ hk
theorem breadF_in {p q : Nat} {f : Nat → Nat} {P : Nat → Prop} (hp : p < q) (h : ∀ k, k < q → P (f k)) : ∀ k, k < q → P (breadF p f k) := by
  intro k hk
  simp only [breadF]
  split
  · exact h p hp
  · split
    · exact h _ (by omega)
    · exact h _ hk
theorem up_up (g : Nat → Nat) (k v u : Nat) : up (up g k v) k u = up g k u := by funext j; simp only [up]; split <;> rfl
theorem up_self (g : Nat → Nat) (k : Nat) : up g k (g k) = g := by
  funext j
  simp only [up]
  split
  · rename_i h; rw [h]
  · rfl
def wnP (num plc : Nat → Nat) (q k s : Nat) : Nat → Bool := fun v => tau k (fun p => up num s v (plc p)) q
theorem wrn_t {P : Nat → Bool} {v n : Nat} {l g x : Int} (hW : (n, l, g) = wrn P v) (h : P v = true) (hx : x = if n = 0 then (v : Int) else l) : (n + 1, x, ((v : Nat) : Int)) = wrn P (v + 1) := by
  simp only [wrn]
  rw [if_pos h, ← hW, hx]
theorem wrn_f {P : Nat → Bool} {v n : Nat} {l g : Int} (hW : (n, l, g) = wrn P v) (h : P v = false) : (n, l, g) = wrn P (v + 1) := by
  simp only [wrn]
  rw [if_neg (by rw [h]; decide)]
  exact hW
/-! reading past the window -/
def rdP (i j x l : Nat) : Prop := x < i ∨ (x = i ∧ l < j)
def rdv (v : Nat → Nat) (s q i j n : Nat) (F S : Int) : Prop := n = str v s q i + stc v s i j ∧ ((n = 0 ∧ F = -6 ∧ S = -6 ∧ ∀ x l, rdP i j x l → x + l < q → sm v x (l + 1) ≠ s) ∨ (0 < n ∧ (∃ x l : Nat, F = (x : Int) ∧ x + l < q ∧ sm v x (l + 1) = s ∧ ∀ x' l', x' < x → x' + l' < q → sm v x' (l' + 1) ≠ s) ∧ ∃ x l : Nat, S = ((l + 1 : Nat) : Int) ∧ rdP i j x l ∧ x + l < q ∧ sm v x (l + 1) = s ∧ ∀ x' l', rdP i j x' l' → x' + l' < q → l' < l → sm v x' (l' + 1) ≠ s))
theorem rdv_0 (v : Nat → Nat) (s q : Nat) : rdv v s q 0 0 0 (-6) (-6) := ⟨rfl, Or.inl ⟨rfl, rfl, rfl, fun x l h _ => by unfold rdP at h; omega⟩⟩
theorem rdP_s {i j x l : Nat} (h : rdP i (j + 1) x l) : rdP i j x l ∨ (x = i ∧ l = j) := by unfold rdP at h ⊢; omega
theorem rdv_no {v : Nat → Nat} {s q i j n : Nat} {F S : Int} (h : rdv v s q i j n F S) (hs : ¬ sm v i (j + 1) = s) : rdv v s q i (j + 1) n F S := by
  refine ⟨?_, ?_⟩
  · rw [stc, if_neg hs]; exact h.1
  · rcases h.2 with ⟨a, b, c, d⟩ | ⟨a, b, x, l, c, d, e, f, g⟩
    · refine Or.inl ⟨a, b, c, fun x l hr hq => ?_⟩
      rcases rdP_s hr with hr | ⟨rfl, rfl⟩
      · exact d x l hr hq
      · exact hs
    · refine Or.inr ⟨a, b, x, l, c, by unfold rdP at d ⊢; omega, e, f, fun x' l' hr hq hl => ?_⟩
      rcases rdP_s hr with hr | ⟨rfl, rfl⟩
      · exact g x' l' hr hq hl
      · exact hs
theorem rdv_yes {v : Nat → Nat} {s q i j n : Nat} {F S F2 S2 : Int} (h : rdv v s q i j n F S) (hij : i + j < q) (hs : sm v i (j + 1) = s) (hF : F2 = if n = 0 then (i : Int) else F) (hS : S2 = if n = 0 ∨ ((j + 1 : Nat) : Int) < S then ((j + 1 : Nat) : Int) else S) : rdv v s q i (j + 1) (n + 1) F2 S2 := by
  refine ⟨?_, Or.inr ⟨by omega, ?_⟩⟩
  · rw [stc, if_pos hs]; have := h.1; omega
  · rcases h.2 with ⟨a, b, c, d⟩ | ⟨a, ⟨x0, l0, b1, b2, b3, b4⟩, x, l, c, d, e, f, g⟩
    · rw [if_pos a] at hF
      rw [if_pos (Or.inl a)] at hS
      refine ⟨⟨i, j, hF, hij, hs, fun x' l' hx hq => d x' l' (Or.inl hx) hq⟩, i, j, hS, by unfold rdP; omega, hij, hs, fun x' l' hr hq hl => ?_⟩
      rcases rdP_s hr with hr | ⟨rfl, rfl⟩
      · exact d x' l' hr hq
      · omega
    · rw [if_neg (by omega)] at hF
      refine ⟨⟨x0, l0, by rw [hF]; exact b1, b2, b3, b4⟩, ?_⟩
      by_cases hlt : ((j + 1 : Nat) : Int) < S
      · rw [if_pos (Or.inr hlt)] at hS
        refine ⟨i, j, hS, by unfold rdP; omega, hij, hs, fun x' l' hr hq hl => ?_⟩
        rcases rdP_s hr with hr | ⟨rfl, rfl⟩
        · exact g x' l' hr hq (by rw [c] at hlt; omega)
        · omega
      · rw [if_neg (by omega)] at hS
        refine ⟨x, l, by rw [hS]; exact c, by unfold rdP at d ⊢; omega, e, f, fun x' l' hr hq hl => ?_⟩
        rcases rdP_s hr with hr | ⟨rfl, rfl⟩
        · exact g x' l' hr hq hl
        · rw [c] at hlt; omega
theorem rdv_nx {v : Nat → Nat} {s q i j n : Nat} {F S : Int} (h : rdv v s q i j n F S) (hj : j = q - i) (hi : i < q) : rdv v s q (i + 1) 0 n F S := by
  subst hj
  refine ⟨?_, ?_⟩
  · rw [str]; exact h.1
  · rcases h.2 with ⟨a, b, c, d⟩ | ⟨a, b, x, l, c, d, e, f, g⟩
    · exact Or.inl ⟨a, b, c, fun x l hr hq => d x l (by unfold rdP at hr ⊢; omega) hq⟩
    · exact Or.inr ⟨a, b, x, l, c, by unfold rdP at d ⊢; omega, e, f, fun x' l' hr hq hl => g x' l' (by unfold rdP at hr ⊢; omega) hq hl⟩
theorem rdv_e {v : Nat → Nat} {s q i n : Nat} {F S : Int} (h : rdv v s q i 0 n F S) (hi : i = q) : n = str v s q q ∧ fstS v s q F ∧ shtS v s q S := by
  subst hi
  refine ⟨by have := h.1; simpa [stc] using this, ?_⟩
  rcases h.2 with ⟨a, b, c, d⟩ | ⟨a, ⟨x0, l0, b1, b2, b3, b4⟩, x, l, c, d, e, f, g⟩
  · exact ⟨Or.inr ⟨b, fun x j hq => d x j (Or.inl (by omega)) hq⟩, Or.inr ⟨c, fun x j hq => d x j (Or.inl (by omega)) hq⟩⟩
  · exact ⟨Or.inl ⟨x0, l0, b1, b2, b3, fun x hx j hq => b4 x j hx hq⟩, Or.inl ⟨x, l, c, e, f, fun i hi x' hq => g x' i (Or.inl (by omega)) hq hi⟩⟩
theorem fstS_one {v : Nat → Nat} {s q : Nat} {z z' : Int} (h : fstS v s q z) (h' : fstS v s q z') : z = z' := by
  rcases h with ⟨a, j, rfl, h1, h2, h3⟩ | ⟨rfl, h3⟩ <;> rcases h' with ⟨a', j', rfl, h1', h2', h3'⟩ | ⟨rfl, h3'⟩
  · rcases Nat.lt_or_ge a a' with q1 | q1
    · exact absurd h2 (h3' a q1 j h1)
    · rcases Nat.lt_or_ge a' a with q2 | q2
      · exact absurd h2' (h3 a' q2 j' h1')
      · rw [show a = a' by omega]
  · exact absurd h2 (h3' a j h1)
  · exact absurd h2' (h3 a' j' h1')
  · rfl
theorem shtS_one {v : Nat → Nat} {s q : Nat} {z z' : Int} (h : shtS v s q z) (h' : shtS v s q z') : z = z' := by
  rcases h with ⟨a, j, rfl, h1, h2, h3⟩ | ⟨rfl, h3⟩ <;> rcases h' with ⟨a', j', rfl, h1', h2', h3'⟩ | ⟨rfl, h3'⟩
  · rcases Nat.lt_or_ge j j' with q1 | q1
    · exact absurd h2 (h3' j q1 a h1)
    · rcases Nat.lt_or_ge j' j with q2 | q2
      · exact absurd h2' (h3 j' q2 a' h1')
      · rw [show j = j' by omega]
  · exact absurd h2 (h3' a j h1)
  · exact absurd h2' (h3 a' j' h1')
  · rfl
theorem fstS_cong {v u : Nat → Nat} {s q : Nat} {z : Int} (h : ∀ p, p < q → v p = u p) (hz : fstS v s q z) : fstS u s q z := by
  have e : ∀ x j, x + j < q → sm v x (j + 1) = sm u x (j + 1) := fun x j hq => sm_cong fun i hi => h _ (by omega)
  rcases hz with ⟨a, j, h0, h1, h2, h3⟩ | ⟨h0, h3⟩
  · exact Or.inl ⟨a, j, h0, h1, by rw [← e a j h1]; exact h2, fun x hx j hq => by rw [← e x j hq]; exact h3 x hx j hq⟩
  · exact Or.inr ⟨h0, fun x j hq => by rw [← e x j hq]; exact h3 x j hq⟩
theorem shtS_cong {v u : Nat → Nat} {s q : Nat} {z : Int} (h : ∀ p, p < q → v p = u p) (hz : shtS v s q z) : shtS u s q z := by
  have e : ∀ x j, x + j < q → sm v x (j + 1) = sm u x (j + 1) := fun x j hq => sm_cong fun i hi => h _ (by omega)
  rcases hz with ⟨a, j, h0, h1, h2, h3⟩ | ⟨h0, h3⟩
  · exact Or.inl ⟨a, j, h0, h1, by rw [← e a j h1]; exact h2, fun i hi x hq => by rw [← e x i hq]; exact h3 i hi x hq⟩
  · exact Or.inr ⟨h0, fun x j hq => by rw [← e x j hq]; exact h3 x j hq⟩
theorem stc_cong {v u : Nat → Nat} {s a : Nat} : ∀ {n : Nat}, (∀ i, i < n → v (a + i) = u (a + i)) → stc v s a n = stc u s a n
  | 0, _ => rfl
  | n + 1, h => by rw [stc, stc, stc_cong (fun i hi => h i (by omega)), sm_cong (n := n + 1) h]
theorem str_cong {v u : Nat → Nat} {s q : Nat} (h : ∀ p, p < q → v p = u p) : ∀ {a : Nat}, a ≤ q → str v s q a = str u s q a
  | 0, _ => rfl
  | a + 1, ha => by rw [str, str, str_cong h (by omega), stc_cong (fun i hi => h _ (by omega))]
/-- what read answers -/
def rdZ (v : Nat → Nat) (q : Nat) (a b z : Int) : Prop := if 0 ≤ a ∧ a ≤ 693 ∧ 0 ≤ b ∧ b ≤ 2 then (if b = 0 then z = (str v a.toNat q q : Int) else if b = 1 then fstS v a.toNat q z else shtS v a.toNat q z) else z = -2
theorem rdZ_one {v : Nat → Nat} {q : Nat} {a b z z' : Int} (h : rdZ v q a b z) (h' : rdZ v q a b z') : z = z' := by
  unfold rdZ at h h'
  split at h
  · rename_i h1
    rw [if_pos h1] at h'
    split at h
    · rename_i h2; rw [if_pos h2] at h'; rw [h, h']
    · rename_i h2; rw [if_neg h2] at h'
      split at h
      · rename_i h3; rw [if_pos h3] at h'; exact fstS_one h h'
      · rename_i h3; rw [if_neg h3] at h'; exact shtS_one h h'
  · rename_i h1; rw [if_neg h1] at h'; rw [h, h']
/-! images -/
def imA (num plc : Nat → Nat) (t i : Nat) (img : Nat → Nat) : Nat → Nat := fun j => if t ≤ j ∧ j < t + i then num (j - t) else if t + 7 ≤ j ∧ j < t + 7 + i then plc (j - (t + 7)) else img j
def imB (sig : Nat → Nat) (t i : Nat) (f : Nat → Nat) : Nat → Nat := fun j => if t + 14 ≤ j ∧ j < t + 14 + i then sig (j - (t + 14)) else f j
def imF (num plc sig : Nat → Nat) (n q c t : Nat) (img : Nat → Nat) : Nat → Nat := up (up (up (imB sig t 12 (imA num plc t 7 img)) (t + 26) n) (t + 27) q) (t + 28) c
theorem imA_0 (num plc : Nat → Nat) (t : Nat) (img : Nat → Nat) : imA num plc t 0 img = img := by funext j; simp only [imA]; rw [if_neg (by omega), if_neg (by omega)]
theorem imB_0 (sig : Nat → Nat) (t : Nat) (f : Nat → Nat) : imB sig t 0 f = f := by funext j; simp only [imB]; rw [if_neg (by omega)]
theorem imA_s (num plc : Nat → Nat) (t : Nat) {i : Nat} (img : Nat → Nat) (hi : i < 7) : up (up (imA num plc t i img) (t + i) (num i)) (t + 7 + i) (plc i) = imA num plc t (i + 1) img := by
  funext j
  simp only [up, imA]
  by_cases h1 : j = t + 7 + i
  · rw [if_pos h1, if_neg (by omega), if_pos (by omega), show j - (t + 7) = i by omega]
  · rw [if_neg h1]
    by_cases h2 : j = t + i
    · rw [if_pos h2, if_pos (by omega), show j - t = i by omega]
    · rw [if_neg h2]
      by_cases h3 : t ≤ j ∧ j < t + i
      · rw [if_pos h3, if_pos (by omega)]
      · by_cases h4 : t + 7 ≤ j ∧ j < t + 7 + i
        · rw [if_neg h3, if_pos h4, if_neg (by omega), if_pos (by omega)]
        · rw [if_neg h3, if_neg h4, if_neg (by omega), if_neg (by omega)]
theorem imB_s (sig : Nat → Nat) (t i : Nat) (f : Nat → Nat) : up (imB sig t i f) (t + 14 + i) (sig i) = imB sig t (i + 1) f := by
  funext j
  simp only [up, imB]
  by_cases h1 : j = t + 14 + i
  · rw [if_pos h1, if_pos (by omega), show j - (t + 14) = i by omega]
  · rw [if_neg h1]
    by_cases h3 : t + 14 ≤ j ∧ j < t + 14 + i
    · rw [if_pos h3, if_pos (by omega)]
    · rw [if_neg h3, if_neg (by omega)]
/-! rivals: the gain of who takes next, of n from a on -/
def gv (v : Nat → Nat) (a : Nat) : Nat → Nat
  | 0 => 0
  | n + 1 => sm v a (n + 1) - min (gv v (a + 1) n) (gv v a n)
/-- the lead, of n from a on -/
def ldv (v : Nat → Nat) (a : Nat) : Nat → Int
  | 0 => 0
  | n + 1 => max ((v a : Int) - ldv v (a + 1) n) ((v (a + n) : Int) - ldv v a n)
theorem sm_sh (v : Nat → Nat) (a : Nat) : ∀ n, sm v a (n + 1) = v a + sm v (a + 1) n
  | 0 => by simp [sm]
  | n + 1 => by rw [sm, sm_sh v a n, sm, Nat.add_assoc, show a + 1 + n = a + (n + 1) by omega]
theorem gv_le (v : Nat → Nat) : ∀ n a, gv v a n ≤ sm v a n
  | 0, a => Nat.le_refl _
  | n + 1, a => by simp only [gv]; omega
theorem gv_2 (v : Nat → Nat) (n a : Nat) : gv v (a + 1) n ≤ sm v a (n + 1) ∧ gv v a n ≤ sm v a (n + 1) := by
  have h1 := gv_le v n (a + 1)
  have h2 := gv_le v n a
  have h3 := sm_sh v a n
  have h4 : sm v a (n + 1) = sm v a n + v (a + n) := rfl
  omega
theorem gv_ld (v : Nat → Nat) : ∀ n a, (2 : Int) * gv v a n = sm v a n + ldv v a n
  | 0, a => by simp [gv, sm, ldv]
  | n + 1, a => by
    have h1 := gv_ld v n (a + 1)
    have h2 := gv_ld v n a
    have h3 := sm_sh v a n
    have h4 : sm v a (n + 1) = sm v a n + v (a + n) := rfl
    have h5 := gv_2 v n a
    simp only [gv, ldv]
    omega
def endF (v : Nat → Nat) (q : Nat) : Nat := if gv v 1 (q - 1) ≤ gv v 0 (q - 1) then 0 else 1
def rivZ (v : Nat → Nat) (q : Nat) (a : Int) : Int := if a = 0 then (gv v 0 q : Int) else if a = 1 then (endF v q : Int) else -2
theorem ldN_ldv {v : Nat → Nat} {q : Nat} (hv : ∀ p, p < q → v p < 256) : ∀ n a N, a + n ≤ q → (∀ i, i < n → dg 256 N i = v (a + i)) → ldN N n = ldv v a n
  | 0, _, _, _, _ => rfl
  | n + 1, a, N, hq, h => by
    have h0 := h 0 (by omega)
    have hn := h n (by omega)
    rw [ldN, ldv, ldN_ldv hv n (a + 1) (N / 256) (by omega) (fun i hi => by rw [← dg_s, h (i + 1) (by omega)]; congr 1; omega), ldN_ldv hv n a N (by omega) (fun i hi => h i (by omega)), h0, hn, Nat.add_zero]
theorem wrn_bd (P : Nat → Bool) : ∀ v, (wrn P v).1 ≤ v ∧ -6 ≤ (wrn P v).2.1 ∧ (wrn P v).2.1 ≤ v ∧ -6 ≤ (wrn P v).2.2 ∧ (wrn P v).2.2 ≤ v
  | 0 => by simp [wrn]
  | v + 1 => by
    have h := wrn_bd P v
    simp only [wrn]
    split
    · refine ⟨by simp only; omega, ?_, ?_, by simp only; omega, by simp only; omega⟩
      · simp only; split <;> omega
      · simp only; split <;> omega
    · omega
theorem stc_le (v : Nat → Nat) (s a : Nat) : ∀ n, stc v s a n ≤ n
  | 0 => Nat.le_refl _
  | n + 1 => by have := stc_le v s a n; simp only [stc]; split <;> omega
theorem str_le (v : Nat → Nat) (s q : Nat) : ∀ a, str v s q a ≤ a * q
  | 0 => by simp [str]
  | a + 1 => by
    have := str_le v s q a
    have := stc_le v s a (q - a)
    rw [str, Nat.succ_mul]; omega
theorem rdv_bd {v : Nat → Nat} {s q i j n : Nat} {F S : Int} (h : rdv v s q i j n F S) (hq : q ≤ 7 ∧ i ≤ 7 ∧ j ≤ 7) : n ≤ 56 ∧ -6 ≤ F ∧ F ≤ 7 ∧ -6 ≤ S ∧ S ≤ 7 := by
  have h1 := str_le v s q i
  have h2 := stc_le v s i j
  have h3 : i * q ≤ 7 * 7 := Nat.mul_le_mul (by omega) (by omega)
  have h4 := h.1
  rcases h.2 with ⟨a, b, c, d⟩ | ⟨a, ⟨x0, l0, b1, b2, b3, b4⟩, x, l, c, d, e, f, g⟩
  · omega
  · omega
theorem plcS_bd {R q : Nat} {s z : Int} (h : plcS R q s z) : -1 ≤ z ∧ z < 2147483648 ∨ 2147483648 ≤ (q : Int) := by
  rcases h with ⟨p, e, h1, -⟩ | ⟨e, -⟩ <;> omega
theorem riv_e (v : Nat → Nat) (m : Nat) : endF v (m + 1) = if (v 0 : Int) - ldv v 1 m = ldv v 0 (m + 1) then 0 else 1 := by
  have h1 := gv_ld v m 1
  have h2 := gv_ld v m 0
  have h3 : sm v 0 (m + 1) = v 0 + sm v 1 m := sm_sh v 0 m
  have h4 : sm v 0 (m + 1) = sm v 0 m + v (0 + m) := rfl
  have h5 : ldv v 0 (m + 1) = max ((v 0 : Int) - ldv v 1 m) ((v (0 + m) : Int) - ldv v 0 m) := rfl
  rw [endF, Nat.add_sub_cancel]
  by_cases h : gv v 1 m ≤ gv v 0 m
  · rw [if_pos h, if_pos (by omega)]
  · rw [if_neg h, if_neg (by omega)]
