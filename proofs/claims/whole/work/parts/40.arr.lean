/-! arrangements: the same numbers in another order -/
def pr (q : Nat) (f g : Nat → Nat) : Prop := ∀ P : Nat → Bool, cnT (fun i => P (f i)) q = cnT (fun i => P (g i)) q
theorem pr_rf (q : Nat) (f : Nat → Nat) : pr q f f := fun _ => rfl
theorem pr_sy {q : Nat} {f g : Nat → Nat} (h : pr q f g) : pr q g f := fun P => (h P).symm
theorem pr_tr {q : Nat} {f g k : Nat → Nat} (h : pr q f g) (h2 : pr q g k) : pr q f k := fun P => (h P).trans (h2 P)
theorem pr_cg {q : Nat} {f g : Nat → Nat} (h : ∀ i, i < q → f i = g i) : pr q f g := fun P => cnT_cong q (fun x hx => by rw [h x hx])
theorem pr_ap {q : Nat} {f g : Nat → Nat} (k : Nat → Nat) (h : pr q f g) : pr q (fun i => k (f i)) (fun i => k (g i)) := fun P => h (fun x => P (k x))
def b1 (b : Bool) : Nat := if b then 1 else 0
theorem cnT_up (P : Nat → Bool) (f : Nat → Nat) {k : Nat} (v : Nat) : ∀ q, k < q → cnT (fun i => P (up f k v i)) q + b1 (P (f k)) = cnT (fun i => P (f i)) q + b1 (P v)
  | 0, h => absurd h (Nat.not_lt_zero _)
  | q + 1, h => by
    rcases Nat.lt_or_ge k q with x | x
    · have ih := cnT_up P f v q x
      have e : up f k v q = f q := up_n _ _ (by omega)
      simp only [cnT, e]
      omega
    · obtain rfl : k = q := by omega
      have e : up f k v k = v := up_s _ _ _
      have e2 : cnT (fun i => P (up f k v i)) k = cnT (fun i => P (f i)) k := cnT_cong k (fun x hx => by rw [up_n _ _ (by omega)])
      simp only [cnT, e, e2, b1]
      omega
theorem pr_swp {q i j : Nat} (f : Nat → Nat) (hi : i < q) (hj : j < q) : pr q (swp i j f) f := by
  intro P
  have h1 := cnT_up P (up f i (f j)) (k := j) (f i) q hj
  have h2 := cnT_up P f (k := i) (f j) q hi
  unfold swp
  by_cases h : j = i
  · subst h
    rw [up_s] at h1
    omega
  · rw [up_n _ _ h] at h1
    omega
theorem pr_brd {q p : Nat} (f : Nat → Nat) (hp : p < q) : ∀ d, d ≤ p → pr q (brd (p - d) p f) f
  | 0, _ => by rw [Nat.sub_zero, brd_p]; exact pr_rf _ _
  | d + 1, hd => by
    have h := brd_s (k := p - (d + 1)) (p := p) f (by omega)
    rw [← h, show p - (d + 1) + 1 = p - d by omega]
    exact pr_tr (pr_swp _ (by omega) (by omega)) (pr_brd f hp d (by omega))
theorem pr_bread {q p : Nat} (f : Nat → Nat) (hp : p < q) : pr q (breadF p f) f := by
  have := pr_brd f hp p (Nat.le_refl _)
  rwa [Nat.sub_self, brd_0] at this
theorem pr_pikeE {q p : Nat} (f : Nat → Nat) : ∀ d, p + d < q → pr q (pikeF p (p + d) f) f
  | 0, _ => by rw [Nat.add_zero, pikeF_p]; exact pr_rf _ _
  | d + 1, hd => by
    rw [show p + (d + 1) = p + d + 1 from rfl, ← pikeF_s f (Nat.le_add_right p d)]
    exact pr_tr (pr_swp _ (by omega) (by omega)) (pr_pikeE f d (by omega))
theorem pr_pike {q p : Nat} (f : Nat → Nat) (hp : p < q) : pr q (pikeF p (q - 1) f) f := by
  have := pr_pikeE (q := q) (p := p) f (q - 1 - p) (by omega)
  rwa [show p + (q - 1 - p) = q - 1 by omega] at this
theorem pr_rn {q : Nat} (f : Nat → Nat) : ∀ i, i ≤ q / 2 → pr q (rnF i q f) f
  | 0, _ => by rw [rnF_0]; exact pr_rf _ _
  | i + 1, hi => by
    rw [← rnF_s f (by omega)]
    exact pr_tr (pr_swp _ (by omega) (by omega)) (pr_rn f i (by omega))
theorem pr_rain {q : Nat} (f : Nat → Nat) : pr q (rainF q f) f := by
  rw [← rnF_e f (Nat.le_refl _) (Nat.le_refl _)]
  exact pr_rn f _ (Nat.le_refl _)
/-- what a plan may use, by number -/
def evF (q e : Nat) (f : Nat → Nat) : Nat → Nat := if e < q then breadF e f else if e < 2 * q then pikeF (e - q) (q - 1) f else if e = 2 * q then rainF q f else swp (e - 2 * q - 1) (e - 2 * q) f
theorem pr_ev {q e : Nat} (f : Nat → Nat) (he : e < 3 * q) : pr q (evF q e f) f := by
  unfold evF
  split
  · exact pr_bread f (by omega)
  · split
    · exact pr_pike f (by omega)
    · split
      · exact pr_rain f
      · exact pr_swp f (by omega) (by omega)
theorem evF_ap (q e : Nat) (k f : Nat → Nat) : evF q e (fun i => k (f i)) = fun i => k (evF q e f i) := by
  funext i
  unfold evF
  split
  · simp only [breadF]; split; rfl; split <;> rfl
  · split
    · simp only [pikeF]; split; rfl; split <;> rfl
    · split
      · simp only [rainF]; split <;> rfl
      · simp only [swp, up]; split; rfl; split <;> rfl
theorem evF_cong {q e : Nat} {f g : Nat → Nat} (he : e < 3 * q) (h : ∀ i, i < q → f i = g i) : ∀ i, i < q → evF q e f i = evF q e g i := by
  intro i hi
  unfold evF
  split
  · simp only [breadF]
    split
    · exact h _ (by omega)
    · split
      · exact h _ (by omega)
      · exact h _ hi
  · split
    · simp only [pikeF]
      split
      · exact h _ (by omega)
      · split
        · exact h _ (by omega)
        · exact h _ hi
    · split
      · simp only [rainF]
        rw [if_pos hi, if_pos hi]
        exact h _ (by omega)
      · simp only [swp, up]
        split
        · exact h _ (by omega)
        · split
          · exact h _ (by omega)
          · exact h _ hi
theorem cnT_pos {P : Nat → Bool} : ∀ {q : Nat}, (0 < cnT P q ↔ ∃ i, i < q ∧ P i = true)
  | 0 => ⟨fun h => absurd h (Nat.lt_irrefl _), fun ⟨i, h, _⟩ => absurd h (Nat.not_lt_zero _)⟩
  | q + 1 => by
    have ih := cnT_pos (P := P) (q := q)
    simp only [cnT]
    constructor
    · intro h
      by_cases hp : P q = true
      · exact ⟨q, by omega, hp⟩
      · rw [if_neg hp] at h
        obtain ⟨i, a, b⟩ := ih.mp h
        exact ⟨i, by omega, b⟩
    · rintro ⟨i, a, b⟩
      rcases Nat.lt_or_ge i q with x | x
      · have := ih.mpr ⟨i, x, b⟩; omega
      · obtain rfl : i = q := by omega
        rw [if_pos b]; omega
theorem pr_ex {q : Nat} {f g : Nat → Nat} (h : pr q f g) {j : Nat} (hj : j < q) : ∃ i, i < q ∧ f i = g j := by
  have h1 := h (fun x => decide (x = g j))
  have h2 : 0 < cnT (fun i => decide (g i = g j)) q := cnT_pos.mpr ⟨j, hj, decide_eq_true rfl⟩
  rw [← h1] at h2
  obtain ⟨i, a, b⟩ := cnT_pos.mp h2
  exact ⟨i, a, of_decide_eq_true b⟩
theorem pr_al {q : Nat} {f g : Nat → Nat} {R : Nat → Prop} (h : pr q f g) (hg : ∀ i, i < q → R (g i)) : ∀ i, i < q → R (f i) := fun i hi => by
  obtain ⟨j, a, b⟩ := pr_ex (pr_sy h) hi
  rw [← b]; exact hg j a
def ij (q : Nat) (f : Nat → Nat) : Prop := ∀ i j, i < q → j < q → f i = f j → i = j
theorem cnT_2 {P : Nat → Bool} {i j : Nat} (hij : i < j) (h1 : P i = true) (h2 : P j = true) : ∀ q, j < q → 2 ≤ cnT P q
  | 0, h => absurd h (Nat.not_lt_zero _)
  | q + 1, h => by
    simp only [cnT]
    rcases Nat.lt_or_ge j q with x | x
    · have := cnT_2 hij h1 h2 q x; omega
    · obtain rfl : j = q := by omega
      have := (cnT_pos (P := P) (q := j)).mpr ⟨i, hij, h1⟩
      rw [if_pos h2]; omega
theorem cnT_1 {P : Nat → Bool} : ∀ {q : Nat}, (∀ i j, i < q → j < q → P i = true → P j = true → i = j) → cnT P q ≤ 1
  | 0, _ => by simp [cnT]
  | q + 1, h => by
    have ih := cnT_1 (P := P) (q := q) (fun i j a b => h i j (by omega) (by omega))
    simp only [cnT]
    by_cases hp : P q = true
    · rw [if_pos hp]
      have : ¬ 0 < cnT P q := fun h0 => by
        obtain ⟨i, a, b⟩ := cnT_pos.mp h0
        have := h i q (by omega) (by omega) b hp
        omega
      omega
    · rw [if_neg hp]; omega
theorem pr_ij {q : Nat} {f g : Nat → Nat} (h : pr q f g) (hg : ij q g) : ij q f := by
  have key : ∀ i j, i < j → j < q → f i ≠ f j := by
    intro i j hi hj e
    have h1 : 2 ≤ cnT (fun x => decide (f x = f j)) q := cnT_2 hi (decide_eq_true e) (decide_eq_true rfl) q hj
    have h2 := h (fun x => decide (x = f j))
    have h3 : cnT (fun x => decide (g x = f j)) q ≤ 1 := cnT_1 fun a b ha hb ea eb => hg a b ha hb ((of_decide_eq_true ea).trans (of_decide_eq_true eb).symm)
    omega
  intro i j hi hj e
  rcases Nat.lt_or_ge i j with x | x
  · exact absurd e (key i j x hj)
  · rcases Nat.lt_or_ge j i with y | y
    · exact absurd e.symm (key j i y hi)
    · omega
/-! of each, how many smaller ones stand behind it -/
def smr (f : Nat → Nat) (q p : Nat) : Nat := cnT (fun i => decide (f (p + 1 + i) < f p)) (q - (p + 1))
theorem cnT_app (P : Nat → Bool) (p : Nat) : ∀ n, cnT P (p + n) = cnT P p + cnT (fun i => P (p + i)) n
  | 0 => rfl
  | n + 1 => by rw [← Nat.add_assoc, cnT, cnT_app P p n, cnT, Nat.add_assoc]
theorem smr_tl (f : Nat → Nat) {q p : Nat} (hp : p < q) : cnT (fun i => decide (f i < f p)) q = cnT (fun i => decide (f i < f p)) p + smr f q p := by
  have h := cnT_app (fun i => decide (f i < f p)) (p + 1) (q - (p + 1))
  rw [show p + 1 + (q - (p + 1)) = q by omega] at h
  rw [h]
  simp only [cnT, smr, Nat.lt_irrefl]
  simp
theorem smr_lt (f : Nat → Nat) {q p : Nat} (hp : p < q) : smr f q p < q - p := by
  have := cnT_le (fun i => decide (f (p + 1 + i) < f p)) (q - (p + 1))
  unfold smr; omega
theorem smr_cong {f g : Nat → Nat} {q : Nat} (h : ∀ i, i < q → f i = g i) {p : Nat} (hp : p < q) : smr f q p = smr g q p := by
  unfold smr
  exact cnT_cong _ (fun x hx => by rw [h _ (by omega), h _ hp])
theorem cnT_sub {P Q : Nat → Bool} (h : ∀ i, P i = true → Q i = true) : ∀ q, cnT P q ≤ cnT Q q
  | 0 => Nat.le_refl _
  | q + 1 => by
    have := cnT_sub h q
    simp only [cnT]
    by_cases hp : P q = true
    · rw [if_pos hp, if_pos (h q hp)]; omega
    · rw [if_neg hp]; omega
theorem cnT_sub1 {P Q : Nat → Bool} (h : ∀ i, P i = true → Q i = true) {k : Nat} (h1 : P k = false) (h2 : Q k = true) : ∀ q, k < q → cnT P q + 1 ≤ cnT Q q
  | 0, h => absurd h (Nat.not_lt_zero _)
  | q + 1, hk => by
    simp only [cnT]
    rcases Nat.lt_or_ge k q with x | x
    · have := cnT_sub1 h h1 h2 q x
      by_cases hp : P q = true
      · rw [if_pos hp, if_pos (h q hp)]; omega
      · rw [if_neg hp]; omega
    · obtain rfl : k = q := by omega
      have := cnT_sub h k
      rw [if_pos h2, if_neg (by rw [h1]; decide)]; omega
/-- the numbers of smaller ones tell the row -/
theorem smr_u1 {q : Nat} {f g : Nat → Nat} (hp : pr q f g) (hf : ij q f) {p : Nat} (hq : p < q) (hpre : ∀ i, i < p → f i = g i) (hs : smr f q p = smr g q p) : ¬ f p < g p := by
  intro hlt
  have a1 := smr_tl f hq
  have a2 := smr_tl g hq
  have b1 := hp (fun x => decide (x < f p))
  have c1 : cnT (fun i => decide (f i < f p)) p = cnT (fun i => decide (g i < f p)) p := cnT_cong p (fun x hx => by rw [hpre x hx])
  -- who is f p in g's row stands behind p
  obtain ⟨j, hj, ej⟩ := pr_ex (pr_sy hp) hq
  have hjp : p < j := by
    rcases Nat.lt_or_ge j p with x | x
    · have := hpre j x
      have := hf j p hj hq (by omega)
      omega
    · rcases Nat.lt_or_ge p j with y | y
      · exact y
      · obtain rfl : j = p := by omega
        omega
  have d1 := cnT_app (fun i => decide (g i < f p)) p (q - p)
  have d2 := cnT_app (fun i => decide (g i < g p)) p (q - p)
  rw [show p + (q - p) = q by omega] at d1 d2
  have d3 : cnT (fun i => decide (g (p + i) < f p)) (q - p) + 1 ≤ cnT (fun i => decide (g (p + i) < g p)) (q - p) := by
    refine cnT_sub1 (k := j - p) (fun i hi => decide_eq_true (by have := of_decide_eq_true hi; omega)) ?_ ?_ _ (by omega)
    · rw [show p + (j - p) = j by omega, ej]; exact decide_eq_false (Nat.lt_irrefl _)
    · rw [show p + (j - p) = j by omega, ej]; exact decide_eq_true hlt
  omega
theorem smr_u {q : Nat} {f g : Nat → Nat} (hp : pr q f g) (hg : ij q g) (hs : ∀ p, p < q → smr f q p = smr g q p) : ∀ n, n ≤ q → ∀ i, i < n → f i = g i
  | 0, _ => fun i hi => absurd hi (Nat.not_lt_zero _)
  | n + 1, hn => by
    have ih := smr_u hp hg hs n (by omega)
    intro i hi
    rcases Nat.lt_or_ge i n with x | x
    · exact ih i x
    · obtain rfl : i = n := by omega
      have h1 := smr_u1 hp (pr_ij hp hg) (by omega) ih (hs i (by omega))
      have h2 := smr_u1 (pr_sy hp) hg (by omega) (fun k hk => (ih k hk).symm) (hs i (by omega)).symm
      omega
/-! the number of a row -/
def rkV (f : Nat → Nat) (q : Nat) : Nat → Nat
  | 0 => 0
  | p + 1 => rkV f q p * (q - p) + smr f q p
def rkF (f : Nat → Nat) (q : Nat) : Nat := rkV f q q
theorem fac_pos : ∀ n, 0 < fac n
  | 0 => Nat.zero_lt_one
  | n + 1 => Nat.mul_pos (fac_pos n) (Nat.succ_pos n)
theorem rkV_div (f : Nat → Nat) (q : Nat) : ∀ d, d ≤ q → rkF f q / fac d = rkV f q (q - d)
  | 0, _ => by rw [fac, Nat.div_one]; rfl
  | d + 1, hd => by
    rw [fac, ← Nat.div_div_eq_div_mul, rkV_div f q d (by omega), show q - d = q - (d + 1) + 1 by omega, rkV, show q - (q - (d + 1)) = d + 1 by omega]
    have h := smr_lt f (q := q) (p := q - (d + 1)) (by omega)
    rw [Nat.mul_comm, Nat.mul_add_div (by omega), Nat.div_eq_of_lt (by omega), Nat.add_zero]
/-- the digit of a number at a place of the row -/
def lyD (q k p : Nat) : Nat := k / fac (q - 1 - p) % (q - p)
theorem lyD_rk (f : Nat → Nat) {q p : Nat} (hp : p < q) : lyD q (rkF f q) p = smr f q p := by
  rw [lyD, rkV_div f q _ (by omega), show q - (q - 1 - p) = p + 1 by omega, rkV]
  have h := smr_lt f (q := q) (p := p) hp
  rw [Nat.mul_comm, Nat.mul_add_mod, Nat.mod_eq_of_lt h]
theorem rkV_cong {f g : Nat → Nat} {q : Nat} (h : ∀ p, p < q → smr f q p = smr g q p) : ∀ p, p ≤ q → rkV f q p = rkV g q p
  | 0, _ => rfl
  | p + 1, hp => by rw [rkV, rkV, rkV_cong h p (by omega), h p (by omega)]
theorem rk_inj {q : Nat} {f g : Nat → Nat} (hp : pr q f g) (hg : ij q g) (h : rkF f q = rkF g q) : ∀ i, i < q → f i = g i :=
  smr_u hp hg (fun p hq => by rw [← lyD_rk f hq, ← lyD_rk g hq, h]) q (Nat.le_refl _)
theorem rk_cong {f g : Nat → Nat} {q : Nat} (h : ∀ i, i < q → f i = g i) : rkF f q = rkF g q := rkV_cong (fun _ hp => smr_cong h hp) q (Nat.le_refl _)
theorem rkV_lt (f : Nat → Nat) (q : Nat) : ∀ p, p ≤ q → rkV f q p * fac (q - p) + fac (q - p) ≤ fac q
  | 0, _ => by simp [rkV]
  | p + 1, hp => by
    have ih := rkV_lt f q p (by omega)
    have h := smr_lt f (q := q) (p := p) (by omega)
    have e : fac (q - p) = fac (q - (p + 1)) * (q - p) := by
      rw [show q - p = q - (p + 1) + 1 by omega, fac]
    have h2 : (rkV f q p * (q - p) + smr f q p + 1) * fac (q - (p + 1)) ≤ (rkV f q p * (q - p) + (q - p)) * fac (q - (p + 1)) := Nat.mul_le_mul_right _ (by omega)
    rw [Nat.add_mul _ (q - p), Nat.mul_assoc, Nat.mul_comm (q - p) (fac _), ← e, Nat.succ_mul] at h2
    rw [rkV]
    omega
theorem rk_lt (f : Nat → Nat) (q : Nat) : rkF f q < fac q := by
  have := rkV_lt f q q (Nat.le_refl _)
  rw [Nat.sub_self, fac] at this
  unfold rkF
  omega
theorem fac_7 {q : Nat} (h : q ≤ 7) : fac q ≤ 5040 := by
  have h7 : q = 0 ∨ q = 1 ∨ q = 2 ∨ q = 3 ∨ q = 4 ∨ q = 5 ∨ q = 6 ∨ q = 7 := by omega
  rcases h7 with rfl | rfl | rfl | rfl | rfl | rfl | rfl | rfl <;> decide
/-- a row with these digits has this number -/
theorem lyD_fac {q k : Nat} (hk : k < fac q) : ∀ (f : Nat → Nat), (∀ p, p < q → smr f q p = lyD q k p) → ∀ p, p ≤ q → rkV f q p = k / fac (q - p) := by
  intro f hs p
  induction p with
  | zero => intro _; rw [rkV, Nat.sub_zero, Nat.div_eq_of_lt hk]
  | succ p ih =>
    intro hp
    have e : fac (q - p) = fac (q - (p + 1)) * (q - p) := by
      rw [show q - p = q - (p + 1) + 1 by omega, fac]
    rw [rkV, ih (by omega), hs p (by omega), lyD, e, ← Nat.div_div_eq_div_mul, show q - 1 - p = q - (p + 1) by omega, Nat.mul_comm]
    exact Nat.div_add_mod _ _
theorem lyD_rk2 {q k : Nat} (hk : k < fac q) {f : Nat → Nat} (hs : ∀ p, p < q → smr f q p = lyD q k p) : rkF f q = k := by
  have := lyD_fac hk f hs q (Nat.le_refl _)
  rw [Nat.sub_self, fac, Nat.div_one] at this
  exact this
/-! the row of a number: sorted first, then one after the other from behind -/
theorem ins_0 {f : Nat → Nat} {p : Nat} (h : ∀ i j, i < j → j < p → f i ≤ f j) : (∀ i j, i < j → j ≤ p → i ≠ p → j ≠ p → f i ≤ f j) ∧ (∀ j, p < j → j ≤ p → f p ≤ f j) :=
  ⟨fun i j a b _ d => h i j a (by omega), fun j a b => by omega⟩
theorem ins_s {f : Nat → Nat} {p k : Nat} (hk : k + 1 ≤ p) (h1 : ∀ i j, i < j → j ≤ p → i ≠ k + 1 → j ≠ k + 1 → f i ≤ f j) (h2 : ∀ j, k + 1 < j → j ≤ p → f (k + 1) ≤ f j) (hlt : f (k + 1) < f k) :
    (∀ i j, i < j → j ≤ p → i ≠ k → j ≠ k → swp (k + 1) k f i ≤ swp (k + 1) k f j) ∧ (∀ j, k < j → j ≤ p → swp (k + 1) k f k ≤ swp (k + 1) k f j) := by
  have e : ∀ i, swp (k + 1) k f i = if i = k then f (k + 1) else if i = k + 1 then f k else f i := fun i => rfl
  constructor
  · intro i j a b c d
    rw [e, e, if_neg c, if_neg d]
    by_cases hi : i = k + 1
    · rw [if_pos hi, if_neg (by omega)]
      exact h1 k j (by omega) b (by omega) (by omega)
    · rw [if_neg hi]
      by_cases hj : j = k + 1
      · rw [if_pos hj]
        exact h1 i k (by omega) (by omega) (by omega) (by omega)
      · rw [if_neg hj]
        exact h1 i j a b hi hj
  · intro j a b
    rw [e, e, if_pos rfl, if_neg (by omega)]
    by_cases hj : j = k + 1
    · rw [if_pos hj]; omega
    · rw [if_neg hj]
      exact h2 j (by omega) b
theorem ins_e0 {f : Nat → Nat} {p : Nat} (h1 : ∀ i j, i < j → j ≤ p → i ≠ 0 → j ≠ 0 → f i ≤ f j) (h2 : ∀ j, 0 < j → j ≤ p → f 0 ≤ f j) : ∀ i j, i < j → j < p + 1 → f i ≤ f j := by
  intro i j a b
  by_cases hi : i = 0
  · subst hi; exact h2 j a (by omega)
  · exact h1 i j a (by omega) hi (by omega)
theorem ins_e1 {f : Nat → Nat} {p k : Nat} (h1 : ∀ i j, i < j → j ≤ p → i ≠ k + 1 → j ≠ k + 1 → f i ≤ f j) (h2 : ∀ j, k + 1 < j → j ≤ p → f (k + 1) ≤ f j) (hk : k + 1 ≤ p) (hn : ¬ f (k + 1) < f k) : ∀ i j, i < j → j < p + 1 → f i ≤ f j := by
  intro i j a b
  by_cases hi : i = k + 1
  · subst hi; exact h2 j a (by omega)
  · by_cases hj : j = k + 1
    · subst hj
      by_cases hk2 : i = k
      · subst hk2; omega
      · have := h1 i k (by omega) (by omega) hi (by omega)
        omega
    · exact h1 i j a (by omega) hi hj
theorem cnT_thr {P : Nat → Bool} {d : Nat} : ∀ {n : Nat}, (∀ j, j < d → P j = true) → (∀ j, d ≤ j → j < n → P j = false) → d ≤ n → cnT P n = d
  | 0, _, _, h => by simp only [cnT]; omega
  | n + 1, h1, h2, h => by
    rcases Nat.lt_or_ge n d with x | x
    · have ih := cnT_thr (P := P) (d := n) (n := n) (fun j hj => h1 j (by omega)) (fun j a b => by omega) (Nat.le_refl _)
      rw [cnT, ih, if_pos (h1 n x)]; omega
    · have ih := cnT_thr (n := n) h1 (fun j a b => h2 j a (by omega)) x
      rw [cnT, ih, if_neg (by rw [h2 n x (by omega)]; decide)]; omega
def pick (plc : Nat → Nat) (q k : Nat) (f : Nat → Nat) (p : Nat) : Prop := pr q f plc ∧ (∀ i j, p ≤ i → i < j → j < q → f i ≤ f j) ∧ ∀ i, i < p → smr f q i = lyD q k i
theorem pick_s {plc : Nat → Nat} {q k p : Nat} {f : Nat → Nat} (hg : ij q plc) (h : pick plc q k f p) (hp : p < q) : pick plc q k (brd p (p + lyD q k p) f) (p + 1) := by
  obtain ⟨hr, hs, hd⟩ := h
  have hdl : lyD q k p < q - p := Nat.mod_lt _ (by omega)
  generalize hD : lyD q k p = d at hdl
  have hb := pr_brd (q := q) (p := p + d) f (by omega) d (by omega)
  rw [Nat.add_sub_cancel] at hb
  have hfi := pr_ij hr hg
  have e : ∀ i, brd p (p + d) f i = if i = p then f (p + d) else if p < i ∧ i ≤ p + d then f (i - 1) else f i := fun i => rfl
  refine ⟨pr_tr hb hr, ?_, ?_⟩
  · intro i j a b c
    rw [e i, e j, if_neg (show ¬ i = p by omega), if_neg (show ¬ j = p by omega)]
    by_cases hi : p < i ∧ i ≤ p + d
    · rw [if_pos hi]
      by_cases hj : p < j ∧ j ≤ p + d
      · rw [if_pos hj]; exact hs _ _ (by omega) (by omega) (by omega)
      · rw [if_neg hj]; exact hs _ _ (by omega) (by omega) (by omega)
    · rw [if_neg hi, if_neg (by omega)]; exact hs _ _ (by omega) (by omega) (by omega)
  · intro i hi
    by_cases hip : i = p
    · subst hip
      rw [hD, smr, e, if_pos rfl]
      refine cnT_thr ?_ ?_ (by omega)
      · intro j hj
        refine decide_eq_true ?_
        rw [e, if_neg (by omega), if_pos (by omega), show i + 1 + j - 1 = i + j by omega]
        have h1 := hs (i + j) (i + d) (by omega) (by omega) (by omega)
        have h2 : f (i + j) ≠ f (i + d) := fun h3 => by have := hfi _ _ (by omega) (by omega) h3; omega
        omega
      · intro j a b
        refine decide_eq_false ?_
        rw [e, if_neg (by omega), if_neg (by omega)]
        have h1 := hs (i + d) (i + 1 + j) (by omega) (by omega) (by omega)
        omega
    · rw [← hd i (by omega)]
      have a1 := smr_tl f (q := q) (p := i) (by omega)
      have a2 := smr_tl (brd p (p + d) f) (q := q) (p := i) (by omega)
      have ei : ∀ x, x ≤ i → brd p (p + d) f x = f x := fun x hx => by rw [e, if_neg (by omega), if_neg (by omega)]
      rw [ei i (Nat.le_refl _), cnT_cong (P := fun x => decide (brd p (p + d) f x < f i)) (Q := fun x => decide (f x < f i)) i (fun x hx => by rw [ei x (by omega)])] at a2
      have a3 := hb (fun x => decide (x < f i))
      omega
theorem pick_e {plc : Nat → Nat} {q k : Nat} {f : Nat → Nat} (h : pick plc q k f q) : pr q f plc ∧ ∀ i, i < q → smr f q i = lyD q k i := ⟨h.1, h.2.2⟩
theorem lay_rk {plc f g : Nat → Nat} {q : Nat} (hg : ij q plc) (hf : pr q f plc) (h : pr q g plc ∧ ∀ i, i < q → smr g q i = lyD q (rkF f q) i) : ∀ i, i < q → g i = f i :=
  smr_u (pr_tr h.1 (pr_sy hf)) (pr_ij hf hg) (fun p hp => by rw [h.2 p hp, lyD_rk f hp]) q (Nat.le_refl _)
/-! arrangements of a row, by their codes -/
def idn : Nat → Nat := fun i => i
def cod (q : Nat) (f : Nat → Nat) : Nat := pk 8 f q
def arr (q C : Nat) : Prop := ∃ f, pr q f idn ∧ C = cod q f
theorem ij_idn (q : Nat) : ij q idn := fun _ _ _ _ h => h
theorem arr_f {q C : Nat} (h : arr q C) (hq : q ≤ 7) : pr q (dg 8 C) idn ∧ C = cod q (dg 8 C) := by
  obtain ⟨f, hf, rfl⟩ := h
  have h8 : ∀ i, i < q → f i < 8 := fun i hi => by have := pr_al (R := fun x => x < 8) hf (fun j hj => by show j < 8; omega) i hi; exact this
  have e : ∀ i, i < q → dg 8 (cod q f) i = f i := fun i hi => dg_pk h8 hi
  exact ⟨pr_tr (pr_cg e) hf, (pk_cong e).symm⟩
theorem arr_lt {q C : Nat} (h : arr q C) (hq : q ≤ 7) : ∀ i, i < q → dg 8 C i < q := fun i hi => pr_al (R := fun x => x < q) (arr_f h hq).1 (fun _ hj => hj) i hi
theorem arr_id (q : Nat) : arr q (cod q idn) := ⟨idn, pr_rf _ _, rfl⟩
/-- an event on the code -/
def evX (q e C : Nat) : Nat := cod q (evF q e (dg 8 C))
theorem arr_ev {q e C : Nat} (h : arr q C) (hq : q ≤ 7) (he : e < 3 * q) : arr q (evX q e C) := ⟨_, pr_tr (pr_ev _ he) (arr_f h hq).1, rfl⟩
theorem arr_eq {q C E : Nat} (hq : q ≤ 7) (hC : arr q C) (hE : arr q E) (h : ∀ i, i < q → dg 8 C i = dg 8 E i) : C = E := by
  rw [(arr_f hC hq).2, (arr_f hE hq).2]
  exact pk_cong h
/-- the row that an arrangement makes of plc, and its number -/
def rwF (plc : Nat → Nat) (C : Nat) : Nat → Nat := fun i => plc (dg 8 C i)
def rkC (plc : Nat → Nat) (q C : Nat) : Nat := rkF (rwF plc C) q
theorem rw_pr {plc : Nat → Nat} {q C : Nat} (hq : q ≤ 7) (h : arr q C) : pr q (rwF plc C) plc := pr_ap plc (arr_f h hq).1
theorem rw_ev {plc : Nat → Nat} {q e C : Nat} (hq : q ≤ 7) (h : arr q C) (he : e < 3 * q) : ∀ i, i < q → rwF plc (evX q e C) i = evF q e (rwF plc C) i := by
  intro i hi
  have h8 : ∀ j, j < q → evF q e (dg 8 C) j < 8 := fun j hj => pr_al (R := fun x => x < 8) (pr_tr (pr_ev _ he) (arr_f h hq).1) (fun k hk => by show k < 8; omega) j hj
  show plc (dg 8 (cod q (evF q e (dg 8 C))) i) = evF q e (fun x => plc (dg 8 C x)) i
  rw [cod, dg_pk h8 hi]
  exact (congrFun (evF_ap q e plc (dg 8 C)) i).symm
theorem rkC_inj {plc : Nat → Nat} {q C E : Nat} (hq : q ≤ 7) (hg : ij q plc) (hC : arr q C) (hE : arr q E) (h : rkC plc q C = rkC plc q E) : C = E := by
  have h1 := rk_inj (pr_tr (rw_pr (plc := plc) hq hC) (pr_sy (rw_pr hq hE))) (pr_ij (rw_pr hq hE) hg) h
  exact arr_eq hq hC hE fun i hi => hg _ _ (arr_lt hC hq i hi) (arr_lt hE hq i hi) (h1 i hi)
theorem rkC_lt (plc : Nat → Nat) {q : Nat} (hq : q ≤ 7) (C : Nat) : rkC plc q C < fac q ∧ fac q ≤ 5040 := ⟨rk_lt _ _, fac_7 hq⟩
theorem rkC_id {plc : Nat → Nat} {q : Nat} (hq : q ≤ 7) : rkC plc q (cod q idn) = rkF plc q := by
  refine rk_cong fun i hi => ?_
  show plc (dg 8 (pk 8 idn q) i) = plc i
  rw [dg_pk (fun j hj => by show j < 8; omega) hi]
  rfl
