/-! a search by breadth over the arrangements: how many rows, the rows, from which, by what, how far -/
abbrev BS := Nat × (Nat → Nat) × (Nat → Nat) × (Nat → Nat) × (Nat → Nat)
def bN (S : BS) : Nat := S.1
def bR (S : BS) : Nat → Nat := S.2.1
def bP (S : BS) : Nat → Nat := S.2.2.1
def bE (S : BS) : Nat → Nat := S.2.2.2.1
def bD (S : BS) : Nat → Nat := S.2.2.2.2
abbrev bIn (S : BS) (C : Nat) : Prop := ∃ i, i < bN S ∧ bR S i = C
def bAdd (S : BS) (C h e : Nat) : BS := if bIn S C then S else (bN S + 1, up (bR S) (bN S) C, up (bP S) (bN S) h, up (bE S) (bN S) e, up (bD S) (bN S) (bD S h + 1))
theorem bAdd_t {S : BS} {C h e : Nat} (hi : bIn S C) : bAdd S C h e = S := if_pos hi
theorem bAdd_f {S : BS} {C h e : Nat} (hi : ¬ bIn S C) : bAdd S C h e = (bN S + 1, up (bR S) (bN S) C, up (bP S) (bN S) h, up (bE S) (bN S) e, up (bD S) (bN S) (bD S h + 1)) := if_neg hi
def bRow (q h : Nat) (S : BS) : Nat → BS
  | 0 => S
  | e + 1 => bAdd (bRow q h S e) (evX q e (bR S h)) h e
def bfs (q : Nat) : Nat → BS
  | 0 => (1, fun _ => cod q idn, fun _ => 0, fun _ => 0, fun _ => 0)
  | h + 1 => if h < bN (bfs q h) then bRow q h (bfs q h) (3 * q) else bfs q h
def bOK (q : Nat) (S : BS) : Prop := 1 ≤ bN S ∧ bR S 0 = cod q idn ∧ bD S 0 = 0 ∧ (∀ i, i < bN S → arr q (bR S i)) ∧ (∀ i j, i < j → j < bN S → bR S i ≠ bR S j) ∧
  ∀ i, 0 < i → i < bN S → bP S i < i ∧ bE S i < 3 * q ∧ bR S i = evX q (bE S i) (bR S (bP S i)) ∧ bD S i = bD S (bP S i) + 1
def bLe (S T : BS) : Prop := bN S ≤ bN T ∧ ∀ i, i < bN S → bR T i = bR S i ∧ bP T i = bP S i ∧ bE T i = bE S i ∧ bD T i = bD S i
theorem bLe_rf (S : BS) : bLe S S := ⟨Nat.le_refl _, fun _ _ => ⟨rfl, rfl, rfl, rfl⟩⟩
theorem bLe_tr {S T U : BS} (h : bLe S T) (k : bLe T U) : bLe S U := ⟨Nat.le_trans h.1 k.1, fun i hi => by
  obtain ⟨a, b, c, d⟩ := h.2 i hi
  obtain ⟨a2, b2, c2, d2⟩ := k.2 i (Nat.lt_of_lt_of_le hi h.1)
  exact ⟨a2.trans a, b2.trans b, c2.trans c, d2.trans d⟩⟩
theorem bAdd_le (S : BS) (C h e : Nat) : bLe S (bAdd S C h e) := by
  by_cases hi : bIn S C
  · rw [bAdd_t hi]; exact bLe_rf S
  · rw [bAdd_f hi]
    refine ⟨Nat.le_succ _, fun i hi => ?_⟩
    have hne : i ≠ bN S := by omega
    exact ⟨up_n _ _ hne, up_n _ _ hne, up_n _ _ hne, up_n _ _ hne⟩
theorem bAdd_in (S : BS) (C h e : Nat) : bIn (bAdd S C h e) C := by
  by_cases hi : bIn S C
  · rw [bAdd_t hi]; exact hi
  · rw [bAdd_f hi]; exact ⟨bN S, Nat.lt_succ_self _, up_s _ _ _⟩
theorem bIn_le {S T : BS} {C : Nat} (h : bLe S T) (hi : bIn S C) : bIn T C := by
  obtain ⟨i, a, b⟩ := hi
  exact ⟨i, Nat.lt_of_lt_of_le a h.1, (h.2 i a).1.trans b⟩
theorem bAdd_ok {q : Nat} {S : BS} {C h e : Nat} (hS : bOK q S) (hq : q ≤ 7) (hh : h < bN S) (he : e < 3 * q) (hC : C = evX q e (bR S h)) : bOK q (bAdd S C h e) := by
  by_cases hi : bIn S C
  · rw [bAdd_t hi]; exact hS
  · rw [bAdd_f hi]
    obtain ⟨h1, h2, h3, h4, h5, h6⟩ := hS
    have eR : ∀ i, i < bN S → up (bR S) (bN S) C i = bR S i := fun i hi => up_n _ _ (by omega)
    have eP : ∀ i, i < bN S → up (bP S) (bN S) h i = bP S i := fun i hi => up_n _ _ (by omega)
    have eE : ∀ i, i < bN S → up (bE S) (bN S) e i = bE S i := fun i hi => up_n _ _ (by omega)
    have eD : ∀ i, i < bN S → up (bD S) (bN S) (bD S h + 1) i = bD S i := fun i hi => up_n _ _ (by omega)
    refine ⟨Nat.le_succ_of_le h1, (eR 0 (by omega)).trans h2, (eD 0 (by omega)).trans h3, ?_, ?_, ?_⟩
    · intro i hi
      show arr q (up (bR S) (bN S) C i)
      rcases Nat.lt_or_ge i (bN S) with x | x
      · rw [eR i x]; exact h4 i x
      · have hi2 : i < bN S + 1 := hi
        obtain rfl : i = bN S := by omega
        rw [up_s, hC]; exact arr_ev (h4 h hh) hq he
    · intro i j hij hj
      have hj2 : j < bN S + 1 := hj
      show up (bR S) (bN S) C i ≠ up (bR S) (bN S) C j
      rcases Nat.lt_or_ge j (bN S) with x | x
      · rw [eR i (by omega), eR j x]; exact h5 i j hij x
      · obtain rfl : j = bN S := by omega
        rw [eR i hij, up_s]
        exact fun h9 => hi ⟨i, hij, h9⟩
    · intro i h0 hi9
      have hi2 : i < bN S + 1 := hi9
      show up (bP S) (bN S) h i < i ∧ up (bE S) (bN S) e i < 3 * q ∧ up (bR S) (bN S) C i = evX q (up (bE S) (bN S) e i) (up (bR S) (bN S) C (up (bP S) (bN S) h i)) ∧ up (bD S) (bN S) (bD S h + 1) i = up (bD S) (bN S) (bD S h + 1) (up (bP S) (bN S) h i) + 1
      rcases Nat.lt_or_ge i (bN S) with x | x
      · obtain ⟨a, b, c, d⟩ := h6 i h0 x
        rw [eP i x, eE i x, eR i x, eD i x, eR _ (by omega), eD _ (by omega)]
        exact ⟨a, b, c, d⟩
      · obtain rfl : i = bN S := by omega
        rw [up_s, up_s, up_s, up_s, eR h hh, eD h hh]
        exact ⟨hh, he, hC, rfl⟩
theorem bRow_le (q h : Nat) (S : BS) : ∀ e, bLe S (bRow q h S e)
  | 0 => bLe_rf S
  | e + 1 => bLe_tr (bRow_le q h S e) (bAdd_le _ _ _ _)
theorem bRow_ok {q h : Nat} {S : BS} (hS : bOK q S) (hq : q ≤ 7) (hh : h < bN S) : ∀ e, e ≤ 3 * q → bOK q (bRow q h S e)
  | 0, _ => hS
  | e + 1, he => by
    have l := bRow_le q h S e
    refine bAdd_ok (bRow_ok hS hq hh e (by omega)) hq (Nat.lt_of_lt_of_le hh l.1) (by omega) ?_
    rw [(l.2 h hh).1]
theorem bRow_in {q h : Nat} {S : BS} : ∀ n e, e < n → bIn (bRow q h S n) (evX q e (bR S h))
  | 0, e, he => absurd he (Nat.not_lt_zero _)
  | n + 1, e, he => by
    rcases Nat.lt_or_ge e n with x | x
    · exact bIn_le (bAdd_le _ _ _ _) (bRow_in n e x)
    · obtain rfl : e = n := by omega
      exact bAdd_in _ _ _ _
theorem bfs_s (q h : Nat) : bLe (bfs q h) (bfs q (h + 1)) := by
  rw [bfs]
  split
  · exact bRow_le _ _ _ _
  · exact bLe_rf _
theorem bfs_le (q h : Nat) : ∀ d, bLe (bfs q h) (bfs q (h + d))
  | 0 => bLe_rf _
  | d + 1 => bLe_tr (bfs_le q h d) (bfs_s q (h + d))
theorem bfs_ok {q : Nat} (hq : q ≤ 7) : ∀ h, bOK q (bfs q h)
  | 0 => ⟨Nat.le_refl _, rfl, rfl, fun _ _ => arr_id q, fun i j a b => by have : j < 1 := b; omega, fun i a b => by have : i < 1 := b; omega⟩
  | h + 1 => by
    rw [bfs]
    split
    · exact bRow_ok (bfs_ok hq h) hq (by assumption) _ (Nat.le_refl _)
    · exact bfs_ok hq h
theorem bfs_cl {q : Nat} : ∀ H h, h < H → h < bN (bfs q h) → ∀ e, e < 3 * q → bIn (bfs q H) (evX q e (bR (bfs q H) h))
  | 0, h, hh, _, e, _ => absurd hh (Nat.not_lt_zero _)
  | H + 1, h, hh, hn, e, he => by
    rcases Nat.lt_or_ge h H with x | x
    · have ih := bfs_cl H h x hn e he
      have l := bfs_s q H
      have l2 := bfs_le q h (H - h)
      rw [show h + (H - h) = H by omega] at l2
      have e1 := (l.2 h (Nat.lt_of_lt_of_le hn l2.1)).1
      rw [e1]
      exact bIn_le l ih
    · obtain rfl : h = H := by omega
      have e1 := ((bfs_s q h).2 h hn).1
      rw [e1, bfs, if_pos hn]
      exact bRow_in _ e he
/-- no more than there is room for -/
theorem holes : ∀ (m n : Nat) (g : Nat → Nat), (∀ i, i < n → g i < m) → (∀ i j, i < j → j < n → g i ≠ g j) → n ≤ m
  | 0, n, g, h, _ => by
    rcases Nat.eq_zero_or_pos n with x | x
    · omega
    · exact absurd (h 0 x) (Nat.not_lt_zero _)
  | m + 1, n, g, h, hi => by
    rcases Nat.eq_zero_or_pos n with x | x
    · omega
    · by_cases hx : ∃ i, i < n ∧ g i = m
      · obtain ⟨i, hin, him⟩ := hx
        have key := holes m (n - 1) (fun j => if j = i then g (n - 1) else g j) ?_ ?_
        · omega
        · intro j hj
          show (if j = i then g (n - 1) else g j) < m
          have hne : ∀ k, k < n → k ≠ i → g k < m := fun k hk hki => by
            have h1 := h k hk
            have h2 : g k ≠ m := fun h3 => by
              rcases Nat.lt_or_ge k i with y | y
              · exact hi k i y hin (h3.trans him.symm)
              · exact hi i k (by omega) hk (him.trans h3.symm)
            omega
          split
          · exact hne _ (by omega) (by omega)
          · exact hne _ (by omega) (by assumption)
        · intro a b hab hb
          show (if a = i then g (n - 1) else g a) ≠ (if b = i then g (n - 1) else g b)
          split
          · rw [if_neg (by omega)]
            exact fun h9 => hi b (n - 1) (by omega) (by omega) h9.symm
          · split
            · exact hi a (n - 1) (by omega) (by omega)
            · exact hi a b hab (by omega)
      · have := holes m n g (fun i hin => by
          have h1 := h i hin
          have h2 : g i ≠ m := fun h3 => hx ⟨i, hin, h3⟩
          omega) hi
        omega
theorem bOK_n {q : Nat} {S : BS} (hq : q ≤ 7) (h : bOK q S) : bN S ≤ fac q := by
  obtain ⟨-, -, -, h4, h5, -⟩ := h
  refine holes _ _ (fun i => rkC idn q (bR S i)) (fun i hi => (rkC_lt idn hq _).1) (fun i j a b e => ?_)
  exact h5 i j a b (rkC_inj hq (ij_idn q) (h4 i (by omega)) (h4 j b) e)
theorem bOK_n7 {q : Nat} {S : BS} (hq : q ≤ 7) (h : bOK q S) : bN S ≤ 5040 := Nat.le_trans (bOK_n hq h) (fac_7 hq)
/-- the whole of it -/
def bAll (q : Nat) : BS := bfs q 5040
theorem bfs_end {q h : Nat} (hh : bN (bfs q h) ≤ h) : ∀ d, bfs q (h + d) = bfs q h
  | 0 => rfl
  | d + 1 => by
    have ih := bfs_end hh d
    rw [← Nat.add_assoc, bfs, ih, if_neg (by omega)]
theorem bAll_at {q h : Nat} (hq : q ≤ 7) (hh : bN (bfs q h) ≤ h ∨ 5040 ≤ h) : bfs q h = bAll q := by
  have hn := bOK_n7 hq (bfs_ok hq 5040)
  rcases Nat.lt_or_ge 5040 h with x | x
  · have := bfs_end (q := q) (h := 5040) hn (h - 5040)
    rw [show 5040 + (h - 5040) = h by omega] at this
    exact this
  · rcases hh with y | y
    · have := bfs_end y (5040 - h)
      rw [show h + (5040 - h) = 5040 by omega] at this
      exact this.symm
    · obtain rfl : h = 5040 := by omega
      rfl
theorem bAll_cl {q h e : Nat} (hq : q ≤ 7) (hh : h < bN (bAll q)) (he : e < 3 * q) : bIn (bAll q) (evX q e (bR (bAll q) h)) := by
  have hn := bOK_n7 hq (bfs_ok hq 5040)
  have hh2 : h < bN (bfs q h) := by
    rcases Nat.lt_or_ge h (bN (bfs q h)) with x | x
    · exact x
    · have := bAll_at hq (Or.inl x)
      rw [this] at x
      omega
  exact bfs_cl 5040 h (by unfold bAll at hh; omega) hh2 e he
theorem bfs_pre {q h : Nat} (hq : q ≤ 7) : bLe (bfs q h) (bAll q) := by
  rcases Nat.lt_or_ge h 5040 with x | x
  · have := bfs_le q h (5040 - h)
    rw [show h + (5040 - h) = 5040 by omega] at this
    exact this
  · rw [bAll_at hq (Or.inr x)]; exact bLe_rf _
theorem bD_le {q : Nat} {S : BS} (h : bOK q S) : ∀ i, i < bN S → bD S i ≤ i := by
  intro i
  induction i using Nat.strongRecOn with
  | _ i ih =>
    intro hi
    rcases Nat.eq_zero_or_pos i with x | x
    · rw [x, h.2.2.1]; exact Nat.le_refl _
    · obtain ⟨a, -, -, d⟩ := h.2.2.2.2.2 i x hi
      have := ih _ a (by omega)
      omega
def evN (q e : Nat) : Nat := if e < q then e else if e < 2 * q then 10 + (e - q) else if e = 2 * q then 20 else 30 + (e - 2 * q - 1)
theorem evN_lt {q e : Nat} (hq : q ≤ 7) (he : e < 3 * q) : evN q e < 40 := by
  unfold evN; split; omega; split; omega; split <;> omega
/-- the way back -/
def bAnc (P : Nat → Nat) (i : Nat) : Nat → Nat
  | 0 => i
  | m + 1 => P (bAnc P i m)
theorem bAnc_D {q : Nat} {S : BS} (h : bOK q S) {i : Nat} (hi : i < bN S) : ∀ m, m ≤ bD S i → bAnc (bP S) i m < bN S ∧ bD S (bAnc (bP S) i m) + m = bD S i
  | 0, _ => ⟨hi, rfl⟩
  | m + 1, hm => by
    obtain ⟨a, b⟩ := bAnc_D h hi m (by omega)
    have h0 : 0 < bAnc (bP S) i m := by
      rcases Nat.eq_zero_or_pos (bAnc (bP S) i m) with x | x
      · rw [x, h.2.2.1] at b; omega
      · exact x
    obtain ⟨c, -, -, d⟩ := h.2.2.2.2.2 _ h0 a
    refine ⟨?_, ?_⟩
    · show bP S _ < _
      omega
    · show bD S (bP S _) + _ = _
      omega
theorem bD_0 {q : Nat} {S : BS} (h : bOK q S) {i : Nat} (hi : i < bN S) : 0 < i ↔ 0 < bD S i := by
  rcases Nat.eq_zero_or_pos i with x | x
  · rw [x, h.2.2.1]
  · have := (h.2.2.2.2.2 i x hi).2.2.2
    omega
/-- the first that is taught, among the first rows -/
def fstT (T : Nat → Bool) : Nat → Option Nat
  | 0 => none
  | k + 1 => match fstT T k with
    | some x => some x
    | none => if T k then some k else none
theorem fstT_n {T : Nat → Bool} : ∀ {n : Nat}, (∀ i, i < n → T i = false) → fstT T n = none
  | 0, _ => rfl
  | n + 1, h => by rw [fstT, fstT_n (fun i hi => h i (by omega)), if_neg (by rw [h n (by omega)]; decide)]
theorem fstT_k {T : Nat → Bool} {k : Nat} (h : ∀ i, i < k → T i = false) (hk : T k = true) : ∀ n, k < n → fstT T n = some k
  | 0, hn => absurd hn (Nat.not_lt_zero _)
  | n + 1, hn => by
    rcases Nat.lt_or_ge k n with x | x
    · rw [fstT, fstT_k h hk n x]
    · obtain rfl : k = n := by omega
      rw [fstT, fstT_n h, if_pos hk]
def tkC (num plc : Nat → Nat) (k q C : Nat) : Bool := tau k (fun p => num (rwF plc C p)) q
def plnF (num plc : Nat → Nat) (k q : Nat) : Option Nat := fstT (fun i => tkC num plc k q (bR (bAll q) i)) (bN (bAll q))
def plnZ (num plc : Nat → Nat) (q : Nat) (a b : Int) : Int := if 0 ≤ a ∧ a ≤ 6 then
  (match plnF num plc a.toNat q with
    | none => -6
    | some k => if b = -1 then (bD (bAll q) k : Int) else if 0 ≤ b ∧ b < bD (bAll q) k then (evN q (bE (bAll q) (bAnc (bP (bAll q)) k (bD (bAll q) k - 1 - b.toNat))) : Int) else -6) else -2
/-! a week: after t events the row is C, and the first s lessons have been taught in their turn -/
def wk (q : Nat) (T : Nat → Nat → Bool) : Nat → Nat → Nat → Prop
  | 0, s, C => C = cod q idn ∧ ∀ j, j < s → T j C = true
  | t + 1, s, C => ∃ s0 B e, s0 ≤ s ∧ e < 3 * q ∧ wk q T t s0 B ∧ C = evX q e B ∧ ∀ j, s0 ≤ j → j < s → T j C = true
theorem wk_arr {q : Nat} {T : Nat → Nat → Bool} (hq : q ≤ 7) : ∀ {t s C : Nat}, wk q T t s C → arr q C
  | 0, _, _, h => by rw [h.1]; exact arr_id q
  | t + 1, _, _, ⟨_, _, _, _, he, hw, hC, _⟩ => by rw [hC]; exact arr_ev (wk_arr hq hw) hq he
theorem wk_mono {q : Nat} {T : Nat → Nat → Bool} : ∀ {t s s2 C : Nat}, wk q T t s C → s2 ≤ s → wk q T t s2 C
  | 0, _, _, _, h, h2 => ⟨h.1, fun j hj => h.2 j (by omega)⟩
  | t + 1, s, s2, C, ⟨s0, B, e, h0, he, hw, hC, hT⟩, h2 => by
    rcases Nat.lt_or_ge s2 s0 with x | x
    · exact ⟨s2, B, e, Nat.le_refl _, he, wk_mono hw (by omega), hC, fun j a b => by omega⟩
    · exact ⟨s0, B, e, x, he, hw, hC, fun j a b => hT j a (by omega)⟩
theorem wk_t {q : Nat} {T : Nat → Nat → Bool} {t s C : Nat} (h : wk q T t s C) (hT : T s C = true) : wk q T t (s + 1) C := by
  cases t with
  | zero =>
    refine ⟨h.1, fun j hj => ?_⟩
    rcases Nat.lt_or_ge j s with x | x
    · exact h.2 j x
    · obtain rfl : j = s := by omega
      exact hT
  | succ t =>
    obtain ⟨s0, B, e, h0, he, hw, hC, h2⟩ := h
    refine ⟨s0, B, e, by omega, he, hw, hC, fun j a b => ?_⟩
    rcases Nat.lt_or_ge j s with x | x
    · exact h2 j a x
    · obtain rfl : j = s := by omega
      exact hT
theorem wk_e {q : Nat} {T : Nat → Nat → Bool} {t s B e : Nat} (h : wk q T t s B) (he : e < 3 * q) : wk q T (t + 1) s (evX q e B) := ⟨s, B, e, Nat.le_refl _, he, h, rfl, fun j a b => by omega⟩
theorem wk_s {q : Nat} {T : Nat → Nat → Bool} {t s C : Nat} (h : wk q T t (s + 1) C) : (∃ t2 C2, t2 ≤ t ∧ wk q T t2 s C2 ∧ T s C2 = true) := by
  induction t generalizing C with
  | zero => exact ⟨0, C, Nat.le_refl _, wk_mono h (by omega), h.2 s (by omega)⟩
  | succ t ih =>
    have h9 := h
    obtain ⟨s0, B, e, h0, he, hw, hC, h2⟩ := h
    rcases Nat.lt_or_ge s s0 with x | x
    · obtain rfl : s0 = s + 1 := by omega
      obtain ⟨t2, C2, a, b, c⟩ := ih hw
      exact ⟨t2, C2, by omega, b, c⟩
    · exact ⟨t + 1, C, Nat.le_refl _, wk_mono h9 (by omega), h2 s x (by omega)⟩
/-- the answer: the fewest events, or none -/
def wkA (q : Nat) (T : Nat → Nat → Bool) (m : Nat) (z : Int) : Prop :=
  (∃ t : Nat, z = (t : Int) ∧ (∃ C, wk q T t m C) ∧ ∀ t2, t2 < t → ¬ ∃ C, wk q T t2 m C) ∨ (z = -6 ∧ ∀ t, ¬ ∃ C, wk q T t m C)
theorem wkA_one {q : Nat} {T : Nat → Nat → Bool} {m : Nat} {z y : Int} (h : wkA q T m z) (k : wkA q T m y) : z = y := by
  rcases h with ⟨t, rfl, a, b⟩ | ⟨rfl, a⟩
  · rcases k with ⟨t2, rfl, c, d⟩ | ⟨rfl, c⟩
    · rcases Nat.lt_or_ge t t2 with x | x
      · exact absurd a (d t x)
      · rcases Nat.lt_or_ge t2 t with y | y
        · exact absurd c (b t2 y)
        · rw [show t = t2 by omega]
    · exact absurd a (c t)
  · rcases k with ⟨t2, rfl, c, d⟩ | ⟨rfl, c⟩
    · exact absurd c (a t2)
    · rfl
theorem wk_cong {q : Nat} {T U : Nat → Nat → Bool} {m : Nat} (hq : q ≤ 7) (h : ∀ j C, j < m → arr q C → T j C = U j C) : ∀ {t s C : Nat}, s ≤ m → wk q T t s C → wk q U t s C
  | 0, s, C, hs, hw => ⟨hw.1, fun j hj => by rw [← h j C (by omega) (by rw [hw.1]; exact arr_id q)]; exact hw.2 j hj⟩
  | t + 1, s, C, hs, ⟨s0, B, e, h0, he, hw, hC, h2⟩ => ⟨s0, B, e, h0, he, wk_cong hq h (by omega) hw, hC, fun j a b => by
      rw [← h j C (by omega) (by rw [hC]; exact arr_ev (wk_arr hq hw) hq he)]; exact h2 j a b⟩
/-- from any row to any row in as many events as there are swans -/
theorem wk_go {q : Nat} {T : Nat → Nat → Bool} {t s C G : Nat} (hq : q ≤ 7) (hw : wk q T t s C) (hG : arr q G) : ∀ n, n ≤ q → ∃ B, wk q T (t + n) s B ∧ ∀ j, j < n → dg 8 B j = dg 8 G (q - n + j)
  | 0, _ => ⟨C, hw, fun j hj => absurd hj (Nat.not_lt_zero _)⟩
  | n + 1, hn => by
    obtain ⟨B, hB, hd⟩ := wk_go hq hw hG n (by omega)
    have aB := wk_arr hq hB
    obtain ⟨p, hp, ep⟩ := pr_ex (pr_tr (arr_f aB hq).1 (pr_sy (arr_f hG hq).1)) (j := q - (n + 1)) (by omega)
    have iG := pr_ij (arr_f hG hq).1 (ij_idn q)
    have hpn : n ≤ p := by
      rcases Nat.lt_or_ge p n with x | x
      · have h1 := hd p x
        have := iG _ _ (by omega) (by omega) (h1.symm.trans ep)
        omega
      · exact x
    refine ⟨_, wk_e (e := p) hB (by omega), fun j hj => ?_⟩
    have h8 : ∀ i, i < q → evF q p (dg 8 B) i < 8 := fun i hi => pr_al (R := fun x => x < 8) (pr_tr (pr_ev _ (by omega)) (arr_f aB hq).1) (fun k hk => by show k < 8; omega) i hi
    rw [evX, cod, dg_pk h8 (by omega), evF, if_pos hp]
    simp only [breadF]
    by_cases hj0 : j = 0
    · rw [if_pos hj0, hj0, Nat.add_zero]; exact ep
    · rw [if_neg hj0, if_pos (by omega), hd _ (by omega)]
      congr 1
      omega
theorem wk_go2 {q : Nat} {T : Nat → Nat → Bool} {t s C G : Nat} (hq : q ≤ 7) (hw : wk q T t s C) (hG : arr q G) : wk q T (t + q) s G := by
  obtain ⟨B, hB, hd⟩ := wk_go hq hw hG q (Nat.le_refl _)
  have : B = G := arr_eq hq (wk_arr hq hB) hG fun i hi => by
    have := hd i hi
    rwa [Nat.sub_self, Nat.zero_add] at this
  rwa [this] at hB
theorem wk_b {q : Nat} {T : Nat → Nat → Bool} (hq : q ≤ 7) : ∀ {s t C : Nat}, wk q T t s C → ∃ t2 C2, t2 ≤ 7 * s ∧ wk q T t2 s C2
  | 0, t, C, h => ⟨0, cod q idn, Nat.le_refl _, rfl, fun j hj => absurd hj (Nat.not_lt_zero _)⟩
  | s + 1, t, C, h => by
    obtain ⟨t2, C2, -, hw, hT⟩ := wk_s h
    obtain ⟨t3, C3, h3, hw3⟩ := wk_b hq hw
    exact ⟨t3 + q, C2, by omega, wk_t (wk_go2 hq hw3 (wk_arr hq hw)) hT⟩
/-! the search of the class: rows, stages and depths in the order in which they are looked behind -/
def wkI (q : Nat) (T : Nat → Nat → Bool) (m : Nat) (Q h : Nat) (qC qS qD : Nat → Nat) (lev : Nat → Nat) : Prop :=
  (∀ i, i < Q → qS i < m ∧ wk q T (qD i) (qS i) (qC i) ∧ T (qS i) (qC i) = false ∧ qD i ≤ 28) ∧
  (∀ i j, i ≤ j → j < Q → qD i ≤ qD j) ∧ (∀ i j, h ≤ i → i < Q → j < Q → qD j ≤ qD i + 1) ∧
  (∀ C, arr q C → (∀ i, i < Q → qC i = C → qS i + 1 ≤ lev C) ∧ (lev C = 0 ∨ ∃ i, i < Q ∧ qC i = C ∧ qS i + 1 = lev C)) ∧
  (∀ i, i < h → i < Q → ∀ e, e < 3 * q → ∃ j, j < Q ∧ qC j = evX q e (qC i) ∧ qS i ≤ qS j ∧ qD j ≤ qD i + 1) ∧
  (0 < Q ∧ qC 0 = cod q idn ∧ qD 0 = 0) ∧ (∀ i j, i < j → j < Q → ¬ (qC i = qC j ∧ qS i = qS j))
theorem wk_all {q : Nat} {T : Nat → Nat → Bool} {m Q h tm : Nat} {qC qS qD lev : Nat → Nat} (hI : wkI q T m Q h qC qS qD lev) (htm : ∀ i, i < Q → qD i < tm → i < h) :
    ∀ {t s C : Nat}, t ≤ tm → wk q T t s C → ∃ j, j < Q ∧ qC j = C ∧ s ≤ qS j ∧ qD j ≤ t
  | 0, s, C, _, hw => by
    obtain ⟨h1, -, -, -, -, ⟨h6, h7, h8⟩, -⟩ := hI
    refine ⟨0, h6, h7.trans hw.1.symm, ?_, by omega⟩
    rcases Nat.lt_or_ge (qS 0) s with x | x
    · have h9 := hw.2 _ x
      rw [hw.1, ← h7, (h1 0 h6).2.2.1] at h9
      cases h9
    · exact x
  | t + 1, s, C, ht, ⟨s0, B, e, h0, he, hw, hC, h2⟩ => by
    obtain ⟨j, hj, e1, e2, e3⟩ := wk_all hI htm (by omega) hw
    obtain ⟨h1, -, -, -, h5, -, -⟩ := hI
    obtain ⟨k, hk, f1, f2, f3⟩ := h5 j (htm j hj (by omega)) hj e he
    rw [e1, ← hC] at f1
    refine ⟨k, hk, f1, ?_, by omega⟩
    rcases Nat.lt_or_ge (qS k) s with x | x
    · have h9 := h2 _ (by omega) x
      rw [← f1, (h1 k hk).2.2.1] at h9
      cases h9
    · exact x
theorem wk_none {q : Nat} {T : Nat → Nat → Bool} {m Q : Nat} {qC qS qD lev : Nat → Nat} (hI : wkI q T m Q Q qC qS qD lev) : wkA q T m (-6) := by
  refine Or.inr ⟨rfl, fun t ⟨C, hw⟩ => ?_⟩
  obtain ⟨j, hj, -, e2, -⟩ := wk_all hI (tm := t) (fun i hi _ => hi) (Nat.le_refl _) hw
  have := (hI.1 j hj).1
  omega
theorem wk_least {q : Nat} {T : Nat → Nat → Bool} {m Q h : Nat} {qC qS qD lev : Nat → Nat} (hI : wkI q T m Q h qC qS qD lev) : ∀ t, t < qD h + 1 → ¬ ∃ C, wk q T t m C := by
  intro t ht ⟨C, hw⟩
  obtain ⟨j, hj, -, e2, -⟩ := wk_all hI (tm := qD h) (fun i hi hd => by
    rcases Nat.lt_or_ge i h with x | x
    · exact x
    · have := hI.2.1 h i x hi; omega) (by omega) hw
  have := (hI.1 j hj).1
  omega
/-- how deep a row can be that is not yet marked -/
theorem wk_deep {q : Nat} {T : Nat → Nat → Bool} {m Q h C : Nat} {qC qS qD lev : Nat → Nat} (hq : q ≤ 7) (hm : m ≤ 4) (hI : wkI q T m Q h qC qS qD lev) (hh : h < Q) (hC : arr q C) (hl : lev C < qS h + 1) : qD h + 1 ≤ 28 := by
  obtain ⟨hs, hw, -, -⟩ := hI.1 h hh
  obtain ⟨t2, C2, h2, hw2⟩ := wk_b hq hw
  have hw3 := wk_go2 hq hw2 hC
  rcases Nat.lt_or_ge (qD h) (t2 + q) with x | x
  · omega
  · obtain ⟨j, hj, e1, e2, -⟩ := wk_all hI (tm := qD h) (fun i hi hd => by
      rcases Nat.lt_or_ge i h with x | x
      · exact x
      · have := hI.2.1 h i x hi; omega) x hw3
    have := (hI.2.2.2.1 C hC).1 j hj e1
    omega
/-! one event behind the row that is looked behind -/
def wkJ (q h e : Nat) (Q : Nat) (qC qS qD : Nat → Nat) : Prop := h < Q ∧ ∀ x, x < e → ∃ j, j < Q ∧ qC j = evX q x (qC h) ∧ qS h ≤ qS j ∧ qD j ≤ qD h + 1
theorem wk_old {q : Nat} {T : Nat → Nat → Bool} {m Q h e : Nat} {qC qS qD lev : Nat → Nat} (hI : wkI q T m Q h qC qS qD lev) (hJ : wkJ q h e Q qC qS qD) (ha : arr q (evX q e (qC h))) (hl : qS h + 1 ≤ lev (evX q e (qC h))) : wkJ q h (e + 1) Q qC qS qD := by
  refine ⟨hJ.1, fun x hx => ?_⟩
  rcases Nat.lt_or_ge x e with y | y
  · exact hJ.2 x y
  · obtain rfl : x = e := by omega
    rcases (hI.2.2.2.1 _ ha).2 with z | ⟨i, hi, e1, e2⟩
    · omega
    · exact ⟨i, hi, e1, by omega, hI.2.2.1 h i (Nat.le_refl _) hJ.1 hi⟩
theorem wk_nxt {q : Nat} {T : Nat → Nat → Bool} {m Q h : Nat} {qC qS qD lev : Nat → Nat} (hI : wkI q T m Q h qC qS qD lev) (hJ : wkJ q h (3 * q) Q qC qS qD) : wkI q T m Q (h + 1) qC qS qD lev := by
  obtain ⟨h1, h2, h3, h4, h5, h6, h7⟩ := hI
  refine ⟨h1, h2, fun i j a b c => h3 i j (by omega) b c, h4, fun i a b e he => ?_, h6, h7⟩
  rcases Nat.lt_or_ge i h with x | x
  · exact h5 i x b e he
  · obtain rfl : i = h := by omega
    exact hJ.2 e he
theorem wk_ans {q : Nat} {T : Nat → Nat → Bool} {m Q h e r : Nat} {qC qS qD lev : Nat → Nat} (hI : wkI q T m Q h qC qS qD lev) (hh : h < Q) (he : e < 3 * q) (hr : m ≤ r) (hT : ∀ j, qS h ≤ j → j < r → T j (evX q e (qC h)) = true) : wkA q T m ((qD h + 1 : Nat) : Int) := by
  obtain ⟨hs, hw, -, -⟩ := hI.1 h hh
  exact Or.inl ⟨_, rfl, ⟨evX q e (qC h), qS h, qC h, e, by omega, he, hw, rfl, fun j a b => hT j a (by omega)⟩, wk_least hI⟩
theorem wk_enq {q : Nat} {T : Nat → Nat → Bool} {m Q h e r : Nat} {qC qS qD lev lev2 : Nat → Nat} (hq : q ≤ 7) (hm : m ≤ 4) (hI : wkI q T m Q h qC qS qD lev) (hJ : wkJ q h e Q qC qS qD) (he : e < 3 * q)
    (hl : lev (evX q e (qC h)) < qS h + 1) (hr : qS h ≤ r) (hrm : r < m) (hT : ∀ j, qS h ≤ j → j < r → T j (evX q e (qC h)) = true) (hTr : T r (evX q e (qC h)) = false)
    (hv : lev2 (evX q e (qC h)) = r + 1) (hv2 : ∀ E, arr q E → E ≠ evX q e (qC h) → lev2 E = lev E) :
    wkI q T m (Q + 1) h (up qC Q (evX q e (qC h))) (up qS Q r) (up qD Q (qD h + 1)) lev2 ∧ wkJ q h (e + 1) (Q + 1) (up qC Q (evX q e (qC h))) (up qS Q r) (up qD Q (qD h + 1)) := by
  have hh := hJ.1
  have aC : arr q (evX q e (qC h)) := arr_ev (wk_arr hq (hI.1 h hh).2.1) hq he
  have hdp := wk_deep hq hm hI hh aC hl
  obtain ⟨h1, h2, h3, h4, h5, ⟨h6, h7, h8⟩, h9⟩ := hI
  have eC : ∀ i, i < Q → up qC Q (evX q e (qC h)) i = qC i := fun i hi => up_n _ _ (by omega)
  have eS : ∀ i, i < Q → up qS Q r i = qS i := fun i hi => up_n _ _ (by omega)
  have eD : ∀ i, i < Q → up qD Q (qD h + 1) i = qD i := fun i hi => up_n _ _ (by omega)
  have sp : ∀ i, i < Q + 1 → i < Q ∨ i = Q := fun i hi => by omega
  refine ⟨⟨?_, ?_, ?_, ?_, ?_, ?_, ?_⟩, ?_, ?_⟩
  · intro i hi
    rcases sp i hi with x | rfl
    · rw [eC i x, eS i x, eD i x]; exact h1 i x
    · rw [up_s, up_s, up_s]
      refine ⟨hrm, ⟨qS h, qC h, e, hr, he, (h1 h hh).2.1, rfl, hT⟩, hTr, hdp⟩
  · intro i j hij hj
    rcases sp j hj with x | rfl
    · rw [eD i (by omega), eD j x]; exact h2 i j hij x
    · rw [up_s]
      rcases sp i (by omega) with y | rfl
      · rw [eD i y]; exact h3 h i (Nat.le_refl _) hh y
      · rw [up_s]; exact Nat.le_refl _
  · intro i j hi hiQ hj
    have k1 : ∀ i, h ≤ i → i < Q + 1 → qD h ≤ up qD Q (qD h + 1) i := fun i a b => by
      rcases sp i b with x | rfl
      · rw [eD i x]; exact h2 h i a x
      · rw [up_s]; omega
    have k2 := k1 i hi hiQ
    rcases sp j hj with x | rfl
    · rw [eD j x]
      have := h3 h j (Nat.le_refl _) hh x
      omega
    · rw [up_s]; omega
  · intro E aE
    by_cases hE : E = evX q e (qC h)
    · rw [hE, hv]
      refine ⟨fun i hi hc => ?_, Or.inr ⟨Q, by omega, up_s _ _ _, by rw [up_s]⟩⟩
      rcases sp i hi with x | rfl
      · rw [eC i x] at hc
        rw [eS i x]
        have := (h4 _ aC).1 i x hc
        omega
      · rw [up_s]; exact Nat.le_refl _
    · rw [hv2 E aE hE]
      obtain ⟨a, b⟩ := h4 E aE
      refine ⟨fun i hi hc => ?_, ?_⟩
      · rcases sp i hi with x | rfl
        · rw [eC i x] at hc
          rw [eS i x]; exact a i x hc
        · rw [up_s] at hc; exact absurd hc.symm hE
      · rcases b with z | ⟨i, hi, e1, e2⟩
        · exact Or.inl z
        · exact Or.inr ⟨i, by omega, by rw [eC i hi]; exact e1, by rw [eS i hi]; exact e2⟩
  · intro i hi hiQ x hx
    have hiQ2 : i < Q := by omega
    obtain ⟨j, hj, e1, e2, e3⟩ := h5 i hi hiQ2 x hx
    refine ⟨j, by omega, ?_, ?_, ?_⟩
    · rw [eC j hj, eC i hiQ2]; exact e1
    · rw [eS j hj, eS i hiQ2]; exact e2
    · rw [eD j hj, eD i hiQ2]; exact e3
  · exact ⟨by omega, by rw [eC 0 h6]; exact h7, by rw [eD 0 h6]; exact h8⟩
  · intro i j hij hj
    rcases sp j hj with x | rfl
    · rw [eC i (by omega), eC j x, eS i (by omega), eS j x]; exact h9 i j hij x
    · rw [eC i hij, eS i hij, up_s, up_s]
      rintro ⟨c1, c2⟩
      have := (h4 _ aC).1 i hij c1
      omega
  · omega
  · intro x hx
    rcases Nat.lt_or_ge x e with y | y
    · obtain ⟨j, hj, e1, e2, e3⟩ := hJ.2 x y
      refine ⟨j, by omega, ?_, ?_, ?_⟩
      · rw [eC j hj, eC h hh]; exact e1
      · rw [eS j hj, eS h hh]; exact e2
      · rw [eD j hj, eD h hh]; exact e3
    · obtain rfl : x = e := by omega
      refine ⟨Q, by omega, ?_, ?_, ?_⟩
      · rw [up_s, eC h hh]
      · rw [up_s, eS h hh]; exact hr
      · rw [up_s, eD h hh]; exact Nat.le_refl _
theorem wk_Q {q : Nat} {T : Nat → Nat → Bool} {m Q h : Nat} {qC qS qD lev : Nat → Nat} (hq : q ≤ 7) (hm : m ≤ 4) (hI : wkI q T m Q h qC qS qD lev) : Q ≤ 20160 := by
  have key := holes 20160 Q (fun i => rkC idn q (qC i) * 4 + qS i) (fun i hi => ?_) (fun i j a b e => ?_)
  · exact key
  · have h1 := (hI.1 i hi).1
    have h2 := rkC_lt idn hq (qC i)
    show rkC idn q (qC i) * 4 + qS i < 20160
    omega
  · have h1 := (hI.1 i (by omega)).1
    have h2 := (hI.1 j b).1
    have e2 : rkC idn q (qC i) * 4 + qS i = rkC idn q (qC j) * 4 + qS j := e
    have e3 : rkC idn q (qC i) = rkC idn q (qC j) := by omega
    exact hI.2.2.2.2.2.2 i j a b ⟨rkC_inj hq (ij_idn q) (wk_arr hq (hI.1 i (by omega)).2.1) (wk_arr hq (hI.1 j b).2.1) e3, by omega⟩
/-- the start -/
theorem wk_ini {q : Nat} {T : Nat → Nat → Bool} {m r : Nat} {lev : Nat → Nat} (hrm : r < m) (hT : ∀ j, j < r → T j (cod q idn) = true) (hTr : T r (cod q idn) = false)
    (hv : lev (cod q idn) = r + 1) (hv2 : ∀ E, arr q E → E ≠ cod q idn → lev E = 0) (qC qS qD : Nat → Nat) : wkI q T m 1 0 (up qC 0 (cod q idn)) (up qS 0 r) (up qD 0 0) lev := by
  refine ⟨?_, ?_, ?_, ?_, ?_, ?_, ?_⟩
  · intro i hi
    obtain rfl : i = 0 := by omega
    rw [up_s, up_s, up_s]
    exact ⟨hrm, ⟨rfl, hT⟩, hTr, by omega⟩
  · intro i j a b
    rw [show i = 0 by omega, show j = 0 by omega]; exact Nat.le_refl _
  · intro i j a b c
    rw [show i = 0 by omega, show j = 0 by omega]; omega
  · intro E aE
    by_cases hE : E = cod q idn
    · rw [hE, hv]
      refine ⟨fun i hi _ => by rw [show i = 0 by omega, up_s]; exact Nat.le_refl _, Or.inr ⟨0, by omega, up_s _ _ _, by rw [up_s]⟩⟩
    · refine ⟨fun i hi hc => ?_, Or.inl (hv2 E aE hE)⟩
      rw [show i = 0 by omega, up_s] at hc
      exact absurd hc.symm hE
  · intro i a
    exact absurd a (Nat.not_lt_zero _)
  · exact ⟨by omega, up_s _ _ _, up_s _ _ _⟩
  · intro i j a b
    omega
theorem wk_now {q : Nat} {T : Nat → Nat → Bool} {m r : Nat} (hr : m ≤ r) (hT : ∀ j, j < r → T j (cod q idn) = true) : wkA q T m 0 :=
  Or.inl ⟨0, rfl, ⟨cod q idn, rfl, fun j hj => hT j (by omega)⟩, fun t ht => absurd ht (Nat.not_lt_zero _)⟩
/-- the first six places tell the row -/
theorem key_inj {q C E : Nat} (hq : q ≤ 7) (hC : arr q C) (hE : arr q E) (h : C % 262144 = E % 262144) : C = E := by
  have e6 : ∀ i, i < 6 → dg 8 C i = dg 8 E i := by
    intro i hi
    have k : ∀ N i, i < 6 → dg 8 (N % 262144) i = dg 8 N i := fun N i hi => by
      have e : (262144 : Nat) = 8 ^ i * (8 * 8 ^ (5 - i)) := by
        rw [show 8 * 8 ^ (5 - i) = 8 ^ (6 - i) from by rw [show 6 - i = (5 - i) + 1 by omega, Nat.pow_succ, Nat.mul_comm], ← Nat.pow_add, show i + (6 - i) = 6 by omega]
      rw [dg, dg, e, Nat.mod_mul_right_div_self, Nat.mod_mul_right_mod]
    rw [← k C i hi, ← k E i hi, h]
  refine arr_eq hq hC hE fun i hi => ?_
  rcases Nat.lt_or_ge i 6 with x | x
  · exact e6 i x
  · obtain rfl : i = 6 := by omega
    obtain ⟨j, hj, ej⟩ := pr_ex (pr_tr (arr_f hC hq).1 (pr_sy (arr_f hE hq).1)) hi
    rcases Nat.lt_or_ge j 6 with y | y
    · have h1 := e6 j y
      have h2 := pr_ij (arr_f hE hq).1 (ij_idn q) _ _ hj hi (h1.symm.trans ej)
      omega
    · rw [show j = 6 by omega] at ej; exact ej
