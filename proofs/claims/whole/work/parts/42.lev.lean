/-! marks: four bits a key -/
def mkR (lv mks : Nat → Nat) : Prop := ∀ s, s < 16384 → mks s = pk 16 (fun j => lv (16 * s + j)) 16
theorem mk_lt {lv mks : Nat → Nat} (h : mkR lv mks) (h7 : ∀ k, lv k ≤ 7) {s : Nat} (hs : s < 16384) : mks s < 9223372036854775808 := by
  have h1 := pkb_lt (b := 16) (f := fun j => lv (16 * s + j)) (n := 15) (fun i _ => by have := h7 (16 * s + i); show lv (16 * s + i) < 16; omega)
  have h2 := h7 (16 * s + 15)
  have h3 : lv (16 * s + 15) * 16 ^ 15 ≤ 7 * 16 ^ 15 := Nat.mul_le_mul_right _ h2
  have e : (16 : Nat) ^ 15 = 1152921504606846976 := by decide
  rw [h s hs, pk]
  rw [e] at h1 h3 ⊢
  show pk 16 (fun j => lv (16 * s + j)) 15 + lv (16 * s + 15) * 1152921504606846976 < _
  omega
theorem mk_rd {lv mks : Nat → Nat} (h : mkR lv mks) (h7 : ∀ k, lv k ≤ 7) {k : Nat} (hk : k < 262144) : mks (k / 16) / 2 ^ (k % 16 * 4) % 2 ^ 4 = lv k := by
  have h1 := dg_pk (b := 16) (f := fun j => lv (16 * (k / 16) + j)) (n := 16) (i := k % 16) (fun i _ => by have := h7 (16 * (k / 16) + i); show lv (16 * (k / 16) + i) < 16; omega) (by omega)
  rw [← h _ (by omega), dg] at h1
  rw [show 2 ^ (k % 16 * 4) = 16 ^ (k % 16) from by rw [Nat.mul_comm, Nat.pow_mul]]
  refine Eq.trans h1 ?_
  show lv (16 * (k / 16) + k % 16) = lv k
  congr 1
  omega
theorem pk_up {b : Nat} {f : Nat → Nat} {i v : Nat} (hv : f i ≤ v) : ∀ n, i < n → pk b f n + (v - f i) * b ^ i = pk b (up f i v) n
  | 0, h => absurd h (Nat.not_lt_zero _)
  | n + 1, h => by
    rcases Nat.lt_or_ge i n with x | x
    · have ih := pk_up (b := b) hv n x
      rw [pk, pk, up_n f v (show n ≠ i by omega), ← ih]
      omega
    · obtain rfl : i = n := by omega
      rw [pk, pk, up_s, pk_cong (f := up f i v) (g := f) (fun j hj => up_n _ _ (by omega)), Nat.add_assoc, ← Nat.add_mul, show f i + (v - f i) = v by omega]
theorem mk_add {lv mks : Nat → Nat} (h : mkR lv mks) {k l : Nat} (hk : k < 262144) (hl : lv k ≤ l) : mks (k / 16) + (l - lv k) * 2 ^ (k % 16 * 4) = pk 16 (fun j => up lv k l (16 * (k / 16) + j)) 16 := by
  have e1 : 16 * (k / 16) + k % 16 = k := by omega
  have h1 := pk_up (b := 16) (f := fun j => lv (16 * (k / 16) + j)) (i := k % 16) (v := l) (by show lv (16 * (k / 16) + k % 16) ≤ l; rw [e1]; exact hl) 16 (by omega)
  rw [← h _ (by omega), e1] at h1
  rw [show 2 ^ (k % 16 * 4) = 16 ^ (k % 16) from by rw [Nat.mul_comm, Nat.pow_mul], h1]
  refine pk_cong fun j hj => ?_
  simp only [up]
  by_cases hjk : j = k % 16
  · rw [if_pos hjk, if_pos (by omega)]
  · rw [if_neg hjk, if_neg (by omega)]
theorem mk_up {lv mks : Nat → Nat} (h : mkR lv mks) (k l : Nat) : mkR (up lv k l) (up mks (k / 16) (pk 16 (fun j => up lv k l (16 * (k / 16) + j)) 16)) := by
  intro s hs
  by_cases hk : s = k / 16
  · rw [hk, up_s]
  · rw [up_n _ _ hk, h s hs]
    refine pk_cong fun j hj => ?_
    rw [up_n _ _ (by omega)]
theorem mk_0 {mks : Nat → Nat} (h : ∀ s, s < 16384 → mks s = 0) : mkR (fun _ => 0) mks := by
  intro s hs
  rw [h s hs]
  have : ∀ n, pk 16 (fun _ => 0) n = 0 := by
    intro n
    induction n with
    | zero => rfl
    | succ n ih => rw [pk, ih, Nat.zero_mul]
  exact (this 16).symm
def cmZ (a b : Nat) : Int := if a < b then -1 else if a = b then 0 else 1
theorem cmZ_lt (a b : Nat) : cmZ a b < 0 ↔ a < b := by unfold cmZ; split; omega; split <;> omega
theorem cmZ_bd (a b : Nat) : -1 ≤ cmZ a b ∧ cmZ a b ≤ 1 := by unfold cmZ; split; omega; split <;> omega
/-! the rows and links of the class -/
def simR (q : Nat) (S : BS) (cnt : Nat) (rws lks : Nat → Nat) : Prop := cnt = bN S ∧ ∀ i, i < bN S → rws i = bR S i ∧ lks i = bP S i * 64 + evN q (bE S i)
def simM (q : Nat) (S : BS) (mks : Nat → Nat) : Prop := ∃ lv, mkR lv mks ∧ (∀ k, lv k ≤ 7) ∧ ∀ C, arr q C → lv (C % 262144) = if bIn S C then 1 else 0
theorem sim_add {q : Nat} {S : BS} {cnt C h e l : Nat} {rws lks lv : Nat → Nat} (hq : q ≤ 7) (hR : simR q S cnt rws lks) (h7 : ∀ k, lv k ≤ 7) (hlv : ∀ C, arr q C → lv (C % 262144) = if bIn S C then 1 else 0) (aC : arr q C) (hl : l = h * 64 + evN q e) {mks2 : Nat → Nat} (hm2 : mkR (if lv (C % 262144) < 1 then up lv (C % 262144) 1 else lv) mks2) :
    simR q (bAdd S C h e) (if lv (C % 262144) < 1 then cnt + 1 else cnt) (if lv (C % 262144) < 1 then up rws cnt C else rws) (if lv (C % 262144) < 1 then up lks cnt l else lks) ∧ simM q (bAdd S C h e) mks2 := by
  have hC := hlv C aC
  by_cases hi : bIn S C
  · rw [if_pos hi] at hC
    have hn : ¬ lv (C % 262144) < 1 := by omega
    rw [if_neg hn] at hm2
    rw [if_neg hn, if_neg hn, if_neg hn, bAdd_t hi]
    exact ⟨hR, lv, hm2, h7, hlv⟩
  · rw [if_neg hi] at hC
    have hn : lv (C % 262144) < 1 := by omega
    rw [if_pos hn] at hm2
    rw [if_pos hn, if_pos hn, if_pos hn, bAdd_f hi]
    obtain ⟨rfl, hr⟩ := hR
    refine ⟨⟨rfl, fun i hi2 => ?_⟩, _, hm2, fun k => ?_, fun E aE => ?_⟩
    · have hi3 : i < bN S + 1 := hi2
      show up rws (bN S) C i = up (bR S) (bN S) C i ∧ up lks (bN S) l i = up (bP S) (bN S) h i * 64 + evN q (up (bE S) (bN S) e i)
      rcases Nat.lt_or_ge i (bN S) with x | x
      · rw [up_n _ _ (by omega), up_n _ _ (by omega), up_n _ _ (by omega), up_n _ _ (by omega), up_n _ _ (by omega)]
        exact hr i x
      · obtain rfl : i = bN S := by omega
        rw [up_s, up_s, up_s, up_s, up_s]
        exact ⟨rfl, hl⟩
    · simp only [up]; split; omega; exact h7 k
    · have key : bIn (bN S + 1, up (bR S) (bN S) C, up (bP S) (bN S) h, up (bE S) (bN S) e, up (bD S) (bN S) (bD S h + 1)) E ↔ (bIn S E ∨ E = C) := by
        constructor
        · rintro ⟨i, a, b⟩
          have a2 : i < bN S + 1 := a
          have b2 : up (bR S) (bN S) C i = E := b
          rcases Nat.lt_or_ge i (bN S) with x | x
          · rw [up_n _ _ (by omega)] at b2
            exact Or.inl ⟨i, x, b2⟩
          · rw [show i = bN S by omega, up_s] at b2
            exact Or.inr b2.symm
        · rintro (⟨i, a, b⟩ | rfl)
          · exact ⟨i, Nat.lt_succ_of_lt a, (up_n _ _ (by omega)).trans b⟩
          · exact ⟨bN S, Nat.lt_succ_self _, up_s _ _ _⟩
      by_cases hE : E = C
      · rw [hE, up_s, if_pos (by rw [hE] at key; exact key.mpr (Or.inr rfl))]
      · rw [up_n _ _ (fun h9 => hE (key_inj hq aE aC h9)), hlv E aE]
        by_cases hE2 : bIn S E
        · rw [if_pos hE2, if_pos (key.mpr (Or.inl hE2))]
        · rw [if_neg hE2, if_neg (fun h9 => (key.mp h9).elim hE2 hE)]
/-- the first event of a sort -/
def bse (q s : Nat) : Nat := if s = 0 then 0 else if s = 1 then q else if s = 2 then 2 * q else if s = 3 then 2 * q + 1 else 3 * q
theorem bse_s {q s : Nat} (hq : 1 ≤ q) (hs : s < 4) : bse q s + plC s q = bse q (s + 1) := by
  have h4 : s = 0 ∨ s = 1 ∨ s = 2 ∨ s = 3 := by omega
  rcases h4 with rfl | rfl | rfl | rfl <;> simp [bse, plC] <;> omega
theorem bse_le {q s p : Nat} (hq : 1 ≤ q) (hs : s < 4) (hp : p < plC s q) : bse q s + p < 3 * q := by
  have h4 : s = 0 ∨ s = 1 ∨ s = 2 ∨ s = 3 := by omega
  rcases h4 with rfl | rfl | rfl | rfl <;> simp [bse, plC] at hp ⊢ <;> omega
theorem evN_bse {q s p : Nat} (hq : 1 ≤ q) (hs : s < 4) (hp : p < plC s q) : evN q (bse q s + p) = 10 * s + p := by
  have h4 : s = 0 ∨ s = 1 ∨ s = 2 ∨ s = 3 := by omega
  rcases h4 with rfl | rfl | rfl | rfl
  · simp [bse, plC] at hp ⊢; rw [evN, if_pos hp]
  · simp [bse, plC] at hp ⊢; rw [evN, if_neg (by omega), if_pos (by omega)]; omega
  · simp [bse, plC] at hp ⊢; subst hp; rw [evN, if_neg (by omega), if_neg (by omega), if_pos (by omega)]
  · simp [bse, plC] at hp ⊢; rw [evN, if_neg (by omega), if_neg (by omega), if_neg (by omega)]; omega
theorem evC_X {q s p C : Nat} (hq : 1 ≤ q) (hq7 : q ≤ 7) (hs : s < 4) (hp : p < plC s q) (h : arr q C) : evC C q s p = evX q (bse q s + p) C := by
  obtain ⟨h1, h2⟩ := arr_f h hq7
  have h8 : ∀ i, i < q → dg 8 C i < 8 := fun i hi => by have := arr_lt h hq7 i hi; omega
  unfold evX
  generalize dg 8 C = f at h1 h2 h8 ⊢
  rw [h2]
  have h4 : s = 0 ∨ s = 1 ∨ s = 2 ∨ s = 3 := by omega
  rcases h4 with rfl | rfl | rfl | rfl
  · simp [bse, plC] at hp ⊢; rw [evF, if_pos hp]; exact breadC_pk h8 hp
  · simp [bse, plC] at hp ⊢; rw [evF, if_neg (by omega), if_pos (by omega), show q + p - q = p by omega]; exact pikeC_pk h8 hp
  · simp [bse, plC] at hp ⊢; subst hp; rw [evF, if_neg (by omega), if_neg (by omega), if_pos (by omega)]; exact rainC_pk h8
  · simp [bse, plC] at hp ⊢; rw [evF, if_neg (by omega), if_neg (by omega), if_neg (by omega), show 2 * q + 1 + p - 2 * q - 1 = p by omega, show 2 * q + 1 + p - 2 * q = p + 1 by omega]; exact gustC_pk h8 (by omega)
theorem plC_b {q s : Nat} (hq : 1 ≤ q) (hq7 : q ≤ 7) : plC s q ≤ 7 := by have := plC_le s hq; omega
theorem arr_21 {q C : Nat} (hq : q ≤ 7) (h : arr q C) : C < 2097152 := by
  have h1 := (arr_f h hq).2
  have h2 : cod q (dg 8 C) < 8 ^ q := pkb_lt (fun i hi => by have := arr_lt h hq i hi; omega)
  have h3 : 8 ^ q ≤ 8 ^ 7 := Nat.pow_le_pow_right (by omega) hq
  rw [← h1] at h2
  have e : (8 : Nat) ^ 7 = 2097152 := by decide
  omega
theorem or_64 {h x : Nat} (hx : x < 64) : h * 2 ^ 6 ||| x = h * 64 + x := or_add' h hx
def ftZ : Option Nat → Int
  | none => -1
  | some x => x
theorem lcmp_N {a b : Nat} (ha : a < 9223372036854775808) (hb : b < 9223372036854775808) : lg_cmp (lN a) (lN b) = zI (cmZ a b) := by
  have h1 : lN b < lN a ↔ b < a := by rw [Int64.lt_iff_toInt_lt, pk_lT hb, pk_lT ha]; omega
  have h2 : lN a = lN b ↔ a = b := ⟨fun h => by
    have h9 := congrArg Int64.toInt h
    rw [pk_lT ha, pk_lT hb] at h9
    omega, fun h => by rw [h]⟩
  unfold lg_cmp cmZ
  by_cases h : b < a
  · rw [if_pos (h1.mpr h), if_neg (by omega), if_neg (by omega)]; rfl
  · rw [if_neg (fun h9 => h (h1.mp h9))]
    by_cases hq : a = b
    · rw [if_pos (h2.mpr hq), if_neg (by omega), if_pos hq]; rfl
    · rw [if_neg (fun h9 => hq (h2.mp h9)), if_pos (by omega)]; rfl
theorem sim_ini {k : Nat} {rws lks mks : Nat → Nat} (hk1 : 1 ≤ k) (hk : k ≤ 7) (hm : mkR (if (0 : Nat) < 1 then up (fun _ => 0) (cod k idn % 262144) 1 else fun _ => 0) mks) : simR k (bfs k 0) 1 (up rws 0 (cod k idn)) (up lks 0 0) ∧ simM k (bfs k 0) mks := by
  rw [if_pos Nat.zero_lt_one] at hm
  refine ⟨⟨rfl, fun i hi => ?_⟩, _, hm, fun x => ?_, fun C aC => ?_⟩
  · have hi2 : i < 1 := hi
    obtain rfl : i = 0 := by omega
    rw [up_s, up_s]
    refine ⟨rfl, ?_⟩
    show 0 = 0 * 64 + evN k 0
    rw [evN, if_pos (by omega)]
  · simp only [up]; split <;> omega
  · by_cases hC : C = cod k idn
    · rw [hC, up_s, if_pos ⟨0, Nat.lt_succ_self _, rfl⟩]
    · rw [up_n _ _ (fun h9 => hC (key_inj hk aC (arr_id k) h9)), if_neg (fun ⟨i, _, e⟩ => hC e.symm)]
theorem or_8 {d s : Nat} (hs : s < 8) : d * 2 ^ 3 ||| s = d * 8 + s := or_add' d hs
theorem or_21 {x R : Nat} (hR : R < 2097152) : x * 2 ^ 21 ||| R = x * 2097152 + R := or_add' x hR
def tkW (num plc : Nat → Nat) (q a m j C : Nat) : Bool := tkC num plc (dg 10 a (m - 1 - j)) q C
theorem fstT_lt {T : Nat → Bool} : ∀ {n x : Nat}, fstT T n = some x → x < n ∧ T x = true
  | 0, x, h => by cases h
  | n + 1, x, h => by
    simp only [fstT] at h
    cases hn : fstT T n with
    | some y =>
      rw [hn] at h
      cases h
      have := fstT_lt hn
      exact ⟨by omega, this.2⟩
    | none =>
      rw [hn] at h
      by_cases hT : T n = true
      · rw [if_pos hT] at h
        cases h
        exact ⟨Nat.lt_succ_self _, hT⟩
      · rw [if_neg hT] at h
        cases h
theorem ftZ_bd (o : Option Nat) : -1 ≤ ftZ o := by cases o <;> simp only [ftZ] <;> omega
theorem ftZ_lt {o : Option Nat} {n : Nat} {T : Nat → Bool} (hn : n ≤ 5040) (h : ∀ x, o = some x → x < n ∧ T x = true) : ftZ o < 5040 := by
  cases o with
  | none => simp only [ftZ]; omega
  | some x => have := (h x rfl).1; simp only [ftZ]; omega
theorem ftZ_neg {o : Option Nat} (h : ftZ o < 0) : o = none := by
  cases o with
  | none => rfl
  | some x => simp only [ftZ] at h; omega
