/-! the class's packed rows: each event on the code is the event on the row -/
theorem dg_cat {b A p : Nat} (B i : Nat) (hb : 0 < b) (hA : A < b ^ p) : dg b (A + B * b ^ p) i = if i < p then dg b A i else dg b B (i - p) := by
  split
  · rename_i h
    have e : b ^ p = b ^ i * (b * b ^ (p - i - 1)) := by
      rw [← Nat.mul_assoc, ← Nat.pow_succ, ← Nat.pow_add]
      congr 1
      omega
    rw [dg, dg, e, show B * (b ^ i * (b * b ^ (p - i - 1))) = b ^ i * (B * (b * b ^ (p - i - 1))) by rw [Nat.mul_left_comm], Nat.add_mul_div_left _ _ (Nat.pow_pos hb), show B * (b * b ^ (p - i - 1)) = b * (B * b ^ (p - i - 1)) by rw [Nat.mul_left_comm], Nat.add_mul_mod_self_left]
  · rename_i h
    have e : b ^ i = b ^ p * b ^ (i - p) := by rw [← Nat.pow_add]; congr 1; omega
    rw [dg, dg, e, ← Nat.div_div_eq_div_mul, Nat.add_mul_div_right _ _ (Nat.pow_pos hb), Nat.div_eq_of_lt hA, Nat.zero_add]
theorem dg_mod {b : Nat} (R p i : Nat) (hb : 0 < b) (h : i < p) : dg b (R % b ^ p) i = dg b R i := by
  have h1 := dg_cat (b := b) (A := R % b ^ p) (p := p) (R / b ^ p) i hb (Nat.mod_lt _ (Nat.pow_pos hb))
  rw [if_pos h, Nat.mul_comm, Nat.mod_add_div] at h1
  exact h1.symm
theorem dg_div (b R k i : Nat) : dg b (R / b ^ k) i = dg b R (i + k) := by
  rw [dg, dg, Nat.div_div_eq_div_mul, ← Nat.pow_add, Nat.add_comm]
theorem mk8 (R p : Nat) : R &&& ((1 * 2 ^ (3 * p)) - 1) = R % 8 ^ p := by rw [Nat.one_mul, Nat.and_two_pow_sub_one_eq_mod, p8]
theorem soldC_eq (R p : Nat) : soldC R p = R % 8 ^ p + R / 8 ^ (p + 1) * 8 ^ p := by
  rw [soldC, mk8, p8, ← p8 p, or_add _ (by rw [p8]; exact Nat.mod_lt _ (Nat.pow_pos (by omega))), p8]
theorem breadC_eq (R p : Nat) : breadC R p = dg 8 R p + (R % 8 ^ p + R / 8 ^ (p + 1) * 8 ^ p) * 8 := by
  have h8 : R % 8 ^ p < 8 ^ p := Nat.mod_lt _ (Nat.pow_pos (by omega))
  have hd := dg_lt (b := 8) (by omega) R p
  rw [breadC, mk8, p8, show (8 : Nat) ^ (p + 1) = 2 ^ (3 * (p + 1)) from (p8 _).symm, Nat.or_comm _ (R % 8 ^ p * 2 ^ 3), or_add _ (by rw [p8, Nat.pow_succ]; omega)]
  rw [show R % 8 ^ p * 2 ^ 3 + R / 2 ^ (3 * (p + 1)) * 2 ^ (3 * (p + 1)) = (R % 8 ^ p + R / 2 ^ (3 * (p + 1)) * 8 ^ p) * 2 ^ 3 from by rw [Nat.add_mul, p8, Nat.mul_assoc, show (8 : Nat) ^ (p + 1) = 8 ^ p * 2 ^ 3 from Nat.pow_succ 8 p], or_add' _ (by omega), Nat.add_comm]
theorem sold_dg (R p i : Nat) : dg 8 (R % 8 ^ p + R / 8 ^ (p + 1) * 8 ^ p) i = if i < p then dg 8 R i else dg 8 R (i + 1) := by
  rw [dg_cat _ _ (by omega) (Nat.mod_lt _ (Nat.pow_pos (by omega)))]
  split
  · rename_i h; rw [dg_mod _ _ _ (by omega) h]
  · rename_i h; rw [dg_div]; congr 1; omega
theorem sold_lt {R p z : Nat} (h : R < 8 ^ z) (hp : p < z) : R % 8 ^ p + R / 8 ^ (p + 1) * 8 ^ p < 8 ^ (z - 1) := by
  have h1 : R % 8 ^ p < 8 ^ p := Nat.mod_lt _ (Nat.pow_pos (by omega))
  have h2 : R / 8 ^ (p + 1) < 8 ^ (z - 1 - p) := by
    rw [Nat.div_lt_iff_lt_mul (Nat.pow_pos (by omega)), ← Nat.pow_add]
    rw [show z - 1 - p + (p + 1) = z by omega]
    exact h
  have h3 : (R / 8 ^ (p + 1) + 1) * 8 ^ p ≤ 8 ^ (z - 1 - p) * 8 ^ p := Nat.mul_le_mul_right _ h2
  rw [← Nat.pow_add, show z - 1 - p + p = z - 1 by omega, Nat.succ_mul] at h3
  omega
theorem soldC_pk {f : Nat → Nat} {z p : Nat} (hf : ∀ i, i < z → f i < 8) (hp : p < z) : soldC (pk 8 f z) p = pk 8 (pikeF p (z - 1) f) (z - 1) := by
  rw [soldC_eq]
  refine (pk_ext (by omega) (sold_lt (pkb_lt hf) hp) fun i hi => ?_).symm
  have e : pikeF p (z - 1) f i = if i < p then f i else f (i + 1) := by
    unfold pikeF
    rw [if_neg (by omega)]
    by_cases h : i < p
    · rw [if_pos h, if_neg (by omega)]
    · rw [if_neg h, if_pos (by omega)]
  rw [sold_dg, e]
  split
  · rename_i h; rw [dg_pk hf (by omega)]
  · rename_i h; rw [dg_pk hf (by omega)]
theorem breadC_pk {f : Nat → Nat} {z p : Nat} (hf : ∀ i, i < z → f i < 8) (hp : p < z) : breadC (pk 8 f z) p = pk 8 (breadF p f) z := by
  rw [breadC_eq, dg_pk hf hp]
  have h1 := sold_lt (pkb_lt hf) hp
  have h2 := hf p hp
  refine (pk_ext (by omega) ?_ fun i hi => ?_).symm
  · have e : 8 ^ z = 8 ^ (z - 1) * 8 := by
      rw [← Nat.pow_succ]
      congr 1
      omega
    omega
  · rw [show f p + (pk 8 f z % 8 ^ p + pk 8 f z / 8 ^ (p + 1) * 8 ^ p) * 8 = f p + (pk 8 f z % 8 ^ p + pk 8 f z / 8 ^ (p + 1) * 8 ^ p) * 8 ^ 1 by rw [Nat.pow_one], dg_cat _ _ (by omega) (by rw [Nat.pow_one]; exact h2), breadF]
    split
    · rw [if_pos (by omega), show i = 0 by omega, dg_0, Nat.mod_eq_of_lt h2]
    · rw [if_neg (by omega), sold_dg]
      split
      · rw [if_pos (by omega), dg_pk hf (by omega)]
      · rw [if_neg (by omega), dg_pk hf (by omega)]
        congr 1
        omega
theorem pikeC_pk {f : Nat → Nat} {z p : Nat} (hf : ∀ i, i < z → f i < 8) (hp : p < z) : pikeC (pk 8 f z) p z = pk 8 (pikeF p (z - 1) f) z := by
  have h1 : pk 8 (pikeF p (z - 1) f) (z - 1) < 8 ^ (z - 1) := by rw [← soldC_pk hf hp, soldC_eq]; exact sold_lt (pkb_lt hf) hp
  rw [pikeC, soldC_pk hf hp, dg_pk hf hp, or_add _ (by rw [p8]; exact h1), p8]
  obtain ⟨n, rfl⟩ : ∃ n, z = n + 1 := ⟨z - 1, by omega⟩
  rw [Nat.add_sub_cancel, pk]
  congr 2
  simp [pikeF]
theorem pk_sh (b : Nat) (f : Nat → Nat) : ∀ n, pk b f (n + 1) = f 0 + pk b (fun k => f (k + 1)) n * b
  | 0 => by simp [pk]
  | n + 1 => by
    rw [pk, pk_sh b f n, pk, Nat.add_mul, Nat.pow_succ, Nat.add_assoc, Nat.mul_assoc]
theorem rainC_eq (R : Nat) : ∀ i, rainC R i = pk 8 (fun j => dg 8 R (i - 1 - j)) i
  | 0 => rfl
  | i + 1 => by
    rw [rainC, or_add' _ (by have := dg_lt (b := 8) (by omega) R i; omega), rainC_eq R i, pk_sh, Nat.add_comm]
    simp only [Nat.add_sub_cancel, Nat.sub_zero]
    congr 2
    refine pk_cong fun j hj => ?_
    congr 1
    omega
theorem rainC_pk {f : Nat → Nat} {z : Nat} (hf : ∀ i, i < z → f i < 8) : rainC (pk 8 f z) z = pk 8 (rainF z f) z := by
  rw [rainC_eq]
  refine pk_cong fun j hj => ?_
  rw [dg_pk hf (by omega), rainF, if_pos hj]
theorem tb_dg (N i j : Nat) : (dg 8 N i).testBit j = (decide (j < 3) && N.testBit (3 * i + j)) := by
  rw [dg, show (8 : Nat) = 2 ^ 3 from rfl, ← Nat.pow_mul, Nat.testBit_mod_two_pow, Nat.testBit_div_two_pow, Nat.add_comm]
theorem gustC_pk {f : Nat → Nat} {z p : Nat} (hf : ∀ i, i < z → f i < 8) (hp : p + 1 < z) : gustC (pk 8 f z) p = pk 8 (swp p (p + 1) f) z := by
  generalize hR : pk 8 f z = R
  have hl : R < 8 ^ z := by rw [← hR]; exact pkb_lt hf
  have hd : ∀ i, i < z → dg 8 R i = f i := fun i hi => by rw [← hR]; exact dg_pk hf hi
  have h0 := dg_lt (b := 8) (by omega) R p
  have h1 := dg_lt (b := 8) (by omega) R (p + 1)
  have hx : dg 8 R p ^^^ dg 8 R (p + 1) < 2 ^ 3 := Nat.xor_lt_two_pow h0 h1
  have hzz : (2 : Nat) ^ (3 * z) = 8 ^ z := p8 z
  have hb : ∀ k, k + 1 ≤ z → (dg 8 R p ^^^ dg 8 R (p + 1)) * 2 ^ (3 * k) < 2 ^ (3 * z) := by
    intro k hk
    have a0 : 0 < (2 : Nat) ^ (3 * k) := Nat.pow_pos (by omega)
    have a1 : (dg 8 R p ^^^ dg 8 R (p + 1)) * 2 ^ (3 * k) < 2 ^ 3 * 2 ^ (3 * k) := (Nat.mul_lt_mul_right a0).mpr hx
    have a2 : (2 : Nat) ^ 3 * 2 ^ (3 * k) ≤ 2 ^ (3 * z) := by
      rw [← Nat.pow_add]
      exact Nat.pow_le_pow_right (by omega) (by omega)
    exact Nat.lt_of_lt_of_le a1 a2
  refine (pk_ext (by omega) ?_ fun i hi => ?_).symm
  · rw [← hzz, gustC]
    exact Nat.xor_lt_two_pow (Nat.xor_lt_two_pow (by rw [hzz]; exact hl) (hb p (by omega))) (hb (p + 1) (by omega))
  · have key : dg 8 (gustC R p) i = if i = p then dg 8 R (p + 1) else if i = p + 1 then dg 8 R p else dg 8 R i := by
      apply Nat.eq_of_testBit_eq
      intro j
      rw [tb_dg]
      by_cases hj : j < 3
      · simp only [gustC, Nat.testBit_xor, Nat.testBit_mul_two_pow, tb_dg, hj, decide_true, Bool.true_and]
        by_cases e1 : i = p
        · subst e1
          rw [if_pos rfl, tb_dg]
          simp [hj, show 3 * i ≤ 3 * i + j by omega, show 3 * i + j - 3 * i = j by omega, show ¬ 3 * (i + 1) ≤ 3 * i + j by omega]
        · rw [if_neg e1]
          by_cases e2 : i = p + 1
          · subst e2
            rw [if_pos rfl, tb_dg]
            simp [hj, show 3 * p ≤ 3 * (p + 1) + j by omega, show ¬ 3 * (p + 1) + j - 3 * p < 3 by omega, show 3 * (p + 1) + j - 3 * (p + 1) = j by omega]
            rw [Bool.xor_comm (R.testBit (3 * p + j)), ← Bool.xor_assoc, Bool.xor_self, Bool.false_xor]
          · rw [if_neg e2, tb_dg]
            rcases Nat.lt_or_ge i p with q | q
            · simp [hj, show ¬ 3 * p ≤ 3 * i + j by omega, show ¬ 3 * (p + 1) ≤ 3 * i + j by omega]
            · simp [hj, show ¬ 3 * i + j - 3 * p < 3 by omega, show ¬ 3 * i + j - 3 * (p + 1) < 3 by omega]
      · have hz8 : ∀ N i, (dg 8 N i).testBit j = false := fun N i => by rw [tb_dg]; simp [hj]
        simp only [hj, decide_false, Bool.false_and]
        split
        · exact (hz8 _ _).symm
        · split
          · exact (hz8 _ _).symm
          · exact (hz8 _ _).symm
    rw [key, swp]
    simp only [up]
    by_cases e1 : i = p
    · subst e1
      rw [if_pos rfl, if_neg (by omega), if_pos rfl, hd _ (by omega)]
    · rw [if_neg e1]
      by_cases e2 : i = p + 1
      · rw [if_pos e2, if_pos e2, hd _ (by omega)]
      · rw [if_neg e2, if_neg e2, if_neg e1, hd _ hi]
/-- the sort of a letter -/
def srt (a : Nat) : Nat := if a = 98 then 0 else if a = 103 then 3 else if a = 112 then 1 else if a = 114 then 2 else 4
theorem ofS_srt {a : Nat} (h : a = 98 ∨ a = 112 ∨ a = 103 ∨ a = 120 ∨ a = 114) : ofS a = (srt a : Int) := by
  rcases h with rfl | rfl | rfl | rfl | rfl <;> rfl
theorem plC_hap {a p z : Nat} (h : a = 98 ∨ a = 112 ∨ a = 103 ∨ a = 120 ∨ a = 114) (hz : 1 ≤ z) (h0 : a = 114 → p = 0) : hapC a p z = decide (p < plC (srt a) z) := by
  rcases h with rfl | rfl | rfl | rfl | rfl
  · simp [hapC, srt, plC]
  · simp [hapC, srt, plC]
  · show decide _ = decide (p < z - 1)
    exact decide_eq_decide.mpr (by omega)
  · show decide _ = decide (p < if 1 < z then z else 0)
    refine decide_eq_decide.mpr ?_
    split <;> omega
  · simp [hapC, srt, plC, h0 rfl]
theorem evC_hap {a p z : Nat} {f : Nat → Nat} (h : a = 98 ∨ a = 112 ∨ a = 103 ∨ a = 120 ∨ a = 114) (hf : ∀ i, i < z → f i < 8) (hc : hapC a p z = true) : evC (pk 8 f z) z (srt a) p = pk 8 (hapR a p z f) (hapZ a p z) ∧ (if srt a = 4 then z - 1 else z) = hapZ a p z := by
  have hd := of_decide_eq_true hc
  rw [hapR, if_pos hc]
  rcases h with rfl | rfl | rfl | rfl | rfl
  · simp [srt, evC, hapZ]; exact breadC_pk hf (by omega)
  · simp [srt, evC, hapZ]; exact pikeC_pk hf (by omega)
  · simp [srt, evC, hapZ]; exact gustC_pk hf (by omega)
  · simp [srt, evC, hapZ, hc]; exact soldC_pk hf (by omega)
  · simp [srt, evC, hapZ]; exact rainC_pk hf
/-! the pad of the class -/
theorem ofS_bd (c : Nat) : -1 ≤ ofS c ∧ ofS c ≤ 4 := by unfold ofS; split <;> (try split) <;> (try split) <;> (try split) <;> (try split) <;> omega
def plcS (R q : Nat) (s z : Int) : Prop := (∃ p : Nat, z = (p : Int) ∧ p < q ∧ (dg 8 R p : Int) = s ∧ ∀ x, x < p → (dg 8 R x : Int) ≠ s) ∨ (z = -1 ∧ ∀ x, x < q → (dg 8 R x : Int) ≠ s)
def evn (g : Nat → Nat) : Nat → Nat
  | 0 => 0
  | i + 1 => evn g i + (if ofS (g i) = -1 then 0 else 1)
def opZ (g : Nat → Nat) (i : Nat) : Int := if wnt g i = 0 then -1 else ofS (wnt g i)
theorem wnt_let {g : Nat → Nat} : ∀ {i : Nat}, fltG g i = none → wnt g i = 0 ∨ wnt g i = 98 ∨ wnt g i = 103 ∨ wnt g i = 112 ∨ wnt g i = 120
  | 0, _ => Or.inl rfl
  | i + 1, h => by
    cases hx : fltG g i with
    | some k => simp [fltG, hx] at h
    | none =>
      cases hf : fitS g i with
      | false => simp [fltG, hx, hf] at h
      | true =>
        simp only [wnt]
        split
        · rename_i hh
          simp [fitS, hh.1, isLet] at hf
          omega
        · exact Or.inl rfl
theorem opZ_0 {g : Nat → Nat} {i : Nat} (h : wnt g i = 0) : opZ g i = -1 := if_pos h
theorem opZ_i {g : Nat → Nat} {i : Nat} (hw : wnt g i = 0 ∨ wnt g i = 98 ∨ wnt g i = 103 ∨ wnt g i = 112 ∨ wnt g i = 120) (h : opZ g i = -1) : wnt g i = 0 := by
  rcases hw with x | x | x | x | x
  · exact x
  all_goals (rw [opZ, x] at h; exact absurd h (by decide))
theorem opZ_120 {g : Nat → Nat} {i : Nat} (hw : wnt g i = 0 ∨ wnt g i = 98 ∨ wnt g i = 103 ∨ wnt g i = 112 ∨ wnt g i = 120) : opZ g i = 4 ↔ wnt g i = 120 := by
  rcases hw with x | x | x | x | x <;> rw [opZ, x] <;> decide
theorem opZ_bd (g : Nat → Nat) (i : Nat) : -1 ≤ opZ g i ∧ opZ g i ≤ 4 := by
  unfold opZ
  split
  · omega
  · exact ofS_bd _
theorem opZ_w {g : Nat → Nat} {i : Nat} (h : wnt g i ≠ 0) : opZ g (i + 1) = -1 := if_pos (by simp [wnt, h])
theorem ofS_let {c : Nat} : ofS c = -1 ↔ ¬ (c = 98 ∨ c = 103 ∨ c = 112 ∨ c = 114 ∨ c = 120) := by
  unfold ofS
  by_cases h1 : c = 98
  · simp [h1]
  by_cases h2 : c = 103
  · simp [h2]
  by_cases h3 : c = 112
  · simp [h3]
  by_cases h4 : c = 114
  · simp [h4]
  by_cases h5 : c = 120
  · simp [h5]
  · simp [h1, h2, h3, h4, h5]
theorem ofS_2 {c : Nat} : ofS c = 2 ↔ c = 114 := by
  unfold ofS
  by_cases h1 : c = 98
  · simp [h1]
  by_cases h2 : c = 103
  · simp [h2]
  by_cases h3 : c = 112
  · simp [h3]
  by_cases h4 : c = 114
  · simp [h4]
  by_cases h5 : c = 120
  · simp [h5]
  · simp [h1, h2, h3, h4, h5]
theorem fit_n {g : Nat → Nat} {i : Nat} (h0 : wnt g i = 0) (h : ofS (g i) = -1) : fitS g i = false := by
  have := ofS_let.mp h
  rw [fitS, if_pos h0]
  simp [isLet]
  omega
theorem fit_l {g : Nat → Nat} {i : Nat} (h0 : wnt g i = 0) (h : ¬ ofS (g i) = -1) : fitS g i = true := by
  have := Decidable.of_not_not (fun x => h (ofS_let.mpr x))
  rw [fitS, if_pos h0]
  simp [isLet]
  omega
theorem opZ_r {g : Nat → Nat} {i : Nat} (h : ofS (g i) = 2) : -1 = opZ g (i + 1) := by
  have := ofS_2.mp h
  simp [opZ, wnt, this]
theorem opZ_l {g : Nat → Nat} {i : Nat} (h0 : wnt g i = 0) (h1 : ¬ ofS (g i) = -1) (h2 : ¬ ofS (g i) = 2) : ofS (g i) = opZ g (i + 1) := by
  have a := Decidable.of_not_not (fun x => h1 (ofS_let.mpr x))
  have b : ¬ g i = 114 := fun x => h2 (ofS_2.mpr x)
  simp [opZ, wnt, h0, b]
  omega
theorem fltZ_0 {g : Nat → Nat} {n : Nat} (hf : fltG g n = none) (h : wnt g n = 0) : fltZ g n = -6 := by simp [fltZ, hf, h]
theorem fltZ_w {g : Nat → Nat} {n : Nat} (hf : fltG g n = none) (h : ¬ wnt g n = 0) : fltZ g n = (n : Int) := by simp [fltZ, hf, h]
theorem plC_le (k : Nat) {q : Nat} (h : 1 ≤ q) : plC k q ≤ q := by unfold plC; split <;> (try split) <;> (try split) <;> (try split) <;> (try split) <;> omega
section
variable {p : Program} {l : Launch} {e : Env} {R : Room} {s : State} {m : MethodId} {args : Array Value} {below : List Frame} {meth : Method} {c : Code} {H : Heap} {locs : List Loc} {cells slots : Nat} {Q : State → Prop} {pc : Nat} {ls : Array Slot} {rest : List Value}
theorem vq_callSi {post : Int32 → Prop} {a : Array Value} {st0 : List Value} (hr : va_Run p l e R s m args below meth c H locs cells slots 0 0 (F0 m pc ls st0) rest (vp_Si post a) (fun _ => False))
    (kk : ∀ r : Int32, post r → W p l e R s m args below meth c H locs cells slots Q (F0 m (pc + 3) ls (.int r :: rest))) : W p l e R s m args below meth c H locs cells slots Q (F0 m pc ls st0) := by
  intro T hT X
  obtain ⟨v, st₀, t, T', L, h0, X', hL, e1, -, ⟨r, hv, hp, hh⟩, st⟩ := hr T hT X
  cases hv
  obtain ⟨t2, a1, b1⟩ := kk r hp T' (by rw [e1, hh, h0]) (Stand.forget X' (fun q h => (hL q h).elim))
  exact ⟨t2, st t2 a1, b1⟩
end
theorem srt_le (a : Nat) : srt a ≤ 4 := by unfold srt; split <;> (try split) <;> (try split) <;> (try split) <;> omega
theorem srt_2 {a : Nat} (h : a = 98 ∨ a = 112 ∨ a = 103 ∨ a = 120 ∨ a = 114) : srt a = 2 ↔ a = 114 := by rcases h with rfl | rfl | rfl | rfl | rfl <;> decide
theorem pk8_lt {f : Nat → Nat} {z : Nat} (hf : ∀ i, i < z → f i < 8) (hz : z ≤ 7) : pk 8 f z < 2097152 := Nat.lt_of_lt_of_le (pkb_lt hf) (Nat.pow_le_pow_right (n := 8) (by omega) hz)
