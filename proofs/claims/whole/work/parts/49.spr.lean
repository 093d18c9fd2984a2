/-! the reference's week: how far each row is, spread from some rows on to all others -/
theorem goP {q S G : Nat} (hq : q ≤ 7) (P : Nat → Nat → Prop) (h0 : P 0 S) (hs : ∀ t C e, arr q C → P t C → e < 3 * q → t < q → P (t + 1) (evX q e C)) (aS : arr q S) (hG : arr q G) : ∀ n, n ≤ q → ∃ B, arr q B ∧ P n B ∧ ∀ j, j < n → dg 8 B j = dg 8 G (q - n + j)
  | 0, _ => ⟨S, aS, h0, fun j hj => absurd hj (Nat.not_lt_zero _)⟩
  | n + 1, hn => by
    obtain ⟨B, aB, hB, hd⟩ := goP hq P h0 hs aS hG n (by omega)
    obtain ⟨p, hp, ep⟩ := pr_ex (pr_tr (arr_f aB hq).1 (pr_sy (arr_f hG hq).1)) (j := q - (n + 1)) (by omega)
    have iG := pr_ij (arr_f hG hq).1 (ij_idn q)
    have hpn : n ≤ p := by
      rcases Nat.lt_or_ge p n with x | x
      · have h1 := hd p x
        have := iG _ _ (by omega) (by omega) (h1.symm.trans ep)
        omega
      · exact x
    refine ⟨_, arr_ev aB hq (e := p) (by omega), hs n B p aB hB (by omega) (by omega), fun j hj => ?_⟩
    have h8 : ∀ i, i < q → evF q p (dg 8 B) i < 8 := fun i hi => pr_al (R := fun x => x < 8) (pr_tr (pr_ev _ (by omega)) (arr_f aB hq).1) (fun k hk => by show k < 8; omega) i hi
    rw [evX, cod, dg_pk h8 (by omega), evF, if_pos hp]
    simp only [breadF]
    by_cases hj0 : j = 0
    · rw [if_pos hj0, hj0, Nat.add_zero]; exact ep
    · rw [if_neg hj0, if_pos (by omega), hd _ (by omega)]
      congr 1
      omega
theorem goP2 {q S G : Nat} (hq : q ≤ 7) (P : Nat → Nat → Prop) (h0 : P 0 S) (hs : ∀ t C e, arr q C → P t C → e < 3 * q → t < q → P (t + 1) (evX q e C)) (aS : arr q S) (hG : arr q G) : P q G := by
  obtain ⟨B, aB, hB, hd⟩ := goP hq P h0 hs aS hG q (Nat.le_refl _)
  have : B = G := arr_eq hq aB hG fun i hi => by
    have := hd i hi
    rwa [Nat.sub_self, Nat.zero_add] at this
  rwa [this] at hB
/-- at level d, the rows whose number is below k are done, of the one of number k the first e events -/
def spI (q : Nat) (rk : Nat → Nat) (V0 V : Nat → Nat) (d k e : Nat) : Prop :=
  (∀ C, arr q C → V C ≤ V0 C) ∧
  (∀ C, arr q C → V C = V0 C ∨ (V C ≤ d + 1 ∧ ∃ B x, arr q B ∧ x < 3 * q ∧ C = evX q x B ∧ V B + 1 = V C)) ∧
  (∀ C, arr q C → V C < d → ∀ x, x < 3 * q → V (evX q x C) ≤ V C + 1) ∧
  (∀ C, arr q C → V C = d → rk C < k → ∀ x, x < 3 * q → V (evX q x C) ≤ d + 1) ∧
  (∀ C, arr q C → V C = d → rk C = k → ∀ x, x < e → V (evX q x C) ≤ d + 1)
theorem spI_0 (q : Nat) (rk V0 : Nat → Nat) : spI q rk V0 V0 0 0 0 :=
  ⟨fun _ _ => Nat.le_refl _, fun _ _ => Or.inl rfl, fun _ _ h => absurd h (Nat.not_lt_zero _), fun _ _ _ h => absurd h (Nat.not_lt_zero _), fun _ _ _ _ _ h => absurd h (Nat.not_lt_zero _)⟩
/-- nothing to do at a row of another level -/
theorem spI_k {q : Nat} {rk V0 V : Nat → Nat} {d k C : Nat} (h : spI q rk V0 V d k 0) (hri : ∀ B C, arr q B → arr q C → rk B = rk C → B = C) (aC : arr q C) (hk : rk C = k) (hd : V C ≠ d) : spI q rk V0 V d (k + 1) 0 := by
  obtain ⟨h1, h2, h3, h4, h5⟩ := h
  refine ⟨h1, h2, h3, fun B aB hB hr x hx => ?_, fun _ _ _ _ _ h => absurd h (Nat.not_lt_zero _)⟩
  rcases Nat.lt_or_ge (rk B) k with y | y
  · exact h4 B aB hB y x hx
  · have := hri B C aB aC (by omega)
    rw [this] at hB
    exact absurd hB hd
theorem spI_n {q : Nat} {rk V0 V : Nat → Nat} {d k : Nat} (h : spI q rk V0 V d k (3 * q)) : spI q rk V0 V d (k + 1) 0 := by
  obtain ⟨h1, h2, h3, h4, h5⟩ := h
  refine ⟨h1, h2, h3, fun B aB hB hr x hx => ?_, fun _ _ _ _ _ h => absurd h (Nat.not_lt_zero _)⟩
  rcases Nat.lt_or_ge (rk B) k with y | y
  · exact h4 B aB hB y x hx
  · exact h5 B aB hB (by omega) x hx
theorem spI_e {q : Nat} {rk V0 V V2 : Nat → Nat} {d k e C : Nat} (h : spI q rk V0 V d k e) (hri : ∀ B C, arr q B → arr q C → rk B = rk C → B = C) (hq : q ≤ 7) (aC : arr q C) (hk : rk C = k) (hd : V C = d) (he : e < 3 * q)
    (hv : V2 (evX q e C) = if d + 1 < V (evX q e C) then d + 1 else V (evX q e C)) (hv2 : ∀ E, arr q E → E ≠ evX q e C → V2 E = V E) : spI q rk V0 V2 d k (e + 1) ∧ V2 C = d := by
  obtain ⟨h1, h2, h3, h4, h5⟩ := h
  have aE := arr_ev aC hq he
  have le : ∀ E, arr q E → V2 E ≤ V E := fun E a => by
    by_cases hE : E = evX q e C
    · rw [hE, hv]; split <;> omega
    · rw [hv2 E a hE]; exact Nat.le_refl _
  have eq : ∀ E, arr q E → V2 E = V E ∨ (V2 E = d + 1 ∧ d + 1 < V E ∧ E = evX q e C) := fun E a => by
    by_cases hE : E = evX q e C
    · rw [hE, hv]
      split
      · exact Or.inr ⟨rfl, by assumption, rfl⟩
      · exact Or.inl rfl
    · exact Or.inl (hv2 E a hE)
  have lo : ∀ E, arr q E → V E ≤ d + 1 → V2 E = V E := fun E a b => by
    rcases eq E a with x | ⟨-, x, -⟩
    · exact x
    · omega
  have bk : ∀ E, arr q E → V2 E ≤ d → V2 E = V E := fun E a b => by
    rcases eq E a with x | ⟨x, -, -⟩
    · exact x
    · omega
  have c2 : V2 C = d := by rw [lo C aC (by omega)]; exact hd
  refine ⟨⟨fun E a => Nat.le_trans (le E a) (h1 E a), fun E a => ?_, fun E a b x hx => ?_, fun E a b c x hx => ?_, fun E a b c x hx => ?_⟩, c2⟩
  · rcases eq E a with x | ⟨x, y, z⟩
    · rw [x]
      rcases h2 E a with u | ⟨u, B, w, aB, hw, eB, vB⟩
      · exact Or.inl u
      · exact Or.inr ⟨u, B, w, aB, hw, eB, by rw [lo B aB (by omega)]; exact vB⟩
    · exact Or.inr ⟨by omega, C, e, aC, he, z, by omega⟩
  · have hb := bk E a (by omega)
    rw [hb] at b ⊢
    exact Nat.le_trans (le _ (arr_ev a hq hx)) (h3 E a b x hx)
  · rw [bk E a (by omega)] at b
    exact Nat.le_trans (le _ (arr_ev a hq hx)) (h4 E a b c x hx)
  · rw [bk E a (by omega)] at b
    have hEC := hri E C a aC (by omega)
    rcases Nat.lt_or_ge x e with y | y
    · exact Nat.le_trans (le _ (arr_ev a hq (by omega))) (h5 E a b c x y)
    · obtain rfl : x = e := by omega
      rw [hEC, hv]; split <;> omega
theorem spI_d {q : Nat} {rk V0 V : Nat → Nat} {d k : Nat} (h : spI q rk V0 V d k 0) (hk : ∀ C, arr q C → rk C < k) : spI q rk V0 V (d + 1) 0 0 := by
  obtain ⟨h1, h2, h3, h4, h5⟩ := h
  refine ⟨h1, fun C a => ?_, fun C a b x hx => ?_, fun _ _ _ h => absurd h (Nat.not_lt_zero _), fun _ _ _ _ _ h => absurd h (Nat.not_lt_zero _)⟩
  · rcases h2 C a with u | ⟨u, w⟩
    · exact Or.inl u
    · exact Or.inr ⟨by omega, w⟩
  · rcases Nat.lt_or_ge (V C) d with y | y
    · exact h3 C a y x hx
    · have := h4 C a (by omega) (hk C a) x hx
      omega
/-- within seven levels all is told -/
theorem spI_7 {q : Nat} {rk V0 V : Nat → Nat} {d S : Nat} (h : spI q rk V0 V (d + 1) 0 0) (hq : q ≤ 7) (aS : arr q S) (h0 : V0 S = 0) (hd : 7 ≤ d + 1) : ∀ C, arr q C → V C ≤ 7 := by
  intro C aC
  have := goP2 hq (fun t C => V C ≤ t) (by have := h.1 S aS; omega) (fun t C e aC hP he ht => by
    have := h.2.2.1 C aC (by omega) e he
    omega) aS aC
  omega
/-- what spreading makes -/
def spF (q : Nat) (V0 V : Nat → Nat) : Prop := (∀ C, arr q C → V C ≤ V0 C) ∧ (∀ C, arr q C → V C = V0 C ∨ ∃ B x, arr q B ∧ x < 3 * q ∧ C = evX q x B ∧ V B + 1 = V C) ∧ ∀ C, arr q C → V C < 1000000 → ∀ x, x < 3 * q → V (evX q x C) ≤ V C + 1
theorem spI_f {q : Nat} {rk V0 V : Nat → Nat} {d : Nat} (h : spI q rk V0 V (d + 1) 0 0) (hn : ∀ C, arr q C → V C ≤ d ∨ 1000000 ≤ V C) : spF q V0 V :=
  ⟨h.1, fun C a => (h.2.1 C a).elim Or.inl (fun u => Or.inr u.2), fun C a b x hx => h.2.2.1 C a (by have := hn C a; omega) x hx⟩
/-- less the least one first, and that again behind -/
def ofs (l x : Nat) : Nat := if x < 1000000 then x - l else x
def ofb (l x : Nat) : Nat := if x < 1000000 then x + l else x
theorem spF_ofs {q l : Nat} {V0 W : Nat → Nat} (h : spF q (fun C => ofs l (V0 C)) W) (hl : ∀ C, arr q C → l ≤ V0 C) (hq : q ≤ 7) (h7 : ∀ C, arr q C → W C ≤ 7) (hl9 : l ≤ 1000) (hV : ∀ C, arr q C → V0 C ≤ 1000000) : spF q V0 (fun C => ofb l (W C)) := by
  obtain ⟨h1, h2, h3⟩ := h
  have e : ∀ C, arr q C → ofb l (W C) = W C + l := fun C a => by have := h7 C a; unfold ofb; rw [if_pos (by omega)]
  refine ⟨fun C a => ?_, fun C a => ?_, fun C a b x hx => ?_⟩
  · show ofb l (W C) ≤ V0 C
    rw [e C a]
    have g1 : W C ≤ ofs l (V0 C) := h1 C a
    have g2 := h7 C a
    have g3 := hl C a
    have g4 := hV C a
    unfold ofs at g1
    split at g1 <;> omega
  · show ofb l (W C) = V0 C ∨ ∃ B x, arr q B ∧ x < 3 * q ∧ C = evX q x B ∧ ofb l (W B) + 1 = ofb l (W C)
    rw [e C a]
    rcases h2 C a with u | ⟨B, x, aB, hx, eB, vB⟩
    · have g1 : W C = ofs l (V0 C) := u
      have g2 := h7 C a
      have g3 := hl C a
      unfold ofs at g1
      split at g1
      · exact Or.inl (by omega)
      · exact Or.inl (by omega)
    · exact Or.inr ⟨B, x, aB, hx, eB, by rw [e B aB]; omega⟩
  · show ofb l (W (evX q x C)) ≤ ofb l (W C) + 1
    rw [e C a, e _ (arr_ev a hq hx)]
    have := h3 C a (by have := h7 C a; omega) x hx
    omega
/-- sources of stage j, and how far all are then -/
def wkG (q : Nat) (T : Nat → Nat → Bool) (V : Nat → Nat) : Nat → Prop
  | 0 => ∀ C, arr q C → (C = cod q idn → V C = 0) ∧ (C ≠ cod q idn → V C = 1000000)
  | j + 1 => ∀ C, arr q C → V C ≤ 1000000 ∧ (V C < 1000000 → wk q T (V C) j C ∧ T j C = true) ∧ ∀ t, wk q T t j C → T j C = true → V C ≤ t
def wkF (q : Nat) (T : Nat → Nat → Bool) (V : Nat → Nat) (j : Nat) : Prop := ∀ C, arr q C → V C ≤ 1000000 ∧ (V C < 1000000 → wk q T (V C) j C) ∧ ∀ t, wk q T t j C → V C ≤ t
theorem wkG_le {q : Nat} {T : Nat → Nat → Bool} {V : Nat → Nat} {j : Nat} (h : wkG q T V j) : ∀ C, arr q C → V C ≤ 1000000 := by
  intro C a
  cases j with
  | zero =>
    by_cases hC : C = cod q idn
    · rw [(h C a).1 hC]; omega
    · rw [(h C a).2 hC]; omega
  | succ j => exact (h C a).1
theorem wkG_sd {q : Nat} {T : Nat → Nat → Bool} {V : Nat → Nat} {j : Nat} (h : wkG q T V j) {C : Nat} (a : arr q C) (hl : V C < 1000000) : wk q T (V C) j C := by
  cases j with
  | zero =>
    by_cases hC : C = cod q idn
    · rw [(h C a).1 hC]; exact ⟨hC, fun j hj => absurd hj (Nat.not_lt_zero _)⟩
    · rw [(h C a).2 hC] at hl; omega
  | succ j => exact wk_t ((h C a).2.1 hl).1 ((h C a).2.1 hl).2
theorem wkF_of {q : Nat} {T : Nat → Nat → Bool} {V0 V : Nat → Nat} {j : Nat} (hq : q ≤ 7) (hG : wkG q T V0 j) (hS : spF q V0 V) : wkF q T V j := by
  obtain ⟨h1, h2, h3⟩ := hS
  have sound : ∀ n C, arr q C → V C = n → n < 1000000 → wk q T n j C := by
    intro n
    induction n using Nat.strongRecOn with
    | _ n ih =>
      intro C a hn hl
      rcases h2 C a with u | ⟨B, x, aB, hx, eB, vB⟩
      · rw [← hn, u]; exact wkG_sd hG a (by omega)
      · have := wk_e (ih (V B) (by omega) B aB rfl (by omega)) hx
        rw [← eB, show V B + 1 = n by omega] at this
        exact this
  have compl : ∀ t C, arr q C → wk q T t j C → V C ≤ t := by
    intro t
    induction t with
    | zero =>
      intro C a hw
      have hV := h1 C a
      cases j with
      | zero => have := (hG C a).1 hw.1; omega
      | succ j => have := (hG C a).2.2 0 (wk_mono hw (by omega)) (hw.2 j (by omega)); omega
    | succ t ih =>
      intro C a hw
      have hV := h1 C a
      have hw0 := hw
      obtain ⟨s0, B, e, h0, he, hwB, hC, hT⟩ := hw
      have aB := wk_arr hq hwB
      rcases Nat.lt_or_ge s0 j with x | x
      · cases j with
        | zero => omega
        | succ j =>
          have := (hG C a).2.2 (t + 1) (wk_mono hw0 (by omega)) (hT j (by omega) (by omega))
          omega
      · obtain rfl : s0 = j := by omega
        have i1 := ih B aB hwB
        have hle := wkG_le hG C a
        rcases Nat.lt_or_ge (V B) 1000000 with y | y
        · have := h3 B aB y e he
          rw [← hC] at this
          omega
        · omega
  intro C a
  exact ⟨Nat.le_trans (h1 C a) (wkG_le hG C a), fun hl => sound _ C a rfl hl, fun t hw => compl t C a hw⟩
theorem wkF_no {q : Nat} {T : Nat → Nat → Bool} {V : Nat → Nat} {j : Nat} (hq : q ≤ 7) (hj : j ≤ 4) (hG : wkG q T V j) (hn : ∀ C, arr q C → V C = 1000000) : wkF q T V j := by
  intro C a
  refine ⟨by rw [hn C a]; exact Nat.le_refl _, fun hl => by rw [hn C a] at hl; omega, fun t hw => ?_⟩
  exfalso
  cases j with
  | zero => have h1 := (hG _ (arr_id q)).1 rfl; rw [hn _ (arr_id q)] at h1; omega
  | succ j =>
    obtain ⟨t2, C2, -, hw2, hT⟩ := wk_s hw
    obtain ⟨t3, C3, h3, hw3⟩ := wk_b hq hw2
    have a2 := wk_arr hq hw2
    have := (hG C2 a2).2.2 _ (wk_go2 hq hw3 a2) hT
    rw [hn C2 a2] at this
    omega
theorem wkG_of {q : Nat} {T : Nat → Nat → Bool} {V V2 : Nat → Nat} {j : Nat} (hF : wkF q T V j) (h : ∀ C, arr q C → V2 C = if T j C = true then V C else 1000000) : wkG q T V2 (j + 1) := by
  intro C a
  obtain ⟨h1, h2, h3⟩ := hF C a
  rw [h C a]
  by_cases hT : T j C = true
  · rw [if_pos hT]
    exact ⟨h1, fun hl => ⟨h2 hl, hT⟩, fun t hw _ => h3 t hw⟩
  · rw [if_neg hT]
    exact ⟨Nat.le_refl _, fun hl => absurd hl (Nat.lt_irrefl _), fun t _ h9 => absurd h9 hT⟩
theorem wk_fin {q : Nat} {T : Nat → Nat → Bool} {V : Nat → Nat} {j l : Nat} (hq : q ≤ 7) (hj : j ≤ 4) (hG : wkG q T V (j + 1)) (hl : ∀ C, arr q C → l ≤ V C) (ha : l = 1000000 ∨ ∃ C, arr q C ∧ V C = l) : wkA q T (j + 1) (if l < 1000000 then (l : Int) else -6) := by
  have low : ∀ t C, wk q T t (j + 1) C → l ≤ t := fun t C hw => by
    obtain ⟨t2, C2, h2, hw2, hT⟩ := wk_s hw
    have a2 := wk_arr hq hw2
    have h3 := (hG C2 a2).2.2 t2 hw2 hT
    have h4 := hl C2 a2
    omega
  by_cases h : l < 1000000
  · rw [if_pos h]
    rcases ha with x | ⟨C, a, e⟩
    · omega
    · refine Or.inl ⟨l, rfl, ⟨C, ?_⟩, fun t ht ⟨C2, hw⟩ => ?_⟩
      · have := (hG C a).2.1 (by omega)
        rw [e] at this
        exact wk_t this.1 this.2
      · have := low t C2 hw
        omega
  · rw [if_neg h]
    refine Or.inr ⟨rfl, fun t ⟨C, hw⟩ => ?_⟩
    obtain ⟨t2, C2, -, hw2, hT⟩ := wk_s hw
    obtain ⟨t3, C3, h3, hw3⟩ := wk_b hq hw2
    have := low _ _ (wk_t (wk_go2 hq hw3 (wk_arr hq hw2)) hT)
    omega
/-- a row that has an arrangement's form is one -/
theorem lay_cod {plc g : Nat → Nat} {q k : Nat} (hq : q ≤ 7) (hg : ij q plc) (hr : pr q g plc) (hs : ∀ p, p < q → smr g q p = lyD q k p) (hk : k < fac q) : ∃ C, arr q C ∧ rkC plc q C = k ∧ ∀ i, i < q → rwF plc C i = g i := by
  have ex : ∀ n, n ≤ q → ∃ f : Nat → Nat, ∀ i, i < n → f i < q ∧ plc (f i) = g i := by
    intro n
    induction n with
    | zero => intro _; exact ⟨fun _ => 0, fun i hi => absurd hi (Nat.not_lt_zero _)⟩
    | succ n ih =>
      intro hn
      obtain ⟨f, hf⟩ := ih (by omega)
      obtain ⟨x, hx, ex⟩ := pr_ex (pr_sy hr) (j := n) (by omega)
      refine ⟨up f n x, fun i hi => ?_⟩
      by_cases hin : i = n
      · rw [hin, up_s]; exact ⟨hx, ex⟩
      · rw [up_n _ _ hin]; exact hf i (by omega)
  obtain ⟨f, hf⟩ := ex q (Nat.le_refl _)
  have hp : pr q f idn := by
    intro P
    have h1 := hr (fun y => decide (∃ x, x < q ∧ plc x = y ∧ P x = true))
    have e1 : ∀ x, x < q → decide (∃ z, z < q ∧ plc z = plc x ∧ P z = true) = P x := fun x hx => by
      cases hP : P x with
      | true => exact decide_eq_true ⟨x, hx, rfl, hP⟩
      | false =>
        refine decide_eq_false fun ⟨z, a, b, c⟩ => ?_
        rw [hg z x a hx b, hP] at c
        cases c
    rw [cnT_cong (P := fun i => decide (∃ x, x < q ∧ plc x = g i ∧ P x = true)) (Q := fun i => P (f i)) q (fun x hx => by rw [← (hf x hx).2]; exact e1 _ (hf x hx).1),
      cnT_cong (P := fun i => decide (∃ x, x < q ∧ plc x = plc i ∧ P x = true)) (Q := fun i => P (idn i)) q (fun x hx => e1 x hx)] at h1
    exact h1
  have h8 : ∀ i, i < q → f i < 8 := fun i hi => by have := (hf i hi).1; omega
  have e2 : ∀ i, i < q → rwF plc (cod q f) i = g i := fun i hi => by
    show plc (dg 8 (pk 8 f q) i) = g i
    rw [dg_pk h8 hi]; exact (hf i hi).2
  refine ⟨cod q f, ⟨f, hp, rfl⟩, ?_, e2⟩
  exact (rk_cong e2).trans (lyD_rk2 hk hs)
/-! every number is a row's -/
theorem srt_ins {plc : Nat → Nat} {q p : Nat} (hp : p < q) : ∀ kk, kk ≤ p → ∀ f : Nat → Nat, pr q f plc → (∀ i j, i < j → j ≤ p → i ≠ kk → j ≠ kk → f i ≤ f j) → (∀ j, kk < j → j ≤ p → f kk ≤ f j) → ∃ g, pr q g plc ∧ ∀ i j, i < j → j < p + 1 → g i ≤ g j
  | 0, _, f, hr, h1, h2 => ⟨f, hr, ins_e0 h1 h2⟩
  | k + 1, hk, f, hr, h1, h2 => by
    by_cases hlt : f (k + 1) < f k
    · have h3 := ins_s hk h1 h2 hlt
      exact srt_ins hp k (by omega) _ (pr_tr (pr_swp _ (by omega) (by omega)) hr) h3.1 h3.2
    · exact ⟨f, hr, ins_e1 h1 h2 hk hlt⟩
theorem srt_ex (plc : Nat → Nat) (q : Nat) : ∀ p, p ≤ q → ∃ f, pr q f plc ∧ ∀ i j, i < j → j < p → f i ≤ f j
  | 0, _ => ⟨plc, pr_rf _ _, fun i j _ h => absurd h (Nat.not_lt_zero _)⟩
  | p + 1, hp => by
    obtain ⟨f, hr, hs⟩ := srt_ex plc q p (by omega)
    have h0 := ins_0 hs
    exact srt_ins (by omega) p (Nat.le_refl _) f hr h0.1 h0.2
theorem pick_ex {plc : Nat → Nat} {q : Nat} (k : Nat) (hg : ij q plc) : ∀ p, p ≤ q → ∃ f, pick plc q k f p
  | 0, _ => by
    obtain ⟨f, hr, hs⟩ := srt_ex plc q q (Nat.le_refl _)
    exact ⟨f, hr, fun i j _ h h2 => hs i j h h2, fun i h => absurd h (Nat.not_lt_zero _)⟩
  | p + 1, hp => by
    obtain ⟨f, hf⟩ := pick_ex k hg p (by omega)
    exact ⟨_, pick_s hg hf (by omega)⟩
theorem rk_sur {plc : Nat → Nat} {q k : Nat} (hq : q ≤ 7) (hg : ij q plc) (hk : k < fac q) : ∃ C, arr q C ∧ rkC plc q C = k := by
  obtain ⟨f, hf⟩ := pick_ex k hg q (Nat.le_refl _)
  obtain ⟨C, a, b, -⟩ := lay_cod hq hg hf.1 hf.2.2 hk
  exact ⟨C, a, b⟩
/-! how far the rows are, by their numbers -/
abbrev rkV_ (plc : Nat → Nat) (q : Nat) (v : Nat → Nat) : Nat → Nat := fun C => v (rkC plc q C)
theorem spI_k2 {q : Nat} {rk V0 V : Nat → Nat} {d k : Nat} (h : spI q rk V0 V d k 0) (hd : ∀ C, arr q C → rk C = k → V C ≠ d) : spI q rk V0 V d (k + 1) 0 := by
  obtain ⟨h1, h2, h3, h4, h5⟩ := h
  refine ⟨h1, h2, h3, fun B aB hB hr x hx => ?_, fun _ _ _ _ _ h => absurd h (Nat.not_lt_zero _)⟩
  rcases Nat.lt_or_ge (rk B) k with y | y
  · exact h4 B aB hB y x hx
  · exact absurd hB (hd B aB (by omega))
/-- one event of spreading, by the numbers -/
theorem sp_up {plc v V0 : Nat → Nat} {q d k e C x : Nat} (hq : q ≤ 7) (hg : ij q plc) (h : spI q (rkC plc q) V0 (rkV_ plc q v) d k e) (aC : arr q C) (hk : rkC plc q C = k) (hd : v k = d) (he : e < 3 * q)
    (hx : x = if d + 1 < v (rkC plc q (evX q e C)) then d + 1 else v (rkC plc q (evX q e C))) : spI q (rkC plc q) V0 (rkV_ plc q (up v (rkC plc q (evX q e C)) x)) d k (e + 1) ∧ up v (rkC plc q (evX q e C)) x k = d := by
  have aE := arr_ev aC hq he
  have h1 := spI_e (V2 := rkV_ plc q (up v (rkC plc q (evX q e C)) x)) h (fun B E aB aE e9 => rkC_inj hq hg aB aE e9) hq aC hk (by show v (rkC plc q C) = d; rw [hk]; exact hd) he (by show up v _ x _ = _; rw [up_s]; exact hx) (fun E aE2 hE => up_n _ _ (fun h9 => hE (rkC_inj hq hg aE2 aE h9)))
  refine ⟨h1.1, ?_⟩
  have h2 := h1.2
  have h3 : up v (rkC plc q (evX q e C)) x (rkC plc q C) = d := h2
  rw [hk] at h3
  exact h3
/-- behind a level: whether there is a further one -/
theorem sp_nx {plc v V0 : Nat → Nat} {q d S : Nat} {b : Bool} (hq : q ≤ 7) (hg : ij q plc) (h : spI q (rkC plc q) V0 (rkV_ plc q v) d (fac q) 0) (aS : arr q S) (h0 : V0 S = 0) (hb : b = true ↔ ∃ r, r < fac q ∧ d < v r ∧ v r < 1000000) :
    spI q (rkC plc q) V0 (rkV_ plc q v) (d + 1) 0 0 ∧ (b = true → d + 1 ≤ 7) ∧ (b = false → ∀ C, arr q C → rkV_ plc q v C ≤ d ∨ 1000000 ≤ rkV_ plc q v C) := by
  have h1 := spI_d h (fun C _ => (rkC_lt plc hq C).1)
  refine ⟨h1, fun hb1 => ?_, fun hb0 C aC => ?_⟩
  · obtain ⟨r, hr, h2, h3⟩ := hb.mp hb1
    obtain ⟨C, aC, eC⟩ := rk_sur hq hg hr
    rcases Nat.lt_or_ge 7 (d + 1) with y | y
    · have h7 : v (rkC plc q C) ≤ 7 := spI_7 h1 hq aS h0 (by omega) C aC
      rw [eC] at h7
      omega
    · exact y
  · rcases Nat.lt_or_ge d (v (rkC plc q C)) with y | y
    · rcases Nat.lt_or_ge (v (rkC plc q C)) 1000000 with z | z
      · have := hb.mpr ⟨rkC plc q C, (rkC_lt plc hq C).1, y, z⟩
        rw [hb0] at this
        cases this
      · exact Or.inr z
    · exact Or.inl y
/-- at the end all is told -/
theorem sp_fin {plc v V0 : Nat → Nat} {q d S : Nat} (hq : q ≤ 7) (h : spI q (rkC plc q) V0 (rkV_ plc q v) (d + 1) 0 0) (aS : arr q S) (h0 : V0 S = 0) (hn : ∀ C, arr q C → rkV_ plc q v C ≤ d ∨ 1000000 ≤ rkV_ plc q v C) : spF q V0 (rkV_ plc q v) ∧ ∀ C, arr q C → rkV_ plc q v C ≤ 7 := by
  have hF := spI_f h hn
  refine ⟨hF, fun C aC => ?_⟩
  have key := goP2 hq (fun t C => rkV_ plc q v C ≤ t) (by have := h.1 S aS; omega) (fun t B e aB hP he ht => by
    have := hF.2.2 B aB (by omega) e he
    omega) aS aC
  have k2 : rkV_ plc q v C ≤ q := key
  omega
def lstR (v : Nat → Nat) (k l : Nat) : Prop := l ≤ 1000000 ∧ (∀ r, r < k → l ≤ v r) ∧ (l = 1000000 ∨ ∃ r, r < k ∧ v r = l)
theorem lstR_0 (v : Nat → Nat) : lstR v 0 1000000 := ⟨Nat.le_refl _, fun _ h => absurd h (Nat.not_lt_zero _), Or.inl rfl⟩
theorem lstR_s {v : Nat → Nat} {k l x : Nat} (h : lstR v k l) (hx : x = if v k < l then v k else l) : lstR v (k + 1) x := by
  obtain ⟨h1, h2, h3⟩ := h
  by_cases hv : v k < l
  · rw [if_pos hv] at hx
    refine ⟨by omega, fun r hr => ?_, Or.inr ⟨k, by omega, hx.symm⟩⟩
    rcases Nat.lt_or_ge r k with y | y
    · have := h2 r y; omega
    · rw [show r = k by omega]; omega
  · rw [if_neg hv] at hx
    subst hx
    refine ⟨h1, fun r hr => ?_, ?_⟩
    · rcases Nat.lt_or_ge r k with y | y
      · exact h2 r y
      · rw [show r = k by omega]; omega
    · rcases h3 with z | ⟨r, a, b⟩
      · exact Or.inl z
      · exact Or.inr ⟨r, by omega, b⟩
/-- spreading from the least one: what comes of it -/
def sfR (plc : Nat → Nat) (q m : Nat) (v w : Nat → Nat) : Prop := (∀ r, r < fac q → w r ≤ m + 7 ∨ w r = 1000000) ∧ (((∀ r, r < fac q → v r = 1000000) ∧ ∀ r, r < fac q → w r = v r) ∨ spF q (rkV_ plc q v) (rkV_ plc q w))
theorem sf_no {plc v : Nat → Nat} {q m l : Nat} (hv : ∀ r, r < fac q → v r ≤ m ∨ v r = 1000000) (hm : m ≤ 1000) (h : lstR v (fac q) l) (hl : l = 1000000) : sfR plc q m v v := by
  have hf : ∀ r, r < fac q → v r = 1000000 := fun r hr => by
    have h1 := h.2.1 r hr
    have h2 := hv r hr
    omega
  exact ⟨fun r hr => Or.inr (hf r hr), Or.inl ⟨hf, fun _ _ => rfl⟩⟩
theorem sf_src {plc v vv : Nat → Nat} {q l : Nat} (hq : q ≤ 7) (hg : ij q plc) (h : lstR v (fac q) l) (hl : l ≠ 1000000) (hvv : ∀ r, r < fac q → vv r = ofs l (v r)) : ∃ S, arr q S ∧ rkV_ plc q vv S = 0 := by
  rcases h.2.2 with z | ⟨r, hr, e⟩
  · exact absurd z hl
  · obtain ⟨C, aC, eC⟩ := rk_sur hq hg hr
    refine ⟨C, aC, ?_⟩
    show vv (rkC plc q C) = 0
    have h1 := h.1
    rw [eC, hvv r hr, ofs, e, if_pos (by omega)]
    omega
theorem spF_cg {q : Nat} {V0 V1 W : Nat → Nat} (h : spF q V0 W) (he : ∀ C, arr q C → V0 C = V1 C) : spF q V1 W :=
  ⟨fun C a => by rw [← he C a]; exact h.1 C a, fun C a => by rw [← he C a]; exact h.2.1 C a, h.2.2⟩
theorem spF_cg2 {q : Nat} {V0 W X : Nat → Nat} (hq : q ≤ 7) (h : spF q V0 W) (he : ∀ C, arr q C → X C = W C) : spF q V0 X :=
  ⟨fun C a => by rw [he C a]; exact h.1 C a, fun C a => by
    rw [he C a]
    rcases h.2.1 C a with u | ⟨B, x, aB, hx, eB, vB⟩
    · exact Or.inl u
    · exact Or.inr ⟨B, x, aB, hx, eB, by rw [he B aB]; exact vB⟩, fun C a b x hx => by
    rw [he C a] at b ⊢
    rw [he _ (arr_ev a hq hx)]
    exact h.2.2 C a b x hx⟩
theorem sf_yes {plc v vv w ww : Nat → Nat} {q m l : Nat} (hq : q ≤ 7) (hg : ij q plc) (hv : ∀ r, r < fac q → v r ≤ m ∨ v r = 1000000) (hm : m ≤ 1000) (h : lstR v (fac q) l) (hl : l ≠ 1000000) (hvv : ∀ r, r < fac q → vv r = ofs l (v r))
    (hF : spF q (rkV_ plc q vv) (rkV_ plc q w)) (h7 : ∀ C, arr q C → rkV_ plc q w C ≤ 7) (hww : ∀ r, r < fac q → ww r = ofb l (w r)) : sfR plc q m v ww := by
  have hlm : l ≤ m := by
    rcases h.2.2 with z | ⟨r, hr, e⟩
    · exact absurd z hl
    · have h1 := h.1
      have h2 := hv r hr
      omega
  refine ⟨fun r hr => ?_, Or.inr ?_⟩
  · obtain ⟨C, aC, eC⟩ := rk_sur hq hg hr
    have h8 : w (rkC plc q C) ≤ 7 := h7 C aC
    rw [eC] at h8
    rw [hww r hr, ofb, if_pos (by omega)]
    omega
  · have h1 := spF_cg hF (V1 := fun C => ofs l (rkV_ plc q v C)) (fun C a => hvv _ (rkC_lt plc hq C).1)
    have h2 := spF_ofs h1 (fun C a => h.2.1 _ (rkC_lt plc hq C).1) hq h7 (by omega) (fun C a => by
      have := hv _ (rkC_lt plc hq C).1
      show v (rkC plc q C) ≤ 1000000
      omega)
    exact spF_cg2 hq h2 (fun C a => hww _ (rkC_lt plc hq C).1)
/-- the week's stages -/
theorem wk_sp {plc v w : Nat → Nat} {q j m : Nat} {T : Nat → Nat → Bool} (hq : q ≤ 7) (hj : j ≤ 4) (hG : wkG q T (rkV_ plc q v) j) (h : sfR plc q m v w) : wkF q T (rkV_ plc q w) j := by
  rcases h.2 with ⟨h1, h2⟩ | h1
  · have hn : ∀ C, arr q C → rkV_ plc q v C = 1000000 := fun C _ => h1 _ (rkC_lt plc hq C).1
    have hF := wkF_no hq hj hG hn
    intro C a
    have e : rkV_ plc q w C = rkV_ plc q v C := h2 _ (rkC_lt plc hq C).1
    rw [e]
    exact hF C a
  · exact wkF_of hq hG h1
/-- one lesson of the week, looked up row by row -/
def wkL (plc : Nat → Nat) (q : Nat) (T : Nat → Bool) (v2 v : Nat → Nat) (k l : Nat) : Prop :=
  (∀ C, arr q C → rkC plc q C < k → v (rkC plc q C) = if T C = true then v2 (rkC plc q C) else 1000000) ∧ (∀ r, k ≤ r → v r = v2 r) ∧ l ≤ 1000000 ∧ (∀ C, arr q C → rkC plc q C < k → l ≤ v (rkC plc q C)) ∧ (l = 1000000 ∨ ∃ C, arr q C ∧ rkC plc q C < k ∧ v (rkC plc q C) = l)
theorem wkL_0 (plc : Nat → Nat) (q : Nat) (T : Nat → Bool) (v2 : Nat → Nat) : wkL plc q T v2 v2 0 1000000 :=
  ⟨fun _ _ h => absurd h (Nat.not_lt_zero _), fun _ _ => rfl, Nat.le_refl _, fun _ _ h => absurd h (Nat.not_lt_zero _), Or.inl rfl⟩
theorem wkL_s {plc v2 v : Nat → Nat} {q k l x y C : Nat} {T : Nat → Bool} (hq : q ≤ 7) (hg : ij q plc) (h : wkL plc q T v2 v k l) (aC : arr q C) (eC : rkC plc q C = k) (hx : x = if T C = true then v k else 1000000) (hy : y = if up v k x k < l then up v k x k else l) : wkL plc q T v2 (up v k x) (k + 1) y := by
  obtain ⟨h1, h2, h3, h4, h5⟩ := h
  rw [up_s] at hy
  have ne : ∀ B, arr q B → rkC plc q B < k → up v k x (rkC plc q B) = v (rkC plc q B) := fun B aB hB => up_n _ _ (by omega)
  have eqC : ∀ B, arr q B → ¬ rkC plc q B < k → rkC plc q B < k + 1 → B = C := fun B aB hB hB2 => rkC_inj hq hg aB aC (by omega)
  have ek : up v k x (rkC plc q C) = x := by rw [eC, up_s]
  refine ⟨fun B aB hB => ?_, fun r hr => ?_, ?_, fun B aB hB => ?_, ?_⟩
  · by_cases hBk : rkC plc q B < k
    · rw [ne B aB hBk]; exact h1 B aB hBk
    · rw [eqC B aB hBk hB, ek, hx, eC, h2 k (Nat.le_refl _)]
  · rw [up_n _ _ (by omega)]; exact h2 r (by omega)
  · split at hy <;> omega
  · by_cases hBk : rkC plc q B < k
    · rw [ne B aB hBk]
      have := h4 B aB hBk
      split at hy <;> omega
    · rw [eqC B aB hBk hB, ek]
      split at hy <;> omega
  · by_cases hxl : x < l
    · rw [if_pos hxl] at hy
      exact Or.inr ⟨C, aC, by omega, by rw [ek]; exact hy.symm⟩
    · rw [if_neg hxl] at hy
      rcases h5 with z | ⟨B, aB, hB, e⟩
      · exact Or.inl (by omega)
      · exact Or.inr ⟨B, aB, by omega, by rw [ne B aB hB, e]; exact hy.symm⟩
/-- a stage's end -/
def wkS (plc : Nat → Nat) (q : Nat) (T : Nat → Nat → Bool) (v : Nat → Nat) (j l : Nat) : Prop :=
  wkG q T (rkV_ plc q v) j ∧ (∀ r, r < fac q → v r ≤ 7 * j ∨ v r = 1000000) ∧ l ≤ 1000000 ∧ (0 < j → (∀ C, arr q C → l ≤ rkV_ plc q v C) ∧ (l = 1000000 ∨ ∃ C, arr q C ∧ rkV_ plc q v C = l))
theorem wkS_s {plc v v2 w : Nat → Nat} {q j l l2 : Nat} {T : Nat → Nat → Bool} (hq : q ≤ 7) (hj : j ≤ 4) (hg : ij q plc) (h : wkS plc q T v j l) (hs : sfR plc q (7 * j) v v2) (hL : wkL plc q (T j) v2 w (fac q) l2) : wkS plc q T w (j + 1) l2 := by
  have hF := wk_sp hq hj h.1 hs
  obtain ⟨h1, h2, h3, h4, h5⟩ := hL
  refine ⟨wkG_of hF (fun C a => h1 C a (rkC_lt plc hq C).1), fun r hr => ?_, h3, fun _ => ⟨fun C a => h4 C a (rkC_lt plc hq C).1, ?_⟩⟩
  · obtain ⟨C, aC, eC⟩ := rk_sur hq hg hr
    have h9 := h1 C aC (by omega)
    rw [eC] at h9
    rw [h9]
    split
    · have := hs.1 r hr
      omega
    · exact Or.inr rfl
  · rcases h5 with z | ⟨C, a, b, e⟩
    · exact Or.inl z
    · exact Or.inr ⟨C, a, e⟩
theorem wkS_0 {plc v : Nat → Nat} {q : Nat} {T : Nat → Nat → Bool} (hq : q ≤ 7) (hg : ij q plc) (hv : ∀ r, r < 5040 → v r = 1000000) : wkS plc q T (up v (rkC plc q (cod q idn)) 0) 0 1000000 := by
  refine ⟨fun C a => ⟨fun e => ?_, fun e => ?_⟩, fun r hr => ?_, Nat.le_refl _, fun h => absurd h (Nat.lt_irrefl _)⟩
  · rw [e]; exact up_s _ _ _
  · show up v _ 0 (rkC plc q C) = 1000000
    have := rkC_lt plc hq C
    rw [up_n _ _ (fun h9 => e (rkC_inj hq hg a (arr_id q) h9))]
    exact hv _ (by omega)
  · have := fac_7 hq
    by_cases e : r = rkC plc q (cod q idn)
    · rw [e, up_s]; exact Or.inl (Nat.zero_le _)
    · rw [up_n _ _ e]; exact Or.inr (hv r (by omega))
theorem wkS_e {plc v : Nat → Nat} {q m l : Nat} {T : Nat → Nat → Bool} (hq : q ≤ 7) (hm : m ≤ 4) (hm1 : 1 ≤ m) (h : wkS plc q T v m l) : wkA q T m (if l < 1000000 then (l : Int) else -6) := by
  obtain ⟨j, rfl⟩ : ∃ j, m = j + 1 := ⟨m - 1, by omega⟩
  have h4 := h.2.2.2 (Nat.succ_pos _)
  exact wk_fin hq (by omega) h.1 h4.1 h4.2
/-- what a week answers -/
def wekR (num plc : Nat → Nat) (q : Nat) (a b zz : Int) : Prop :=
  if (1 ≤ b ∧ b ≤ 4) ∧ (0 ≤ a ∧ a < ((10 ^ b.toNat : Nat) : Int)) ∧ (∀ k, k < b.toNat → dg 10 a.toNat k ≤ 6) then wkA q (tkW num plc q a.toNat b.toNat) b.toNat zz else zz = -2
theorem wekR_n {num plc : Nat → Nat} {q : Nat} {a b : Int} (h : ¬ ((1 ≤ b ∧ b ≤ 4) ∧ (0 ≤ a ∧ a < ((10 ^ b.toNat : Nat) : Int)) ∧ (∀ k, k < b.toNat → dg 10 a.toNat k ≤ 6))) : wekR num plc q a b (-2) := by
  rw [wekR, if_neg h]
theorem wekR_y {num plc : Nat → Nat} {q x m : Nat} {zz : Int} (hm1 : 1 ≤ m) (hm : m ≤ 4) (ha : x < 10 ^ m) (h7 : ∀ k, k < m → dg 10 x k ≤ 6) (h : wkA q (tkW num plc q x m) m zz) : wekR num plc q (x : Int) (m : Int) zz := by
  rw [wekR, if_pos ⟨by omega, ⟨by omega, by show (x : Int) < ((10 ^ m : Nat) : Int); omega⟩, h7⟩]
  exact h
theorem wekR_one {num plc num2 plc2 : Nat → Nat} {q : Nat} {a b y z : Int} (hq1 : 1 ≤ q) (hq : q ≤ 7) (he : ∀ i, i < q → num (plc i) = num2 (plc2 i)) (h : wekR num plc q a b y) (k : wekR num2 plc2 q a b z) : y = z := by
  unfold wekR at h k
  split at h
  · rename_i hc
    rw [if_pos hc] at k
    refine wkA_one h ?_
    have hT : ∀ j C, j < b.toNat → arr q C → tkW num2 plc2 q a.toNat b.toNat j C = tkW num plc q a.toNat b.toNat j C := fun j C _ aC =>
      tau_cong hq1 (fun p hp => (he _ (arr_lt aC hq p hp)).symm)
    rcases k with ⟨t, e, ⟨C, hC⟩, h2⟩ | ⟨e, h2⟩
    · exact Or.inl ⟨t, e, ⟨C, wk_cong hq hT (Nat.le_refl _) hC⟩, fun t2 ht ⟨C2, hC2⟩ => h2 t2 ht ⟨C2, wk_cong hq (fun j C hj aC => (hT j C hj aC).symm) (Nat.le_refl _) hC2⟩⟩
    · exact Or.inr ⟨e, fun t ⟨C2, hC2⟩ => h2 t ⟨C2, wk_cong hq (fun j C hj aC => (hT j C hj aC).symm) (Nat.le_refl _) hC2⟩⟩
  · rename_i hc
    rw [if_neg hc] at k
    rw [h, k]
theorem pw_dv {m j : Nat} : 10 ^ m / 10 ^ (j + 1) / 10 = 10 ^ m / 10 ^ (j + 1 + 1) := by rw [Nat.div_div_eq_div_mul, ← Nat.pow_succ]
theorem pw_lt {m j : Nat} (h : j < m) : 10 ^ m / 10 ^ (j + 1) = 10 ^ (m - 1 - j) ∧ 0 < 10 ^ (m - 1 - j) := by
  refine ⟨?_, Nat.pow_pos (by omega)⟩
  rw [Nat.pow_div (by omega) (by omega), show m - (j + 1) = m - 1 - j by omega]
theorem pw_ge {m j : Nat} (h : m ≤ j) : 10 ^ m / 10 ^ (j + 1) = 0 := Nat.div_eq_of_lt (Nat.pow_lt_pow_right (by omega) (by omega))
theorem pw_4 {m : Nat} (h : m ≤ 4) : 10 ^ m ≤ 10000 := Nat.pow_le_pow_right (n := 10) (by omega) h
theorem pw_in {m j : Nat} : 10 ^ j < 10 ^ m ↔ j < m := Nat.pow_lt_pow_iff_right (by omega)
theorem of_up {v vv : Nat → Nat} {l k x : Nat} (hA : ∀ r, r < k → vv r = ofs l (v r)) (hB : ∀ r, k ≤ r → vv r = v r) (hx : x = if vv k < 1000000 then l else 0) : (∀ r, r < k + 1 → up vv k (vv k - x) r = ofs l (v r)) ∧ ∀ r, k + 1 ≤ r → up vv k (vv k - x) r = v r := by
  refine ⟨fun r hr => ?_, fun r hr => ?_⟩
  · rcases Nat.lt_or_ge r k with y | y
    · rw [up_n _ _ (by omega)]; exact hA r y
    · rw [show r = k by omega, up_s, hx, hB k (Nat.le_refl _), ofs]
      split <;> rfl
  · rw [up_n _ _ (by omega)]; exact hB r (by omega)
theorem ob_up {v vv : Nat → Nat} {l k x : Nat} (hA : ∀ r, r < k → vv r = ofb l (v r)) (hB : ∀ r, k ≤ r → vv r = v r) (hx : x = if vv k < 1000000 then l else 0) : (∀ r, r < k + 1 → up vv k (vv k + x) r = ofb l (v r)) ∧ ∀ r, k + 1 ≤ r → up vv k (vv k + x) r = v r := by
  refine ⟨fun r hr => ?_, fun r hr => ?_⟩
  · rcases Nat.lt_or_ge r k with y | y
    · rw [up_n _ _ (by omega)]; exact hA r y
    · rw [show r = k by omega, up_s, hx, hB k (Nat.le_refl _), ofb]
      split <;> rfl
  · rw [up_n _ _ (by omega)]; exact hB r (by omega)
