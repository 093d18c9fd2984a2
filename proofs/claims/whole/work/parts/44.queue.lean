/-! the queue of the week's search, as it is kept -/
def weQ (q : Nat) (T : Nat → Nat → Bool) (m h Q : Nat) (qC qS qD lv : Nat → Nat) (tq : Nat) (qu mks : Nat → Nat) : Prop :=
  tq = Q ∧ (∀ i, i < Q → qu i = (qD i * 8 + qS i) * 2097152 + qC i) ∧ mkR lv mks ∧ (∀ k, lv k ≤ 7) ∧ wkI q T m Q h qC qS qD (fun C => lv (C % 262144))
def weS (q : Nat) (T : Nat → Nat → Bool) (m h tq : Nat) (qu mks : Nat → Nat) : Prop := h ≤ tq ∧ ∃ Q qC qS qD lv, weQ q T m h Q qC qS qD lv tq qu mks
def weJ (q : Nat) (T : Nat → Nat → Bool) (m h e C s d tq : Nat) (qu mks : Nat → Nat) : Prop := ∃ Q qC qS qD lv, weQ q T m h Q qC qS qD lv tq qu mks ∧ wkJ q h e Q qC qS qD ∧ qC h = C ∧ qS h = s ∧ qD h = d
theorem weJ_b {q : Nat} {T : Nat → Nat → Bool} {m h e C s d tq : Nat} {qu mks : Nat → Nat} (hq : q ≤ 7) (H : weJ q T m h e C s d tq qu mks) : arr q C ∧ s < m ∧ d ≤ 28 := by
  obtain ⟨Q, qC, qS, qD, lv, ⟨-, -, -, -, hI⟩, hJ, rfl, rfl, rfl⟩ := H
  obtain ⟨a, b, -, c⟩ := hI.1 h hJ.1
  exact ⟨wk_arr hq b, a, c⟩
theorem weJ_n {q : Nat} {T : Nat → Nat → Bool} {m h C s d tq : Nat} {qu mks : Nat → Nat} (H : weJ q T m h (3 * q) C s d tq qu mks) : weS q T m (h + 1) tq qu mks := by
  obtain ⟨Q, qC, qS, qD, lv, ⟨h1, h2, h3, h4, hI⟩, hJ, -, -, -⟩ := H
  exact ⟨by rw [h1]; exact hJ.1, Q, qC, qS, qD, lv, h1, h2, h3, h4, wk_nxt hI hJ⟩
theorem weJ_old {q : Nat} {T : Nat → Nat → Bool} {m h e C s d tq Q : Nat} {qu mks mks2 qC qS qD lv : Nat → Nat} (hq : q ≤ 7) (he : e < 3 * q) (H : weQ q T m h Q qC qS qD lv tq qu mks) (hJ : wkJ q h e Q qC qS qD) (eC : qC h = C) (eS : qS h = s) (eD : qD h = d)
    (hl : ¬ lv (evX q e C % 262144) < s + 1) (hm : mkR (if lv (evX q e C % 262144) < s + 1 then up lv (evX q e C % 262144) (s + 1) else lv) mks2) : weJ q T m h (e + 1) C s d tq qu mks2 := by
  subst eC; subst eS; subst eD
  obtain ⟨h1, h2, h3, h4, hI⟩ := H
  rw [if_neg hl] at hm
  have aH := wk_arr hq (hI.1 h hJ.1).2.1
  exact ⟨Q, qC, qS, qD, lv, ⟨h1, h2, hm, h4, hI⟩, wk_old hI hJ (arr_ev aH hq he) (by show qS h + 1 ≤ lv (evX q e (qC h) % 262144); omega), rfl, rfl, rfl⟩
theorem weJ_ans {q : Nat} {T : Nat → Nat → Bool} {m h e C s d tq Q r : Nat} {qu mks qC qS qD lv : Nat → Nat} (he : e < 3 * q) (H : weQ q T m h Q qC qS qD lv tq qu mks) (hJ : wkJ q h e Q qC qS qD) (eC : qC h = C) (eS : qS h = s) (eD : qD h = d)
    (hr : m ≤ r) (hT : ∀ j, s ≤ j → j < r → T j (evX q e C) = true) : wkA q T m ((d + 1 : Nat) : Int) := by
  subst eC; subst eS; subst eD
  exact wk_ans H.2.2.2.2 hJ.1 he hr hT
theorem weJ_enq {q : Nat} {T : Nat → Nat → Bool} {m h e C s d tq Q r : Nat} {qu mks mks2 qC qS qD lv : Nat → Nat} (hq : q ≤ 7) (hm4 : m ≤ 4) (he : e < 3 * q) (H : weQ q T m h Q qC qS qD lv tq qu mks) (hJ : wkJ q h e Q qC qS qD) (eC : qC h = C) (eS : qS h = s) (eD : qD h = d)
    (hl : lv (evX q e C % 262144) < s + 1) (hr : s ≤ r) (hrm : r < m) (hT : ∀ j, s ≤ j → j < r → T j (evX q e C) = true) (hTr : T r (evX q e C) = false)
    (hm : mkR (if up lv (evX q e C % 262144) (s + 1) (evX q e C % 262144) < r + 1 then up (up lv (evX q e C % 262144) (s + 1)) (evX q e C % 262144) (r + 1) else up lv (evX q e C % 262144) (s + 1)) mks2) :
    tq < 20160 ∧ d + 1 ≤ 28 ∧ weJ q T m h (e + 1) C s d (tq + 1) (up qu tq (((d + 1) * 8 + r) * 2097152 + evX q e C)) mks2 := by
  subst eC; subst eS; subst eD
  obtain ⟨h1, h2, h3, h4, hI⟩ := H
  have aH := wk_arr hq (hI.1 h hJ.1).2.1
  have aE := arr_ev aH hq he
  generalize hk : evX q e (qC h) % 262144 = k at hl hm
  have hlv : ∃ lv2 : Nat → Nat, mkR lv2 mks2 ∧ (∀ x, lv2 x ≤ 7) ∧ lv2 k = r + 1 ∧ ∀ x, x ≠ k → lv2 x = lv x := by
    have s7 : qS h + 1 ≤ 7 := by omega
    rw [up_s] at hm
    by_cases hc : qS h + 1 < r + 1
    · rw [if_pos hc] at hm
      refine ⟨_, hm, fun x => ?_, up_s _ _ _, fun x hx => by rw [up_n _ _ hx, up_n _ _ hx]⟩
      simp only [up]; split; omega; exact h4 x
    · rw [if_neg hc] at hm
      refine ⟨_, hm, fun x => ?_, by rw [up_s]; omega, fun x hx => up_n _ _ hx⟩
      simp only [up]; split; omega; exact h4 x
  obtain ⟨lv2, g1, g2, g3, g4⟩ := hlv
  have hdp := wk_deep hq hm4 hI hJ.1 aE (by show lv (evX q e (qC h) % 262144) < qS h + 1; rw [hk]; exact hl)
  have key := wk_enq (lev2 := fun C => lv2 (C % 262144)) hq hm4 hI hJ he (by show lv (evX q e (qC h) % 262144) < qS h + 1; rw [hk]; exact hl) hr hrm hT hTr (by show lv2 (evX q e (qC h) % 262144) = r + 1; rw [hk]; exact g3)
    (fun E aE2 hE => g4 _ (fun h9 => hE (key_inj hq aE2 aE (h9.trans hk.symm))))
  have hQ := wk_Q hq hm4 key.1
  refine ⟨by omega, hdp, Q + 1, _, _, _, lv2, ⟨by omega, fun i hi => ?_, g1, g2, key.1⟩, key.2, up_n _ _ ?_, up_n _ _ ?_, up_n _ _ ?_⟩
  · rcases Nat.lt_or_ge i Q with x | x
    · rw [up_n _ _ (by omega), up_n _ _ (by omega), up_n _ _ (by omega), up_n _ _ (by omega)]; exact h2 i x
    · rw [show i = tq by omega, show Q = tq by omega, up_s, up_s, up_s, up_s]
  · have := hJ.1; omega
  · have := hJ.1; omega
  · have := hJ.1; omega
theorem weS_j {q : Nat} {T : Nat → Nat → Bool} {m h tq : Nat} {qu mks : Nat → Nat} (H : weS q T m h tq qu mks) (hh : h < tq) : ∃ C s d, qu h = (d * 8 + s) * 2097152 + C ∧ weJ q T m h 0 C s d tq qu mks := by
  obtain ⟨-, Q, qC, qS, qD, lv, h1, h2, h3, h4, hI⟩ := H
  exact ⟨qC h, qS h, qD h, h2 h (by omega), Q, qC, qS, qD, lv, ⟨h1, h2, h3, h4, hI⟩, ⟨by omega, fun x hx => absurd hx (Nat.not_lt_zero _)⟩, rfl, rfl, rfl⟩
theorem weS_Q {q : Nat} {T : Nat → Nat → Bool} {m h tq : Nat} {qu mks : Nat → Nat} (hq : q ≤ 7) (hm : m ≤ 4) (H : weS q T m h tq qu mks) : tq ≤ 20160 := by
  obtain ⟨-, Q, qC, qS, qD, lv, h1, h2, h3, h4, hI⟩ := H
  rw [h1]; exact wk_Q hq hm hI
theorem weS_end {q : Nat} {T : Nat → Nat → Bool} {m h tq : Nat} {qu mks : Nat → Nat} (H : weS q T m h tq qu mks) (hh : tq ≤ h) : wkA q T m (-6) := by
  obtain ⟨h0, Q, qC, qS, qD, lv, h1, h2, h3, h4, hI⟩ := H
  obtain rfl : h = Q := by omega
  exact wk_none hI
theorem weS_ini {q : Nat} {T : Nat → Nat → Bool} {m r : Nat} {qu mks : Nat → Nat} (hq : q ≤ 7) (hm4 : m ≤ 4) (hrm : r < m) (hT : ∀ j, j < r → T j (cod q idn) = true) (hTr : T r (cod q idn) = false)
    (hm : mkR (if (0 : Nat) < r + 1 then up (fun _ => 0) (cod q idn % 262144) (r + 1) else fun _ => 0) mks) : weS q T m 0 1 (up qu 0 ((0 * 8 + r) * 2097152 + cod q idn)) mks := by
  rw [if_pos (Nat.succ_pos r)] at hm
  refine ⟨Nat.zero_le _, 1, _, _, _, _, rfl, fun i hi => ?_, hm, fun k => ?_, wk_ini (lev := fun C => up (fun _ => 0) (cod q idn % 262144) (r + 1) (C % 262144)) (qC := fun _ => 0) (qS := fun _ => 0) (qD := fun _ => 0) hrm hT hTr (up_s _ _ _) (fun E aE hE => up_n _ _ (fun h9 => hE (key_inj hq aE (arr_id q) h9)))⟩
  · obtain rfl : i = 0 := by omega
    rw [up_s, up_s, up_s, up_s]
  · simp only [up]; split <;> omega
/-- what is nowhere taught is never behind -/
theorem wk_bAll {q : Nat} {T : Nat → Nat → Bool} (hq : q ≤ 7) : ∀ {t s C : Nat}, wk q T t s C → bIn (bAll q) C
  | 0, _, _, h => by
    have hb := bfs_ok hq 5040
    exact ⟨0, hb.1, hb.2.1.trans h.1.symm⟩
  | t + 1, _, _, ⟨_, B, e, _, he, hw, hC, _⟩ => by
    obtain ⟨i, a, b⟩ := wk_bAll hq hw
    have := bAll_cl hq a he
    rw [b, ← hC] at this
    exact this
theorem wk_each {q : Nat} {T : Nat → Nat → Bool} {m j : Nat} (hq : q ≤ 7) (hj : j < m) (hn : ∀ i, i < bN (bAll q) → T j (bR (bAll q) i) = false) : wkA q T m (-6) := by
  refine Or.inr ⟨rfl, fun t ⟨C, hw⟩ => ?_⟩
  obtain ⟨t2, C2, -, hw2, hT⟩ := wk_s (wk_mono hw (show j + 1 ≤ m by omega))
  obtain ⟨i, a, b⟩ := wk_bAll hq hw2
  have := hn i a
  rw [b, hT] at this
  cases this
theorem fstT_no {T : Nat → Bool} {n : Nat} (h : fstT T n = none) : ∀ i, i < n → T i = false := by
  have key : ∀ n, fstT T n = none → ∀ i, i < n → T i = false := by
    intro n
    induction n with
    | zero => intro _ i hi; exact absurd hi (Nat.not_lt_zero _)
    | succ n ih =>
      intro h i hi
      simp only [fstT] at h
      cases hn : fstT T n with
      | some y => rw [hn] at h; cases h
      | none =>
        rw [hn] at h
        rcases Nat.lt_or_ge i n with x | x
        · exact ih hn i x
        · rw [show i = n by omega]
          cases hT : T n with
          | false => rfl
          | true => simp [hT] at h
  exact key n h
