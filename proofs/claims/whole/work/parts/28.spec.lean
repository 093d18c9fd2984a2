/-! what each call answers, in numbers: n swans, num their numbers, plc the row of q, c sights sig, w signs pad -/
theorem tau_cong {k q : Nat} {v u : Nat → Nat} (hq : 1 ≤ q) (h : ∀ p, p < q → v p = u p) : tau k v q = tau k u q := by
  have h2 : ∀ p, p < q - 1 → v p = u p ∧ v (p + 1) = u (p + 1) := fun p hp => ⟨h p (by omega), h (p + 1) (by omega)⟩
  unfold tau
  split
  · exact decide_eq_decide.mpr (forall_congr' fun p => forall_congr' fun hp => by rw [(h2 p hp).1, (h2 p hp).2])
  split
  · exact decide_eq_decide.mpr (forall_congr' fun p => forall_congr' fun hp => by rw [(h2 p hp).1, (h2 p hp).2])
  split
  · rw [h 0 (by omega)]
  split
  · rw [sm_cong (fun i hi => h (0 + i) (by omega))]
  split
  · exact decide_eq_decide.mpr (forall_congr' fun p => forall_congr' fun hp => by rw [(h2 p hp).1, (h2 p hp).2])
  split
  · exact decide_eq_decide.mpr (forall_congr' fun p => forall_congr' fun hp => by rw [(h2 p hp).1, (h2 p hp).2])
  split
  · rw [sm_cong (v := v) (w := u) (a := 0) (fun i hi => h (0 + i) (by omega)), sm_cong (v := v) (w := u) (a := q / 2) (fun i hi => h (q / 2 + i) (by omega))]
  · rfl
theorem tbits_cong {q : Nat} {v u : Nat → Nat} (hq : 1 ≤ q) (h : ∀ p, p < q → v p = u p) : ∀ i, tbits v q i = tbits u q i
  | 0 => rfl
  | i + 1 => by rw [tbits, tbits, tbits_cong hq h i, tau_cong hq h]
theorem lr_cong {v u : Nat → Nat} : ∀ {i : Nat}, (∀ p, p < i + 1 → v p = u p) → lr v i = lr u i
  | 0, _ => rfl
  | i + 1, h => by rw [lr, lr, lr_cong (fun p hp => h p (by omega)), h i (by omega), h (i + 1) (by omega)]
theorem lrise_cong {q : Nat} {v u : Nat → Nat} (hq : 1 ≤ q) (h : ∀ p, p < q → v p = u p) : lrise v q = lrise u q := by rw [lrise, lrise, lr_cong (fun p hp => h p (by omega))]
/-- the class's line -/
theorem lin_eq {n q : Nat} {num plc : Nat → Nat} (hn7 : n ≤ 7) (hn : ∀ k, k < n → num k ≤ 99) (hp : ∀ p, p < q → plc p < n) : pk 256 (fun p => dg 256 (pk 256 num n) (dg 8 (pk 8 plc q) p)) q = pk 256 (fun p => num (plc p)) q := by
  refine pk_cong fun p h => ?_
  rw [dg_pk (fun j hj => by have := hp j hj; omega) h, dg_pk (fun j hj => by have := hn j hj; omega) (hp p h)]
theorem lin_dg {n q : Nat} {num plc : Nat → Nat} (hn : ∀ k, k < n → num k ≤ 99) (hp : ∀ p, p < q → plc p < n) : ∀ p, p < q → dg 256 (pk 256 (fun p => num (plc p)) q) p = num (plc p) :=
  fun p h => dg_pk (fun j hj => by have := hn _ (hp j hj); show num (plc j) < 256; omega) h
theorem pk256_lt {f : Nat → Nat} {z : Nat} (hf : ∀ i, i < z → f i < 256) (hz : z ≤ 7) : pk 256 f z < 9223372036854775808 := Nat.lt_of_lt_of_le (Nat.lt_of_lt_of_le (pkb_lt hf) (Nat.pow_le_pow_right (n := 256) (by omega) hz)) (by decide)
theorem pk64_lt {f : Nat → Nat} {z : Nat} (hf : ∀ i, i < z → f i < 64) (hz : z ≤ 6) : pk 64 f z < 9223372036854775808 := Nat.lt_of_lt_of_le (Nat.lt_of_lt_of_le (pkb_lt hf) (Nat.pow_le_pow_right (n := 64) (by omega) hz)) (by decide)
theorem withC_pk {f : Nat → Nat} {n k v : Nat} (hf : ∀ i, i < n → f i < 256) (hk : k < n) (hv : v < 256) : withC (pk 256 f n) k v = pk 256 (up f k v) n := by
  have h1 : pk 256 f n % 256 ^ k < 256 ^ k := Nat.mod_lt _ (Nat.pow_pos (by omega))
  have e1 : withC (pk 256 f n) k v = pk 256 f n % 256 ^ k + (v + pk 256 f n / 256 ^ (k + 1) * 256) * 256 ^ k := by
    rw [withC, Nat.add_assoc, Nat.add_mul, Nat.mul_assoc, show (256 : Nat) * 256 ^ k = 256 ^ (k + 1) from by rw [Nat.pow_succ, Nat.mul_comm]]
  rw [e1]
  refine (pk_ext (by omega) ?_ fun i hi => ?_).symm
  · have h2 : pk 256 f n / 256 ^ (k + 1) < 256 ^ (n - (k + 1)) := by
      rw [Nat.div_lt_iff_lt_mul (Nat.pow_pos (by omega)), ← Nat.pow_add, show n - (k + 1) + (k + 1) = n by omega]
      exact pkb_lt hf
    have h3 : v + pk 256 f n / 256 ^ (k + 1) * 256 < 256 ^ (n - (k + 1)) * 256 := by omega
    rw [← Nat.pow_succ, show (n - (k + 1)).succ = n - k by omega] at h3
    have h4 : (v + pk 256 f n / 256 ^ (k + 1) * 256 + 1) * 256 ^ k ≤ 256 ^ (n - k) * 256 ^ k := Nat.mul_le_mul_right _ h3
    rw [← Nat.pow_add, show n - k + k = n by omega, Nat.succ_mul] at h4
    omega
  · rw [dg_cat _ _ (by omega) h1]
    by_cases h : i < k
    · rw [if_pos h, dg_mod _ _ _ (by omega) h, dg_pk hf hi, up_n _ _ (by omega)]
    · rw [if_neg h, show v + pk 256 f n / 256 ^ (k + 1) * 256 = v + pk 256 f n / 256 ^ (k + 1) * 256 ^ 1 from by rw [Nat.pow_one], dg_cat _ _ (by omega) (by rw [Nat.pow_one]; exact hv)]
      by_cases h2 : i = k
      · subst h2
        rw [if_pos (by omega), Nat.sub_self, dg_0, Nat.mod_eq_of_lt hv, up_s]
      · rw [if_neg (by omega), dg_div, up_n _ _ h2, ← dg_pk hf hi]
        congr 1
        omega
def D0 : Nat → Nat := fun _ => 0
theorem D0_ref (k : Nat) : (fun j => 0 / 10 ^ (k - j) % 10) = D0 := by funext j; simp [D0]
theorem D0_cls (q k : Nat) : (fun j => dg q 0 (k - j)) = D0 := by funext j; simp [D0, dg]
def judZ (pad : Nat → Nat) (w : Nat) (plc : Nat → Nat) (q : Nat) : Int := if fltZ pad w = -6 then (if cq pad w = 0 then dayZ D0 pad plc q (evn pad w) else -3) else -5
def barZ (pad : Nat → Nat) (w : Nat) (plc : Nat → Nat) (q : Nat) : Int := if fltZ pad w = -6 then (if cq pad w = 0 then (if dayZ D0 pad plc q (evn pad w) = -6 then 0 else -5) else -3) else -5
def rowB (pad : Nat → Nat) (w : Nat) (plc : Nat → Nat) (q : Nat) : Nat → Nat := (dst D0 pad plc q (evn pad w)).1
def sizB (pad : Nat → Nat) (w : Nat) (plc : Nat → Nat) (q : Nat) : Nat := (dst D0 pad plc q (evn pad w)).2
def atZ (plc : Nat → Nat) (q : Nat) (a : Int) : Int := if 0 ≤ a ∧ a < q then (plc a.toNat : Int) else -1
def numZ (n : Nat) (num : Nat → Nat) (a b : Int) : Int := if 0 ≤ a ∧ a < n then (if 0 ≤ b ∧ b ≤ 99 then (num a.toNat : Int) else -2) else -1
def sayZ (w : Nat) (a : Int) : Int := if 33 ≤ a ∧ a ≤ 126 then (if w < 60 then (w : Int) + 1 else -4) else -2
def behZ (pad : Nat → Nat) (w : Nat) (plc : Nat → Nat) (q : Nat) (a : Int) : Int := if barZ pad w plc q = 0 then (if a = -1 then (sizB pad w plc q : Int) else if 0 ≤ a ∧ a < sizB pad w plc q then (rowB pad w plc q a.toNat : Int) else -6) else barZ pad w plc q
def donZ (pad : Nat → Nat) (w : Nat) (plc : Nat → Nat) (q : Nat) : Int := if barZ pad w plc q = 0 then (evn pad w : Int) else barZ pad w plc q
def tghZ (num pad : Nat → Nat) (w : Nat) (plc : Nat → Nat) (q : Nat) (a : Int) : Int := if a = 0 then (tbits (fun p => num (plc p)) q 7 : Int) else if a = 1 then (if barZ pad w plc q = 0 then (tbits (fun p => num (rowB pad w plc q p)) (sizB pad w plc q) 7 : Int) else barZ pad w plc q) else -2
/-- the events of a pad without fault are its letters -/
theorem pos_sw {g : Nat → Nat} {e : Nat} (h : g (pos g e) ≠ 114) : pos g (e + 1) = pos g e + 2 := by simp [pos, nxt, h]
theorem pos_sr {g : Nat → Nat} {e : Nat} (h : g (pos g e) = 114) : pos g (e + 1) = pos g e + 1 := by simp [pos, nxt, h]
theorem evn_pos {g : Nat → Nat} {w E : Nat} (h : wfD g w E) : ∀ e, e ≤ E → evn g (pos g e) = e
  | 0, _ => rfl
  | e + 1, he => by
    obtain ⟨hl, ho⟩ := h.2 e (by omega)
    have ih := evn_pos h e (by omega)
    have h1 : ofS (g (pos g e)) ≠ -1 := fun x => (ofS_let.mp x) (by omega)
    by_cases hr : g (pos g e) = 114
    · rw [pos_sr hr, evn, ih, if_neg h1]
    · have h2 : ofS (g (pos g e + 1)) = -1 := ofS_let.mpr (by have := ho hr; omega)
      rw [pos_sw hr, show pos g e + 2 = (pos g e + 1) + 1 from rfl, evn, evn, ih, if_neg h1, if_pos h2]
theorem evn_E {g : Nat → Nat} {w E : Nat} (h : wfD g w E) : evn g w = E := by
  have := evn_pos h E (Nat.le_refl _)
  rwa [h.1] at this
theorem fltZ_m6 {g : Nat → Nat} {w : Nat} (h : fltZ g w = -6) : fltG g w = none ∧ wnt g w = 0 := by
  unfold fltZ at h
  split at h
  · omega
  · rename_i hh
    refine ⟨hh, ?_⟩
    split at h
    · assumption
    · omega
theorem wf_evn {g : Nat → Nat} {w : Nat} (h : fltZ g w = -6) : wfD g w (evn g w) := by
  obtain ⟨E, hE⟩ := nofault (fltZ_m6 h).1 (fltZ_m6 h).2
  rw [evn_E hE]
  exact hE
theorem fltZ_bd (g : Nat → Nat) (w : Nat) : fltZ g w = -6 ∨ (0 ≤ fltZ g w ∧ fltZ g w ≤ w) := by
  have key : ∀ n, ∀ k, fltG g n = some k → k < n := by
    intro n
    induction n with
    | zero => intro k h; cases h
    | succ n ih =>
      intro k h
      simp only [fltG] at h
      split at h
      · rename_i x hx
        cases h
        have := ih _ hx; omega
      · split at h
        · cases h
        · cases h; omega
  unfold fltZ
  split
  · rename_i k hk
    have := key w k hk
    omega
  · split <;> omega
theorem cq_3 {g : Nat → Nat} : ∀ {n : Nat}, fltG g n = none → cq g n ≤ 3
  | 0, _ => Nat.zero_le _
  | n + 1, h => by
    cases hx : fltG g n with
    | some k => simp [fltG, hx] at h
    | none =>
      have ih := cq_3 hx
      cases hf : fitS g n with
      | false => simp [fltG, hx, hf] at h
      | true =>
        by_cases h63 : g n = 63
        · unfold fitS at hf
          split at hf
          · simp [isLet, h63] at hf
          · have := of_decide_eq_true hf
            omega
        · rw [cq_s h63]; exact ih
theorem dayZ_bd (D g f : Nat → Nat) (q E : Nat) : dayZ D g f q E = -6 ∨ (0 ≤ dayZ D g f q E ∧ dayZ D g f q E < E) := by
  have key : ∀ n, ∀ k, dayG D g f q n = some k → k < n := by
    intro n
    induction n with
    | zero => intro k h; cases h
    | succ n ih =>
      intro k h
      simp only [dayG] at h
      split at h
      · rename_i x hx
        cases h
        have := ih _ hx; omega
      · split at h
        · cases h
        · cases h; omega
  unfold dayZ
  split
  · rename_i k hk
    have := key E k hk
    omega
  · omega
theorem dayZ_m6 {D g f : Nat → Nat} {q E : Nat} (h : dayZ D g f q E = -6) : dayG D g f q E = none := by
  unfold dayZ at h
  split at h
  · omega
  · assumption
theorem dst2_f (D g f f2 : Nat → Nat) (q : Nat) : ∀ e, (dst D g f q e).2 = (dst D g f2 q e).2
  | 0 => rfl
  | e + 1 => by simp only [dst]; rw [dst2_f D g f f2 q e]
theorem dayG_f (D g f f2 : Nat → Nat) (q : Nat) : ∀ e, dayG D g f q e = dayG D g f2 q e
  | 0 => rfl
  | e + 1 => by
    have e1 : okE D g f q e = okE D g f2 q e := by simp only [okE]; rw [dst2_f D g f f2 q e]
    simp only [dayG, e1, dayG_f D g f f2 q e]
theorem dayZ_f (D g f f2 : Nat → Nat) (q E : Nat) : dayZ D g f q E = dayZ D g f2 q E := by rw [dayZ, dayZ, dayG_f D g f f2]
theorem dayN_f (D g f f2 : Nat → Nat) (q E : Nat) : dayN D g f q E = dayN D g f2 q E := by rw [dayN, dayN, dayG_f D g f f2]
theorem hapR_cong {a p z : Nat} {f f2 : Nat → Nat} (h : ∀ k, k < z → f k = f2 k) : ∀ k, k < hapZ a p z → hapR a p z f k = hapR a p z f2 k := by
  intro k hk
  have hz := hapZ_le a p z
  unfold hapR
  split
  · rename_i hc
    have hd := of_decide_eq_true hc
    split
    · simp only [rainF]; rw [if_pos (by omega), if_pos (by omega)]; exact h _ (by omega)
    · split
      · simp only [breadF]
        split
        · exact h _ (by omega)
        · split
          · exact h _ (by omega)
          · exact h _ (by omega)
      · split
        · simp only [pikeF]
          split
          · exact h _ (by omega)
          · split
            · exact h _ (by omega)
            · exact h _ (by omega)
        · split
          · simp only [swp, up]
            by_cases h1 : k = p + 1
            · rw [if_pos h1, if_pos h1]; exact h _ (by omega)
            · rw [if_neg h1, if_neg h1]
              by_cases h2 : k = p
              · rw [if_pos h2, if_pos h2]; exact h _ (by omega)
              · rw [if_neg h2, if_neg h2]; exact h _ (by omega)
          · rw [hapZ, if_pos ⟨hc, by omega⟩] at hk
            have hne : ¬ k = z - 1 := by omega
            simp only [pikeF, if_neg hne]
            by_cases h1 : p ≤ k ∧ k < z - 1
            · rw [if_pos h1, if_pos h1]; exact h _ (by omega)
            · rw [if_neg h1, if_neg h1]; exact h _ (by omega)
  · exact h k (by omega)
theorem dst_cong {D g f f2 : Nat → Nat} {q : Nat} (h : ∀ k, k < q → f k = f2 k) : ∀ e k, k < (dst D g f q e).2 → (dst D g f q e).1 k = (dst D g f2 q e).1 k
  | 0 => h
  | e + 1 => by
    intro k hk
    simp only [dst] at hk ⊢
    rw [← dst2_f D g f f2 q e]
    exact hapR_cong (dst_cong h e) k hk
def selB (num plc : Nat → Nat) (q k : Nat) : Nat → Nat
  | 0 => 0
  | p + 1 => selB num plc q k p ||| (if tau k (fun i => num (pikeF p (q - 1) plc i)) (q - 1) then 1 * 2 ^ (plc p) else 0)
def selZ (num plc : Nat → Nat) (q : Nat) (a : Int) : Int := if 0 ≤ a ∧ a ≤ 6 then (if 1 < q then (selB num plc q a.toNat q : Int) else 0) else -2
/-- how many of the first numbers do, the least, the greatest -/
def wrn (P : Nat → Bool) : Nat → Nat × Int × Int
  | 0 => (0, -6, -6)
  | v + 1 => if P v then ((wrn P v).1 + 1, if (wrn P v).1 = 0 then (v : Int) else (wrn P v).2.1, (v : Int)) else wrn P v
def worZ (num plc : Nat → Nat) (q : Nat) (a b c : Int) : Int := if (∃ p, p < q ∧ (plc p : Int) = a) then (if 0 ≤ b ∧ b ≤ 6 ∧ 0 ≤ c ∧ c ≤ 2 then (if c = 0 then ((wrn (fun v => tau b.toNat (fun p => up num a.toNat v (plc p)) q) 100).1 : Int) else if c = 1 then (wrn (fun v => tau b.toNat (fun p => up num a.toNat v (plc p)) q) 100).2.1 else (wrn (fun v => tau b.toNat (fun p => up num a.toNat v (plc p)) q) 100).2.2) else -2) else -1
def seeZ (n c : Nat) (a b : Int) : Int := if 0 ≤ a ∧ a < n then (if 0 ≤ b ∧ b ≤ 6 then (if c < 6 then (c : Int) + 1 else -4) else -2) else -1
def tolZ (w n q c : Nat) (num : Nat → Nat) (a : Int) : Int := if a = 0 then w else if a = 1 then n else if a = 2 then q else if a = 3 then c else if 10 ≤ a ∧ a < 10 + n then (num (a - 10).toNat : Int) else -2
theorem barZ_bd (pad : Nat → Nat) (w : Nat) (plc : Nat → Nat) (q : Nat) : barZ pad w plc q = 0 ∨ barZ pad w plc q = -3 ∨ barZ pad w plc q = -5 := by
  unfold barZ
  split
  · split
    · split
      · exact Or.inl rfl
      · exact Or.inr (Or.inr rfl)
    · exact Or.inr (Or.inl rfl)
  · exact Or.inr (Or.inr rfl)
theorem sizB_bd (pad : Nat → Nat) (w : Nat) (plc : Nat → Nat) {q : Nat} (hq : 1 ≤ q) : 1 ≤ sizB pad w plc q ∧ sizB pad w plc q ≤ q := dst_z hq _
theorem rowB_in {pad plc : Nat → Nat} {w q : Nat} {P : Nat → Prop} (h : ∀ k, k < q → P (plc k)) : ∀ k, k < sizB pad w plc q → P (rowB pad w plc q k) := dst_in h _
theorem bar_ok {D g f f2 : Nat → Nat} {q w : Nat} (hD : D = D0) (hf : ∀ k, k < q → f k = f2 k) (h6 : dayZ D0 g f2 q (evn g w) = -6) :
    (dst D g f q (dayN D g f q (evn g w))).2 = sizB g w f2 q ∧ dayN D g f q (evn g w) = evn g w ∧ ∀ k, k < (dst D g f q (dayN D g f q (evn g w))).2 → (dst D g f q (dayN D g f q (evn g w))).1 k = rowB g w f2 q k := by
  subst hD
  have hn : dayN D0 g f q (evn g w) = evn g w := by rw [dayN_f D0 g f f2]; exact dayN_n (dayZ_m6 h6)
  rw [hn]
  exact ⟨dst2_f _ _ _ _ _ _, rfl, dst_cong hf _⟩
theorem cpy7 (f g : Nat → Nat) {k : Nat} (h : k < 7) : cpy f g 7 k = f k := if_pos h
theorem evn_le (g : Nat → Nat) : ∀ i, evn g i ≤ i
  | 0 => Nat.le_refl _
  | i + 1 => by have := evn_le g i; simp only [evn]; split <;> omega
