/-! the law: what holds of the reference's numbers and of the class's, call by call -/
theorem hap_pr {a p z : Nat} (f : Nat → Nat) : pr z (hapR a p z f) f := by
  by_cases hc : hapC a p z = true
  · have hd := of_decide_eq_true hc
    rw [hapR, if_pos hc]
    by_cases h1 : a = 114
    · rw [if_pos h1]; exact pr_rain f
    · rw [if_neg h1]
      by_cases h2 : a = 98
      · rw [if_pos h2]; exact pr_bread f (by omega)
      · rw [if_neg h2]
        by_cases h3 : a = 112
        · rw [if_pos h3]; exact pr_pike f (by omega)
        · rw [if_neg h3]
          by_cases h4 : a = 103
          · rw [if_pos h4]; exact pr_swp f (by omega) (by omega)
          · rw [if_neg h4]; exact pr_pike f (by omega)
  · rw [hapR, if_neg hc]; exact pr_rf _ _
theorem dst_ij {D g f : Nat → Nat} {q : Nat} (h : ij q f) : ∀ e, ij (dst D g f q e).2 (dst D g f q e).1
  | 0 => h
  | e + 1 => by
    have h1 := pr_ij (hap_pr (a := g (pos g e)) (p := opd D g (pos g e)) (dst D g f q e).1) (dst_ij h e)
    have h2 : (dst D g f q (e + 1)).2 ≤ (dst D g f q e).2 := hapZ_le _ _ _
    intro i j hi hj hij
    exact h1 i j (Nat.lt_of_lt_of_le hi h2) (Nat.lt_of_lt_of_le hj h2) hij
def fOK (num plc sig : Nat → Nat) (n q c : Nat) : Prop := 1 ≤ n ∧ n ≤ 7 ∧ 1 ≤ q ∧ q ≤ n ∧ (∀ k, k < q → plc k < n) ∧ (∀ i j, i < q → j < q → plc i = plc j → i = j) ∧ (∀ k, k < n → num k ≤ 99) ∧ c ≤ 6 ∧ (∀ k, k < 2 * c → sig k ≤ 6)
def fPK (num plc sig : Nat → Nat) (n q c N R S : Nat) : Prop := fOK num plc sig n q c ∧ N = pk 256 num n ∧ R = pk 8 plc q ∧ S = pk 64 (fun k => 8 * sig (2 * k) + sig (2 * k + 1)) c
theorem fOK_cg {num plc sig num2 plc2 sig2 : Nat → Nat} {n q c : Nat} (h : fOK num plc sig n q c) (e1 : ∀ k, k < n → num2 k = num k) (e2 : ∀ k, k < q → plc2 k = plc k) (e3 : ∀ k, k < 2 * c → sig2 k = sig k) : fOK num2 plc2 sig2 n q c := by
  obtain ⟨h1, h2, h3, h4, h5, h6, h7, h8, h9⟩ := h
  exact ⟨h1, h2, h3, h4, fun k hk => by rw [e2 k hk]; exact h5 k hk, fun i j hi hj hij => h6 i j hi hj (by rw [← e2 i hi, ← e2 j hj]; exact hij), fun k hk => by rw [e1 k hk]; exact h7 k hk, h8, fun k hk => by rw [e3 k hk]; exact h9 k hk⟩
theorem fPK_cg {num plc sig num2 plc2 sig2 : Nat → Nat} {n q c N R S : Nat} (h : fPK num plc sig n q c N R S) (e1 : ∀ k, k < n → num2 k = num k) (e2 : ∀ k, k < q → plc2 k = plc k) (e3 : ∀ k, k < 2 * c → sig2 k = sig k) : fPK num2 plc2 sig2 n q c N R S :=
  ⟨fOK_cg h.1 e1 e2 e3, h.2.1.trans (pk_cong fun k hk => (e1 k hk).symm), h.2.2.1.trans (pk_cong fun k hk => (e2 k hk).symm), h.2.2.2.trans (pk_cong fun k hk => by rw [e3 _ (by omega), e3 _ (by omega)])⟩
def iPK (img : Nat → Nat) (o n q c N R S : Nat) : Prop := (n = img (o + 26) ∧ q = img (o + 27) ∧ c = img (o + 28)) ∧ fPK (fun k => img (o + k)) (fun k => img (o + 7 + k)) (fun k => img (o + 14 + k)) n q c N R S
def lwI (num plc sig pad img kep : Nat → Nat) (n q c w nX qX cX N R S k1 k2 na Na Ra qa Sa ca nb Nb Rb qb Sb cb : Nat) : Prop :=
  (fPK num plc sig n q c N R S ∧ n = nX ∧ q = qX ∧ c = cX) ∧ (w ≤ 60 ∧ ∀ k, k < w → pad k < 127) ∧ (kep 0 = k1 ∧ kep 1 = k2 ∧ k1 ≤ 1 ∧ k2 ≤ 1) ∧ (k1 ≠ 0 → iPK img 0 na qa ca Na Ra Sa) ∧ (k2 ≠ 0 → iPK img 32 nb qb cb Nb Rb Sb)
section
variable {num plc sig pad img kep : Nat → Nat} {n q c w N R S k1 k2 na Na Ra qa Sa ca nb Nb Rb qb Sb cb : Nat}
theorem lw_ini : lwI (cpy (fun k => k + 1) (fun _ => 0) 7) (cpy (fun k => k) (fun _ => 0) 7) (fun _ => 0) (fun _ => 0) (fun _ => 0) (fun _ => 0) 4 4 0 0 4 4 0 (pk 256 (fun i => i + 1) 4) (pk 8 (fun i => i) 4) 0 0 0 0 0 0 0 0 0 0 0 0 0 0 0 := by
  have e1 : ∀ k, k < 4 → cpy (fun k => k + 1) (fun _ => 0) 7 k = k + 1 := fun k hk => cpy7 _ _ (by omega)
  have e2 : ∀ k, k < 4 → cpy (fun k => k) (fun _ => 0) 7 k = k := fun k hk => cpy7 _ _ (by omega)
  refine ⟨⟨⟨⟨by omega, by omega, by omega, by omega, fun k hk => by rw [e2 k hk]; exact hk, fun i j hi hj hij => by rw [e2 i hi, e2 j hj] at hij; exact hij, fun k hk => by rw [e1 k hk]; omega, by omega, fun k hk => Nat.zero_le _⟩, pk_cong fun k hk => (e1 k hk).symm, pk_cong fun k hk => (e2 k hk).symm, rfl⟩, rfl, rfl, rfl⟩, ⟨by omega, fun k hk => by omega⟩, ⟨rfl, rfl, by omega, by omega⟩, fun h => absurd rfl h, fun h => absurd rfl h⟩
theorem lw_swans (h : lwI num plc sig pad img kep n q c w n q c N R S k1 k2 na Na Ra qa Sa ca nb Nb Rb qb Sb cb) (a : Int) :
    lwI (if 1 ≤ a ∧ a ≤ 7 then cpy (fun k => k + 1) num 7 else num) (if 1 ≤ a ∧ a ≤ 7 then cpy (fun k => k) plc 7 else plc) sig pad img kep (if 1 ≤ a ∧ a ≤ 7 then a.toNat else n) (if 1 ≤ a ∧ a ≤ 7 then a.toNat else q) (if 1 ≤ a ∧ a ≤ 7 then 0 else c) w (if 1 ≤ a ∧ a ≤ 7 then a.toNat else n) (if 1 ≤ a ∧ a ≤ 7 then a.toNat else q) (if 1 ≤ a ∧ a ≤ 7 then 0 else c)
      (if 1 ≤ a ∧ a ≤ 7 then pk 256 (fun i => i + 1) a.toNat else N) (if 1 ≤ a ∧ a ≤ 7 then pk 8 (fun i => i) a.toNat else R) (if 1 ≤ a ∧ a ≤ 7 then 0 else S) k1 k2 na Na Ra qa Sa ca nb Nb Rb qb Sb cb := by
  by_cases ha : 1 ≤ a ∧ a ≤ 7
  · simp only [if_pos ha]
    have e1 : ∀ k, k < a.toNat → cpy (fun k => k + 1) num 7 k = k + 1 := fun k hk => cpy7 _ _ (by omega)
    have e2 : ∀ k, k < a.toNat → cpy (fun k => k) plc 7 k = k := fun k hk => cpy7 _ _ (by omega)
    exact ⟨⟨⟨⟨by omega, by omega, by omega, by omega, fun k hk => by rw [e2 k hk]; exact hk, fun i j hi hj hij => by rw [e2 i hi, e2 j hj] at hij; exact hij, fun k hk => by rw [e1 k hk]; omega, by omega, fun k hk => by omega⟩, pk_cong fun k hk => (e1 k hk).symm, pk_cong fun k hk => (e2 k hk).symm, rfl⟩, rfl, rfl, rfl⟩, h.2⟩
  · simp only [if_neg ha]
    exact h
theorem lw_number (h : lwI num plc sig pad img kep n q c w n q c (pk 256 num n) R S k1 k2 na Na Ra qa Sa ca nb Nb Rb qb Sb cb) (a b : Int) :
    lwI (if (0 ≤ a ∧ a < n) ∧ (0 ≤ b ∧ b ≤ 99) then up num a.toNat b.toNat else num) plc sig pad img kep n q c w n q c (pk 256 (if (0 ≤ a ∧ a < n) ∧ (0 ≤ b ∧ b ≤ 99) then up num a.toNat b.toNat else num) n) R S k1 k2 na Na Ra qa Sa ca nb Nb Rb qb Sb cb := by
  by_cases ha : (0 ≤ a ∧ a < n) ∧ (0 ≤ b ∧ b ≤ 99)
  · simp only [if_pos ha]
    obtain ⟨⟨⟨⟨h1, h2, h3, h4, h5, h6, h7, h8, h9⟩, -, hR, hS⟩, -⟩, h0⟩ := h
    exact ⟨⟨⟨⟨h1, h2, h3, h4, h5, h6, fun k hk => by simp only [up]; split; omega; exact h7 k hk, h8, h9⟩, rfl, hR, hS⟩, rfl, rfl, rfl⟩, h0⟩
  · simp only [if_neg ha]
    exact h
theorem lw_say (h : lwI num plc sig pad img kep n q c w n q c N R S k1 k2 na Na Ra qa Sa ca nb Nb Rb qb Sb cb) (a : Int) :
    lwI num plc sig (if (33 ≤ a ∧ a ≤ 126) ∧ w < 60 then up pad w a.toNat else pad) img kep n q c (if (33 ≤ a ∧ a ≤ 126) ∧ w < 60 then w + 1 else w) n q c N R S k1 k2 na Na Ra qa Sa ca nb Nb Rb qb Sb cb := by
  by_cases ha : (33 ≤ a ∧ a ≤ 126) ∧ w < 60
  · simp only [if_pos ha]
    exact ⟨h.1, ⟨by omega, fun k hk => by simp only [up]; split; omega; exact h.2.1.2 k (by omega)⟩, h.2.2⟩
  · simp only [if_neg ha]
    exact h
theorem lw_wipe (h : lwI num plc sig pad img kep n q c w n q c N R S k1 k2 na Na Ra qa Sa ca nb Nb Rb qb Sb cb) :
    lwI num plc sig pad img kep n q c 0 n q c N R S k1 k2 na Na Ra qa Sa ca nb Nb Rb qb Sb cb :=
  ⟨h.1, ⟨by omega, fun k hk => by omega⟩, h.2.2⟩
theorem lw_done {plc2 : Nat → Nat} (h : lwI num plc sig pad img kep n q c w n q c N (pk 8 plc q) S k1 k2 na Na Ra qa Sa ca nb Nb Rb qb Sb cb)
    (hd : (barZ pad w plc q = 0 → ∀ k, k < sizB pad w plc q → plc2 k = rowB pad w plc q k) ∧ (¬ barZ pad w plc q = 0 → plc2 = plc)) :
    lwI num plc2 sig pad img kep n (if barZ pad w plc q = 0 then sizB pad w plc q else q) c (if barZ pad w plc q = 0 then 0 else w) n (if barZ pad w plc q = 0 then sizB pad w plc q else q) c N (if barZ pad w plc q = 0 then pk 8 (rowB pad w plc q) (sizB pad w plc q) else pk 8 plc q) S k1 k2 na Na Ra qa Sa ca nb Nb Rb qb Sb cb := by
  by_cases hb : barZ pad w plc q = 0
  · simp only [if_pos hb]
    have e := hd.1 hb
    obtain ⟨⟨⟨⟨h1, h2, h3, h4, h5, h6, h7, h8, h9⟩, hN, -, hS⟩, -⟩, hw, h0⟩ := h
    have hz := sizB_bd pad w plc h3
    have hi := rowB_in (pad := pad) (w := w) (q := q) (P := fun x => x < n) h5
    have hj : ij (sizB pad w plc q) (rowB pad w plc q) := dst_ij h6 _
    exact ⟨⟨⟨⟨h1, h2, hz.1, by omega, fun k hk => by rw [e k hk]; exact hi k hk, fun i j hi2 hj2 hij => hj i j hi2 hj2 (by rw [← e i hi2, ← e j hj2]; exact hij), h7, h8, h9⟩, hN, pk_cong fun k hk => (e k hk).symm, hS⟩, rfl, rfl, rfl⟩, ⟨by omega, fun k hk => by omega⟩, h0⟩
  · simp only [if_neg hb]
    rw [hd.2 hb]
    exact h
theorem lw_seen (h : lwI num plc sig pad img kep n q c w n q c N R S k1 k2 na Na Ra qa Sa ca nb Nb Rb qb Sb cb) (a b : Int) :
    lwI num plc (if (0 ≤ a ∧ a < n) ∧ (0 ≤ b ∧ b ≤ 6) ∧ c < 6 then up (up sig (2 * c) a.toNat) (2 * c + 1) b.toNat else sig) pad img kep n q (if (0 ≤ a ∧ a < n) ∧ (0 ≤ b ∧ b ≤ 6) ∧ c < 6 then c + 1 else c) w n q (if (0 ≤ a ∧ a < n) ∧ (0 ≤ b ∧ b ≤ 6) ∧ c < 6 then c + 1 else c) N R
      (if (0 ≤ a ∧ a < n) ∧ (0 ≤ b ∧ b ≤ 6) ∧ c < 6 then S ||| (8 * a.toNat + b.toNat) * 2 ^ (6 * c) else S) k1 k2 na Na Ra qa Sa ca nb Nb Rb qb Sb cb := by
  by_cases ha : (0 ≤ a ∧ a < n) ∧ (0 ≤ b ∧ b ≤ 6) ∧ c < 6
  · simp only [if_pos ha]
    obtain ⟨⟨⟨⟨h1, h2, h3, h4, h5, h6, h7, h8, h9⟩, hN, hR, hS⟩, -⟩, h0⟩ := h
    have es : ∀ k, k < 2 * c → up (up sig (2 * c) a.toNat) (2 * c + 1) b.toNat k = sig k := fun k hk => by rw [up_n _ _ (by omega), up_n _ _ (by omega)]
    have e0 : up (up sig (2 * c) a.toNat) (2 * c + 1) b.toNat (2 * c) = a.toNat := by rw [up_n _ _ (by omega), up_s]
    have e1 : up (up sig (2 * c) a.toNat) (2 * c + 1) b.toNat (2 * c + 1) = b.toNat := up_s _ _ _
    have hl : S < 2 ^ (6 * c) := by
      rw [hS, show (2 : Nat) ^ (6 * c) = 64 ^ c from by rw [Nat.pow_mul]]
      exact pkb_lt fun i hi => by
        have x1 := h9 (2 * i) (by omega)
        have x2 := h9 (2 * i + 1) (by omega)
        show 8 * sig (2 * i) + sig (2 * i + 1) < 64
        omega
    refine ⟨⟨⟨⟨h1, h2, h3, h4, h5, h6, h7, by omega, fun k hk => ?_⟩, hN, hR, ?_⟩, rfl, rfl, rfl⟩, h0⟩
    · rcases Nat.lt_or_ge k (2 * c) with y | y
      · rw [es k y]; exact h9 k y
      · rcases Nat.lt_or_ge k (2 * c + 1) with z | z
        · rw [show k = 2 * c by omega, e0]; omega
        · rw [show k = 2 * c + 1 by omega, e1]; omega
    · rw [or_add _ hl, show (2 : Nat) ^ (6 * c) = 64 ^ c from by rw [Nat.pow_mul], pk, e0, e1, hS]
      congr 1
      exact pk_cong fun k hk => by rw [es _ (by omega), es _ (by omega)]
  · simp only [if_neg ha]
    exact h
theorem lw_forget (h : lwI num plc sig pad img kep n q c w n q c N R S k1 k2 na Na Ra qa Sa ca nb Nb Rb qb Sb cb) :
    lwI num plc sig pad img kep n q 0 w n q 0 N R 0 k1 k2 na Na Ra qa Sa ca nb Nb Rb qb Sb cb := by
  obtain ⟨⟨⟨⟨h1, h2, h3, h4, h5, h6, h7, h8, h9⟩, hN, hR, hS⟩, -⟩, h0⟩ := h
  exact ⟨⟨⟨⟨h1, h2, h3, h4, h5, h6, h7, by omega, fun k hk => by omega⟩, hN, hR, rfl⟩, rfl, rfl, rfl⟩, h0⟩
theorem imF_1 (o j : Nat) (hj : j < 7) : imF num plc sig n q c o img (o + j) = num j := by
  rw [imF, up_n _ _ (by omega), up_n _ _ (by omega), up_n _ _ (by omega), imB, if_neg (by omega), imA, if_pos (by omega), show o + j - o = j by omega]
theorem imF_2 (o j : Nat) (hj : j < 7) : imF num plc sig n q c o img (o + 7 + j) = plc j := by
  rw [imF, up_n _ _ (by omega), up_n _ _ (by omega), up_n _ _ (by omega), imB, if_neg (by omega), imA, if_neg (by omega), if_pos (by omega), show o + 7 + j - (o + 7) = j by omega]
theorem imF_3 (o j : Nat) (hj : j < 12) : imF num plc sig n q c o img (o + 14 + j) = sig j := by
  rw [imF, up_n _ _ (by omega), up_n _ _ (by omega), up_n _ _ (by omega), imB, if_pos (by omega), show o + 14 + j - (o + 14) = j by omega]
theorem imF_4 (o : Nat) : imF num plc sig n q c o img (o + 26) = n ∧ imF num plc sig n q c o img (o + 27) = q ∧ imF num plc sig n q c o img (o + 28) = c := by
  refine ⟨?_, ?_, ?_⟩
  · rw [imF, up_n _ _ (by omega), up_n _ _ (by omega), up_s]
  · rw [imF, up_n _ _ (by omega), up_s]
  · rw [imF, up_s]
theorem imF_5 (o j : Nat) (hj : j < o ∨ o + 29 ≤ j) : imF num plc sig n q c o img j = img j := by
  rw [imF, up_n _ _ (by omega), up_n _ _ (by omega), up_n _ _ (by omega), imB, if_neg (by omega), imA, if_neg (by omega), if_neg (by omega)]
theorem iPK_im (h : fPK num plc sig n q c N R S) (o : Nat) : iPK (imF num plc sig n q c o img) o n q c N R S := by
  have h4 := imF_4 (num := num) (plc := plc) (sig := sig) (n := n) (q := q) (c := c) (img := img) o
  obtain ⟨h1, h2, h3, hq, h5, h6, h7, h8, h9⟩ := id h.1
  exact ⟨⟨h4.1.symm, h4.2.1.symm, h4.2.2.symm⟩, fPK_cg h (fun k hk => imF_1 o k (by omega)) (fun k hk => imF_2 o k (by omega)) (fun k hk => imF_3 o k (by omega))⟩
theorem iPK_ot {n2 q2 c2 N2 R2 S2 o o2 : Nat} (h : iPK img o2 n2 q2 c2 N2 R2 S2) (ho : o2 + 29 ≤ o ∨ o + 29 ≤ o2) : iPK (imF num plc sig n q c o img) o2 n2 q2 c2 N2 R2 S2 := by
  obtain ⟨⟨e1, e2, e3⟩, h⟩ := h
  obtain ⟨h1, h2, h3, hq, h5, h6, h7, h8, h9⟩ := id h.1
  exact ⟨⟨e1.trans (imF_5 o _ (by omega)).symm, e2.trans (imF_5 o _ (by omega)).symm, e3.trans (imF_5 o _ (by omega)).symm⟩, fPK_cg h (fun k hk => imF_5 o _ (by omega)) (fun k hk => imF_5 o _ (by omega)) (fun k hk => imF_5 o _ (by omega))⟩
theorem lw_image (h : lwI num plc sig pad img kep n q c w n q c N R S k1 k2 na Na Ra qa Sa ca nb Nb Rb qb Sb cb) (a : Int) :
    lwI num plc sig pad (if 0 ≤ a ∧ a ≤ 1 then imF num plc sig n q c (32 * a.toNat) img else img) (if 0 ≤ a ∧ a ≤ 1 then up kep a.toNat 1 else kep) n q c w n q c N R S (if a = 0 then 1 else k1) (if a = 1 then 1 else k2)
      (if a = 0 then n else na) (if a = 0 then N else Na) (if a = 0 then R else Ra) (if a = 0 then q else qa) (if a = 0 then S else Sa) (if a = 0 then c else ca) (if a = 1 then n else nb) (if a = 1 then N else Nb) (if a = 1 then R else Rb) (if a = 1 then q else qb) (if a = 1 then S else Sb) (if a = 1 then c else cb) := by
  obtain ⟨hF, hw, ⟨hk0, hk1, hk2, hk3⟩, hI1, hI2⟩ := h
  by_cases h0 : a = 0
  · subst h0
    simp only [if_true, if_pos (show (0 : Int) ≤ 0 ∧ (0 : Int) ≤ 1 by omega), if_neg (show ¬ (0 : Int) = 1 by omega)]
    exact ⟨hF, hw, ⟨up_s _ _ _, (up_n _ _ (by show 1 ≠ 0; omega)).trans hk1, by omega, hk3⟩, fun _ => iPK_im hF.1 0, fun h9 => iPK_ot (hI2 h9) (by show 32 + 29 ≤ 32 * 0 ∨ 32 * 0 + 29 ≤ 32; omega)⟩
  · by_cases h1 : a = 1
    · subst h1
      simp only [if_true, if_pos (show (0 : Int) ≤ 1 ∧ (1 : Int) ≤ 1 by omega), if_neg (show ¬ (1 : Int) = 0 by omega)]
      exact ⟨hF, hw, ⟨(up_n _ _ (by show 0 ≠ 1; omega)).trans hk0, up_s _ _ _, hk2, by omega⟩, fun h9 => iPK_ot (hI1 h9) (by show 0 + 29 ≤ 32 * 1 ∨ 32 * 1 + 29 ≤ 0; omega), fun _ => iPK_im hF.1 32⟩
    · simp only [if_neg h0, if_neg h1, if_neg (show ¬ (0 ≤ a ∧ a ≤ 1) by omega)]
      exact ⟨hF, hw, ⟨hk0, hk1, hk2, hk3⟩, hI1, hI2⟩
theorem lw_rst {o n2 q2 c2 N2 R2 S2 : Nat} (h : iPK img o n2 q2 c2 N2 R2 S2) : fPK (cpy (fun k => img (o + k)) num 7) (cpy (fun k => img (o + 7 + k)) plc 7) (cpy (fun k => img (o + 14 + k)) sig 12) (img (o + 26)) (img (o + 27)) (img (o + 28)) N2 R2 S2 := by
  obtain ⟨⟨e1, e2, e3⟩, h⟩ := h
  rw [← e1, ← e2, ← e3]
  obtain ⟨h1, h2, h3, hq, h5, h6, h7, h8, h9⟩ := id h.1
  exact fPK_cg h (fun k hk => cpy7 _ _ (by omega)) (fun k hk => cpy7 _ _ (by omega)) (fun k hk => if_pos (by omega))
theorem lw_restore (h : lwI num plc sig pad img kep n q c w n q c N R S k1 k2 na Na Ra qa Sa ca nb Nb Rb qb Sb cb) (a : Int) :
    lwI (if (0 ≤ a ∧ a ≤ 1) ∧ kep a.toNat ≠ 0 then cpy (fun k => img (32 * a.toNat + k)) num 7 else num) (if (0 ≤ a ∧ a ≤ 1) ∧ kep a.toNat ≠ 0 then cpy (fun k => img (32 * a.toNat + 7 + k)) plc 7 else plc) (if (0 ≤ a ∧ a ≤ 1) ∧ kep a.toNat ≠ 0 then cpy (fun k => img (32 * a.toNat + 14 + k)) sig 12 else sig) pad img kep
      (if (0 ≤ a ∧ a ≤ 1) ∧ kep a.toNat ≠ 0 then img (32 * a.toNat + 26) else n) (if (0 ≤ a ∧ a ≤ 1) ∧ kep a.toNat ≠ 0 then img (32 * a.toNat + 27) else q) (if (0 ≤ a ∧ a ≤ 1) ∧ kep a.toNat ≠ 0 then img (32 * a.toNat + 28) else c) w
      (if a = 0 ∧ k1 ≠ 0 then na else if a = 1 ∧ k2 ≠ 0 then nb else n) (if a = 0 ∧ k1 ≠ 0 then qa else if a = 1 ∧ k2 ≠ 0 then qb else q) (if a = 0 ∧ k1 ≠ 0 then ca else if a = 1 ∧ k2 ≠ 0 then cb else c)
      (if a = 0 ∧ k1 ≠ 0 then Na else if a = 1 ∧ k2 ≠ 0 then Nb else N) (if a = 0 ∧ k1 ≠ 0 then Ra else if a = 1 ∧ k2 ≠ 0 then Rb else R) (if a = 0 ∧ k1 ≠ 0 then Sa else if a = 1 ∧ k2 ≠ 0 then Sb else S) k1 k2 na Na Ra qa Sa ca nb Nb Rb qb Sb cb := by
  obtain ⟨hF, hw, ⟨hk0, hk1, hk2, hk3⟩, hI1, hI2⟩ := h
  by_cases h0 : a = 0 ∧ k1 ≠ 0
  · have e : a.toNat = 0 := by omega
    have hc : (0 ≤ a ∧ a ≤ 1) ∧ kep a.toNat ≠ 0 := ⟨by omega, by rw [e]; omega⟩
    have h8 : iPK img (32 * a.toNat) na qa ca Na Ra Sa := by rw [e]; exact hI1 h0.2
    simp only [if_pos hc, if_pos h0]
    exact ⟨⟨lw_rst h8, h8.1.1.symm, h8.1.2.1.symm, h8.1.2.2.symm⟩, hw, ⟨hk0, hk1, hk2, hk3⟩, hI1, hI2⟩
  · by_cases h1 : a = 1 ∧ k2 ≠ 0
    · have e : a.toNat = 1 := by omega
      have hc : (0 ≤ a ∧ a ≤ 1) ∧ kep a.toNat ≠ 0 := ⟨by omega, by rw [e]; omega⟩
      have h8 : iPK img (32 * a.toNat) nb qb cb Nb Rb Sb := by rw [e]; exact hI2 h1.2
      simp only [if_pos hc, if_neg h0, if_pos h1]
      exact ⟨⟨lw_rst h8, h8.1.1.symm, h8.1.2.1.symm, h8.1.2.2.symm⟩, hw, ⟨hk0, hk1, hk2, hk3⟩, hI1, hI2⟩
    · have hc : ¬ ((0 ≤ a ∧ a ≤ 1) ∧ kep a.toNat ≠ 0) := by
        rintro ⟨x1, x2⟩
        by_cases y : a = 0
        · subst y; exact x2 (by show kep 0 = 0; omega)
        · have y1 : a = 1 := by omega
          subst y1; exact x2 (by show kep 1 = 0; omega)
      simp only [if_neg hc, if_neg h0, if_neg h1]
      exact ⟨hF, hw, ⟨hk0, hk1, hk2, hk3⟩, hI1, hI2⟩
theorem rst_eq (hk0 : kep 0 = k1) (hk1 : kep 1 = k2) (a : Int) : (if 0 ≤ a ∧ a ≤ 1 then (if (a = 0 ∧ k1 ≠ 0) ∨ (a = 1 ∧ k2 ≠ 0) then 1 else -3) else -2 : Int) = if 0 ≤ a ∧ a ≤ 1 then (if kep a.toNat ≠ 0 then 1 else -3) else -2 := by
  by_cases h : 0 ≤ a ∧ a ≤ 1
  · rw [if_pos h, if_pos h]
    by_cases h0 : a = 0
    · have e : kep a.toNat = k1 := by rw [h0]; exact hk0
      by_cases y : k1 = 0
      · rw [if_neg (by omega), if_neg (by omega)]
      · rw [if_pos (by omega), if_pos (by omega)]
    · have e : kep a.toNat = k2 := by rw [show a = 1 by omega]; exact hk1
      by_cases y : k2 = 0
      · rw [if_neg (by omega), if_neg (by omega)]
      · rw [if_pos (by omega), if_pos (by omega)]
  · rw [if_neg h, if_neg h]
end
/-! the script's ints -/
def sX (xs : Nat → Int32) (k : Nat) : Int := (xs k).toInt
theorem sX_bd (xs : Nat → Int32) (k : Nat) : -2147483648 ≤ sX xs k ∧ sX xs k < 2147483648 := by
  have h1 := Int32.le_toInt (xs k)
  have h2 := Int32.toInt_lt (xs k)
  unfold sX
  omega
theorem sX_rd (xs : Nat → Int32) {k : Nat} (h : k < 2147483648) : xs (nI k).toNatClampNeg = zI (sX xs k) := by
  rw [nI_clamp h]; exact (Int32.ofInt_toInt (xs k)).symm
theorem and31 (x : Int32) : ∃ k : Nat, k < 32 ∧ x &&& nI 31 = nI k := by
  refine ⟨(x.toBitVec &&& (31 : BitVec 32)).toNat, ?_, ?_⟩
  · rw [BitVec.toNat_and]
    exact Nat.lt_of_le_of_lt Nat.and_le_right (by decide)
  · apply Int32.toBitVec_inj.mp
    show x.toBitVec &&& (31 : BitVec 32) = (Int32.ofNat _).toBitVec
    rw [Int32.toBitVec_ofNat', BitVec.ofNat_toNat, BitVec.setWidth_eq]
theorem lcm_s (x : Int64) : lg_cmp x x = 0 := by
  unfold lg_cmp
  rw [if_neg (show ¬ x > x from Int64.lt_irrefl), if_pos rfl]
/-! THE CLAIM OUT OF ONE WALK OF THE LAW'S BODY. Your part is whole_start (and what it stands on); all else here is the same for every law, but numbers. -/
def R_law : String := "SwanSumsLaw"
def lw_P (b : Addr) (xs : List Int32) (args : Array Value) (s : State) : Prop := args = #[.ref b] ∧ s.IntsAt b xs ∧ xs.length ≤ 256 ∧ (Jvm.Cond.and given_1 narrow_1).before args s = true
def lw_Q (_ : Array Value) (s : State) (o : Outcome) (t : State) : Prop := o = .returned (some (.int 1)) ∧ Framed s o t [] 196106 8513930
def lw_Z (below : List Frame) (a : Array Value) (s : State) : State → Prop := fun t => ∃ o, t.status = .running ∧ Ended t below o ∧ lw_Q a s o t
/-- the law's own end, with 1 on the stack, nothing written that was there before, its room as the claim has it -/
theorem lw_ret {p : Program} {l : Launch} {e : Env} {s : State} {m : MethodId} {below : List Frame} {meth : Method} {c : Code} {b : Nat} (hx : p.tables.exec = Jvm.exec) (hb : c.code = code) (hr : meth.sig.returnType = ret) (hlocks : meth.locks = false) {pc : Nat} {H : Heap} {ls : Array Slot} (hdg : decode code pc = .ok (.ireturn, 1)) : W p l e room_1 s m #[Value.ref b] below meth c H [] 196106 8513930 (lw_Z below #[Value.ref b] s) (F0 m pc ls [.int 1]) := by
  intro T hT X
  obtain ⟨fs, hret, hrun, hended, hW, hframe⟩ := X.leave (v := some (.int 1)) (hlocks := hlocks) (fun h => by rw [hr] at h; cases h)
  have hmeth' : T.vm.method? m = some meth := X.method'
  refine ⟨T.setFrames fs, ?_, .returned (some (.int 1)), hrun, hended, rfl, ⟨_, rfl⟩, hW, hframe⟩
  jvm_step X.here [X.here.top, hx, hb, hdg, hmeth', hr, ret, narrow_b1]
  (try refine ⟨rfl, ?_⟩); (try refine ⟨rfl, ?_⟩)
  first | (intro acts; rw [hret _ acts rfl rfl rfl]) | rw [hret _ _ rfl rfl rfl]
  exact Steps.refl _
/-- what holds at the law's entry: the machine, the code, the tables' words (any of lw_tbl by 'hts w (by decide +kernel)'), the script of L ints xs at the cell b, what the Statement gives of the start (any of its parts by flat_of_before) -/
def lw_At (p : Program) (s : State) (m : MethodId) (meth : Method) (c : Code) (b L : Nat) (xs : Nat → Int32) : Prop :=
  p.tables.exec = Jvm.exec ∧ c.code = code ∧ meth.sig.returnType = ret ∧ c.maxLocals = 4 ∧ s.vm.findClass R_law = some m.cls ∧ (∀ w ∈ lw_tbl, w.before #[Value.ref b] s = true) ∧ va_X b L xs s s.heap ∧ b < s.heap.size ∧ meth.locks = false ∧ (Jvm.Cond.and given_1 narrow_1).before #[Value.ref b] s = true
set_option maxRecDepth 20000 in
theorem in_n11 : Cond.methodLinkNest RX8 11 yX1_init "SwanSums" ∈ lw_tbl := List.mem_of_getElem? (i := 61) (by decide +kernel)
set_option maxRecDepth 20000 in
theorem in_n31 : Cond.methodLinkNest RX8 31 yX4_init "SwanSums" ∈ lw_tbl := List.mem_of_getElem? (i := 91) (by decide +kernel)
set_option maxRecDepth 20000 in
theorem in_n215 : Cond.methodLinkNest RX8 215 yX5_init "SwanSums" ∈ lw_tbl := List.mem_of_getElem? (i := 343) (by decide +kernel)
set_option maxRecDepth 20000 in
theorem in_n170 : Cond.methodLinkNest RX8 170 yX3_lead "SwanSums" ∈ lw_tbl := List.mem_of_getElem? (i := 469) (by decide +kernel)
set_option maxRecDepth 20000 in
theorem in_n176 : Cond.methodLinkNest RX8 176 yX3_leadByFirst "SwanSums" ∈ lw_tbl := List.mem_of_getElem? (i := 480) (by decide +kernel)
