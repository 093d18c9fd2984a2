set_option maxHeartbeats 4000000 in
set_option maxRecDepth 100000 in
theorem kX0_power (Gl : Launch) (b n : Nat) (hn : n < 2147483648) : Met Gl yX0_power wsX0_power ({ frames := 0, cells := 0, slots := 0, locals := 0 } : Room) (va_Pc [.int (nI b), .int (nI n)] (fun _ => True)) (vp_Si (fun r : Int32 => r = nI (b ^ n))) 0 0 (fun _ => False) := by
  refine Met.ofW (cc := cX0_power) (maxL := 4) (ret := (some .int)) (by decide +kernel) rfl ?_
  intro Gp Ge Gs Gm Ga Gw Gt Gc G1 Bd gml gv
  obtain ⟨rfl, -⟩ := gv
  have gx := Bd.exec
  have gb := Bd.bytes
  have gr := Bd.returns
  have gts := atoms_spec (ws := wsX0_power) Bd.pre
  have gown : Gs.vm.findClass RX0 = some Gm.cls := findClass_of_methodNamed Bd.named
  have glk := Bd.notSynchronized
  have hl := lv_entry ([.int (nI b), .int (nI n)]) (n := 4) (Nat.le_of_ble_eq_true rfl)
  rw [lg_entry_eq]
  generalize (lg_sl ([.int (nI b), .int (nI n)]) ++ List.replicate (4 - (lg_sl ([.int (nI b), .int (nI n)])).length) Slot.unset).toArray = ls at hl ⊢
  have hl : lv_has ls 4 [(0, .int (nI b)), (1, .int (nI n))] := hl
  refine lv_iconst (v := nI 1) gx gb dX0_power_0 (by decide) ?_
  refine lv_istore_n (lv' := [(2, .int (nI 1)), (0, .int (nI b)), (1, .int (nI n))]) gx gb dX0_power_1 rfl hl (by decide) rfl (fun ls hl => ?_)
  refine lv_iconst (v := nI 0) gx gb dX0_power_2 (by decide) ?_
  refine lv_istore_n (lv' := [(3, .int (nI 0)), (2, .int (nI 1)), (0, .int (nI b)), (1, .int (nI n))]) gx gb dX0_power_3 rfl hl (by decide) rfl (fun ls hl => ?_)
  have L4 : ∀ fu : Nat, ∀ (i : Nat) (hi : i ≤ n), (n - i) < fu → ∀ ls : Array Slot, lv_has ls 4 [(2, .int (nI (b ^ i))), (3, .int (nI i)), (0, .int (nI b)), (1, .int (nI n))] → W Gp Gl Ge (headSpec wsX0_power ({ frames := 0, cells := 0, slots := 0, locals := 0 } : Room)).room Gs Gm ([.int (nI b), .int (nI n)] : List Value).toArray Gw Gt Gc Gs.heap [] 0 0 (MQ Gw (vp_Si (fun r : Int32 => r = nI (b ^ n))) ([.int (nI b), .int (nI n)] : List Value).toArray Gs 0 0 (fun _ => False)) (F0 Gm 4 ls []) := by
    intro fu
    induction fu with
    | zero => intro i hi hfu; exact absurd hfu (Nat.not_lt_zero _)
    | succ fu ih4 =>
      intro i hi hfu ls hl
      refine lv_iload_n gx gb dX0_power_4 rfl (lv_at hl 1 rfl) ?_
      refine lv_iload_n gx gb dX0_power_5 rfl (lv_at hl 3 rfl) ?_
      refine lv_icmp_ge (tgt := 19) gx gb dX0_power_6 (by decide) (fun c6 => ?_) (fun c6 => ?_)
      · skip
        rw [nI_leI (by omega) (by omega)] at c6
        refine lv_iload_n gx gb dX0_power_19 rfl (lv_at hl 0 rfl) ?_
        exact W.iret (v := nI (b ^ i)) gx gb gr (fun t ht hW => ⟨nI (b ^ i), rfl, (by first | (dsimp only; done) | ((try dsimp only); obtain rfl : i = n := (by omega); rfl)), ht⟩) (fun q h => by cases h) dX0_power_20
      · skip
        rw [nI_leI (by omega) (by omega)] at c6
        refine lv_iload_n gx gb dX0_power_9 rfl (lv_at hl 0 rfl) ?_
        refine lv_iload_n gx gb dX0_power_10 rfl (lv_at hl 2 rfl) ?_
        refine lv_imul gx gb dX0_power_11 ?_
        refine lv_evi (nI ((b ^ i) * b)) (pk_mul (b ^ i) b) ?_
        refine lv_istore_n (lv' := [(2, .int (nI ((b ^ i) * b))), (3, .int (nI i)), (0, .int (nI b)), (1, .int (nI n))]) gx gb dX0_power_12 rfl hl (by decide) rfl (fun ls hl => ?_)
        refine lv_iinc (v := nI (i + 1)) (lv' := [(3, .int (nI (i + 1))), (2, .int (nI ((b ^ i) * b))), (0, .int (nI b)), (1, .int (nI n))]) gx gb dX0_power_13 hl (k := 1) rfl (nI_add i 1) (by decide) rfl (fun ls hl => ?_)
        refine lv_goto (tgt := 4) gx gb dX0_power_16 (by decide) ?_
        exact ih4 (i + 1) (by omega) (by omega) ls (lv_sub hl [1, 0, 2, 3] rfl)
  exact L4 _ 0 (by omega) (Nat.lt_succ_self _) ls (lv_sub hl [1, 0, 2, 3] rfl)

set_option maxHeartbeats 4000000 in
set_option maxRecDepth 100000 in
theorem kX0_digit (Gl : Launch) (v b k : Nat) (hv : v < 2147483648) (hb : 0 < b) (hb2 : b < 2147483648) (hk : k < 2147483648) : Met Gl yX0_digit wsX0_digit ({ frames := 0, cells := 0, slots := 0, locals := 0 } : Room) (va_Pc [.int (nI v), .int (nI b), .int (nI k)] (fun _ => True)) (vp_Si (fun r : Int32 => r = nI (dg b v k))) 0 0 (fun _ => False) := by
  refine Met.ofW (cc := cX0_digit) (maxL := 5) (ret := (some .int)) (by decide +kernel) rfl ?_
  intro Gp Ge Gs Gm Ga Gw Gt Gc G1 Bd gml gv
  obtain ⟨rfl, -⟩ := gv
  have gx := Bd.exec
  have gb := Bd.bytes
  have gr := Bd.returns
  have gts := atoms_spec (ws := wsX0_digit) Bd.pre
  have gown : Gs.vm.findClass RX0 = some Gm.cls := findClass_of_methodNamed Bd.named
  have glk := Bd.notSynchronized
  have hl := lv_entry ([.int (nI v), .int (nI b), .int (nI k)]) (n := 5) (Nat.le_of_ble_eq_true rfl)
  rw [lg_entry_eq]
  generalize (lg_sl ([.int (nI v), .int (nI b), .int (nI k)]) ++ List.replicate (5 - (lg_sl ([.int (nI v), .int (nI b), .int (nI k)])).length) Slot.unset).toArray = ls at hl ⊢
  have hl : lv_has ls 5 [(0, .int (nI v)), (1, .int (nI b)), (2, .int (nI k))] := hl
  refine lv_iload_n gx gb dX0_digit_0 rfl (lv_at hl 1 rfl) ?_
  refine lv_iconst (v := nI 1) gx gb dX0_digit_1 (by decide) ?_
  refine lv_icmp_ge (tgt := 7) gx gb dX0_digit_2 (by decide) (fun c2 => ?_) (fun c2 => ?_)
  · skip
    rw [nI_leI (by omega) (by omega)] at c2
    refine lv_iload_n gx gb dX0_digit_7 rfl (lv_at hl 0 rfl) ?_
    refine lv_evi (nI (v / b ^ 0)) (congrArg nI (by rw [Nat.pow_zero, Nat.div_one])) ?_
    refine lv_istore_n (lv' := [(3, .int (nI (v / b ^ 0))), (0, .int (nI v)), (1, .int (nI b)), (2, .int (nI k))]) gx gb dX0_digit_8 rfl hl (by decide) rfl (fun ls hl => ?_)
    refine lv_iconst (v := nI 0) gx gb dX0_digit_9 (by decide) ?_
    refine lv_istore (lv' := [(4, .int (nI 0)), (3, .int (nI (v / b ^ 0))), (0, .int (nI v)), (1, .int (nI b)), (2, .int (nI k))]) gx gb dX0_digit_10 hl (by decide) rfl (fun ls hl => ?_)
    have L12 : ∀ fu : Nat, ∀ (i : Nat) (hi : i ≤ k), (k - i) < fu → ∀ ls : Array Slot, lv_has ls 5 [(3, .int (nI (v / b ^ i))), (4, .int (nI i)), (0, .int (nI v)), (1, .int (nI b)), (2, .int (nI k))] → W Gp Gl Ge (headSpec wsX0_digit ({ frames := 0, cells := 0, slots := 0, locals := 0 } : Room)).room Gs Gm ([.int (nI v), .int (nI b), .int (nI k)] : List Value).toArray Gw Gt Gc Gs.heap [] 0 0 (MQ Gw (vp_Si (fun r : Int32 => r = nI (dg b v k))) ([.int (nI v), .int (nI b), .int (nI k)] : List Value).toArray Gs 0 0 (fun _ => False)) (F0 Gm 12 ls []) := by
      intro fu
      induction fu with
      | zero => intro i hi hfu; exact absurd hfu (Nat.not_lt_zero _)
      | succ fu ih12 =>
        intro i hi hfu ls hl
        have hq := Nat.div_le_self v (b ^ i)
        refine lv_iload gx gb dX0_digit_12 (lv_at hl 1 rfl) ?_
        refine lv_iload_n gx gb dX0_digit_14 rfl (lv_at hl 4 rfl) ?_
        refine lv_icmp_ge (tgt := 28) gx gb dX0_digit_15 (by decide) (fun c15 => ?_) (fun c15 => ?_)
        · skip
          rw [nI_leI (by omega) (by omega)] at c15
          refine lv_iload_n gx gb dX0_digit_28 rfl (lv_at hl 0 rfl) ?_
          refine lv_iload_n gx gb dX0_digit_29 rfl (lv_at hl 3 rfl) ?_
          refine lv_irem gx gb dX0_digit_30 (nI_ne0 (by omega) (by omega)) ?_
          refine lv_evi (nI ((v / b ^ i) % b)) (e_rem (by omega) (by omega) (by omega)) ?_
          exact W.iret (v := nI ((v / b ^ i) % b)) gx gb gr (fun t ht hW => ⟨nI ((v / b ^ i) % b), rfl, (by first | (dsimp only; done) | ((try dsimp only); obtain rfl : i = k := (by omega); rfl)), ht⟩) (fun q h => by cases h) dX0_digit_31
        · skip
          rw [nI_leI (by omega) (by omega)] at c15
          refine lv_iload_n gx gb dX0_digit_18 rfl (lv_at hl 0 rfl) ?_
          refine lv_iload_n gx gb dX0_digit_19 rfl (lv_at hl 3 rfl) ?_
          refine lv_idiv gx gb dX0_digit_20 (nI_ne0 (by omega) (by omega)) ?_
          refine lv_evi (nI ((v / b ^ i) / b)) (e_div (by omega) (by omega) (by omega)) ?_
          refine lv_evi (nI (v / b ^ (i + 1))) (congrArg nI (by rw [Nat.div_div_eq_div_mul, Nat.pow_succ])) ?_
          refine lv_istore_n (lv' := [(3, .int (nI (v / b ^ (i + 1)))), (4, .int (nI i)), (0, .int (nI v)), (1, .int (nI b)), (2, .int (nI k))]) gx gb dX0_digit_21 rfl hl (by decide) rfl (fun ls hl => ?_)
          refine lv_iinc (v := nI (i + 1)) (lv' := [(4, .int (nI (i + 1))), (3, .int (nI (v / b ^ (i + 1)))), (0, .int (nI v)), (1, .int (nI b)), (2, .int (nI k))]) gx gb dX0_digit_22 hl (k := 1) rfl (nI_add i 1) (by decide) rfl (fun ls hl => ?_)
          refine lv_goto (tgt := 12) gx gb dX0_digit_25 (by decide) ?_
          exact ih12 (i + 1) (by omega) (by omega) ls (lv_sub hl [1, 0, 2, 3, 4] rfl)
    exact L12 _ 0 (by omega) (Nat.lt_succ_self _) ls (lv_sub hl [1, 0, 2, 3, 4] rfl)
  · skip
    rw [nI_leI (by omega) (by omega)] at c2
    exfalso; omega

set_option maxHeartbeats 4000000 in
set_option maxRecDepth 100000 in
theorem kX0_isPrime (Gl : Launch) (v : Nat) (hv : v ≤ 99) : Met Gl yX0_isPrime wsX0_isPrime ({ frames := 0, cells := 0, slots := 0, locals := 0 } : Room) (va_Pc [.int (nI v)] (fun _ => True)) (vp_Si (fun r : Int32 => r = bI (prm v))) 0 0 (fun _ => False) := by
  refine Met.ofW (cc := cX0_isPrime) (maxL := 2) (ret := (some .boolean)) (by decide +kernel) rfl ?_
  intro Gp Ge Gs Gm Ga Gw Gt Gc G1 Bd gml gv
  obtain ⟨rfl, -⟩ := gv
  have gx := Bd.exec
  have gb := Bd.bytes
  have gr := Bd.returns
  have gts := atoms_spec (ws := wsX0_isPrime) Bd.pre
  have gown : Gs.vm.findClass RX0 = some Gm.cls := findClass_of_methodNamed Bd.named
  have glk := Bd.notSynchronized
  have hl := lv_entry ([.int (nI v)]) (n := 2) (Nat.le_of_ble_eq_true rfl)
  rw [lg_entry_eq]
  generalize (lg_sl ([.int (nI v)]) ++ List.replicate (2 - (lg_sl ([.int (nI v)])).length) Slot.unset).toArray = ls at hl ⊢
  have hl : lv_has ls 2 [(0, .int (nI v))] := hl
  refine lv_iconst (v := nI 2) gx gb dX0_isPrime_0 (by decide) ?_
  refine lv_istore_n (lv' := [(1, .int (nI 2)), (0, .int (nI v))]) gx gb dX0_isPrime_1 rfl hl (by decide) rfl (fun ls hl => ?_)
  have L2 : ∀ fu : Nat, ∀ (d : Nat) (hd : 2 ≤ d) (hd2 : d ≤ 10) (hp : ∀ k, 2 ≤ k → k < d → v ≤ k ∨ v % k ≠ 0), (10 - d) < fu → ∀ ls : Array Slot, lv_has ls 2 [(1, .int (nI d)), (0, .int (nI v))] → W Gp Gl Ge (headSpec wsX0_isPrime ({ frames := 0, cells := 0, slots := 0, locals := 0 } : Room)).room Gs Gm ([.int (nI v)] : List Value).toArray Gw Gt Gc Gs.heap [] 0 0 (MQ Gw (vp_Si (fun r : Int32 => r = bI (prm v))) ([.int (nI v)] : List Value).toArray Gs 0 0 (fun _ => False)) (F0 Gm 2 ls []) := by
    intro fu
    induction fu with
    | zero => intro d hd hd2 hp hfu; exact absurd hfu (Nat.not_lt_zero _)
    | succ fu ih2 =>
      intro d hd hd2 hp hfu ls hl
      have hmo := Nat.mod_le v d
      refine lv_iload_n gx gb dX0_isPrime_2 rfl (lv_at hl 0 rfl) ?_
      refine lv_bipush (v := nI 10) gx gb dX0_isPrime_3 (by decide) ?_
      refine lv_icmp_ge (tgt := 27) gx gb dX0_isPrime_5 (by decide) (fun c5 => ?_) (fun c5 => ?_)
      · skip
        rw [nI_leI (by omega) (by omega)] at c5
        refine lv_iload_n gx gb dX0_isPrime_27 rfl (lv_at hl 1 rfl) ?_
        refine lv_iconst (v := nI 2) gx gb dX0_isPrime_28 (by decide) ?_
        refine lv_icmp_lt (tgt := 36) gx gb dX0_isPrime_29 (by decide) (fun c29 => ?_) (fun c29 => ?_)
        · skip
          rw [nI_ltI (by omega) (by omega)] at c29
          refine lv_iconst (v := nI 0) gx gb dX0_isPrime_36 (by decide) ?_
          exact W.zret (v := nI 0) gx gb gr (by decide) (fun t ht hW => ⟨nI 0, rfl, (by first | (dsimp only; done) | ((try dsimp only); first | exact bI_t ((prm_ge v (by omega)).elim id (fun h9 => by have a2 := hp 2 (by omega) (by omega); have a3 := hp 3 (by omega) (by omega); have a5 := hp 5 (by omega) (by omega); have a7 := hp 7 (by omega) (by omega); exfalso; omega)) | exact bI_f (prm_f1 (by omega)))), ht⟩) (fun q h => by cases h) dX0_isPrime_37
        · skip
          rw [nI_ltI (by omega) (by omega)] at c29
          refine lv_iconst (v := nI 1) gx gb dX0_isPrime_32 (by decide) ?_
          refine lv_goto (tgt := 37) gx gb dX0_isPrime_33 (by decide) ?_
          exact W.zret (v := nI 1) gx gb gr (by decide) (fun t ht hW => ⟨nI 1, rfl, (by first | (dsimp only; done) | ((try dsimp only); first | exact bI_t ((prm_ge v (by omega)).elim id (fun h9 => by have a2 := hp 2 (by omega) (by omega); have a3 := hp 3 (by omega) (by omega); have a5 := hp 5 (by omega) (by omega); have a7 := hp 7 (by omega) (by omega); exfalso; omega)) | exact bI_f (prm_f1 (by omega)))), ht⟩) (fun q h => by cases h) dX0_isPrime_37
      · skip
        rw [nI_leI (by omega) (by omega)] at c5
        refine lv_iload_n gx gb dX0_isPrime_8 rfl (lv_at hl 1 rfl) ?_
        refine lv_iload_n gx gb dX0_isPrime_9 rfl (lv_at hl 0 rfl) ?_
        refine lv_icmp_le (tgt := 21) gx gb dX0_isPrime_10 (by decide) (fun c10 => ?_) (fun c10 => ?_)
        · skip
          rw [nI_leI (by omega) (by omega)] at c10
          refine lv_iinc (v := nI (d + 1)) (lv' := [(1, .int (nI (d + 1))), (0, .int (nI v))]) gx gb dX0_isPrime_21 hl (k := 0) rfl (nI_add d 1) (by decide) rfl (fun ls hl => ?_)
          refine lv_goto (tgt := 2) gx gb dX0_isPrime_24 (by decide) ?_
          exact ih2 (d + 1) (by omega) (by omega) (by intro k hk hkd; exact (Nat.lt_or_ge k d).elim (fun q => hp k hk q) (fun q => by obtain rfl : k = d := (by omega); first | exact Or.inl c10 | exact Or.inr c16)) (by omega) ls (lv_sub hl [0, 1] rfl)
        · skip
          rw [nI_leI (by omega) (by omega)] at c10
          refine lv_iload_n gx gb dX0_isPrime_13 rfl (lv_at hl 1 rfl) ?_
          refine lv_iload_n gx gb dX0_isPrime_14 rfl (lv_at hl 0 rfl) ?_
          refine lv_irem gx gb dX0_isPrime_15 (nI_ne0 (by omega) (by omega)) ?_
          refine lv_evi (nI (v % d)) (e_rem (by omega) (by omega) (by omega)) ?_
          refine lv_if_ne (tgt := 21) gx gb dX0_isPrime_16 (by decide) (fun c16 => ?_) (fun c16 => ?_)
          · skip
            rw [n0_eq (by omega)] at c16
            refine lv_iinc (v := nI (d + 1)) (lv' := [(1, .int (nI (d + 1))), (0, .int (nI v))]) gx gb dX0_isPrime_21 hl (k := 0) rfl (nI_add d 1) (by decide) rfl (fun ls hl => ?_)
            refine lv_goto (tgt := 2) gx gb dX0_isPrime_24 (by decide) ?_
            exact ih2 (d + 1) (by omega) (by omega) (by intro k hk hkd; exact (Nat.lt_or_ge k d).elim (fun q => hp k hk q) (fun q => by obtain rfl : k = d := (by omega); first | exact Or.inl c10 | exact Or.inr c16)) (by omega) ls (lv_sub hl [0, 1] rfl)
          · skip
            rw [n0_eq (by omega)] at c16
            refine lv_iconst (v := nI 0) gx gb dX0_isPrime_19 (by decide) ?_
            exact W.zret (v := nI 0) gx gb gr (by decide) (fun t ht hW => ⟨nI 0, rfl, (by first | (dsimp only; done) | ((try dsimp only); exact bI_f (prm_lt v (by omega) d (by omega) hd (by omega) (by omega)))), ht⟩) (fun q h => by cases h) dX0_isPrime_20
  exact L2 _ 2 (by omega) (by omega) (by intro k hk hkd; exact absurd hkd (by omega)) (Nat.lt_succ_self _) ls (lv_sub hl [0, 1] rfl)

set_option maxHeartbeats 4000000 in
set_option maxRecDepth 100000 in
theorem kX0_isSquare (Gl : Launch) (v : Nat) (hv : v ≤ 297) : Met Gl yX0_isSquare wsX0_isSquare ({ frames := 0, cells := 0, slots := 0, locals := 0 } : Room) (va_Pc [.int (nI v)] (fun _ => True)) (vp_Si (fun r : Int32 => r = bI (sqr v))) 0 0 (fun _ => False) := by
  refine Met.ofW (cc := cX0_isSquare) (maxL := 2) (ret := (some .boolean)) (by decide +kernel) rfl ?_
  intro Gp Ge Gs Gm Ga Gw Gt Gc G1 Bd gml gv
  obtain ⟨rfl, -⟩ := gv
  have gx := Bd.exec
  have gb := Bd.bytes
  have gr := Bd.returns
  have gts := atoms_spec (ws := wsX0_isSquare) Bd.pre
  have gown : Gs.vm.findClass RX0 = some Gm.cls := findClass_of_methodNamed Bd.named
  have glk := Bd.notSynchronized
  have hl := lv_entry ([.int (nI v)]) (n := 2) (Nat.le_of_ble_eq_true rfl)
  rw [lg_entry_eq]
  generalize (lg_sl ([.int (nI v)]) ++ List.replicate (2 - (lg_sl ([.int (nI v)])).length) Slot.unset).toArray = ls at hl ⊢
  have hl : lv_has ls 2 [(0, .int (nI v))] := hl
  refine lv_iconst (v := nI 0) gx gb dX0_isSquare_0 (by decide) ?_
  refine lv_istore_n (lv' := [(1, .int (nI 0)), (0, .int (nI v))]) gx gb dX0_isSquare_1 rfl hl (by decide) rfl (fun ls hl => ?_)
  have L2 : ∀ fu : Nat, ∀ (d : Nat) (hd2 : d ≤ 18) (hp : ∀ k, k < d → k * k ≠ v), (18 - d) < fu → ∀ ls : Array Slot, lv_has ls 2 [(1, .int (nI d)), (0, .int (nI v))] → W Gp Gl Ge (headSpec wsX0_isSquare ({ frames := 0, cells := 0, slots := 0, locals := 0 } : Room)).room Gs Gm ([.int (nI v)] : List Value).toArray Gw Gt Gc Gs.heap [] 0 0 (MQ Gw (vp_Si (fun r : Int32 => r = bI (sqr v))) ([.int (nI v)] : List Value).toArray Gs 0 0 (fun _ => False)) (F0 Gm 2 ls []) := by
    intro fu
    induction fu with
    | zero => intro d hd2 hp hfu; exact absurd hfu (Nat.not_lt_zero _)
    | succ fu ih2 =>
      intro d hd2 hp hfu ls hl
      have hdd : d * d ≤ 18 * 18 := Nat.mul_le_mul hd2 hd2
      refine lv_iload_n gx gb dX0_isSquare_2 rfl (lv_at hl 0 rfl) ?_
      refine lv_bipush (v := nI 18) gx gb dX0_isSquare_3 (by decide) ?_
      refine lv_icmp_ge (tgt := 23) gx gb dX0_isSquare_5 (by decide) (fun c5 => ?_) (fun c5 => ?_)
      · skip
        rw [nI_leI (by omega) (by omega)] at c5
        refine lv_iconst (v := nI 0) gx gb dX0_isSquare_23 (by decide) ?_
        exact W.zret (v := nI 0) gx gb gr (by decide) (fun t ht hW => ⟨nI 0, rfl, (by first | (dsimp only; done) | ((try dsimp only); obtain rfl : d = 18 := (by omega); exact bI_f (sqr_f (by omega) hp))), ht⟩) (fun q h => by cases h) dX0_isSquare_24
      · skip
        rw [nI_leI (by omega) (by omega)] at c5
        refine lv_iload_n gx gb dX0_isSquare_8 rfl (lv_at hl 0 rfl) ?_
        refine lv_iload_n gx gb dX0_isSquare_9 rfl (lv_at hl 0 rfl) ?_
        refine lv_imul gx gb dX0_isSquare_10 ?_
        refine lv_evi (nI (d * d)) (pk_mul d d) ?_
        refine lv_iload_n gx gb dX0_isSquare_11 rfl (lv_at hl 1 rfl) ?_
        refine lv_icmp_ne (tgt := 17) gx gb dX0_isSquare_12 (by decide) (fun c12 => ?_) (fun c12 => ?_)
        · skip
          rw [nI_eq (by omega) (by omega)] at c12
          refine lv_iinc (v := nI (d + 1)) (lv' := [(1, .int (nI (d + 1))), (0, .int (nI v))]) gx gb dX0_isSquare_17 hl (k := 0) rfl (nI_add d 1) (by decide) rfl (fun ls hl => ?_)
          refine lv_goto (tgt := 2) gx gb dX0_isSquare_20 (by decide) ?_
          exact ih2 (d + 1) (by omega) (by intro k hkd; exact (Nat.lt_or_ge k d).elim (fun q => hp k q) (fun q => by obtain rfl : k = d := (by omega); exact c12)) (by omega) ls (lv_sub hl [0, 1] rfl)
        · skip
          rw [nI_eq (by omega) (by omega)] at c12
          refine lv_iconst (v := nI 1) gx gb dX0_isSquare_15 (by decide) ?_
          exact W.zret (v := nI 1) gx gb gr (by decide) (fun t ht hW => ⟨nI 1, rfl, (by first | (dsimp only; done) | ((try dsimp only); exact bI_t (sqr_t (by omega)))), ht⟩) (fun q h => by cases h) dX0_isSquare_16
  exact L2 _ 0 (by omega) (by intro k hkd; exact absurd hkd (by omega)) (Nat.lt_succ_self _) ls (lv_sub hl [0, 1] rfl)

set_option maxHeartbeats 4000000 in
set_option maxRecDepth 100000 in
theorem kX6_who (Gl : Launch) (R p : Nat) (hR : R < 2147483648) (hp : p ≤ 10) : Met Gl yX6_who wsX6_who ({ frames := 0, cells := 0, slots := 0, locals := 0 } : Room) (va_Pc [.int (nI R), .int (nI p)] (fun _ => True)) (vp_Si (fun r : Int32 => r = nI (dg 8 R p))) 0 0 (fun _ => False) := by
  refine Met.ofW (cc := cX6_who) (maxL := 2) (ret := (some .int)) (by decide +kernel) rfl ?_
  intro Gp Ge Gs Gm Ga Gw Gt Gc G1 Bd gml gv
  obtain ⟨rfl, -⟩ := gv
  have gx := Bd.exec
  have gb := Bd.bytes
  have gr := Bd.returns
  have gts := atoms_spec (ws := wsX6_who) Bd.pre
  have gown : Gs.vm.findClass RX6 = some Gm.cls := findClass_of_methodNamed Bd.named
  have glk := Bd.notSynchronized
  have hl := lv_entry ([.int (nI R), .int (nI p)]) (n := 2) (Nat.le_of_ble_eq_true rfl)
  rw [lg_entry_eq]
  generalize (lg_sl ([.int (nI R), .int (nI p)]) ++ List.replicate (2 - (lg_sl ([.int (nI R), .int (nI p)])).length) Slot.unset).toArray = ls at hl ⊢
  have hl : lv_has ls 2 [(0, .int (nI R)), (1, .int (nI p))] := hl
  refine lv_iload_n gx gb dX6_who_0 rfl (lv_at hl 0 rfl) ?_
  refine lv_iconst (v := nI 3) gx gb dX6_who_1 (by decide) ?_
  refine lv_iload_n gx gb dX6_who_2 rfl (lv_at hl 1 rfl) ?_
  refine lv_imul gx gb dX6_who_3 ?_
  refine lv_evi (nI (3 * p)) (pk_mul 3 p) ?_
  refine lv_ishr gx gb dX6_who_4 ?_
  refine lv_evi (nI (R / 2 ^ (3 * p))) (e_shr (by omega) (by omega)) ?_
  refine lv_bipush (v := nI 7) gx gb dX6_who_5 (by decide) ?_
  refine lv_iand gx gb dX6_who_7 ?_
  refine lv_evi (nI ((R / 2 ^ (3 * p)) % 2 ^ 3)) (e_mask (R / 2 ^ (3 * p)) 3 rfl) ?_
  exact W.iret (v := nI ((R / 2 ^ (3 * p)) % 2 ^ 3)) gx gb gr (fun t ht hW => ⟨nI ((R / 2 ^ (3 * p)) % 2 ^ 3), rfl, (by first | (dsimp only; done) | ((try dsimp only); rw [p8]; rfl)), ht⟩) (fun q h => by cases h) dX6_who_8

set_option maxHeartbeats 4000000 in
set_option maxRecDepth 100000 in
theorem kX6_first (Gl : Launch) (n : Nat) (hn : n ≤ 7) : Met Gl yX6_first wsX6_first ({ frames := 0, cells := 0, slots := 0, locals := 0 } : Room) (va_Pc [.int (nI n)] (fun _ => True)) (vp_Si (fun r : Int32 => r = nI (pk 8 (fun i => i) n))) 0 0 (fun _ => False) := by
  refine Met.ofW (cc := cX6_first) (maxL := 3) (ret := (some .int)) (by decide +kernel) rfl ?_
  intro Gp Ge Gs Gm Ga Gw Gt Gc G1 Bd gml gv
  obtain ⟨rfl, -⟩ := gv
  have gx := Bd.exec
  have gb := Bd.bytes
  have gr := Bd.returns
  have gts := atoms_spec (ws := wsX6_first) Bd.pre
  have gown : Gs.vm.findClass RX6 = some Gm.cls := findClass_of_methodNamed Bd.named
  have glk := Bd.notSynchronized
  have hl := lv_entry ([.int (nI n)]) (n := 3) (Nat.le_of_ble_eq_true rfl)
  rw [lg_entry_eq]
  generalize (lg_sl ([.int (nI n)]) ++ List.replicate (3 - (lg_sl ([.int (nI n)])).length) Slot.unset).toArray = ls at hl ⊢
  have hl : lv_has ls 3 [(0, .int (nI n))] := hl
  refine lv_iconst (v := nI 0) gx gb dX6_first_0 (by decide) ?_
  refine lv_istore_n (lv' := [(1, .int (nI 0)), (0, .int (nI n))]) gx gb dX6_first_1 rfl hl (by decide) rfl (fun ls hl => ?_)
  refine lv_iconst (v := nI 0) gx gb dX6_first_2 (by decide) ?_
  refine lv_istore_n (lv' := [(2, .int (nI 0)), (1, .int (nI 0)), (0, .int (nI n))]) gx gb dX6_first_3 rfl hl (by decide) rfl (fun ls hl => ?_)
  have L4 : ∀ fu : Nat, ∀ (i : Nat) (hi : i ≤ n), (n - i) < fu → ∀ ls : Array Slot, lv_has ls 3 [(1, .int (nI (pk 8 (fun i => i) i))), (2, .int (nI i)), (0, .int (nI n))] → W Gp Gl Ge (headSpec wsX6_first ({ frames := 0, cells := 0, slots := 0, locals := 0 } : Room)).room Gs Gm ([.int (nI n)] : List Value).toArray Gw Gt Gc Gs.heap [] 0 0 (MQ Gw (vp_Si (fun r : Int32 => r = nI (pk 8 (fun i => i) n))) ([.int (nI n)] : List Value).toArray Gs 0 0 (fun _ => False)) (F0 Gm 4 ls []) := by
    intro fu
    induction fu with
    | zero => intro i hi hfu; exact absurd hfu (Nat.not_lt_zero _)
    | succ fu ih4 =>
      intro i hi hfu ls hl
      refine lv_iload_n gx gb dX6_first_4 rfl (lv_at hl 1 rfl) ?_
      refine lv_iload_n gx gb dX6_first_5 rfl (lv_at hl 2 rfl) ?_
      refine lv_icmp_ge (tgt := 23) gx gb dX6_first_6 (by decide) (fun c6 => ?_) (fun c6 => ?_)
      · skip
        rw [nI_leI (by omega) (by omega)] at c6
        refine lv_iload_n gx gb dX6_first_23 rfl (lv_at hl 0 rfl) ?_
        exact W.iret (v := nI (pk 8 (fun i => i) i)) gx gb gr (fun t ht hW => ⟨nI (pk 8 (fun i => i) i), rfl, (by first | (dsimp only; done) | ((try dsimp only); obtain rfl : i = n := (by omega); rfl)), ht⟩) (fun q h => by cases h) dX6_first_24
      · skip
        rw [nI_leI (by omega) (by omega)] at c6
        refine lv_iload_n gx gb dX6_first_9 rfl (lv_at hl 0 rfl) ?_
        refine lv_iload_n gx gb dX6_first_10 rfl (lv_at hl 1 rfl) ?_
        refine lv_iconst (v := nI 3) gx gb dX6_first_11 (by decide) ?_
        refine lv_iload_n gx gb dX6_first_12 rfl (lv_at hl 1 rfl) ?_
        refine lv_imul gx gb dX6_first_13 ?_
        refine lv_evi (nI (3 * i)) (pk_mul 3 i) ?_
        refine lv_ishl gx gb dX6_first_14 ?_
        refine lv_evi (nI (i * 2 ^ (3 * i))) (e_shl _ (by omega)) ?_
        refine lv_ior gx gb dX6_first_15 ?_
        refine lv_evi (nI ((pk 8 (fun i => i) i) ||| (i * 2 ^ (3 * i)))) (e_or (pk 8 (fun i => i) i) (i * 2 ^ (3 * i))) ?_
        refine lv_evi (nI (pk 8 (fun i => i) (i + 1))) (congrArg nI (by rw [p8, pk, ← p8, or_add _ (by rw [p8]; exact pkb_lt (fun j hj => by omega))])) ?_
        refine lv_istore_n (lv' := [(1, .int (nI (pk 8 (fun i => i) (i + 1)))), (2, .int (nI i)), (0, .int (nI n))]) gx gb dX6_first_16 rfl hl (by decide) rfl (fun ls hl => ?_)
        refine lv_iinc (v := nI (i + 1)) (lv' := [(2, .int (nI (i + 1))), (1, .int (nI (pk 8 (fun i => i) (i + 1)))), (0, .int (nI n))]) gx gb dX6_first_17 hl (k := 1) rfl (nI_add i 1) (by decide) rfl (fun ls hl => ?_)
        refine lv_goto (tgt := 4) gx gb dX6_first_20 (by decide) ?_
        exact ih4 (i + 1) (by omega) (by omega) ls (lv_sub hl [1, 0, 2] rfl)
  exact L4 _ 0 (by omega) (Nat.lt_succ_self _) ls (lv_sub hl [1, 0, 2] rfl)

set_option maxHeartbeats 4000000 in
set_option maxRecDepth 100000 in
theorem kX6_sold (Gl : Launch) (R p : Nat) (hR : R < 2147483648) (hp : p ≤ 9) : Met Gl yX6_sold wsX6_sold ({ frames := 0, cells := 0, slots := 0, locals := 0 } : Room) (va_Pc [.int (nI R), .int (nI p)] (fun _ => True)) (vp_Si (fun r : Int32 => r = nI (soldC R p))) 0 0 (fun _ => False) := by
  refine Met.ofW (cc := cX6_sold) (maxL := 4) (ret := (some .int)) (by decide +kernel) rfl ?_
  intro Gp Ge Gs Gm Ga Gw Gt Gc G1 Bd gml gv
  obtain ⟨rfl, -⟩ := gv
  have gx := Bd.exec
  have gb := Bd.bytes
  have gr := Bd.returns
  have gts := atoms_spec (ws := wsX6_sold) Bd.pre
  have gown : Gs.vm.findClass RX6 = some Gm.cls := findClass_of_methodNamed Bd.named
  have glk := Bd.notSynchronized
  have hl := lv_entry ([.int (nI R), .int (nI p)]) (n := 4) (Nat.le_of_ble_eq_true rfl)
  rw [lg_entry_eq]
  generalize (lg_sl ([.int (nI R), .int (nI p)]) ++ List.replicate (4 - (lg_sl ([.int (nI R), .int (nI p)])).length) Slot.unset).toArray = ls at hl ⊢
  have hl : lv_has ls 4 [(0, .int (nI R)), (1, .int (nI p))] := hl
  refine lv_iload_n gx gb dX6_sold_0 rfl (lv_at hl 0 rfl) ?_
  refine lv_iconst (v := nI 1) gx gb dX6_sold_1 (by decide) ?_
  refine lv_iconst (v := nI 3) gx gb dX6_sold_2 (by decide) ?_
  refine lv_iload_n gx gb dX6_sold_3 rfl (lv_at hl 1 rfl) ?_
  refine lv_imul gx gb dX6_sold_4 ?_
  refine lv_evi (nI (3 * p)) (pk_mul 3 p) ?_
  refine lv_ishl gx gb dX6_sold_5 ?_
  refine lv_evi (nI (1 * 2 ^ (3 * p))) (e_shl _ (by omega)) ?_
  refine lv_iconst (v := nI 1) gx gb dX6_sold_6 (by decide) ?_
  refine lv_isub gx gb dX6_sold_7 ?_
  refine lv_evi (nI ((1 * 2 ^ (3 * p)) - 1)) (e_sub (by have := Nat.pow_pos (n := 3 * p) (show 0 < 2 by omega); omega)) ?_
  refine lv_iand gx gb dX6_sold_8 ?_
  refine lv_evi (nI (R &&& ((1 * 2 ^ (3 * p)) - 1))) (e_and R ((1 * 2 ^ (3 * p)) - 1)) ?_
  refine lv_istore_n (lv' := [(2, .int (nI (R &&& ((1 * 2 ^ (3 * p)) - 1)))), (0, .int (nI R)), (1, .int (nI p))]) gx gb dX6_sold_9 rfl hl (by decide) rfl (fun ls hl => ?_)
  refine lv_iload_n gx gb dX6_sold_10 rfl (lv_at hl 1 rfl) ?_
  refine lv_iconst (v := nI 3) gx gb dX6_sold_11 (by decide) ?_
  refine lv_iload_n gx gb dX6_sold_12 rfl (lv_at hl 2 rfl) ?_
  refine lv_iconst (v := nI 1) gx gb dX6_sold_13 (by decide) ?_
  refine lv_iadd gx gb dX6_sold_14 ?_
  refine lv_evi (nI (p + 1)) (nI_add p 1) ?_
  refine lv_imul gx gb dX6_sold_15 ?_
  refine lv_evi (nI (3 * (p + 1))) (pk_mul 3 (p + 1)) ?_
  refine lv_ishr gx gb dX6_sold_16 ?_
  refine lv_evi (nI (R / 2 ^ (3 * (p + 1)))) (e_shr (by omega) (by omega)) ?_
  refine lv_istore_n (lv' := [(3, .int (nI (R / 2 ^ (3 * (p + 1))))), (2, .int (nI (R &&& ((1 * 2 ^ (3 * p)) - 1)))), (0, .int (nI R)), (1, .int (nI p))]) gx gb dX6_sold_17 rfl hl (by decide) rfl (fun ls hl => ?_)
  refine lv_iload_n gx gb dX6_sold_18 rfl (lv_at hl 1 rfl) ?_
  refine lv_iload_n gx gb dX6_sold_19 rfl (lv_at hl 0 rfl) ?_
  refine lv_iconst (v := nI 3) gx gb dX6_sold_20 (by decide) ?_
  refine lv_iload_n gx gb dX6_sold_21 rfl (lv_at hl 3 rfl) ?_
  refine lv_imul gx gb dX6_sold_22 ?_
  refine lv_evi (nI (3 * p)) (pk_mul 3 p) ?_
  refine lv_ishl gx gb dX6_sold_23 ?_
  refine lv_evi (nI ((R / 2 ^ (3 * (p + 1))) * 2 ^ (3 * p))) (e_shl _ (by omega)) ?_
  refine lv_ior gx gb dX6_sold_24 ?_
  refine lv_evi (nI ((R &&& ((1 * 2 ^ (3 * p)) - 1)) ||| ((R / 2 ^ (3 * (p + 1))) * 2 ^ (3 * p)))) (e_or (R &&& ((1 * 2 ^ (3 * p)) - 1)) ((R / 2 ^ (3 * (p + 1))) * 2 ^ (3 * p))) ?_
  exact W.iret (v := nI ((R &&& ((1 * 2 ^ (3 * p)) - 1)) ||| ((R / 2 ^ (3 * (p + 1))) * 2 ^ (3 * p)))) gx gb gr (fun t ht hW => ⟨nI ((R &&& ((1 * 2 ^ (3 * p)) - 1)) ||| ((R / 2 ^ (3 * (p + 1))) * 2 ^ (3 * p))), rfl, (by first | (dsimp only; done) | ((try dsimp only); rfl)), ht⟩) (fun q h => by cases h) dX6_sold_25

set_option maxHeartbeats 4000000 in
set_option maxRecDepth 100000 in
theorem kX6_bread (Gl : Launch) (R p : Nat) (hR : R < 2147483648) (hp : p ≤ 9) : Met Gl yX6_bread wsX6_bread ({ frames := 1, cells := 0, slots := 0, locals := 21 } : Room) (va_Pc [.int (nI R), .int (nI p)] (fun _ => True)) (vp_Si (fun r : Int32 => r = nI (breadC R p))) 0 0 (fun _ => False) := by
  refine Met.ofW (cc := cX6_bread) (maxL := 4) (ret := (some .int)) (by decide +kernel) rfl ?_
  intro Gp Ge Gs Gm Ga Gw Gt Gc G1 Bd gml gv
  obtain ⟨rfl, -⟩ := gv
  have gx := Bd.exec
  have gb := Bd.bytes
  have gr := Bd.returns
  have gts := atoms_spec (ws := wsX6_bread) Bd.pre
  have gown : Gs.vm.findClass RX6 = some Gm.cls := findClass_of_methodNamed Bd.named
  have glk := Bd.notSynchronized
  have hl := lv_entry ([.int (nI R), .int (nI p)]) (n := 4) (Nat.le_of_ble_eq_true rfl)
  rw [lg_entry_eq]
  generalize (lg_sl ([.int (nI R), .int (nI p)]) ++ List.replicate (4 - (lg_sl ([.int (nI R), .int (nI p)])).length) Slot.unset).toArray = ls at hl ⊢
  have hl : lv_has ls 4 [(0, .int (nI R)), (1, .int (nI p))] := hl
  refine lv_iload_n gx gb dX6_bread_0 rfl (lv_at hl 0 rfl) ?_
  refine lv_iconst (v := nI 1) gx gb dX6_bread_1 (by decide) ?_
  refine lv_iconst (v := nI 3) gx gb dX6_bread_2 (by decide) ?_
  refine lv_iload_n gx gb dX6_bread_3 rfl (lv_at hl 1 rfl) ?_
  refine lv_imul gx gb dX6_bread_4 ?_
  refine lv_evi (nI (3 * p)) (pk_mul 3 p) ?_
  refine lv_ishl gx gb dX6_bread_5 ?_
  refine lv_evi (nI (1 * 2 ^ (3 * p))) (e_shl _ (by omega)) ?_
  refine lv_iconst (v := nI 1) gx gb dX6_bread_6 (by decide) ?_
  refine lv_isub gx gb dX6_bread_7 ?_
  refine lv_evi (nI ((1 * 2 ^ (3 * p)) - 1)) (e_sub (by have := Nat.pow_pos (n := 3 * p) (show 0 < 2 by omega); omega)) ?_
  refine lv_iand gx gb dX6_bread_8 ?_
  refine lv_evi (nI (R &&& ((1 * 2 ^ (3 * p)) - 1))) (e_and R ((1 * 2 ^ (3 * p)) - 1)) ?_
  refine lv_istore_n (lv' := [(2, .int (nI (R &&& ((1 * 2 ^ (3 * p)) - 1)))), (0, .int (nI R)), (1, .int (nI p))]) gx gb dX6_bread_9 rfl hl (by decide) rfl (fun ls hl => ?_)
  refine lv_iload_n gx gb dX6_bread_10 rfl (lv_at hl 1 rfl) ?_
  refine lv_iconst (v := nI 3) gx gb dX6_bread_11 (by decide) ?_
  refine lv_iload_n gx gb dX6_bread_12 rfl (lv_at hl 2 rfl) ?_
  refine lv_iconst (v := nI 1) gx gb dX6_bread_13 (by decide) ?_
  refine lv_iadd gx gb dX6_bread_14 ?_
  refine lv_evi (nI (p + 1)) (nI_add p 1) ?_
  refine lv_imul gx gb dX6_bread_15 ?_
  refine lv_evi (nI (3 * (p + 1))) (pk_mul 3 (p + 1)) ?_
  refine lv_ishr gx gb dX6_bread_16 ?_
  refine lv_evi (nI (R / 2 ^ (3 * (p + 1)))) (e_shr (by omega) (by omega)) ?_
  refine lv_istore_n (lv' := [(3, .int (nI (R / 2 ^ (3 * (p + 1))))), (2, .int (nI (R &&& ((1 * 2 ^ (3 * p)) - 1)))), (0, .int (nI R)), (1, .int (nI p))]) gx gb dX6_bread_17 rfl hl (by decide) rfl (fun ls hl => ?_)
  refine lv_iload_n gx gb dX6_bread_18 rfl (lv_at hl 0 rfl) ?_
  refine lv_iconst (v := nI 3) gx gb dX6_bread_19 (by decide) ?_
  refine lv_iload_n gx gb dX6_bread_20 rfl (lv_at hl 3 rfl) ?_
  refine lv_iconst (v := nI 1) gx gb dX6_bread_21 (by decide) ?_
  refine lv_iadd gx gb dX6_bread_22 ?_
  refine lv_evi (nI (p + 1)) (nI_add p 1) ?_
  refine lv_imul gx gb dX6_bread_23 ?_
  refine lv_evi (nI (3 * (p + 1))) (pk_mul 3 (p + 1)) ?_
  refine lv_ishl gx gb dX6_bread_24 ?_
  refine lv_evi (nI ((R / 2 ^ (3 * (p + 1))) * 2 ^ (3 * (p + 1)))) (e_shl _ (by omega)) ?_
  refine lv_iload_n gx gb dX6_bread_25 rfl (lv_at hl 1 rfl) ?_
  refine lv_iconst (v := nI 3) gx gb dX6_bread_26 (by decide) ?_
  refine lv_ishl gx gb dX6_bread_27 ?_
  refine lv_evi (nI ((R &&& ((1 * 2 ^ (3 * p)) - 1)) * 2 ^ 3)) (e_shl _ (by omega)) ?_
  refine lv_ior gx gb dX6_bread_28 ?_
  refine lv_evi (nI (((R / 2 ^ (3 * (p + 1))) * 2 ^ (3 * (p + 1))) ||| ((R &&& ((1 * 2 ^ (3 * p)) - 1)) * 2 ^ 3))) (e_or ((R / 2 ^ (3 * (p + 1))) * 2 ^ (3 * (p + 1))) ((R &&& ((1 * 2 ^ (3 * p)) - 1)) * 2 ^ 3)) ?_
  refine lv_iload_n gx gb dX6_bread_29 rfl (lv_at hl 2 rfl) ?_
  refine lv_iload_n gx gb dX6_bread_30 rfl (lv_at hl 3 rfl) ?_
  refine vp_callSi (W.runS (As := [.int (nI R), .int (nI p)]) (rest := [.int (nI (((R / 2 ^ (3 * (p + 1))) * 2 ^ (3 * (p + 1))) ||| ((R &&& ((1 * 2 ^ (3 * p)) - 1)) * 2 ^ 3)))]) ⟨gx, gb, gml, gown, gts⟩ (kX6_who Gl R p (by omega) (by omega)) (va_cwS 2 gts gX6_bread_X6_who rfl rfl rfl (by decide +kernel) ⟨Nat.le_of_ble_eq_true rfl, Nat.le_of_ble_eq_true rfl⟩) ⟨fun _ _ _ _ h => h, fun U hU hW => ⟨rfl, trivial⟩⟩ rfl rfl hl.1 rfl (lv_room (Nat.le_of_ble_eq_true rfl)) dX6_bread_31 ⟨Nat.le_of_ble_eq_true rfl, Nat.le_of_ble_eq_true rfl⟩) (fun r hw => ?_)
  have hr31 := hw
  subst hr31
  refine lv_ior gx gb dX6_bread_34 ?_
  refine lv_evi (nI ((((R / 2 ^ (3 * (p + 1))) * 2 ^ (3 * (p + 1))) ||| ((R &&& ((1 * 2 ^ (3 * p)) - 1)) * 2 ^ 3)) ||| (dg 8 R p))) (e_or (((R / 2 ^ (3 * (p + 1))) * 2 ^ (3 * (p + 1))) ||| ((R &&& ((1 * 2 ^ (3 * p)) - 1)) * 2 ^ 3)) (dg 8 R p)) ?_
  exact W.iret (v := nI ((((R / 2 ^ (3 * (p + 1))) * 2 ^ (3 * (p + 1))) ||| ((R &&& ((1 * 2 ^ (3 * p)) - 1)) * 2 ^ 3)) ||| (dg 8 R p))) gx gb gr (fun t ht hW => ⟨nI ((((R / 2 ^ (3 * (p + 1))) * 2 ^ (3 * (p + 1))) ||| ((R &&& ((1 * 2 ^ (3 * p)) - 1)) * 2 ^ 3)) ||| (dg 8 R p)), rfl, (by first | (dsimp only; done) | ((try dsimp only); rfl)), ht⟩) (fun q h => by cases h) dX6_bread_35

set_option maxHeartbeats 4000000 in
set_option maxRecDepth 100000 in
theorem kX6_pike (Gl : Launch) (R p q : Nat) (hR : R < 2147483648) (hp : p ≤ 9) (hq : 1 ≤ q) (hq2 : q ≤ 10) : Met Gl yX6_pike wsX6_pike ({ frames := 1, cells := 0, slots := 0, locals := 23 } : Room) (va_Pc [.int (nI R), .int (nI p), .int (nI q)] (fun _ => True)) (vp_Si (fun r : Int32 => r = nI (pikeC R p q))) 0 0 (fun _ => False) := by
  refine Met.ofW (cc := cX6_pike) (maxL := 3) (ret := (some .int)) (by decide +kernel) rfl ?_
  intro Gp Ge Gs Gm Ga Gw Gt Gc G1 Bd gml gv
  obtain ⟨rfl, -⟩ := gv
  have gx := Bd.exec
  have gb := Bd.bytes
  have gr := Bd.returns
  have gts := atoms_spec (ws := wsX6_pike) Bd.pre
  have gown : Gs.vm.findClass RX6 = some Gm.cls := findClass_of_methodNamed Bd.named
  have glk := Bd.notSynchronized
  have hl := lv_entry ([.int (nI R), .int (nI p), .int (nI q)]) (n := 3) (Nat.le_of_ble_eq_true rfl)
  rw [lg_entry_eq]
  generalize (lg_sl ([.int (nI R), .int (nI p), .int (nI q)]) ++ List.replicate (3 - (lg_sl ([.int (nI R), .int (nI p), .int (nI q)])).length) Slot.unset).toArray = ls at hl ⊢
  have hl : lv_has ls 3 [(0, .int (nI R)), (1, .int (nI p)), (2, .int (nI q))] := hl
  refine lv_iload_n gx gb dX6_pike_0 rfl (lv_at hl 0 rfl) ?_
  refine lv_iload_n gx gb dX6_pike_1 rfl (lv_at hl 1 rfl) ?_
  refine vp_callSi (W.runS (As := [.int (nI R), .int (nI p)]) (rest := []) ⟨gx, gb, gml, gown, gts⟩ (kX6_sold Gl R p (by omega) (by omega)) (va_cwS 2 gts gX6_pike_X6_sold rfl rfl rfl (by decide +kernel) ⟨Nat.le_of_ble_eq_true rfl, Nat.le_of_ble_eq_true rfl⟩) ⟨fun _ _ _ _ h => h, fun U hU hW => ⟨rfl, trivial⟩⟩ rfl rfl hl.1 rfl (lv_room (Nat.le_of_ble_eq_true rfl)) dX6_pike_2 ⟨Nat.le_of_ble_eq_true rfl, Nat.le_of_ble_eq_true rfl⟩) (fun r hw => ?_)
  have hr2 := hw
  subst hr2
  refine lv_iload_n gx gb dX6_pike_5 rfl (lv_at hl 0 rfl) ?_
  refine lv_iload_n gx gb dX6_pike_6 rfl (lv_at hl 1 rfl) ?_
  refine vp_callSi (W.runS (As := [.int (nI R), .int (nI p)]) (rest := [.int (nI (soldC R p))]) ⟨gx, gb, gml, gown, gts⟩ (kX6_who Gl R p (by omega) (by omega)) (va_cwS 2 gts gX6_pike_X6_who rfl rfl rfl (by decide +kernel) ⟨Nat.le_of_ble_eq_true rfl, Nat.le_of_ble_eq_true rfl⟩) ⟨fun _ _ _ _ h => h, fun U hU hW => ⟨rfl, trivial⟩⟩ rfl rfl hl.1 rfl (lv_room (Nat.le_of_ble_eq_true rfl)) dX6_pike_7 ⟨Nat.le_of_ble_eq_true rfl, Nat.le_of_ble_eq_true rfl⟩) (fun r hw => ?_)
  have hr7 := hw
  subst hr7
  refine lv_iconst (v := nI 3) gx gb dX6_pike_10 (by decide) ?_
  refine lv_iload_n gx gb dX6_pike_11 rfl (lv_at hl 2 rfl) ?_
  refine lv_iconst (v := nI 1) gx gb dX6_pike_12 (by decide) ?_
  refine lv_isub gx gb dX6_pike_13 ?_
  refine lv_evi (nI (q - 1)) (e_sub (by omega)) ?_
  refine lv_imul gx gb dX6_pike_14 ?_
  refine lv_evi (nI (3 * (q - 1))) (pk_mul 3 (q - 1)) ?_
  refine lv_ishl gx gb dX6_pike_15 ?_
  refine lv_evi (nI ((dg 8 R p) * 2 ^ (3 * (q - 1)))) (e_shl _ (by omega)) ?_
  refine lv_ior gx gb dX6_pike_16 ?_
  refine lv_evi (nI ((soldC R p) ||| ((dg 8 R p) * 2 ^ (3 * (q - 1))))) (e_or (soldC R p) ((dg 8 R p) * 2 ^ (3 * (q - 1)))) ?_
  exact W.iret (v := nI ((soldC R p) ||| ((dg 8 R p) * 2 ^ (3 * (q - 1))))) gx gb gr (fun t ht hW => ⟨nI ((soldC R p) ||| ((dg 8 R p) * 2 ^ (3 * (q - 1)))), rfl, (by first | (dsimp only; done) | ((try dsimp only); rfl)), ht⟩) (fun q h => by cases h) dX6_pike_17

set_option maxHeartbeats 4000000 in
set_option maxRecDepth 100000 in
theorem kX6_rain (Gl : Launch) (R q : Nat) (hR : R < 2147483648) (hq2 : q ≤ 10) : Met Gl yX6_rain wsX6_rain ({ frames := 1, cells := 0, slots := 0, locals := 21 } : Room) (va_Pc [.int (nI R), .int (nI q)] (fun _ => True)) (vp_Si (fun r : Int32 => r = nI (rainC R q))) 0 0 (fun _ => False) := by
  refine Met.ofW (cc := cX6_rain) (maxL := 4) (ret := (some .int)) (by decide +kernel) rfl ?_
  intro Gp Ge Gs Gm Ga Gw Gt Gc G1 Bd gml gv
  obtain ⟨rfl, -⟩ := gv
  have gx := Bd.exec
  have gb := Bd.bytes
  have gr := Bd.returns
  have gts := atoms_spec (ws := wsX6_rain) Bd.pre
  have gown : Gs.vm.findClass RX6 = some Gm.cls := findClass_of_methodNamed Bd.named
  have glk := Bd.notSynchronized
  have hl := lv_entry ([.int (nI R), .int (nI q)]) (n := 4) (Nat.le_of_ble_eq_true rfl)
  rw [lg_entry_eq]
  generalize (lg_sl ([.int (nI R), .int (nI q)]) ++ List.replicate (4 - (lg_sl ([.int (nI R), .int (nI q)])).length) Slot.unset).toArray = ls at hl ⊢
  have hl : lv_has ls 4 [(0, .int (nI R)), (1, .int (nI q))] := hl
  refine lv_iconst (v := nI 0) gx gb dX6_rain_0 (by decide) ?_
  refine lv_istore_n (lv' := [(2, .int (nI 0)), (0, .int (nI R)), (1, .int (nI q))]) gx gb dX6_rain_1 rfl hl (by decide) rfl (fun ls hl => ?_)
  refine lv_iconst (v := nI 0) gx gb dX6_rain_2 (by decide) ?_
  refine lv_istore_n (lv' := [(3, .int (nI 0)), (2, .int (nI 0)), (0, .int (nI R)), (1, .int (nI q))]) gx gb dX6_rain_3 rfl hl (by decide) rfl (fun ls hl => ?_)
  have L4 : ∀ fu : Nat, ∀ (i : Nat) (hi : i ≤ q), (q - i) < fu → ∀ ls : Array Slot, lv_has ls 4 [(2, .int (nI (rainC R i))), (3, .int (nI i)), (0, .int (nI R)), (1, .int (nI q))] → W Gp Gl Ge (headSpec wsX6_rain ({ frames := 1, cells := 0, slots := 0, locals := 21 } : Room)).room Gs Gm ([.int (nI R), .int (nI q)] : List Value).toArray Gw Gt Gc Gs.heap [] 0 0 (MQ Gw (vp_Si (fun r : Int32 => r = nI (rainC R q))) ([.int (nI R), .int (nI q)] : List Value).toArray Gs 0 0 (fun _ => False)) (F0 Gm 4 ls []) := by
    intro fu
    induction fu with
    | zero => intro i hi hfu; exact absurd hfu (Nat.not_lt_zero _)
    | succ fu ih4 =>
      intro i hi hfu ls hl
      refine lv_iload_n gx gb dX6_rain_4 rfl (lv_at hl 1 rfl) ?_
      refine lv_iload_n gx gb dX6_rain_5 rfl (lv_at hl 3 rfl) ?_
      refine lv_icmp_ge (tgt := 25) gx gb dX6_rain_6 (by decide) (fun c6 => ?_) (fun c6 => ?_)
      · skip
        rw [nI_leI (by omega) (by omega)] at c6
        refine lv_iload_n gx gb dX6_rain_25 rfl (lv_at hl 0 rfl) ?_
        exact W.iret (v := nI (rainC R i)) gx gb gr (fun t ht hW => ⟨nI (rainC R i), rfl, (by first | (dsimp only; done) | ((try dsimp only); obtain rfl : i = q := (by omega); rfl)), ht⟩) (fun q h => by cases h) dX6_rain_26
      · skip
        rw [nI_leI (by omega) (by omega)] at c6
        refine lv_iload_n gx gb dX6_rain_9 rfl (lv_at hl 0 rfl) ?_
        refine lv_iconst (v := nI 3) gx gb dX6_rain_10 (by decide) ?_
        refine lv_ishl gx gb dX6_rain_11 ?_
        refine lv_evi (nI ((rainC R i) * 2 ^ 3)) (e_shl _ (by omega)) ?_
        refine lv_iload_n gx gb dX6_rain_12 rfl (lv_at hl 2 rfl) ?_
        refine lv_iload_n gx gb dX6_rain_13 rfl (lv_at hl 1 rfl) ?_
        refine vp_callSi (W.runS (As := [.int (nI R), .int (nI i)]) (rest := [.int (nI ((rainC R i) * 2 ^ 3))]) ⟨gx, gb, gml, gown, gts⟩ (kX6_who Gl R i (by omega) (by omega)) (va_cwS 2 gts gX6_rain_X6_who rfl rfl rfl (by decide +kernel) ⟨Nat.le_of_ble_eq_true rfl, Nat.le_of_ble_eq_true rfl⟩) ⟨fun _ _ _ _ h => h, fun U hU hW => ⟨rfl, trivial⟩⟩ rfl rfl hl.1 rfl (lv_room (Nat.le_of_ble_eq_true rfl)) dX6_rain_14 ⟨Nat.le_of_ble_eq_true rfl, Nat.le_of_ble_eq_true rfl⟩) (fun r hw => ?_)
        have hr14 := hw
        subst hr14
        refine lv_ior gx gb dX6_rain_17 ?_
        refine lv_evi (nI (((rainC R i) * 2 ^ 3) ||| (dg 8 R i))) (e_or ((rainC R i) * 2 ^ 3) (dg 8 R i)) ?_
        refine lv_istore_n (lv' := [(2, .int (nI (((rainC R i) * 2 ^ 3) ||| (dg 8 R i)))), (3, .int (nI i)), (0, .int (nI R)), (1, .int (nI q))]) gx gb dX6_rain_18 rfl hl (by decide) rfl (fun ls hl => ?_)
        refine lv_iinc (v := nI (i + 1)) (lv' := [(3, .int (nI (i + 1))), (2, .int (nI (((rainC R i) * 2 ^ 3) ||| (dg 8 R i)))), (0, .int (nI R)), (1, .int (nI q))]) gx gb dX6_rain_19 hl (k := 1) rfl (nI_add i 1) (by decide) rfl (fun ls hl => ?_)
        refine lv_goto (tgt := 4) gx gb dX6_rain_22 (by decide) ?_
        exact ih4 (i + 1) (by omega) (by omega) ls (lv_sub hl [1, 0, 2, 3] rfl)
  exact L4 _ 0 (by omega) (Nat.lt_succ_self _) ls (lv_sub hl [1, 0, 2, 3] rfl)

set_option maxHeartbeats 4000000 in
set_option maxRecDepth 100000 in
theorem kX6_gust (Gl : Launch) (R p : Nat) (hR : R < 2147483648) (hp : p ≤ 9) : Met Gl yX6_gust wsX6_gust ({ frames := 1, cells := 0, slots := 0, locals := 21 } : Room) (va_Pc [.int (nI R), .int (nI p)] (fun _ => True)) (vp_Si (fun r : Int32 => r = nI (gustC R p))) 0 0 (fun _ => False) := by
  refine Met.ofW (cc := cX6_gust) (maxL := 3) (ret := (some .int)) (by decide +kernel) rfl ?_
  intro Gp Ge Gs Gm Ga Gw Gt Gc G1 Bd gml gv
  obtain ⟨rfl, -⟩ := gv
  have gx := Bd.exec
  have gb := Bd.bytes
  have gr := Bd.returns
  have gts := atoms_spec (ws := wsX6_gust) Bd.pre
  have gown : Gs.vm.findClass RX6 = some Gm.cls := findClass_of_methodNamed Bd.named
  have glk := Bd.notSynchronized
  have hl := lv_entry ([.int (nI R), .int (nI p)]) (n := 3) (Nat.le_of_ble_eq_true rfl)
  rw [lg_entry_eq]
  generalize (lg_sl ([.int (nI R), .int (nI p)]) ++ List.replicate (3 - (lg_sl ([.int (nI R), .int (nI p)])).length) Slot.unset).toArray = ls at hl ⊢
  have hl : lv_has ls 3 [(0, .int (nI R)), (1, .int (nI p))] := hl
  refine lv_iload_n gx gb dX6_gust_0 rfl (lv_at hl 0 rfl) ?_
  refine lv_iload_n gx gb dX6_gust_1 rfl (lv_at hl 1 rfl) ?_
  refine vp_callSi (W.runS (As := [.int (nI R), .int (nI p)]) (rest := []) ⟨gx, gb, gml, gown, gts⟩ (kX6_who Gl R p (by omega) (by omega)) (va_cwS 2 gts gX6_gust_X6_who rfl rfl rfl (by decide +kernel) ⟨Nat.le_of_ble_eq_true rfl, Nat.le_of_ble_eq_true rfl⟩) ⟨fun _ _ _ _ h => h, fun U hU hW => ⟨rfl, trivial⟩⟩ rfl rfl hl.1 rfl (lv_room (Nat.le_of_ble_eq_true rfl)) dX6_gust_2 ⟨Nat.le_of_ble_eq_true rfl, Nat.le_of_ble_eq_true rfl⟩) (fun r hw => ?_)
  have hr2 := hw
  subst hr2
  refine lv_iload_n gx gb dX6_gust_5 rfl (lv_at hl 0 rfl) ?_
  refine lv_iload_n gx gb dX6_gust_6 rfl (lv_at hl 1 rfl) ?_
  refine lv_iconst (v := nI 1) gx gb dX6_gust_7 (by decide) ?_
  refine lv_iadd gx gb dX6_gust_8 ?_
  refine lv_evi (nI (p + 1)) (nI_add p 1) ?_
  refine vp_callSi (W.runS (As := [.int (nI R), .int (nI (p + 1))]) (rest := [.int (nI (dg 8 R p))]) ⟨gx, gb, gml, gown, gts⟩ (kX6_who Gl R (p + 1) (by omega) (by omega)) (va_cwS 2 gts gX6_gust_X6_who rfl rfl rfl (by decide +kernel) ⟨Nat.le_of_ble_eq_true rfl, Nat.le_of_ble_eq_true rfl⟩) ⟨fun _ _ _ _ h => h, fun U hU hW => ⟨rfl, trivial⟩⟩ rfl rfl hl.1 rfl (lv_room (Nat.le_of_ble_eq_true rfl)) dX6_gust_9 ⟨Nat.le_of_ble_eq_true rfl, Nat.le_of_ble_eq_true rfl⟩) (fun r hw => ?_)
  have hr9 := hw
  subst hr9
  refine lv_ixor gx gb dX6_gust_12 ?_
  refine lv_evi (nI ((dg 8 R p) ^^^ (dg 8 R (p + 1)))) (e_xor (dg 8 R p) (dg 8 R (p + 1))) ?_
  refine lv_istore_n (lv' := [(2, .int (nI ((dg 8 R p) ^^^ (dg 8 R (p + 1))))), (0, .int (nI R)), (1, .int (nI p))]) gx gb dX6_gust_13 rfl hl (by decide) rfl (fun ls hl => ?_)
  refine lv_iload_n gx gb dX6_gust_14 rfl (lv_at hl 1 rfl) ?_
  refine lv_iload_n gx gb dX6_gust_15 rfl (lv_at hl 0 rfl) ?_
  refine lv_iconst (v := nI 3) gx gb dX6_gust_16 (by decide) ?_
  refine lv_iload_n gx gb dX6_gust_17 rfl (lv_at hl 2 rfl) ?_
  refine lv_imul gx gb dX6_gust_18 ?_
  refine lv_evi (nI (3 * p)) (pk_mul 3 p) ?_
  refine lv_ishl gx gb dX6_gust_19 ?_
  refine lv_evi (nI (((dg 8 R p) ^^^ (dg 8 R (p + 1))) * 2 ^ (3 * p))) (e_shl _ (by omega)) ?_
  refine lv_ixor gx gb dX6_gust_20 ?_
  refine lv_evi (nI (R ^^^ (((dg 8 R p) ^^^ (dg 8 R (p + 1))) * 2 ^ (3 * p)))) (e_xor R (((dg 8 R p) ^^^ (dg 8 R (p + 1))) * 2 ^ (3 * p))) ?_
  refine lv_iload_n gx gb dX6_gust_21 rfl (lv_at hl 0 rfl) ?_
  refine lv_iconst (v := nI 3) gx gb dX6_gust_22 (by decide) ?_
  refine lv_iload_n gx gb dX6_gust_23 rfl (lv_at hl 2 rfl) ?_
  refine lv_iconst (v := nI 1) gx gb dX6_gust_24 (by decide) ?_
  refine lv_iadd gx gb dX6_gust_25 ?_
  refine lv_evi (nI (p + 1)) (nI_add p 1) ?_
  refine lv_imul gx gb dX6_gust_26 ?_
  refine lv_evi (nI (3 * (p + 1))) (pk_mul 3 (p + 1)) ?_
  refine lv_ishl gx gb dX6_gust_27 ?_
  refine lv_evi (nI (((dg 8 R p) ^^^ (dg 8 R (p + 1))) * 2 ^ (3 * (p + 1)))) (e_shl _ (by omega)) ?_
  refine lv_ixor gx gb dX6_gust_28 ?_
  refine lv_evi (nI ((R ^^^ (((dg 8 R p) ^^^ (dg 8 R (p + 1))) * 2 ^ (3 * p))) ^^^ (((dg 8 R p) ^^^ (dg 8 R (p + 1))) * 2 ^ (3 * (p + 1))))) (e_xor (R ^^^ (((dg 8 R p) ^^^ (dg 8 R (p + 1))) * 2 ^ (3 * p))) (((dg 8 R p) ^^^ (dg 8 R (p + 1))) * 2 ^ (3 * (p + 1)))) ?_
  exact W.iret (v := nI ((R ^^^ (((dg 8 R p) ^^^ (dg 8 R (p + 1))) * 2 ^ (3 * p))) ^^^ (((dg 8 R p) ^^^ (dg 8 R (p + 1))) * 2 ^ (3 * (p + 1))))) gx gb gr (fun t ht hW => ⟨nI ((R ^^^ (((dg 8 R p) ^^^ (dg 8 R (p + 1))) * 2 ^ (3 * p))) ^^^ (((dg 8 R p) ^^^ (dg 8 R (p + 1))) * 2 ^ (3 * (p + 1)))), rfl, (by first | (dsimp only; done) | ((try dsimp only); rfl)), ht⟩) (fun q h => by cases h) dX6_gust_29

set_option maxHeartbeats 4000000 in
set_option maxRecDepth 100000 in
theorem kX6_behindEvent (Gl : Launch) (R q k p : Nat) (hR : R < 2147483648) (hk : k ≤ 4) (hp : p ≤ 9) (hq : 1 ≤ q) (hq2 : q ≤ 10) : Met Gl yX6_behindEvent wsX6_behindEvent ({ frames := 2, cells := 0, slots := 0, locals := 45 } : Room) (va_Pc [.int (nI R), .int (nI q), .int (nI k), .int (nI p)] (fun _ => True)) (vp_Si (fun r : Int32 => r = nI (evC R q k p))) 0 0 (fun _ => False) := by
  refine Met.ofW (cc := cX6_behindEvent) (maxL := 4) (ret := (some .int)) (by decide +kernel) rfl ?_
  intro Gp Ge Gs Gm Ga Gw Gt Gc G1 Bd gml gv
  obtain ⟨rfl, -⟩ := gv
  have gx := Bd.exec
  have gb := Bd.bytes
  have gr := Bd.returns
  have gts := atoms_spec (ws := wsX6_behindEvent) Bd.pre
  have gown : Gs.vm.findClass RX6 = some Gm.cls := findClass_of_methodNamed Bd.named
  have glk := Bd.notSynchronized
  have hl := lv_entry ([.int (nI R), .int (nI q), .int (nI k), .int (nI p)]) (n := 4) (Nat.le_of_ble_eq_true rfl)
  rw [lg_entry_eq]
  generalize (lg_sl ([.int (nI R), .int (nI q), .int (nI k), .int (nI p)]) ++ List.replicate (4 - (lg_sl ([.int (nI R), .int (nI q), .int (nI k), .int (nI p)])).length) Slot.unset).toArray = ls at hl ⊢
  have hl : lv_has ls 4 [(0, .int (nI R)), (1, .int (nI q)), (2, .int (nI k)), (3, .int (nI p))] := hl
  refine lv_iload_n gx gb dX6_behindEvent_0 rfl (lv_at hl 2 rfl) ?_
  rcases (show k = 0 ∨ k = 1 ∨ k = 2 ∨ k = 3 ∨ k = 4 by omega) with rfl | rfl | rfl | rfl | rfl
  · skip
    refine lv_tableIn (tgt := 36) (off := 35) gx gb dX6_behindEvent_1 (by decide) (by decide) (by decide) (by decide) ?_
    refine lv_iload_n gx gb dX6_behindEvent_36 rfl (lv_at hl 0 rfl) ?_
    refine lv_iload_n gx gb dX6_behindEvent_37 rfl (lv_at hl 3 rfl) ?_
    refine vp_callSi (W.runS (As := [.int (nI R), .int (nI p)]) (rest := []) ⟨gx, gb, gml, gown, gts⟩ (kX6_bread Gl R p (by omega) (by omega)) (va_cwS 2 gts gX6_behindEvent_X6_bread rfl rfl rfl (by decide +kernel) ⟨Nat.le_of_ble_eq_true rfl, Nat.le_of_ble_eq_true rfl⟩) ⟨fun _ _ _ _ h => h, fun U hU hW => ⟨rfl, trivial⟩⟩ rfl rfl hl.1 rfl (lv_room (Nat.le_of_ble_eq_true rfl)) dX6_behindEvent_38 ⟨Nat.le_of_ble_eq_true rfl, Nat.le_of_ble_eq_true rfl⟩) (fun r hw => ?_)
    have hr38 := hw
    subst hr38
    exact W.iret (v := nI (breadC R p)) gx gb gr (fun t ht hW => ⟨nI (breadC R p), rfl, (by first | (dsimp only; done) | ((try dsimp only); rfl)), ht⟩) (fun q h => by cases h) dX6_behindEvent_41
  · skip
    refine lv_tableIn (tgt := 42) (off := 41) gx gb dX6_behindEvent_1 (by decide) (by decide) (by decide) (by decide) ?_
    refine lv_iload_n gx gb dX6_behindEvent_42 rfl (lv_at hl 0 rfl) ?_
    refine lv_iload_n gx gb dX6_behindEvent_43 rfl (lv_at hl 3 rfl) ?_
    refine lv_iload_n gx gb dX6_behindEvent_44 rfl (lv_at hl 1 rfl) ?_
    refine vp_callSi (W.runS (As := [.int (nI R), .int (nI p), .int (nI q)]) (rest := []) ⟨gx, gb, gml, gown, gts⟩ (kX6_pike Gl R p q (by omega) (by omega) (by omega) (by omega)) (va_cwS 3 gts gX6_behindEvent_X6_pike rfl rfl rfl (by decide +kernel) ⟨Nat.le_of_ble_eq_true rfl, Nat.le_of_ble_eq_true rfl⟩) ⟨fun _ _ _ _ h => h, fun U hU hW => ⟨rfl, trivial⟩⟩ rfl rfl hl.1 rfl (lv_room (Nat.le_of_ble_eq_true rfl)) dX6_behindEvent_45 ⟨Nat.le_of_ble_eq_true rfl, Nat.le_of_ble_eq_true rfl⟩) (fun r hw => ?_)
    have hr45 := hw
    subst hr45
    exact W.iret (v := nI (pikeC R p q)) gx gb gr (fun t ht hW => ⟨nI (pikeC R p q), rfl, (by first | (dsimp only; done) | ((try dsimp only); rfl)), ht⟩) (fun q h => by cases h) dX6_behindEvent_48
  · skip
    refine lv_tableIn (tgt := 49) (off := 48) gx gb dX6_behindEvent_1 (by decide) (by decide) (by decide) (by decide) ?_
    refine lv_iload_n gx gb dX6_behindEvent_49 rfl (lv_at hl 0 rfl) ?_
    refine lv_iload_n gx gb dX6_behindEvent_50 rfl (lv_at hl 1 rfl) ?_
    refine vp_callSi (W.runS (As := [.int (nI R), .int (nI q)]) (rest := []) ⟨gx, gb, gml, gown, gts⟩ (kX6_rain Gl R q (by omega) (by omega)) (va_cwS 2 gts gX6_behindEvent_X6_rain rfl rfl rfl (by decide +kernel) ⟨Nat.le_of_ble_eq_true rfl, Nat.le_of_ble_eq_true rfl⟩) ⟨fun _ _ _ _ h => h, fun U hU hW => ⟨rfl, trivial⟩⟩ rfl rfl hl.1 rfl (lv_room (Nat.le_of_ble_eq_true rfl)) dX6_behindEvent_51 ⟨Nat.le_of_ble_eq_true rfl, Nat.le_of_ble_eq_true rfl⟩) (fun r hw => ?_)
    have hr51 := hw
    subst hr51
    exact W.iret (v := nI (rainC R q)) gx gb gr (fun t ht hW => ⟨nI (rainC R q), rfl, (by first | (dsimp only; done) | ((try dsimp only); rfl)), ht⟩) (fun q h => by cases h) dX6_behindEvent_54
  · skip
    refine lv_tableIn (tgt := 55) (off := 54) gx gb dX6_behindEvent_1 (by decide) (by decide) (by decide) (by decide) ?_
    refine lv_iload_n gx gb dX6_behindEvent_55 rfl (lv_at hl 0 rfl) ?_
    refine lv_iload_n gx gb dX6_behindEvent_56 rfl (lv_at hl 3 rfl) ?_
    refine vp_callSi (W.runS (As := [.int (nI R), .int (nI p)]) (rest := []) ⟨gx, gb, gml, gown, gts⟩ (kX6_gust Gl R p (by omega) (by omega)) (va_cwS 2 gts gX6_behindEvent_X6_gust rfl rfl rfl (by decide +kernel) ⟨Nat.le_of_ble_eq_true rfl, Nat.le_of_ble_eq_true rfl⟩) ⟨fun _ _ _ _ h => h, fun U hU hW => ⟨rfl, trivial⟩⟩ rfl rfl hl.1 rfl (lv_room (Nat.le_of_ble_eq_true rfl)) dX6_behindEvent_57 ⟨Nat.le_of_ble_eq_true rfl, Nat.le_of_ble_eq_true rfl⟩) (fun r hw => ?_)
    have hr57 := hw
    subst hr57
    exact W.iret (v := nI (gustC R p)) gx gb gr (fun t ht hW => ⟨nI (gustC R p), rfl, (by first | (dsimp only; done) | ((try dsimp only); rfl)), ht⟩) (fun q h => by cases h) dX6_behindEvent_60
  · skip
    refine lv_tableIn (tgt := 61) (off := 60) gx gb dX6_behindEvent_1 (by decide) (by decide) (by decide) (by decide) ?_
    refine lv_iload_n gx gb dX6_behindEvent_61 rfl (lv_at hl 0 rfl) ?_
    refine lv_iload_n gx gb dX6_behindEvent_62 rfl (lv_at hl 3 rfl) ?_
    refine vp_callSi (W.runS (As := [.int (nI R), .int (nI p)]) (rest := []) ⟨gx, gb, gml, gown, gts⟩ (kX6_sold Gl R p (by omega) (by omega)) (va_cwS 2 gts gX6_behindEvent_X6_sold rfl rfl rfl (by decide +kernel) ⟨Nat.le_of_ble_eq_true rfl, Nat.le_of_ble_eq_true rfl⟩) ⟨fun _ _ _ _ h => h, fun U hU hW => ⟨rfl, trivial⟩⟩ rfl rfl hl.1 rfl (lv_room (Nat.le_of_ble_eq_true rfl)) dX6_behindEvent_63 ⟨Nat.le_of_ble_eq_true rfl, Nat.le_of_ble_eq_true rfl⟩) (fun r hw => ?_)
    have hr63 := hw
    subst hr63
    exact W.iret (v := nI (soldC R p)) gx gb gr (fun t ht hW => ⟨nI (soldC R p), rfl, (by first | (dsimp only; done) | ((try dsimp only); rfl)), ht⟩) (fun q h => by cases h) dX6_behindEvent_66

set_option maxHeartbeats 4000000 in
set_option maxRecDepth 100000 in
theorem kX7_ofSign (Gl : Launch) (c : Nat) (hc : c < 2147483648) : Met Gl yX7_ofSign wsX7_ofSign ({ frames := 0, cells := 0, slots := 0, locals := 0 } : Room) (va_Pc [.int (nI c)] (fun _ => True)) (vp_Si (fun r : Int32 => r = zI (ofS c))) 0 0 (fun _ => False) := by
  refine Met.ofW (cc := cX7_ofSign) (maxL := 1) (ret := (some .int)) (by decide +kernel) rfl ?_
  intro Gp Ge Gs Gm Ga Gw Gt Gc G1 Bd gml gv
  obtain ⟨rfl, -⟩ := gv
  have gx := Bd.exec
  have gb := Bd.bytes
  have gr := Bd.returns
  have gts := atoms_spec (ws := wsX7_ofSign) Bd.pre
  have gown : Gs.vm.findClass RX7 = some Gm.cls := findClass_of_methodNamed Bd.named
  have glk := Bd.notSynchronized
  have hl := lv_entry ([.int (nI c)]) (n := 1) (Nat.le_of_ble_eq_true rfl)
  rw [lg_entry_eq]
  generalize (lg_sl ([.int (nI c)]) ++ List.replicate (1 - (lg_sl ([.int (nI c)])).length) Slot.unset).toArray = ls at hl ⊢
  have hl : lv_has ls 1 [(0, .int (nI c))] := hl
  refine lv_iload_n gx gb dX7_ofSign_0 rfl (lv_at hl 0 rfl) ?_
  rcases (show c = 98 ∨ c = 103 ∨ c = 112 ∨ c = 114 ∨ c = 120 ∨ (c ≠ 98 ∧ c ≠ 103 ∧ c ≠ 112 ∧ c ≠ 114 ∧ c ≠ 120) by omega) with rfl | rfl | rfl | rfl | rfl | ⟨n1, n2, n3, n4, n5⟩
  · skip
    refine lv_lookup (tgt := 52) (off := 51) gx gb dX7_ofSign_1 (by decide) (by decide) (by decide) ?_
    refine lv_iconst (v := nI 0) gx gb dX7_ofSign_52 (by decide) ?_
    exact W.iret (v := nI 0) gx gb gr (fun t ht hW => ⟨nI 0, rfl, (by first | (dsimp only; done) | ((try dsimp only); first | decide | (rw [show ofS c = -1 from by simp [ofS, n1, n2, n3, n4, n5]]))), ht⟩) (fun q h => by cases h) dX7_ofSign_53
  · skip
    refine lv_lookup (tgt := 58) (off := 57) gx gb dX7_ofSign_1 (by decide) (by decide) (by decide) ?_
    refine lv_iconst (v := nI 3) gx gb dX7_ofSign_58 (by decide) ?_
    exact W.iret (v := nI 3) gx gb gr (fun t ht hW => ⟨nI 3, rfl, (by first | (dsimp only; done) | ((try dsimp only); first | decide | (rw [show ofS c = -1 from by simp [ofS, n1, n2, n3, n4, n5]]))), ht⟩) (fun q h => by cases h) dX7_ofSign_59
  · skip
    refine lv_lookup (tgt := 54) (off := 53) gx gb dX7_ofSign_1 (by decide) (by decide) (by decide) ?_
    refine lv_iconst (v := nI 1) gx gb dX7_ofSign_54 (by decide) ?_
    exact W.iret (v := nI 1) gx gb gr (fun t ht hW => ⟨nI 1, rfl, (by first | (dsimp only; done) | ((try dsimp only); first | decide | (rw [show ofS c = -1 from by simp [ofS, n1, n2, n3, n4, n5]]))), ht⟩) (fun q h => by cases h) dX7_ofSign_55
  · skip
    refine lv_lookup (tgt := 56) (off := 55) gx gb dX7_ofSign_1 (by decide) (by decide) (by decide) ?_
    refine lv_iconst (v := nI 2) gx gb dX7_ofSign_56 (by decide) ?_
    exact W.iret (v := nI 2) gx gb gr (fun t ht hW => ⟨nI 2, rfl, (by first | (dsimp only; done) | ((try dsimp only); first | decide | (rw [show ofS c = -1 from by simp [ofS, n1, n2, n3, n4, n5]]))), ht⟩) (fun q h => by cases h) dX7_ofSign_57
  · skip
    refine lv_lookup (tgt := 60) (off := 59) gx gb dX7_ofSign_1 (by decide) (by decide) (by decide) ?_
    refine lv_iconst (v := nI 4) gx gb dX7_ofSign_60 (by decide) ?_
    exact W.iret (v := nI 4) gx gb gr (fun t ht hW => ⟨nI 4, rfl, (by first | (dsimp only; done) | ((try dsimp only); first | decide | (rw [show ofS c = -1 from by simp [ofS, n1, n2, n3, n4, n5]]))), ht⟩) (fun q h => by cases h) dX7_ofSign_61
  · skip
    refine lv_lookup (tgt := 62) (off := 61) gx gb dX7_ofSign_1 (by decide) ((lv_osw (k := nI 98) (fun h => n1 ((nI_eq (by omega) (by omega)).mp h)) (by decide)).trans ((lv_osw (k := nI 103) (fun h => n2 ((nI_eq (by omega) (by omega)).mp h)) (by decide)).trans ((lv_osw (k := nI 112) (fun h => n3 ((nI_eq (by omega) (by omega)).mp h)) (by decide)).trans ((lv_osw (k := nI 114) (fun h => n4 ((nI_eq (by omega) (by omega)).mp h)) (by decide)).trans ((lv_osw (k := nI 120) (fun h => n5 ((nI_eq (by omega) (by omega)).mp h)) (by decide)).trans (rfl)))))) (by decide) ?_
    refine lv_iconst (v := zI (-1)) gx gb dX7_ofSign_62 (by decide) ?_
    exact W.iret (v := zI (-1)) gx gb gr (fun t ht hW => ⟨zI (-1), rfl, (by first | (dsimp only; done) | ((try dsimp only); first | decide | (rw [show ofS c = -1 from by simp [ofS, n1, n2, n3, n4, n5]]))), ht⟩) (fun q h => by cases h) dX7_ofSign_63

set_option maxHeartbeats 4000000 in
set_option maxRecDepth 100000 in
theorem kX7_places (Gl : Launch) (k q : Nat) (hk : k ≤ 4) (hq : 1 ≤ q) (hq2 : q < 2147483648) : Met Gl yX7_places wsX7_places ({ frames := 0, cells := 0, slots := 0, locals := 0 } : Room) (va_Pc [.int (nI k), .int (nI q)] (fun _ => True)) (vp_Si (fun r : Int32 => r = nI (plC k q))) 0 0 (fun _ => False) := by
  refine Met.ofW (cc := cX7_places) (maxL := 2) (ret := (some .int)) (by decide +kernel) rfl ?_
  intro Gp Ge Gs Gm Ga Gw Gt Gc G1 Bd gml gv
  obtain ⟨rfl, -⟩ := gv
  have gx := Bd.exec
  have gb := Bd.bytes
  have gr := Bd.returns
  have gts := atoms_spec (ws := wsX7_places) Bd.pre
  have gown : Gs.vm.findClass RX7 = some Gm.cls := findClass_of_methodNamed Bd.named
  have glk := Bd.notSynchronized
  have hl := lv_entry ([.int (nI k), .int (nI q)]) (n := 2) (Nat.le_of_ble_eq_true rfl)
  rw [lg_entry_eq]
  generalize (lg_sl ([.int (nI k), .int (nI q)]) ++ List.replicate (2 - (lg_sl ([.int (nI k), .int (nI q)])).length) Slot.unset).toArray = ls at hl ⊢
  have hl : lv_has ls 2 [(0, .int (nI k)), (1, .int (nI q))] := hl
  refine lv_iload_n gx gb dX7_places_0 rfl (lv_at hl 0 rfl) ?_
  rcases (show k = 0 ∨ k = 1 ∨ k = 2 ∨ k = 3 ∨ k = 4 by omega) with rfl | rfl | rfl | rfl | rfl
  · skip
    refine lv_tableIn (tgt := 36) (off := 35) gx gb dX7_places_1 (by decide) (by decide) (by decide) (by decide) ?_
    refine lv_iload_n gx gb dX7_places_36 rfl (lv_at hl 1 rfl) ?_
    exact W.iret (v := nI q) gx gb gr (fun t ht hW => ⟨nI q, rfl, (by first | (dsimp only; done) | ((try dsimp only); rfl)), ht⟩) (fun q h => by cases h) dX7_places_37
  · skip
    refine lv_tableIn (tgt := 36) (off := 35) gx gb dX7_places_1 (by decide) (by decide) (by decide) (by decide) ?_
    refine lv_iload_n gx gb dX7_places_36 rfl (lv_at hl 1 rfl) ?_
    exact W.iret (v := nI q) gx gb gr (fun t ht hW => ⟨nI q, rfl, (by first | (dsimp only; done) | ((try dsimp only); rfl)), ht⟩) (fun q h => by cases h) dX7_places_37
  · skip
    refine lv_tableIn (tgt := 38) (off := 37) gx gb dX7_places_1 (by decide) (by decide) (by decide) (by decide) ?_
    refine lv_iconst (v := nI 1) gx gb dX7_places_38 (by decide) ?_
    exact W.iret (v := nI 1) gx gb gr (fun t ht hW => ⟨nI 1, rfl, (by first | (dsimp only; done) | ((try dsimp only); rfl)), ht⟩) (fun q h => by cases h) dX7_places_39
  · skip
    refine lv_tableIn (tgt := 40) (off := 39) gx gb dX7_places_1 (by decide) (by decide) (by decide) (by decide) ?_
    refine lv_iload_n gx gb dX7_places_40 rfl (lv_at hl 1 rfl) ?_
    refine lv_iconst (v := nI 1) gx gb dX7_places_41 (by decide) ?_
    refine lv_isub gx gb dX7_places_42 ?_
    refine lv_evi (nI (q - 1)) (e_sub (by omega)) ?_
    exact W.iret (v := nI (q - 1)) gx gb gr (fun t ht hW => ⟨nI (q - 1), rfl, (by first | (dsimp only; done) | ((try dsimp only); rfl)), ht⟩) (fun q h => by cases h) dX7_places_43
  · skip
    refine lv_tableIn (tgt := 44) (off := 43) gx gb dX7_places_1 (by decide) (by decide) (by decide) (by decide) ?_
    refine lv_iload_n gx gb dX7_places_44 rfl (lv_at hl 1 rfl) ?_
    refine lv_iconst (v := nI 1) gx gb dX7_places_45 (by decide) ?_
    refine lv_icmp_le (tgt := 53) gx gb dX7_places_46 (by decide) (fun c46 => ?_) (fun c46 => ?_)
    · skip
      rw [nI_leI (by omega) (by omega)] at c46
      refine lv_iconst (v := nI 0) gx gb dX7_places_53 (by decide) ?_
      exact W.iret (v := nI 0) gx gb gr (fun t ht hW => ⟨nI 0, rfl, (by first | (dsimp only; done) | ((try dsimp only); first | (rw [show plC 4 q = q from (show (if 1 < q then q else 0) = q from if_pos (by omega))]) | (rw [show plC 4 q = 0 from (show (if 1 < q then q else 0) = 0 from if_neg (by omega))]) | rfl)), ht⟩) (fun q h => by cases h) dX7_places_54
    · skip
      rw [nI_leI (by omega) (by omega)] at c46
      refine lv_iload_n gx gb dX7_places_49 rfl (lv_at hl 1 rfl) ?_
      refine lv_goto (tgt := 54) gx gb dX7_places_50 (by decide) ?_
      exact W.iret (v := nI q) gx gb gr (fun t ht hW => ⟨nI q, rfl, (by first | (dsimp only; done) | ((try dsimp only); first | (rw [show plC 4 q = q from (show (if 1 < q then q else 0) = q from if_pos (by omega))]) | (rw [show plC 4 q = 0 from (show (if 1 < q then q else 0) = 0 from if_neg (by omega))]) | rfl)), ht⟩) (fun q h => by cases h) dX7_places_54

set_option maxHeartbeats 4000000 in
set_option maxRecDepth 100000 in
theorem kX3_numberAt (Gl : Launch) (N k : Nat) (hN : N < 9223372036854775808) (hk : k ≤ 7) : Met Gl yX3_numberAt wsX3_numberAt ({ frames := 0, cells := 0, slots := 0, locals := 0 } : Room) (va_Pc [.long (lN N), .int (nI k)] (fun _ => True)) (vp_Si (fun r : Int32 => r = nI (dg 256 N k))) 0 0 (fun _ => False) := by
  refine Met.ofW (cc := cX3_numberAt) (maxL := 3) (ret := (some .int)) (by decide +kernel) rfl ?_
  intro Gp Ge Gs Gm Ga Gw Gt Gc G1 Bd gml gv
  obtain ⟨rfl, -⟩ := gv
  have gx := Bd.exec
  have gb := Bd.bytes
  have gr := Bd.returns
  have gts := atoms_spec (ws := wsX3_numberAt) Bd.pre
  have gown : Gs.vm.findClass RX3 = some Gm.cls := findClass_of_methodNamed Bd.named
  have glk := Bd.notSynchronized
  have hl := lv_entry ([.long (lN N), .int (nI k)]) (n := 3) (Nat.le_of_ble_eq_true rfl)
  rw [lg_entry_eq]
  generalize (lg_sl ([.long (lN N), .int (nI k)]) ++ List.replicate (3 - (lg_sl ([.long (lN N), .int (nI k)])).length) Slot.unset).toArray = ls at hl ⊢
  have hl : lv_has ls 3 [(0, .long (lN N)), (2, .int (nI k))] := hl
  refine lv_lload_n gx gb dX3_numberAt_0 rfl (lv_at hl 0 rfl) ?_
  refine lv_bipush (v := nI 8) gx gb dX3_numberAt_1 (by decide) ?_
  refine lv_iload_n gx gb dX3_numberAt_3 rfl (lv_at hl 1 rfl) ?_
  refine lv_imul gx gb dX3_numberAt_4 ?_
  refine lv_evi (nI (8 * k)) (pk_mul 8 k) ?_
  refine lv_lshr (v := lN (N / 2 ^ (8 * k))) gx gb dX3_numberAt_5 (e_shrL (by omega) (by omega)) ?_
  refine lv_ldc2 (v := (255)) gx gb gown (gts (.constantLong RX3 11 (255)) (by decide +kernel)) dX3_numberAt_6 ?_
  refine lv_evl (lN 255) (rfl) ?_
  refine lv_land gx gb dX3_numberAt_9 ?_
  refine lv_evl (lN ((N / 2 ^ (8 * k)) % 2 ^ 8)) (e_maskL (N / 2 ^ (8 * k)) 8 rfl) ?_
  refine lv_l2i (v := nI ((N / 2 ^ (8 * k)) % 2 ^ 8)) gx gb dX3_numberAt_10 (lN_i _) ?_
  exact W.iret (v := nI ((N / 2 ^ (8 * k)) % 2 ^ 8)) gx gb gr (fun t ht hW => ⟨nI ((N / 2 ^ (8 * k)) % 2 ^ 8), rfl, (by first | (dsimp only; done) | ((try dsimp only); rw [p256]; rfl)), ht⟩) (fun q h => by cases h) dX3_numberAt_11

set_option maxHeartbeats 4000000 in
set_option maxRecDepth 100000 in
theorem kX3_first (Gl : Launch) (n : Nat) (hn : n ≤ 7) : Met Gl yX3_first wsX3_first ({ frames := 0, cells := 0, slots := 0, locals := 0 } : Room) (va_Pc [.int (nI n)] (fun _ => True)) (vp_Sl (fun r : Int64 => r = lN (pk 256 (fun i => i + 1) n))) 0 0 (fun _ => False) := by
  refine Met.ofW (cc := cX3_first) (maxL := 4) (ret := (some .long)) (by decide +kernel) rfl ?_
  intro Gp Ge Gs Gm Ga Gw Gt Gc G1 Bd gml gv
  obtain ⟨rfl, -⟩ := gv
  have gx := Bd.exec
  have gb := Bd.bytes
  have gr := Bd.returns
  have gts := atoms_spec (ws := wsX3_first) Bd.pre
  have gown : Gs.vm.findClass RX3 = some Gm.cls := findClass_of_methodNamed Bd.named
  have glk := Bd.notSynchronized
  have hl := lv_entry ([.int (nI n)]) (n := 4) (Nat.le_of_ble_eq_true rfl)
  rw [lg_entry_eq]
  generalize (lg_sl ([.int (nI n)]) ++ List.replicate (4 - (lg_sl ([.int (nI n)])).length) Slot.unset).toArray = ls at hl ⊢
  have hl : lv_has ls 4 [(0, .int (nI n))] := hl
  refine lv_lconst (v := lN 0) gx gb dX3_first_0 rfl ?_
  refine lv_lstore_n (lv' := [(1, .long (lN 0)), (0, .int (nI n))]) gx gb dX3_first_1 rfl hl (by decide) rfl (fun ls hl => ?_)
  refine lv_iconst (v := nI 0) gx gb dX3_first_2 (by decide) ?_
  refine lv_istore_n (lv' := [(3, .int (nI 0)), (1, .long (lN 0)), (0, .int (nI n))]) gx gb dX3_first_3 rfl hl (by decide) rfl (fun ls hl => ?_)
  have L4 : ∀ fu : Nat, ∀ (i : Nat) (hi : i ≤ n), (n - i) < fu → ∀ ls : Array Slot, lv_has ls 4 [(1, .long (lN (pk 256 (fun i => i + 1) i))), (3, .int (nI i)), (0, .int (nI n))] → W Gp Gl Ge (headSpec wsX3_first ({ frames := 0, cells := 0, slots := 0, locals := 0 } : Room)).room Gs Gm ([.int (nI n)] : List Value).toArray Gw Gt Gc Gs.heap [] 0 0 (MQ Gw (vp_Sl (fun r : Int64 => r = lN (pk 256 (fun i => i + 1) n))) ([.int (nI n)] : List Value).toArray Gs 0 0 (fun _ => False)) (F0 Gm 4 ls []) := by
    intro fu
    induction fu with
    | zero => intro i hi hfu; exact absurd hfu (Nat.not_lt_zero _)
    | succ fu ih4 =>
      intro i hi hfu ls hl
      refine lv_iload_n gx gb dX3_first_4 rfl (lv_at hl 1 rfl) ?_
      refine lv_iload_n gx gb dX3_first_5 rfl (lv_at hl 2 rfl) ?_
      refine lv_icmp_ge (tgt := 27) gx gb dX3_first_6 (by decide) (fun c6 => ?_) (fun c6 => ?_)
      · skip
        rw [nI_leI (by omega) (by omega)] at c6
        refine lv_lload_n gx gb dX3_first_27 rfl (lv_at hl 0 rfl) ?_
        exact W.lret (v := lN (pk 256 (fun i => i + 1) i)) gx gb gr (fun t ht hW => ⟨lN (pk 256 (fun i => i + 1) i), rfl, (by first | (dsimp only; done) | ((try dsimp only); obtain rfl : i = n := (by omega); rfl)), ht⟩) (fun q h => by cases h) dX3_first_28
      · skip
        rw [nI_leI (by omega) (by omega)] at c6
        refine lv_lload_n gx gb dX3_first_9 rfl (lv_at hl 0 rfl) ?_
        refine lv_iload_n gx gb dX3_first_10 rfl (lv_at hl 1 rfl) ?_
        refine lv_iconst (v := nI 1) gx gb dX3_first_11 (by decide) ?_
        refine lv_iadd gx gb dX3_first_12 ?_
        refine lv_evi (nI (i + 1)) (nI_add i 1) ?_
        refine lv_i2l (v := lN (i + 1)) gx gb dX3_first_13 (nI_l (by omega)) ?_
        refine lv_bipush (v := nI 8) gx gb dX3_first_14 (by decide) ?_
        refine lv_iload_n gx gb dX3_first_16 rfl (lv_at hl 1 rfl) ?_
        refine lv_imul gx gb dX3_first_17 ?_
        refine lv_evi (nI (8 * i)) (pk_mul 8 i) ?_
        refine lv_lshl (v := lN ((i + 1) * 2 ^ (8 * i))) gx gb dX3_first_18 (e_shlL _ (by omega)) ?_
        refine lv_lor gx gb dX3_first_19 ?_
        refine lv_evl (lN ((pk 256 (fun i => i + 1) i) ||| ((i + 1) * 2 ^ (8 * i)))) (e_orL (pk 256 (fun i => i + 1) i) ((i + 1) * 2 ^ (8 * i))) ?_
        refine lv_evl (lN (pk 256 (fun i => i + 1) (i + 1))) (congrArg lN (by rw [p256, pk, ← p256, or_add _ (by rw [p256]; exact pkb_lt (fun j hj => by omega))])) ?_
        refine lv_lstore_n (lv' := [(1, .long (lN (pk 256 (fun i => i + 1) (i + 1)))), (3, .int (nI i)), (0, .int (nI n))]) gx gb dX3_first_20 rfl hl (by decide) rfl (fun ls hl => ?_)
        refine lv_iinc (v := nI (i + 1)) (lv' := [(3, .int (nI (i + 1))), (1, .long (lN (pk 256 (fun i => i + 1) (i + 1)))), (0, .int (nI n))]) gx gb dX3_first_21 hl (k := 1) rfl (nI_add i 1) (by decide) rfl (fun ls hl => ?_)
        refine lv_goto (tgt := 4) gx gb dX3_first_24 (by decide) ?_
        exact ih4 (i + 1) (by omega) (by omega) ls (lv_sub hl [1, 0, 2] rfl)
  exact L4 _ 0 (by omega) (Nat.lt_succ_self _) ls (lv_sub hl [1, 0, 2] rfl)

set_option maxHeartbeats 4000000 in
set_option maxRecDepth 100000 in
theorem kX3_with (Gl : Launch) (N k v : Nat) (hN : N < 9223372036854775808) (hk : k ≤ 7) (hv : v < 256) : Met Gl yX3_with wsX3_with ({ frames := 0, cells := 0, slots := 0, locals := 0 } : Room) (va_Pc [.long (lN N), .int (nI k), .int (nI v)] (fun _ => True)) (vp_Sl (fun r : Int64 => r = lN (withC N k v))) 0 0 (fun _ => False) := by
  refine Met.ofW (cc := cX3_with) (maxL := 4) (ret := (some .long)) (by decide +kernel) rfl ?_
  intro Gp Ge Gs Gm Ga Gw Gt Gc G1 Bd gml gv
  obtain ⟨rfl, -⟩ := gv
  have gx := Bd.exec
  have gb := Bd.bytes
  have gr := Bd.returns
  have gts := atoms_spec (ws := wsX3_with) Bd.pre
  have gown : Gs.vm.findClass RX3 = some Gm.cls := findClass_of_methodNamed Bd.named
  have glk := Bd.notSynchronized
  have hl := lv_entry ([.long (lN N), .int (nI k), .int (nI v)]) (n := 4) (Nat.le_of_ble_eq_true rfl)
  rw [lg_entry_eq]
  generalize (lg_sl ([.long (lN N), .int (nI k), .int (nI v)]) ++ List.replicate (4 - (lg_sl ([.long (lN N), .int (nI k), .int (nI v)])).length) Slot.unset).toArray = ls at hl ⊢
  have hl : lv_has ls 4 [(0, .long (lN N)), (2, .int (nI k)), (3, .int (nI v))] := hl
  refine lv_lload_n gx gb dX3_with_0 rfl (lv_at hl 0 rfl) ?_
  refine lv_ldc2 (v := (255)) gx gb gown (gts (.constantLong RX3 11 (255)) (by decide +kernel)) dX3_with_1 ?_
  refine lv_evl (lN 255) (rfl) ?_
  refine lv_bipush (v := nI 8) gx gb dX3_with_4 (by decide) ?_
  refine lv_iload_n gx gb dX3_with_6 rfl (lv_at hl 1 rfl) ?_
  refine lv_imul gx gb dX3_with_7 ?_
  refine lv_evi (nI (8 * k)) (pk_mul 8 k) ?_
  refine lv_lshl (v := lN (255 * 2 ^ (8 * k))) gx gb dX3_with_8 (e_shlL _ (by omega)) ?_
  refine lv_ldc2 (v := (-1)) gx gb gown (gts (.constantLong RX3 13 (-1)) (by decide +kernel)) dX3_with_9 ?_
  refine lv_lxor gx gb dX3_with_12 ?_
  refine lv_land gx gb dX3_with_13 ?_
  refine lv_iload_n gx gb dX3_with_14 rfl (lv_at hl 2 rfl) ?_
  refine lv_i2l (v := lN v) gx gb dX3_with_15 (nI_l (by omega)) ?_
  refine lv_bipush (v := nI 8) gx gb dX3_with_16 (by decide) ?_
  refine lv_iload_n gx gb dX3_with_18 rfl (lv_at hl 1 rfl) ?_
  refine lv_imul gx gb dX3_with_19 ?_
  refine lv_evi (nI (8 * k)) (pk_mul 8 k) ?_
  refine lv_lshl (v := lN (v * 2 ^ (8 * k))) gx gb dX3_with_20 (e_shlL _ (by omega)) ?_
  refine lv_lor gx gb dX3_with_21 ?_
  exact W.lret (v := ((lN N) &&& ((lN (255 * 2 ^ (8 * k))) ^^^ (-1))) ||| (lN (v * 2 ^ (8 * k)))) gx gb gr (fun t ht hW => ⟨((lN N) &&& ((lN (255 * 2 ^ (8 * k))) ^^^ (-1))) ||| (lN (v * 2 ^ (8 * k))), rfl, (by first | (dsimp only; done) | ((try dsimp only); exact withC_eq hN hk hv)), ht⟩) (fun q h => by cases h) dX3_with_22

set_option maxHeartbeats 4000000 in
set_option maxRecDepth 100000 in
theorem kX3_inOrder (Gl : Launch) (N R q : Nat) (hN : N < 9223372036854775808) (hR : R < 2147483648) (hq : q ≤ 7) : Met Gl yX3_inOrder wsX3_inOrder ({ frames := 1, cells := 0, slots := 0, locals := 22 } : Room) (va_Pc [.long (lN N), .int (nI R), .int (nI q)] (fun _ => True)) (vp_Sl (fun r : Int64 => r = lN (pk 256 (fun p => dg 256 N (dg 8 R p)) q))) 0 0 (fun _ => False) := by
  refine Met.ofW (cc := cX3_inOrder) (maxL := 7) (ret := (some .long)) (by decide +kernel) rfl ?_
  intro Gp Ge Gs Gm Ga Gw Gt Gc G1 Bd gml gv
  obtain ⟨rfl, -⟩ := gv
  have gx := Bd.exec
  have gb := Bd.bytes
  have gr := Bd.returns
  have gts := atoms_spec (ws := wsX3_inOrder) Bd.pre
  have gown : Gs.vm.findClass RX3 = some Gm.cls := findClass_of_methodNamed Bd.named
  have glk := Bd.notSynchronized
  have hl := lv_entry ([.long (lN N), .int (nI R), .int (nI q)]) (n := 7) (Nat.le_of_ble_eq_true rfl)
  rw [lg_entry_eq]
  generalize (lg_sl ([.long (lN N), .int (nI R), .int (nI q)]) ++ List.replicate (7 - (lg_sl ([.long (lN N), .int (nI R), .int (nI q)])).length) Slot.unset).toArray = ls at hl ⊢
  have hl : lv_has ls 7 [(0, .long (lN N)), (2, .int (nI R)), (3, .int (nI q))] := hl
  refine lv_lconst (v := lN 0) gx gb dX3_inOrder_0 rfl ?_
  refine lv_lstore (lv' := [(4, .long (lN 0)), (0, .long (lN N)), (2, .int (nI R)), (3, .int (nI q))]) gx gb dX3_inOrder_1 hl (by decide) rfl (fun ls hl => ?_)
  refine lv_iconst (v := nI 0) gx gb dX3_inOrder_3 (by decide) ?_
  refine lv_istore (lv' := [(6, .int (nI 0)), (4, .long (lN 0)), (0, .long (lN N)), (2, .int (nI R)), (3, .int (nI q))]) gx gb dX3_inOrder_4 hl (by decide) rfl (fun ls hl => ?_)
  have L6 : ∀ fu : Nat, ∀ (i : Nat) (hi : i ≤ q), (q - i) < fu → ∀ ls : Array Slot, lv_has ls 7 [(4, .long (lN (pk 256 (fun p => dg 256 N (dg 8 R p)) i))), (6, .int (nI i)), (0, .long (lN N)), (2, .int (nI R)), (3, .int (nI q))] → W Gp Gl Ge (headSpec wsX3_inOrder ({ frames := 1, cells := 0, slots := 0, locals := 22 } : Room)).room Gs Gm ([.long (lN N), .int (nI R), .int (nI q)] : List Value).toArray Gw Gt Gc Gs.heap [] 0 0 (MQ Gw (vp_Sl (fun r : Int64 => r = lN (pk 256 (fun p => dg 256 N (dg 8 R p)) q))) ([.long (lN N), .int (nI R), .int (nI q)] : List Value).toArray Gs 0 0 (fun _ => False)) (F0 Gm 6 ls []) := by
    intro fu
    induction fu with
    | zero => intro i hi hfu; exact absurd hfu (Nat.not_lt_zero _)
    | succ fu ih6 =>
      intro i hi hfu ls hl
      have h8 := dg_lt (b := 8) (by omega) R i
      have h9 := dg_lt (b := 256) (by omega) N (dg 8 R i)
      refine lv_iload gx gb dX3_inOrder_6 (lv_at hl 1 rfl) ?_
      refine lv_iload_n gx gb dX3_inOrder_8 rfl (lv_at hl 4 rfl) ?_
      refine lv_icmp_ge (tgt := 40) gx gb dX3_inOrder_9 (by decide) (fun c9 => ?_) (fun c9 => ?_)
      · skip
        rw [nI_leI (by omega) (by omega)] at c9
        refine lv_lload gx gb dX3_inOrder_40 (lv_at hl 0 rfl) ?_
        exact W.lret (v := lN (pk 256 (fun p => dg 256 N (dg 8 R p)) i)) gx gb gr (fun t ht hW => ⟨lN (pk 256 (fun p => dg 256 N (dg 8 R p)) i), rfl, (by first | (dsimp only; done) | ((try dsimp only); obtain rfl : i = q := (by omega); rfl)), ht⟩) (fun q h => by cases h) dX3_inOrder_42
      · skip
        rw [nI_leI (by omega) (by omega)] at c9
        refine lv_lload gx gb dX3_inOrder_12 (lv_at hl 0 rfl) ?_
        refine lv_lload_n gx gb dX3_inOrder_14 rfl (lv_at hl 2 rfl) ?_
        refine lv_iload_n gx gb dX3_inOrder_15 rfl (lv_at hl 3 rfl) ?_
        refine lv_iload gx gb dX3_inOrder_16 (lv_at hl 1 rfl) ?_
        refine vp_callSi (W.runS (As := [.int (nI R), .int (nI i)]) (rest := [.long (lN N), .long (lN (pk 256 (fun p => dg 256 N (dg 8 R p)) i))]) ⟨gx, gb, gml, gown, gts⟩ (kX6_who Gl R i (by omega) (by omega)) (va_cwS 2 gts gX3_inOrder_X6_who rfl rfl rfl (by decide +kernel) ⟨Nat.le_of_ble_eq_true rfl, Nat.le_of_ble_eq_true rfl⟩) ⟨fun _ _ _ _ h => h, fun U hU hW => ⟨rfl, trivial⟩⟩ rfl rfl hl.1 rfl (lv_room (Nat.le_of_ble_eq_true rfl)) dX3_inOrder_18 ⟨Nat.le_of_ble_eq_true rfl, Nat.le_of_ble_eq_true rfl⟩) (fun r hw => ?_)
        have hr18 := hw
        subst hr18
        refine vp_callSi (W.runS (As := [.long (lN N), .int (nI (dg 8 R i))]) (rest := [.long (lN (pk 256 (fun p => dg 256 N (dg 8 R p)) i))]) ⟨gx, gb, gml, gown, gts⟩ (kX3_numberAt Gl N (dg 8 R i) (by omega) (by omega)) (va_cwS 2 gts gX3_inOrder_X3_numberAt rfl rfl rfl (by decide +kernel) ⟨Nat.le_of_ble_eq_true rfl, Nat.le_of_ble_eq_true rfl⟩) ⟨fun _ _ _ _ h => h, fun U hU hW => ⟨rfl, trivial⟩⟩ rfl rfl hl.1 rfl (lv_room (Nat.le_of_ble_eq_true rfl)) dX3_inOrder_21 ⟨Nat.le_of_ble_eq_true rfl, Nat.le_of_ble_eq_true rfl⟩) (fun r hw => ?_)
        have hr21 := hw
        subst hr21
        refine lv_i2l (v := lN (dg 256 N (dg 8 R i))) gx gb dX3_inOrder_24 (nI_l (by omega)) ?_
        refine lv_bipush (v := nI 8) gx gb dX3_inOrder_25 (by decide) ?_
        refine lv_iload gx gb dX3_inOrder_27 (lv_at hl 1 rfl) ?_
        refine lv_imul gx gb dX3_inOrder_29 ?_
        refine lv_evi (nI (8 * i)) (pk_mul 8 i) ?_
        refine lv_lshl (v := lN ((dg 256 N (dg 8 R i)) * 2 ^ (8 * i))) gx gb dX3_inOrder_30 (e_shlL _ (by omega)) ?_
        refine lv_lor gx gb dX3_inOrder_31 ?_
        refine lv_evl (lN ((pk 256 (fun p => dg 256 N (dg 8 R p)) i) ||| ((dg 256 N (dg 8 R i)) * 2 ^ (8 * i)))) (e_orL (pk 256 (fun p => dg 256 N (dg 8 R p)) i) ((dg 256 N (dg 8 R i)) * 2 ^ (8 * i))) ?_
        refine lv_evl (lN (pk 256 (fun p => dg 256 N (dg 8 R p)) (i + 1))) (congrArg lN (by rw [p256, pk, ← p256, or_add _ (by rw [p256]; exact pkb_lt (fun j hj => dg_lt (by omega) _ _))])) ?_
        refine lv_lstore (lv' := [(4, .long (lN (pk 256 (fun p => dg 256 N (dg 8 R p)) (i + 1)))), (6, .int (nI i)), (0, .long (lN N)), (2, .int (nI R)), (3, .int (nI q))]) gx gb dX3_inOrder_32 hl (by decide) rfl (fun ls hl => ?_)
        refine lv_iinc (v := nI (i + 1)) (lv' := [(6, .int (nI (i + 1))), (4, .long (lN (pk 256 (fun p => dg 256 N (dg 8 R p)) (i + 1)))), (0, .long (lN N)), (2, .int (nI R)), (3, .int (nI q))]) gx gb dX3_inOrder_34 hl (k := 1) rfl (nI_add i 1) (by decide) rfl (fun ls hl => ?_)
        refine lv_goto (tgt := 6) gx gb dX3_inOrder_37 (by decide) ?_
        exact ih6 (i + 1) (by omega) (by omega) ls (lv_sub hl [1, 0, 2, 3, 4] rfl)
  exact L6 _ 0 (by omega) (Nat.lt_succ_self _) ls (lv_sub hl [1, 0, 2, 3, 4] rfl)

set_option maxHeartbeats 4000000 in
set_option maxRecDepth 100000 in
theorem kX3_sum (Gl : Launch) (N a b : Nat) (hN : N < 9223372036854775808) (hab : a ≤ b) (hb : b ≤ 8) : Met Gl yX3_sum wsX3_sum ({ frames := 1, cells := 0, slots := 0, locals := 22 } : Room) (va_Pc [.long (lN N), .int (nI a), .int (nI b)] (fun _ => True)) (vp_Si (fun r : Int32 => r = nI (sm (dg 256 N) a (b - a)))) 0 0 (fun _ => False) := by
  refine Met.ofW (cc := cX3_sum) (maxL := 6) (ret := (some .int)) (by decide +kernel) rfl ?_
  intro Gp Ge Gs Gm Ga Gw Gt Gc G1 Bd gml gv
  obtain ⟨rfl, -⟩ := gv
  have gx := Bd.exec
  have gb := Bd.bytes
  have gr := Bd.returns
  have gts := atoms_spec (ws := wsX3_sum) Bd.pre
  have gown : Gs.vm.findClass RX3 = some Gm.cls := findClass_of_methodNamed Bd.named
  have glk := Bd.notSynchronized
  have hl := lv_entry ([.long (lN N), .int (nI a), .int (nI b)]) (n := 6) (Nat.le_of_ble_eq_true rfl)
  rw [lg_entry_eq]
  generalize (lg_sl ([.long (lN N), .int (nI a), .int (nI b)]) ++ List.replicate (6 - (lg_sl ([.long (lN N), .int (nI a), .int (nI b)])).length) Slot.unset).toArray = ls at hl ⊢
  have hl : lv_has ls 6 [(0, .long (lN N)), (2, .int (nI a)), (3, .int (nI b))] := hl
  refine lv_iconst (v := nI 0) gx gb dX3_sum_0 (by decide) ?_
  refine lv_istore (lv' := [(4, .int (nI 0)), (0, .long (lN N)), (2, .int (nI a)), (3, .int (nI b))]) gx gb dX3_sum_1 hl (by decide) rfl (fun ls hl => ?_)
  refine lv_iload_n gx gb dX3_sum_3 rfl (lv_at hl 2 rfl) ?_
  refine lv_istore (lv' := [(5, .int (nI a)), (4, .int (nI 0)), (0, .long (lN N)), (2, .int (nI a)), (3, .int (nI b))]) gx gb dX3_sum_4 hl (by decide) rfl (fun ls hl => ?_)
  have L6 : ∀ fu : Nat, ∀ (i : Nat) (hi : a + i ≤ b), (b - (a + i)) < fu → ∀ ls : Array Slot, lv_has ls 6 [(4, .int (nI (sm (dg 256 N) a i))), (5, .int (nI (a + i))), (0, .long (lN N)), (2, .int (nI a)), (3, .int (nI b))] → W Gp Gl Ge (headSpec wsX3_sum ({ frames := 1, cells := 0, slots := 0, locals := 22 } : Room)).room Gs Gm ([.long (lN N), .int (nI a), .int (nI b)] : List Value).toArray Gw Gt Gc Gs.heap [] 0 0 (MQ Gw (vp_Si (fun r : Int32 => r = nI (sm (dg 256 N) a (b - a)))) ([.long (lN N), .int (nI a), .int (nI b)] : List Value).toArray Gs 0 0 (fun _ => False)) (F0 Gm 6 ls []) := by
    intro fu
    induction fu with
    | zero => intro i hi hfu; exact absurd hfu (Nat.not_lt_zero _)
    | succ fu ih6 =>
      intro i hi hfu ls hl
      refine lv_iload gx gb dX3_sum_6 (lv_at hl 1 rfl) ?_
      refine lv_iload_n gx gb dX3_sum_8 rfl (lv_at hl 4 rfl) ?_
      refine lv_icmp_ge (tgt := 29) gx gb dX3_sum_9 (by decide) (fun c9 => ?_) (fun c9 => ?_)
      · skip
        rw [nI_leI (by omega) (by omega)] at c9
        refine lv_iload gx gb dX3_sum_29 (lv_at hl 0 rfl) ?_
        exact W.iret (v := nI (sm (dg 256 N) a i)) gx gb gr (fun t ht hW => ⟨nI (sm (dg 256 N) a i), rfl, (by first | (dsimp only; done) | ((try dsimp only); obtain rfl : i = b - a := (by omega); rfl)), ht⟩) (fun q h => by cases h) dX3_sum_31
      · skip
        rw [nI_leI (by omega) (by omega)] at c9
        refine lv_iload gx gb dX3_sum_12 (lv_at hl 0 rfl) ?_
        refine lv_lload_n gx gb dX3_sum_14 rfl (lv_at hl 2 rfl) ?_
        refine lv_iload gx gb dX3_sum_15 (lv_at hl 1 rfl) ?_
        refine vp_callSi (W.runS (As := [.long (lN N), .int (nI (a + i))]) (rest := [.int (nI (sm (dg 256 N) a i))]) ⟨gx, gb, gml, gown, gts⟩ (kX3_numberAt Gl N (a + i) (by omega) (by omega)) (va_cwS 2 gts gX3_sum_X3_numberAt rfl rfl rfl (by decide +kernel) ⟨Nat.le_of_ble_eq_true rfl, Nat.le_of_ble_eq_true rfl⟩) ⟨fun _ _ _ _ h => h, fun U hU hW => ⟨rfl, trivial⟩⟩ rfl rfl hl.1 rfl (lv_room (Nat.le_of_ble_eq_true rfl)) dX3_sum_17 ⟨Nat.le_of_ble_eq_true rfl, Nat.le_of_ble_eq_true rfl⟩) (fun r hw => ?_)
        have hr17 := hw
        subst hr17
        refine lv_iadd gx gb dX3_sum_20 ?_
        refine lv_evi (nI ((sm (dg 256 N) a i) + (dg 256 N (a + i)))) (nI_add (sm (dg 256 N) a i) (dg 256 N (a + i))) ?_
        refine lv_istore (lv' := [(4, .int (nI ((sm (dg 256 N) a i) + (dg 256 N (a + i))))), (5, .int (nI (a + i))), (0, .long (lN N)), (2, .int (nI a)), (3, .int (nI b))]) gx gb dX3_sum_21 hl (by decide) rfl (fun ls hl => ?_)
        refine lv_iinc (v := nI (a + i + 1)) (lv' := [(5, .int (nI (a + i + 1))), (4, .int (nI ((sm (dg 256 N) a i) + (dg 256 N (a + i))))), (0, .long (lN N)), (2, .int (nI a)), (3, .int (nI b))]) gx gb dX3_sum_23 hl (k := 1) rfl (nI_add (a + i) 1) (by decide) rfl (fun ls hl => ?_)
        refine lv_goto (tgt := 6) gx gb dX3_sum_26 (by decide) ?_
        exact ih6 (i + 1) (by omega) (by omega) ls (lv_sub hl [1, 0, 2, 3, 4] rfl)
  exact L6 _ 0 (by omega) (Nat.lt_succ_self _) ls (lv_sub hl [1, 0, 2, 3, 4] rfl)

set_option maxHeartbeats 4000000 in
set_option maxRecDepth 100000 in
theorem kX3_stretches (Gl : Launch) (N q s : Nat) (hN : N < 9223372036854775808) (hq : q ≤ 7) (hs : s < 2147483648) : Met Gl yX3_stretches wsX3_stretches ({ frames := 2, cells := 0, slots := 0, locals := 47 } : Room) (va_Pc [.long (lN N), .int (nI q), .int (nI s)] (fun _ => True)) (vp_Si (fun r : Int32 => r = nI (str (dg 256 N) s q q))) 0 0 (fun _ => False) := by
  refine Met.ofW (cc := cX3_stretches) (maxL := 7) (ret := (some .int)) (by decide +kernel) rfl ?_
  intro Gp Ge Gs Gm Ga Gw Gt Gc G1 Bd gml gv
  obtain ⟨rfl, -⟩ := gv
  have gx := Bd.exec
  have gb := Bd.bytes
  have gr := Bd.returns
  have gts := atoms_spec (ws := wsX3_stretches) Bd.pre
  have gown : Gs.vm.findClass RX3 = some Gm.cls := findClass_of_methodNamed Bd.named
  have glk := Bd.notSynchronized
  have hl := lv_entry ([.long (lN N), .int (nI q), .int (nI s)]) (n := 7) (Nat.le_of_ble_eq_true rfl)
  rw [lg_entry_eq]
  generalize (lg_sl ([.long (lN N), .int (nI q), .int (nI s)]) ++ List.replicate (7 - (lg_sl ([.long (lN N), .int (nI q), .int (nI s)])).length) Slot.unset).toArray = ls at hl ⊢
  have hl : lv_has ls 7 [(0, .long (lN N)), (2, .int (nI q)), (3, .int (nI s))] := hl
  refine lv_iconst (v := nI 0) gx gb dX3_stretches_0 (by decide) ?_
  refine lv_istore (lv' := [(4, .int (nI 0)), (0, .long (lN N)), (2, .int (nI q)), (3, .int (nI s))]) gx gb dX3_stretches_1 hl (by decide) rfl (fun ls hl => ?_)
  refine lv_iconst (v := nI 0) gx gb dX3_stretches_3 (by decide) ?_
  refine lv_istore (lv' := [(5, .int (nI 0)), (4, .int (nI 0)), (0, .long (lN N)), (2, .int (nI q)), (3, .int (nI s))]) gx gb dX3_stretches_4 hl (by decide) rfl (fun ls hl => ?_)
  have L6 : ∀ fu : Nat, ∀ (a : Nat) (ha : a ≤ q), (q - a) < fu → ∀ ls : Array Slot, lv_has ls 7 [(4, .int (nI (str (dg 256 N) s q a))), (5, .int (nI a)), (0, .long (lN N)), (2, .int (nI q)), (3, .int (nI s))] → W Gp Gl Ge (headSpec wsX3_stretches ({ frames := 2, cells := 0, slots := 0, locals := 47 } : Room)).room Gs Gm ([.long (lN N), .int (nI q), .int (nI s)] : List Value).toArray Gw Gt Gc Gs.heap [] 0 0 (MQ Gw (vp_Si (fun r : Int32 => r = nI (str (dg 256 N) s q q))) ([.long (lN N), .int (nI q), .int (nI s)] : List Value).toArray Gs 0 0 (fun _ => False)) (F0 Gm 6 ls []) := by
    intro fu
    induction fu with
    | zero => intro a ha hfu; exact absurd hfu (Nat.not_lt_zero _)
    | succ fu ih6 =>
      intro a ha hfu ls hl
      refine lv_iload gx gb dX3_stretches_6 (lv_at hl 1 rfl) ?_
      refine lv_iload_n gx gb dX3_stretches_8 rfl (lv_at hl 3 rfl) ?_
      refine lv_icmp_ge (tgt := 58) gx gb dX3_stretches_9 (by decide) (fun c9 => ?_) (fun c9 => ?_)
      · skip
        rw [nI_leI (by omega) (by omega)] at c9
        refine lv_iload gx gb dX3_stretches_58 (lv_at hl 0 rfl) ?_
        exact W.iret (v := nI (str (dg 256 N) s q a)) gx gb gr (fun t ht hW => ⟨nI (str (dg 256 N) s q a), rfl, (by first | (dsimp only; done) | ((try dsimp only); obtain rfl : a = q := (by omega); rfl)), ht⟩) (fun q h => by cases h) dX3_stretches_60
      · skip
        rw [nI_leI (by omega) (by omega)] at c9
        refine lv_iload gx gb dX3_stretches_12 (lv_at hl 1 rfl) ?_
        refine lv_iconst (v := nI 1) gx gb dX3_stretches_14 (by decide) ?_
        refine lv_iadd gx gb dX3_stretches_15 ?_
        refine lv_evi (nI (a + 1)) (nI_add a 1) ?_
        refine lv_istore (lv' := [(6, .int (nI (a + 1))), (4, .int (nI (str (dg 256 N) s q a))), (5, .int (nI a)), (0, .long (lN N)), (2, .int (nI q)), (3, .int (nI s))]) gx gb dX3_stretches_16 hl (by decide) rfl (fun ls hl => ?_)
        have L18 : ∀ fu : Nat, ∀ (j : Nat) (hj : a + j ≤ q), (q - (a + j)) < fu → ∀ ls : Array Slot, lv_has ls 7 [(4, .int (nI (str (dg 256 N) s q a + stc (dg 256 N) s a j))), (6, .int (nI (a + (j + 1)))), (5, .int (nI a)), (0, .long (lN N)), (2, .int (nI q)), (3, .int (nI s))] → W Gp Gl Ge (headSpec wsX3_stretches ({ frames := 2, cells := 0, slots := 0, locals := 47 } : Room)).room Gs Gm ([.long (lN N), .int (nI q), .int (nI s)] : List Value).toArray Gw Gt Gc Gs.heap [] 0 0 (MQ Gw (vp_Si (fun r : Int32 => r = nI (str (dg 256 N) s q q))) ([.long (lN N), .int (nI q), .int (nI s)] : List Value).toArray Gs 0 0 (fun _ => False)) (F0 Gm 18 ls []) := by
          intro fu
          induction fu with
          | zero => intro j hj hfu; exact absurd hfu (Nat.not_lt_zero _)
          | succ fu ih18 =>
            intro j hj hfu ls hl
            have hsm := sm_le (v := dg 256 N) (a := a) (c := 255) (n := j + 1) (fun i _ => by have := dg_lt (b := 256) (by omega) N (a + i); omega)
            refine lv_iload gx gb dX3_stretches_18 (lv_at hl 1 rfl) ?_
            refine lv_iload_n gx gb dX3_stretches_20 rfl (lv_at hl 4 rfl) ?_
            refine lv_icmp_gt (tgt := 52) gx gb dX3_stretches_21 (by decide) (fun c21 => ?_) (fun c21 => ?_)
            · skip
              rw [nI_ltI (by omega) (by omega)] at c21
              refine lv_iinc (v := nI (a + 1)) (lv' := [(5, .int (nI (a + 1))), (4, .int (nI (str (dg 256 N) s q a + stc (dg 256 N) s a j))), (6, .int (nI (a + (j + 1)))), (0, .long (lN N)), (2, .int (nI q)), (3, .int (nI s))]) gx gb dX3_stretches_52 hl (k := 2) rfl (nI_add a 1) (by decide) rfl (fun ls hl => ?_)
              refine lv_goto (tgt := 6) gx gb dX3_stretches_55 (by decide) ?_
              obtain rfl : j = q - a := (by omega)
              exact ih6 (a + 1) (by omega) (by omega) ls (lv_sub hl [1, 0, 3, 4, 5] rfl)
            · skip
              rw [nI_ltI (by omega) (by omega)] at c21
              have L43 : ∀ (x : Nat) (hxx : x = if sm (dg 256 N) a (j + 1) = s then 1 else 0), ∀ ls : Array Slot, lv_has ls 7 [(4, .int (nI (str (dg 256 N) s q a + stc (dg 256 N) s a j))), (6, .int (nI (a + (j + 1)))), (5, .int (nI a)), (0, .long (lN N)), (2, .int (nI q)), (3, .int (nI s))] → W Gp Gl Ge (headSpec wsX3_stretches ({ frames := 2, cells := 0, slots := 0, locals := 47 } : Room)).room Gs Gm ([.long (lN N), .int (nI q), .int (nI s)] : List Value).toArray Gw Gt Gc Gs.heap [] 0 0 (MQ Gw (vp_Si (fun r : Int32 => r = nI (str (dg 256 N) s q q))) ([.long (lN N), .int (nI q), .int (nI s)] : List Value).toArray Gs 0 0 (fun _ => False)) (F0 Gm 43 ls [.int (nI x), .int (nI (str (dg 256 N) s q a + stc (dg 256 N) s a j))]) := by
                intro x hxx ls hl
                subst hxx
                have hl : lv_has ls 7 [(4, .int (nI (str (dg 256 N) s q a + stc (dg 256 N) s a j))), (6, .int (nI (a + (j + 1)))), (5, .int (nI a)), (0, .long (lN N)), (2, .int (nI q)), (3, .int (nI s))] := hl
                refine lv_iadd gx gb dX3_stretches_43 ?_
                refine lv_evi (nI ((str (dg 256 N) s q a + stc (dg 256 N) s a j) + (if sm (dg 256 N) a (j + 1) = s then 1 else 0))) (nI_add (str (dg 256 N) s q a + stc (dg 256 N) s a j) (if sm (dg 256 N) a (j + 1) = s then 1 else 0)) ?_
                refine lv_evi (nI (str (dg 256 N) s q a + stc (dg 256 N) s a (j + 1))) (congrArg nI (by rw [Nat.add_assoc]; rfl)) ?_
                refine lv_istore (lv' := [(4, .int (nI (str (dg 256 N) s q a + stc (dg 256 N) s a (j + 1)))), (6, .int (nI (a + (j + 1)))), (5, .int (nI a)), (0, .long (lN N)), (2, .int (nI q)), (3, .int (nI s))]) gx gb dX3_stretches_44 hl (by decide) rfl (fun ls hl => ?_)
                refine lv_iinc (v := nI (a + (j + 1) + 1)) (lv' := [(6, .int (nI (a + (j + 1) + 1))), (4, .int (nI (str (dg 256 N) s q a + stc (dg 256 N) s a (j + 1)))), (5, .int (nI a)), (0, .long (lN N)), (2, .int (nI q)), (3, .int (nI s))]) gx gb dX3_stretches_46 hl (k := 1) rfl (nI_add (a + (j + 1)) 1) (by decide) rfl (fun ls hl => ?_)
                refine lv_goto (tgt := 18) gx gb dX3_stretches_49 (by decide) ?_
                exact ih18 (j + 1) (by omega) (by omega) ls (lv_sub hl [1, 0, 2, 3, 4, 5] rfl)
              refine lv_iload gx gb dX3_stretches_24 (lv_at hl 0 rfl) ?_
              refine lv_lload_n gx gb dX3_stretches_26 rfl (lv_at hl 3 rfl) ?_
              refine lv_iload gx gb dX3_stretches_27 (lv_at hl 2 rfl) ?_
              refine lv_iload gx gb dX3_stretches_29 (lv_at hl 1 rfl) ?_
              refine vp_callSi (W.runS (As := [.long (lN N), .int (nI a), .int (nI (a + (j + 1)))]) (rest := [.int (nI (str (dg 256 N) s q a + stc (dg 256 N) s a j))]) ⟨gx, gb, gml, gown, gts⟩ (kX3_sum Gl N a (a + (j + 1)) (by omega) (by omega) (by omega)) (va_cwS 3 gts gX3_stretches_X3_sum rfl rfl rfl (by decide +kernel) ⟨Nat.le_of_ble_eq_true rfl, Nat.le_of_ble_eq_true rfl⟩) ⟨fun _ _ _ _ h => h, fun U hU hW => ⟨rfl, trivial⟩⟩ rfl rfl hl.1 rfl (lv_room (Nat.le_of_ble_eq_true rfl)) dX3_stretches_31 ⟨Nat.le_of_ble_eq_true rfl, Nat.le_of_ble_eq_true rfl⟩) (fun r hw => ?_)
              have hr31 := hw
              subst hr31
              refine lv_evi (nI (sm (dg 256 N) a (j + 1))) (congrArg nI (by rw [Nat.add_sub_cancel_left])) ?_
              refine lv_iload_n gx gb dX3_stretches_34 rfl (lv_at hl 5 rfl) ?_
              refine lv_icmp_ne (tgt := 42) gx gb dX3_stretches_35 (by decide) (fun c35 => ?_) (fun c35 => ?_)
              · skip
                rw [nI_eq (by omega) (by omega)] at c35
                refine lv_iconst (v := nI 0) gx gb dX3_stretches_42 (by decide) ?_
                exact L43 0 (by first | (rw [if_pos c35]) | (rw [if_neg c35])) ls (lv_sub hl [0, 1, 2, 3, 4, 5] rfl)
              · skip
                rw [nI_eq (by omega) (by omega)] at c35
                refine lv_iconst (v := nI 1) gx gb dX3_stretches_38 (by decide) ?_
                refine lv_goto (tgt := 43) gx gb dX3_stretches_39 (by decide) ?_
                exact L43 1 (by first | (rw [if_pos c35]) | (rw [if_neg c35])) ls (lv_sub hl [0, 1, 2, 3, 4, 5] rfl)
        exact L18 _ 0 (by omega) (Nat.lt_succ_self _) ls (lv_sub hl [1, 0, 2, 3, 4, 5] rfl)
  exact L6 _ 0 (by omega) (Nat.lt_succ_self _) ls (lv_sub hl [1, 0, 2, 3, 4] rfl)

set_option maxHeartbeats 4000000 in
set_option maxRecDepth 100000 in
theorem kX3_firstStretch (Gl : Launch) (N q s : Nat) (hN : N < 9223372036854775808) (hq : q ≤ 7) (hs : s < 2147483648) : Met Gl yX3_firstStretch wsX3_firstStretch ({ frames := 2, cells := 0, slots := 0, locals := 47 } : Room) (va_Pc [.long (lN N), .int (nI q), .int (nI s)] (fun _ => True)) (vp_Si (fun r : Int32 => ∃ z : Int, r = zI z ∧ fstS (dg 256 N) s q z)) 0 0 (fun _ => False) := by
  refine Met.ofW (cc := cX3_firstStretch) (maxL := 6) (ret := (some .int)) (by decide +kernel) rfl ?_
  intro Gp Ge Gs Gm Ga Gw Gt Gc G1 Bd gml gv
  obtain ⟨rfl, -⟩ := gv
  have gx := Bd.exec
  have gb := Bd.bytes
  have gr := Bd.returns
  have gts := atoms_spec (ws := wsX3_firstStretch) Bd.pre
  have gown : Gs.vm.findClass RX3 = some Gm.cls := findClass_of_methodNamed Bd.named
  have glk := Bd.notSynchronized
  have hl := lv_entry ([.long (lN N), .int (nI q), .int (nI s)]) (n := 6) (Nat.le_of_ble_eq_true rfl)
  rw [lg_entry_eq]
  generalize (lg_sl ([.long (lN N), .int (nI q), .int (nI s)]) ++ List.replicate (6 - (lg_sl ([.long (lN N), .int (nI q), .int (nI s)])).length) Slot.unset).toArray = ls at hl ⊢
  have hl : lv_has ls 6 [(0, .long (lN N)), (2, .int (nI q)), (3, .int (nI s))] := hl
  refine lv_iconst (v := nI 0) gx gb dX3_firstStretch_0 (by decide) ?_
  refine lv_istore (lv' := [(4, .int (nI 0)), (0, .long (lN N)), (2, .int (nI q)), (3, .int (nI s))]) gx gb dX3_firstStretch_1 hl (by decide) rfl (fun ls hl => ?_)
  have L3 : ∀ fu : Nat, ∀ (a : Nat) (ha : a ≤ q) (h0 : ∀ x, x < a → ∀ j, x + j < q → sm (dg 256 N) x (j + 1) ≠ s), (q - a) < fu → ∀ ls : Array Slot, lv_has ls 6 [(4, .int (nI a)), (0, .long (lN N)), (2, .int (nI q)), (3, .int (nI s))] → W Gp Gl Ge (headSpec wsX3_firstStretch ({ frames := 2, cells := 0, slots := 0, locals := 47 } : Room)).room Gs Gm ([.long (lN N), .int (nI q), .int (nI s)] : List Value).toArray Gw Gt Gc Gs.heap [] 0 0 (MQ Gw (vp_Si (fun r : Int32 => ∃ z : Int, r = zI z ∧ fstS (dg 256 N) s q z)) ([.long (lN N), .int (nI q), .int (nI s)] : List Value).toArray Gs 0 0 (fun _ => False)) (F0 Gm 3 ls []) := by
    intro fu
    induction fu with
    | zero => intro a ha h0 hfu; exact absurd hfu (Nat.not_lt_zero _)
    | succ fu ih3 =>
      intro a ha h0 hfu ls hl
      refine lv_iload gx gb dX3_firstStretch_3 (lv_at hl 0 rfl) ?_
      refine lv_iload_n gx gb dX3_firstStretch_5 rfl (lv_at hl 2 rfl) ?_
      refine lv_icmp_ge (tgt := 48) gx gb dX3_firstStretch_6 (by decide) (fun c6 => ?_) (fun c6 => ?_)
      · skip
        rw [nI_leI (by omega) (by omega)] at c6
        refine lv_bipush (v := zI (-6)) gx gb dX3_firstStretch_48 (by decide) ?_
        exact W.iret (v := zI (-6)) gx gb gr (fun t ht hW => ⟨zI (-6), rfl, (by first | (dsimp only; done) | ((try dsimp only); exact ⟨-6, rfl, Or.inr ⟨rfl, fun x j hj => h0 x (by omega) j hj⟩⟩)), ht⟩) (fun q h => by cases h) dX3_firstStretch_50
      · skip
        rw [nI_leI (by omega) (by omega)] at c6
        refine lv_iload gx gb dX3_firstStretch_9 (lv_at hl 0 rfl) ?_
        refine lv_iconst (v := nI 1) gx gb dX3_firstStretch_11 (by decide) ?_
        refine lv_iadd gx gb dX3_firstStretch_12 ?_
        refine lv_evi (nI (a + 1)) (nI_add a 1) ?_
        refine lv_istore (lv' := [(5, .int (nI (a + 1))), (4, .int (nI a)), (0, .long (lN N)), (2, .int (nI q)), (3, .int (nI s))]) gx gb dX3_firstStretch_13 hl (by decide) rfl (fun ls hl => ?_)
        have L15 : ∀ fu : Nat, ∀ (j : Nat) (hj : a + j ≤ q) (h1 : ∀ i, i < j → sm (dg 256 N) a (i + 1) ≠ s), (q - (a + j)) < fu → ∀ ls : Array Slot, lv_has ls 6 [(4, .int (nI a)), (5, .int (nI (a + (j + 1)))), (0, .long (lN N)), (2, .int (nI q)), (3, .int (nI s))] → W Gp Gl Ge (headSpec wsX3_firstStretch ({ frames := 2, cells := 0, slots := 0, locals := 47 } : Room)).room Gs Gm ([.long (lN N), .int (nI q), .int (nI s)] : List Value).toArray Gw Gt Gc Gs.heap [] 0 0 (MQ Gw (vp_Si (fun r : Int32 => ∃ z : Int, r = zI z ∧ fstS (dg 256 N) s q z)) ([.long (lN N), .int (nI q), .int (nI s)] : List Value).toArray Gs 0 0 (fun _ => False)) (F0 Gm 15 ls []) := by
          intro fu
          induction fu with
          | zero => intro j hj h1 hfu; exact absurd hfu (Nat.not_lt_zero _)
          | succ fu ih15 =>
            intro j hj h1 hfu ls hl
            refine lv_iload gx gb dX3_firstStretch_15 (lv_at hl 1 rfl) ?_
            refine lv_iload_n gx gb dX3_firstStretch_17 rfl (lv_at hl 3 rfl) ?_
            refine lv_icmp_gt (tgt := 42) gx gb dX3_firstStretch_18 (by decide) (fun c18 => ?_) (fun c18 => ?_)
            · skip
              rw [nI_ltI (by omega) (by omega)] at c18
              refine lv_iinc (v := nI (a + 1)) (lv' := [(4, .int (nI (a + 1))), (5, .int (nI (a + (j + 1)))), (0, .long (lN N)), (2, .int (nI q)), (3, .int (nI s))]) gx gb dX3_firstStretch_42 hl (k := 0) rfl (nI_add a 1) (by decide) rfl (fun ls hl => ?_)
              refine lv_goto (tgt := 3) gx gb dX3_firstStretch_45 (by decide) ?_
              exact ih3 (a + 1) (by omega) (by intro x hx j hj; exact (Nat.lt_or_ge x a).elim (fun h => h0 x h j hj) (fun h => by obtain rfl : x = a := (by omega); exact h1 j (by omega))) (by omega) ls (lv_sub hl [0, 2, 3, 4] rfl)
            · skip
              rw [nI_ltI (by omega) (by omega)] at c18
              refine lv_lload_n gx gb dX3_firstStretch_21 rfl (lv_at hl 2 rfl) ?_
              refine lv_iload gx gb dX3_firstStretch_22 (lv_at hl 0 rfl) ?_
              refine lv_iload gx gb dX3_firstStretch_24 (lv_at hl 1 rfl) ?_
              have hsm := sm_le (v := dg 256 N) (a := a) (c := 255) (n := j + 1) (fun i _ => by have := dg_lt (b := 256) (by omega) N (a + i); omega)
              refine vp_callSi (W.runS (As := [.long (lN N), .int (nI a), .int (nI (a + (j + 1)))]) (rest := []) ⟨gx, gb, gml, gown, gts⟩ (kX3_sum Gl N a (a + (j + 1)) (by omega) (by omega) (by omega)) (va_cwS 3 gts gX3_firstStretch_X3_sum rfl rfl rfl (by decide +kernel) ⟨Nat.le_of_ble_eq_true rfl, Nat.le_of_ble_eq_true rfl⟩) ⟨fun _ _ _ _ h => h, fun U hU hW => ⟨rfl, trivial⟩⟩ rfl rfl hl.1 rfl (lv_room (Nat.le_of_ble_eq_true rfl)) dX3_firstStretch_26 ⟨Nat.le_of_ble_eq_true rfl, Nat.le_of_ble_eq_true rfl⟩) (fun r hw => ?_)
              have hr26 := hw
              subst hr26
              refine lv_evi (nI (sm (dg 256 N) a (j + 1))) (congrArg nI (by rw [Nat.add_sub_cancel_left])) ?_
              refine lv_iload_n gx gb dX3_firstStretch_29 rfl (lv_at hl 4 rfl) ?_
              refine lv_icmp_ne (tgt := 36) gx gb dX3_firstStretch_30 (by decide) (fun c30 => ?_) (fun c30 => ?_)
              · skip
                rw [nI_eq (by omega) (by omega)] at c30
                refine lv_iinc (v := nI (a + (j + 1) + 1)) (lv' := [(5, .int (nI (a + (j + 1) + 1))), (4, .int (nI a)), (0, .long (lN N)), (2, .int (nI q)), (3, .int (nI s))]) gx gb dX3_firstStretch_36 hl (k := 1) rfl (nI_add (a + (j + 1)) 1) (by decide) rfl (fun ls hl => ?_)
                refine lv_goto (tgt := 15) gx gb dX3_firstStretch_39 (by decide) ?_
                exact ih15 (j + 1) (by omega) (by intro i hi; exact (Nat.lt_or_ge i j).elim (fun h => h1 i h) (fun h => by obtain rfl : i = j := (by omega); exact c30)) (by omega) ls (lv_sub hl [1, 0, 2, 3, 4] rfl)
              · skip
                rw [nI_eq (by omega) (by omega)] at c30
                refine lv_iload gx gb dX3_firstStretch_33 (lv_at hl 0 rfl) ?_
                exact W.iret (v := nI a) gx gb gr (fun t ht hW => ⟨nI a, rfl, (by first | (dsimp only; done) | ((try dsimp only); exact ⟨(a : Int), (zI_nat a).symm, Or.inl ⟨a, j, rfl, by omega, c30, h0⟩⟩)), ht⟩) (fun q h => by cases h) dX3_firstStretch_35
        exact L15 _ 0 (by omega) (by intro x hx; exact absurd hx (Nat.not_lt_zero _)) (Nat.lt_succ_self _) ls (lv_sub hl [1, 0, 2, 3, 4] rfl)
  exact L3 _ 0 (by omega) (by intro x hx; exact absurd hx (Nat.not_lt_zero _)) (Nat.lt_succ_self _) ls (lv_sub hl [0, 1, 2, 3] rfl)

set_option maxHeartbeats 4000000 in
set_option maxRecDepth 100000 in
theorem kX3_shortestStretch (Gl : Launch) (N q s : Nat) (hN : N < 9223372036854775808) (hq : q ≤ 7) (hs : s < 2147483648) : Met Gl yX3_shortestStretch wsX3_shortestStretch ({ frames := 2, cells := 0, slots := 0, locals := 47 } : Room) (va_Pc [.long (lN N), .int (nI q), .int (nI s)] (fun _ => True)) (vp_Si (fun r : Int32 => ∃ z : Int, r = zI z ∧ shtS (dg 256 N) s q z)) 0 0 (fun _ => False) := by
  refine Met.ofW (cc := cX3_shortestStretch) (maxL := 6) (ret := (some .int)) (by decide +kernel) rfl ?_
  intro Gp Ge Gs Gm Ga Gw Gt Gc G1 Bd gml gv
  obtain ⟨rfl, -⟩ := gv
  have gx := Bd.exec
  have gb := Bd.bytes
  have gr := Bd.returns
  have gts := atoms_spec (ws := wsX3_shortestStretch) Bd.pre
  have gown : Gs.vm.findClass RX3 = some Gm.cls := findClass_of_methodNamed Bd.named
  have glk := Bd.notSynchronized
  have hl := lv_entry ([.long (lN N), .int (nI q), .int (nI s)]) (n := 6) (Nat.le_of_ble_eq_true rfl)
  rw [lg_entry_eq]
  generalize (lg_sl ([.long (lN N), .int (nI q), .int (nI s)]) ++ List.replicate (6 - (lg_sl ([.long (lN N), .int (nI q), .int (nI s)])).length) Slot.unset).toArray = ls at hl ⊢
  have hl : lv_has ls 6 [(0, .long (lN N)), (2, .int (nI q)), (3, .int (nI s))] := hl
  refine lv_iconst (v := nI 1) gx gb dX3_shortestStretch_0 (by decide) ?_
  refine lv_istore (lv' := [(4, .int (nI 1)), (0, .long (lN N)), (2, .int (nI q)), (3, .int (nI s))]) gx gb dX3_shortestStretch_1 hl (by decide) rfl (fun ls hl => ?_)
  have L3 : ∀ fu : Nat, ∀ (n : Nat) (hn : n ≤ q) (h0 : ∀ i, i < n → ∀ x, x + i < q → sm (dg 256 N) x (i + 1) ≠ s), (q - n) < fu → ∀ ls : Array Slot, lv_has ls 6 [(4, .int (nI (n + 1))), (0, .long (lN N)), (2, .int (nI q)), (3, .int (nI s))] → W Gp Gl Ge (headSpec wsX3_shortestStretch ({ frames := 2, cells := 0, slots := 0, locals := 47 } : Room)).room Gs Gm ([.long (lN N), .int (nI q), .int (nI s)] : List Value).toArray Gw Gt Gc Gs.heap [] 0 0 (MQ Gw (vp_Si (fun r : Int32 => ∃ z : Int, r = zI z ∧ shtS (dg 256 N) s q z)) ([.long (lN N), .int (nI q), .int (nI s)] : List Value).toArray Gs 0 0 (fun _ => False)) (F0 Gm 3 ls []) := by
    intro fu
    induction fu with
    | zero => intro n hn h0 hfu; exact absurd hfu (Nat.not_lt_zero _)
    | succ fu ih3 =>
      intro n hn h0 hfu ls hl
      refine lv_iload gx gb dX3_shortestStretch_3 (lv_at hl 0 rfl) ?_
      refine lv_iload_n gx gb dX3_shortestStretch_5 rfl (lv_at hl 2 rfl) ?_
      refine lv_icmp_gt (tgt := 51) gx gb dX3_shortestStretch_6 (by decide) (fun c6 => ?_) (fun c6 => ?_)
      · skip
        rw [nI_ltI (by omega) (by omega)] at c6
        refine lv_bipush (v := zI (-6)) gx gb dX3_shortestStretch_51 (by decide) ?_
        exact W.iret (v := zI (-6)) gx gb gr (fun t ht hW => ⟨zI (-6), rfl, (by first | (dsimp only; done) | ((try dsimp only); exact ⟨-6, rfl, Or.inr ⟨rfl, fun x j hj => h0 j (by omega) x hj⟩⟩)), ht⟩) (fun q h => by cases h) dX3_shortestStretch_53
      · skip
        rw [nI_ltI (by omega) (by omega)] at c6
        refine lv_iconst (v := nI 0) gx gb dX3_shortestStretch_9 (by decide) ?_
        refine lv_istore (lv' := [(5, .int (nI 0)), (4, .int (nI (n + 1))), (0, .long (lN N)), (2, .int (nI q)), (3, .int (nI s))]) gx gb dX3_shortestStretch_10 hl (by decide) rfl (fun ls hl => ?_)
        have L12 : ∀ fu : Nat, ∀ (a : Nat) (ha : a + n ≤ q) (h1 : ∀ x, x < a → sm (dg 256 N) x (n + 1) ≠ s), (q - a) < fu → ∀ ls : Array Slot, lv_has ls 6 [(4, .int (nI (n + 1))), (5, .int (nI a)), (0, .long (lN N)), (2, .int (nI q)), (3, .int (nI s))] → W Gp Gl Ge (headSpec wsX3_shortestStretch ({ frames := 2, cells := 0, slots := 0, locals := 47 } : Room)).room Gs Gm ([.long (lN N), .int (nI q), .int (nI s)] : List Value).toArray Gw Gt Gc Gs.heap [] 0 0 (MQ Gw (vp_Si (fun r : Int32 => ∃ z : Int, r = zI z ∧ shtS (dg 256 N) s q z)) ([.long (lN N), .int (nI q), .int (nI s)] : List Value).toArray Gs 0 0 (fun _ => False)) (F0 Gm 12 ls []) := by
          intro fu
          induction fu with
          | zero => intro a ha h1 hfu; exact absurd hfu (Nat.not_lt_zero _)
          | succ fu ih12 =>
            intro a ha h1 hfu ls hl
            refine lv_iload gx gb dX3_shortestStretch_12 (lv_at hl 1 rfl) ?_
            refine lv_iload gx gb dX3_shortestStretch_14 (lv_at hl 0 rfl) ?_
            refine lv_iadd gx gb dX3_shortestStretch_16 ?_
            refine lv_evi (nI (a + (n + 1))) (nI_add a (n + 1)) ?_
            refine lv_iload_n gx gb dX3_shortestStretch_17 rfl (lv_at hl 3 rfl) ?_
            refine lv_icmp_gt (tgt := 45) gx gb dX3_shortestStretch_18 (by decide) (fun c18 => ?_) (fun c18 => ?_)
            · skip
              rw [nI_ltI (by omega) (by omega)] at c18
              refine lv_iinc (v := nI (n + 1 + 1)) (lv' := [(4, .int (nI (n + 1 + 1))), (5, .int (nI a)), (0, .long (lN N)), (2, .int (nI q)), (3, .int (nI s))]) gx gb dX3_shortestStretch_45 hl (k := 0) rfl (nI_add (n + 1) 1) (by decide) rfl (fun ls hl => ?_)
              refine lv_goto (tgt := 3) gx gb dX3_shortestStretch_48 (by decide) ?_
              exact ih3 (n + 1) (by omega) (by intro i hi x hx; exact (Nat.lt_or_ge i n).elim (fun h => h0 i h x hx) (fun h => by obtain rfl : i = n := (by omega); exact h1 x (by omega))) (by omega) ls (lv_sub hl [0, 2, 3, 4] rfl)
            · skip
              rw [nI_ltI (by omega) (by omega)] at c18
              refine lv_lload_n gx gb dX3_shortestStretch_21 rfl (lv_at hl 2 rfl) ?_
              refine lv_iload gx gb dX3_shortestStretch_22 (lv_at hl 1 rfl) ?_
              refine lv_iload gx gb dX3_shortestStretch_24 (lv_at hl 1 rfl) ?_
              refine lv_iload gx gb dX3_shortestStretch_26 (lv_at hl 0 rfl) ?_
              refine lv_iadd gx gb dX3_shortestStretch_28 ?_
              refine lv_evi (nI (a + (n + 1))) (nI_add a (n + 1)) ?_
              have hsm := sm_le (v := dg 256 N) (a := a) (c := 255) (n := n + 1) (fun i _ => by have := dg_lt (b := 256) (by omega) N (a + i); omega)
              refine vp_callSi (W.runS (As := [.long (lN N), .int (nI a), .int (nI (a + (n + 1)))]) (rest := []) ⟨gx, gb, gml, gown, gts⟩ (kX3_sum Gl N a (a + (n + 1)) (by omega) (by omega) (by omega)) (va_cwS 3 gts gX3_shortestStretch_X3_sum rfl rfl rfl (by decide +kernel) ⟨Nat.le_of_ble_eq_true rfl, Nat.le_of_ble_eq_true rfl⟩) ⟨fun _ _ _ _ h => h, fun U hU hW => ⟨rfl, trivial⟩⟩ rfl rfl hl.1 rfl (lv_room (Nat.le_of_ble_eq_true rfl)) dX3_shortestStretch_29 ⟨Nat.le_of_ble_eq_true rfl, Nat.le_of_ble_eq_true rfl⟩) (fun r hw => ?_)
              have hr29 := hw
              subst hr29
              refine lv_evi (nI (sm (dg 256 N) a (n + 1))) (congrArg nI (by rw [Nat.add_sub_cancel_left])) ?_
              refine lv_iload_n gx gb dX3_shortestStretch_32 rfl (lv_at hl 4 rfl) ?_
              refine lv_icmp_ne (tgt := 39) gx gb dX3_shortestStretch_33 (by decide) (fun c33 => ?_) (fun c33 => ?_)
              · skip
                rw [nI_eq (by omega) (by omega)] at c33
                refine lv_iinc (v := nI (a + 1)) (lv' := [(5, .int (nI (a + 1))), (4, .int (nI (n + 1))), (0, .long (lN N)), (2, .int (nI q)), (3, .int (nI s))]) gx gb dX3_shortestStretch_39 hl (k := 1) rfl (nI_add a 1) (by decide) rfl (fun ls hl => ?_)
                refine lv_goto (tgt := 12) gx gb dX3_shortestStretch_42 (by decide) ?_
                exact ih12 (a + 1) (by omega) (by intro x hx; exact (Nat.lt_or_ge x a).elim (fun h => h1 x h) (fun h => by obtain rfl : x = a := (by omega); exact c33)) (by omega) ls (lv_sub hl [1, 0, 2, 3, 4] rfl)
              · skip
                rw [nI_eq (by omega) (by omega)] at c33
                refine lv_iload gx gb dX3_shortestStretch_36 (lv_at hl 0 rfl) ?_
                exact W.iret (v := nI (n + 1)) gx gb gr (fun t ht hW => ⟨nI (n + 1), rfl, (by first | (dsimp only; done) | ((try dsimp only); exact ⟨((n + 1 : Nat) : Int), (zI_nat _).symm, Or.inl ⟨a, n, rfl, by omega, c33, h0⟩⟩)), ht⟩) (fun q h => by cases h) dX3_shortestStretch_38
        exact L12 _ 0 (by omega) (by intro x hx; exact absurd hx (Nat.not_lt_zero _)) (Nat.lt_succ_self _) ls (lv_sub hl [1, 0, 2, 3, 4] rfl)
  exact L3 _ 0 (by omega) (by intro x hx; exact absurd hx (Nat.not_lt_zero _)) (Nat.lt_succ_self _) ls (lv_sub hl [0, 1, 2, 3] rfl)

set_option maxHeartbeats 4000000 in
set_option maxRecDepth 100000 in
theorem kX3_longestRise (Gl : Launch) (N q : Nat) (hN : N < 9223372036854775808) (hq : q ≤ 7) (hq1 : 1 ≤ q) : Met Gl yX3_longestRise wsX3_longestRise ({ frames := 1, cells := 0, slots := 0, locals := 40 } : Room) (va_Pc [.long (lN N), .int (nI q)] (fun _ => True)) (vp_Si (fun r : Int32 => r = nI (lrise (dg 256 N) q))) 0 0 (fun _ => False) := by
  refine Met.ofW (cc := cX3_longestRise) (maxL := 6) (ret := (some .int)) (by decide +kernel) rfl ?_
  intro Gp Ge Gs Gm Ga Gw Gt Gc G1 Bd gml gv
  obtain ⟨rfl, -⟩ := gv
  have gx := Bd.exec
  have gb := Bd.bytes
  have gr := Bd.returns
  have gts := atoms_spec (ws := wsX3_longestRise) Bd.pre
  have gown : Gs.vm.findClass RX3 = some Gm.cls := findClass_of_methodNamed Bd.named
  have glk := Bd.notSynchronized
  have hl := lv_entry ([.long (lN N), .int (nI q)]) (n := 6) (Nat.le_of_ble_eq_true rfl)
  rw [lg_entry_eq]
  generalize (lg_sl ([.long (lN N), .int (nI q)]) ++ List.replicate (6 - (lg_sl ([.long (lN N), .int (nI q)])).length) Slot.unset).toArray = ls at hl ⊢
  have hl : lv_has ls 6 [(0, .long (lN N)), (2, .int (nI q))] := hl
  refine lv_iconst (v := nI 1) gx gb dX3_longestRise_0 (by decide) ?_
  refine lv_istore_n (lv' := [(3, .int (nI 1)), (0, .long (lN N)), (2, .int (nI q))]) gx gb dX3_longestRise_1 rfl hl (by decide) rfl (fun ls hl => ?_)
  refine lv_iconst (v := nI 1) gx gb dX3_longestRise_2 (by decide) ?_
  refine lv_istore (lv' := [(4, .int (nI 1)), (3, .int (nI 1)), (0, .long (lN N)), (2, .int (nI q))]) gx gb dX3_longestRise_3 hl (by decide) rfl (fun ls hl => ?_)
  refine lv_iconst (v := nI 1) gx gb dX3_longestRise_5 (by decide) ?_
  refine lv_istore (lv' := [(5, .int (nI 1)), (4, .int (nI 1)), (3, .int (nI 1)), (0, .long (lN N)), (2, .int (nI q))]) gx gb dX3_longestRise_6 hl (by decide) rfl (fun ls hl => ?_)
  have L8 : ∀ fu : Nat, ∀ (i : Nat) (hi : i + 1 ≤ q), (q - i) < fu → ∀ ls : Array Slot, lv_has ls 6 [(3, .int (nI ((lr (dg 256 N) i).1))), (4, .int (nI ((lr (dg 256 N) i).2))), (5, .int (nI (i + 1))), (0, .long (lN N)), (2, .int (nI q))] → W Gp Gl Ge (headSpec wsX3_longestRise ({ frames := 1, cells := 0, slots := 0, locals := 40 } : Room)).room Gs Gm ([.long (lN N), .int (nI q)] : List Value).toArray Gw Gt Gc Gs.heap [] 0 0 (MQ Gw (vp_Si (fun r : Int32 => r = nI (lrise (dg 256 N) q))) ([.long (lN N), .int (nI q)] : List Value).toArray Gs 0 0 (fun _ => False)) (F0 Gm 8 ls []) := by
    intro fu
    induction fu with
    | zero => intro i hi hfu; exact absurd hfu (Nat.not_lt_zero _)
    | succ fu ih8 =>
      intro i hi hfu ls hl
      have hlr := lr_bd (dg 256 N) i
      have h90 := dg_lt (b := 256) (by omega) N (i + 1)
      have h91 := dg_lt (b := 256) (by omega) N (i + 1 - 1)
      refine lv_iload gx gb dX3_longestRise_8 (lv_at hl 2 rfl) ?_
      refine lv_iload_n gx gb dX3_longestRise_10 rfl (lv_at hl 4 rfl) ?_
      refine lv_icmp_ge (tgt := 54) gx gb dX3_longestRise_11 (by decide) (fun c11 => ?_) (fun c11 => ?_)
      · skip
        rw [nI_leI (by omega) (by omega)] at c11
        refine lv_iload_n gx gb dX3_longestRise_54 rfl (lv_at hl 0 rfl) ?_
        exact W.iret (v := nI ((lr (dg 256 N) i).1)) gx gb gr (fun t ht hW => ⟨nI ((lr (dg 256 N) i).1), rfl, (by first | (dsimp only; done) | ((try dsimp only); obtain rfl : i = q - 1 := (by omega); rfl)), ht⟩) (fun q h => by cases h) dX3_longestRise_55
      · skip
        rw [nI_leI (by omega) (by omega)] at c11
        have L39 : ∀ (x : Nat) (hxx : x = if dg 256 N i < dg 256 N (i + 1) then (lr (dg 256 N) i).2 + 1 else 1), ∀ ls : Array Slot, lv_has ls 6 [(3, .int (nI ((lr (dg 256 N) i).1))), (4, .int (nI ((lr (dg 256 N) i).2))), (5, .int (nI (i + 1))), (0, .long (lN N)), (2, .int (nI q))] → W Gp Gl Ge (headSpec wsX3_longestRise ({ frames := 1, cells := 0, slots := 0, locals := 40 } : Room)).room Gs Gm ([.long (lN N), .int (nI q)] : List Value).toArray Gw Gt Gc Gs.heap [] 0 0 (MQ Gw (vp_Si (fun r : Int32 => r = nI (lrise (dg 256 N) q))) ([.long (lN N), .int (nI q)] : List Value).toArray Gs 0 0 (fun _ => False)) (F0 Gm 39 ls [.int (nI x)]) := by
          intro x hxx ls hl
          subst hxx
          have hx7 : (if dg 256 N i < dg 256 N (i + 1) then (lr (dg 256 N) i).2 + 1 else 1) ≤ 8 := by split <;> omega
          have hl : lv_has ls 6 [(3, .int (nI ((lr (dg 256 N) i).1))), (4, .int (nI ((lr (dg 256 N) i).2))), (5, .int (nI (i + 1))), (0, .long (lN N)), (2, .int (nI q))] := hl
          refine lv_istore (lv' := [(4, .int (nI (if dg 256 N i < dg 256 N (i + 1) then (lr (dg 256 N) i).2 + 1 else 1))), (3, .int (nI ((lr (dg 256 N) i).1))), (5, .int (nI (i + 1))), (0, .long (lN N)), (2, .int (nI q))]) gx gb dX3_longestRise_39 hl (by decide) rfl (fun ls hl => ?_)
          refine lv_iload_n gx gb dX3_longestRise_41 rfl (lv_at hl 1 rfl) ?_
          refine lv_iload gx gb dX3_longestRise_42 (lv_at hl 0 rfl) ?_
          refine va_mmax gx gb (by rw [gml]; exact hl.1.symm) gown (gts (.methodLink RX3 29 Lib.Math.max.name) (by decide +kernel)) (gts (.static Lib.Math.max.name) (by decide +kernel)) (gts (.initialized "java/lang/Math") (by decide +kernel)) (gts (.code Lib.Math.max.name Lib.Math.max.code 2 (some .int)) (by decide +kernel)) (Nat.le_of_ble_eq_true rfl) (Nat.le_of_ble_eq_true rfl) (Nat.le_of_ble_eq_true rfl) (Nat.le_of_ble_eq_true rfl) dX3_longestRise_44 ?_
          refine lv_evi (nI (max ((lr (dg 256 N) i).1) (if dg 256 N i < dg 256 N (i + 1) then (lr (dg 256 N) i).2 + 1 else 1))) (e_max (by omega) (by omega)) ?_
          refine lv_istore_n (lv' := [(3, .int (nI (max ((lr (dg 256 N) i).1) (if dg 256 N i < dg 256 N (i + 1) then (lr (dg 256 N) i).2 + 1 else 1)))), (4, .int (nI (if dg 256 N i < dg 256 N (i + 1) then (lr (dg 256 N) i).2 + 1 else 1))), (5, .int (nI (i + 1))), (0, .long (lN N)), (2, .int (nI q))]) gx gb dX3_longestRise_47 rfl hl (by decide) rfl (fun ls hl => ?_)
          refine lv_iinc (v := nI (i + 1 + 1)) (lv' := [(5, .int (nI (i + 1 + 1))), (3, .int (nI (max ((lr (dg 256 N) i).1) (if dg 256 N i < dg 256 N (i + 1) then (lr (dg 256 N) i).2 + 1 else 1)))), (4, .int (nI (if dg 256 N i < dg 256 N (i + 1) then (lr (dg 256 N) i).2 + 1 else 1))), (0, .long (lN N)), (2, .int (nI q))]) gx gb dX3_longestRise_48 hl (k := 2) rfl (nI_add (i + 1) 1) (by decide) rfl (fun ls hl => ?_)
          refine lv_goto (tgt := 8) gx gb dX3_longestRise_51 (by decide) ?_
          exact ih8 (i + 1) (by omega) (by omega) ls (lv_sub hl [1, 2, 0, 3, 4] rfl)
        refine lv_lload_n gx gb dX3_longestRise_14 rfl (lv_at hl 3 rfl) ?_
        refine lv_iload gx gb dX3_longestRise_15 (lv_at hl 2 rfl) ?_
        refine vp_callSi (W.runS (As := [.long (lN N), .int (nI (i + 1))]) (rest := []) ⟨gx, gb, gml, gown, gts⟩ (kX3_numberAt Gl N (i + 1) (by omega) (by omega)) (va_cwS 2 gts gX3_longestRise_X3_numberAt rfl rfl rfl (by decide +kernel) ⟨Nat.le_of_ble_eq_true rfl, Nat.le_of_ble_eq_true rfl⟩) ⟨fun _ _ _ _ h => h, fun U hU hW => ⟨rfl, trivial⟩⟩ rfl rfl hl.1 rfl (lv_room (Nat.le_of_ble_eq_true rfl)) dX3_longestRise_17 ⟨Nat.le_of_ble_eq_true rfl, Nat.le_of_ble_eq_true rfl⟩) (fun r hw => ?_)
        have hr17 := hw
        subst hr17
        refine lv_lload_n gx gb dX3_longestRise_20 rfl (lv_at hl 3 rfl) ?_
        refine lv_iload gx gb dX3_longestRise_21 (lv_at hl 2 rfl) ?_
        refine lv_iconst (v := nI 1) gx gb dX3_longestRise_23 (by decide) ?_
        refine lv_isub gx gb dX3_longestRise_24 ?_
        refine lv_evi (nI ((i + 1) - 1)) (e_sub (by omega)) ?_
        refine vp_callSi (W.runS (As := [.long (lN N), .int (nI ((i + 1) - 1))]) (rest := [.int (nI (dg 256 N (i + 1)))]) ⟨gx, gb, gml, gown, gts⟩ (kX3_numberAt Gl N ((i + 1) - 1) (by omega) (by omega)) (va_cwS 2 gts gX3_longestRise_X3_numberAt rfl rfl rfl (by decide +kernel) ⟨Nat.le_of_ble_eq_true rfl, Nat.le_of_ble_eq_true rfl⟩) ⟨fun _ _ _ _ h => h, fun U hU hW => ⟨rfl, trivial⟩⟩ rfl rfl hl.1 rfl (lv_room (Nat.le_of_ble_eq_true rfl)) dX3_longestRise_25 ⟨Nat.le_of_ble_eq_true rfl, Nat.le_of_ble_eq_true rfl⟩) (fun r hw => ?_)
        have hr25 := hw
        subst hr25
        refine lv_icmp_le (tgt := 38) gx gb dX3_longestRise_28 (by decide) (fun c28 => ?_) (fun c28 => ?_)
        · skip
          rw [nI_leI (by omega) (by omega)] at c28
          refine lv_iconst (v := nI 1) gx gb dX3_longestRise_38 (by decide) ?_
          exact L39 1 (by first | (rw [if_pos (by rw [show i + 1 - 1 = i by omega] at c28; omega)]) | (rw [if_neg (by rw [show i + 1 - 1 = i by omega] at c28; omega)])) ls (lv_sub hl [0, 1, 2, 3, 4] rfl)
        · skip
          rw [nI_leI (by omega) (by omega)] at c28
          refine lv_iload gx gb dX3_longestRise_31 (lv_at hl 1 rfl) ?_
          refine lv_iconst (v := nI 1) gx gb dX3_longestRise_33 (by decide) ?_
          refine lv_iadd gx gb dX3_longestRise_34 ?_
          refine lv_evi (nI (((lr (dg 256 N) i).2) + 1)) (nI_add ((lr (dg 256 N) i).2) 1) ?_
          refine lv_goto (tgt := 39) gx gb dX3_longestRise_35 (by decide) ?_
          exact L39 (((lr (dg 256 N) i).2) + 1) (by first | (rw [if_pos (by rw [show i + 1 - 1 = i by omega] at c28; omega)]) | (rw [if_neg (by rw [show i + 1 - 1 = i by omega] at c28; omega)])) ls (lv_sub hl [0, 1, 2, 3, 4] rfl)
  exact L8 _ 0 (by omega) (Nat.lt_succ_self _) ls (lv_sub hl [2, 1, 0, 3, 4] rfl)

set_option maxHeartbeats 4000000 in
set_option maxRecDepth 100000 in
theorem kX3_lead_0 (Gl : Launch) (N : Nat) (hN : N < 9223372036854775808) : Met Gl yX3_lead wsX3_lead ({ frames := 0, cells := 0, slots := 0, locals := 0 } : Room) (va_Pc [.long (lN N), .int (nI 0)] (fun _ => True)) (vp_Si (fun r : Int32 => r = zI (ldN N 0))) 0 0 (fun _ => False) := by
  refine Met.ofW (cc := cX3_lead) (maxL := 3) (ret := (some .int)) (by decide +kernel) rfl ?_
  intro Gp Ge Gs Gm Ga Gw Gt Gc G1 Bd gml gv
  obtain ⟨rfl, -⟩ := gv
  have gx := Bd.exec
  have gb := Bd.bytes
  have gr := Bd.returns
  have gts := atoms_spec (ws := wsX3_lead) Bd.pre
  have gown : Gs.vm.findClass RX3 = some Gm.cls := findClass_of_methodNamed Bd.named
  have glk := Bd.notSynchronized
  have hl := lv_entry ([.long (lN N), .int (nI 0)]) (n := 3) (Nat.le_of_ble_eq_true rfl)
  rw [lg_entry_eq]
  generalize (lg_sl ([.long (lN N), .int (nI 0)]) ++ List.replicate (3 - (lg_sl ([.long (lN N), .int (nI 0)])).length) Slot.unset).toArray = ls at hl ⊢
  have hl : lv_has ls 3 [(0, .long (lN N)), (2, .int (nI 0))] := hl
  refine lv_iload_n gx gb dX3_lead_0 rfl (lv_at hl 1 rfl) ?_
  refine lv_iconst (v := nI 1) gx gb dX3_lead_1 (by decide) ?_
  refine lv_icmp_lt (tgt := 11) gx gb dX3_lead_2 (by decide) (fun c2 => ?_) (fun c2 => ?_)
  · skip
    rw [nI_ltI (by omega) (by omega)] at c2
    refine lv_iconst (v := nI 0) gx gb dX3_lead_11 (by decide) ?_
    exact W.iret (v := nI 0) gx gb gr (fun t ht hW => ⟨nI 0, rfl, (by first | (dsimp only; done) | ((try dsimp only); rfl)), ht⟩) (fun q h => by cases h) dX3_lead_12
  · skip
    rw [nI_ltI (by omega) (by omega)] at c2
    exfalso; omega

set_option maxHeartbeats 4000000 in
set_option maxRecDepth 100000 in
theorem kX3_leadByFirst_1 (Gl : Launch) (N : Nat) (hN : N < 9223372036854775808) : Met Gl yX3_leadByFirst wsX3_leadByFirst ({ frames := 1, cells := 0, slots := 0, locals := 22 } : Room) (va_Pc [.long (lN N), .int (nI 1)] (fun _ => True)) (vp_Si (fun r : Int32 => r = zI ((dg 256 N 0 : Int) - ldN (N / 256) 0))) 0 0 (fun _ => False) := by
  refine Met.ofW (cc := cX3_leadByFirst) (maxL := 3) (ret := (some .int)) (by decide +kernel) rfl ?_
  intro Gp Ge Gs Gm Ga Gw Gt Gc G1 Bd gml gv
  obtain ⟨rfl, -⟩ := gv
  have gx := Bd.exec
  have gb := Bd.bytes
  have gr := Bd.returns
  have gts := atoms_spec (ws := wsX3_leadByFirst) Bd.pre
  have gown : Gs.vm.findClass RX3 = some Gm.cls := findClass_of_methodNamed Bd.named
  have glk := Bd.notSynchronized
  have hl := lv_entry ([.long (lN N), .int (nI 1)]) (n := 3) (Nat.le_of_ble_eq_true rfl)
  rw [lg_entry_eq]
  generalize (lg_sl ([.long (lN N), .int (nI 1)]) ++ List.replicate (3 - (lg_sl ([.long (lN N), .int (nI 1)])).length) Slot.unset).toArray = ls at hl ⊢
  have hl : lv_has ls 3 [(0, .long (lN N)), (2, .int (nI 1))] := hl
  refine lv_lload_n gx gb dX3_leadByFirst_0 rfl (lv_at hl 0 rfl) ?_
  refine lv_iconst (v := nI 0) gx gb dX3_leadByFirst_1 (by decide) ?_
  refine vp_callSi (W.runS (As := [.long (lN N), .int (nI 0)]) (rest := []) ⟨gx, gb, gml, gown, gts⟩ (kX3_numberAt Gl N 0 (by omega) (by omega)) (va_cwS 2 gts gX3_leadByFirst_X3_numberAt rfl rfl rfl (by decide +kernel) ⟨Nat.le_of_ble_eq_true rfl, Nat.le_of_ble_eq_true rfl⟩) ⟨fun _ _ _ _ h => h, fun U hU hW => ⟨rfl, trivial⟩⟩ rfl rfl hl.1 rfl (lv_room (Nat.le_of_ble_eq_true rfl)) dX3_leadByFirst_2 ⟨Nat.le_of_ble_eq_true rfl, Nat.le_of_ble_eq_true rfl⟩) (fun r hw => ?_)
  have hr2 := hw
  subst hr2
  refine lv_lload_n gx gb dX3_leadByFirst_5 rfl (lv_at hl 0 rfl) ?_
  refine lv_bipush (v := nI 8) gx gb dX3_leadByFirst_6 (by decide) ?_
  refine lv_lshr (v := lN (N / 2 ^ 8)) gx gb dX3_leadByFirst_8 (e_shrL (by omega) (by omega)) ?_
  refine lv_iload_n gx gb dX3_leadByFirst_9 rfl (lv_at hl 1 rfl) ?_
  refine lv_iconst (v := nI 1) gx gb dX3_leadByFirst_10 (by decide) ?_
  refine lv_isub gx gb dX3_leadByFirst_11 ?_
  refine lv_evi (nI (1 - 1)) (e_sub (by omega)) ?_
  have hdv := Nat.div_le_self N (2 ^ 8)
  refine vp_callSi (W.runS (As := [.long (lN (N / 2 ^ 8)), .int (nI 0)]) (rest := [.int (nI (dg 256 N 0))]) ⟨gx, gb, gml, gown, gts⟩ (kX3_lead_0 Gl (N / 2 ^ 8) (by omega)) (va_cwS 2 gts gX3_leadByFirst_X3_lead rfl rfl rfl (by decide +kernel) ⟨Nat.le_of_ble_eq_true rfl, Nat.le_of_ble_eq_true rfl⟩) ⟨fun _ _ _ _ h => h, fun U hU hW => ⟨rfl, trivial⟩⟩ rfl rfl hl.1 rfl (lv_room (Nat.le_of_ble_eq_true rfl)) dX3_leadByFirst_12 ⟨Nat.le_of_ble_eq_true rfl, Nat.le_of_ble_eq_true rfl⟩) (fun r hw => ?_)
  have hr12 := hw
  subst hr12
  have hb1 := ldN_bd 0 (N / 256)
  refine lv_isub gx gb dX3_leadByFirst_15 ?_
  refine lv_evi (zI (((dg 256 N 0 : Nat) : Int) - (ldN (N / 2 ^ 8) 0))) (by rw [nI_zc (dg 256 N 0)]; exact zI_sub ((dg 256 N 0 : Nat) : Int) (ldN (N / 2 ^ 8) 0)) ?_
  exact W.iret (v := zI (((dg 256 N 0 : Nat) : Int) - (ldN (N / 2 ^ 8) 0))) gx gb gr (fun t ht hW => ⟨zI (((dg 256 N 0 : Nat) : Int) - (ldN (N / 2 ^ 8) 0)), rfl, (by first | (dsimp only; done) | ((try dsimp only); rfl)), ht⟩) (fun q h => by cases h) dX3_leadByFirst_16

set_option maxHeartbeats 4000000 in
set_option maxRecDepth 100000 in
theorem kX3_leadByLast_1 (Gl : Launch) (N : Nat) (hN : N < 9223372036854775808) : Met Gl yX3_leadByLast wsX3_leadByLast ({ frames := 1, cells := 0, slots := 0, locals := 22 } : Room) (va_Pc [.long (lN N), .int (nI 1)] (fun _ => True)) (vp_Si (fun r : Int32 => r = zI ((dg 256 N 0 : Int) - ldN N 0))) 0 0 (fun _ => False) := by
  refine Met.ofW (cc := cX3_leadByLast) (maxL := 3) (ret := (some .int)) (by decide +kernel) rfl ?_
  intro Gp Ge Gs Gm Ga Gw Gt Gc G1 Bd gml gv
  obtain ⟨rfl, -⟩ := gv
  have gx := Bd.exec
  have gb := Bd.bytes
  have gr := Bd.returns
  have gts := atoms_spec (ws := wsX3_leadByLast) Bd.pre
  have gown : Gs.vm.findClass RX3 = some Gm.cls := findClass_of_methodNamed Bd.named
  have glk := Bd.notSynchronized
  have hl := lv_entry ([.long (lN N), .int (nI 1)]) (n := 3) (Nat.le_of_ble_eq_true rfl)
  rw [lg_entry_eq]
  generalize (lg_sl ([.long (lN N), .int (nI 1)]) ++ List.replicate (3 - (lg_sl ([.long (lN N), .int (nI 1)])).length) Slot.unset).toArray = ls at hl ⊢
  have hl : lv_has ls 3 [(0, .long (lN N)), (2, .int (nI 1))] := hl
  refine lv_lload_n gx gb dX3_leadByLast_0 rfl (lv_at hl 0 rfl) ?_
  refine lv_iload_n gx gb dX3_leadByLast_1 rfl (lv_at hl 1 rfl) ?_
  refine lv_iconst (v := nI 1) gx gb dX3_leadByLast_2 (by decide) ?_
  refine lv_isub gx gb dX3_leadByLast_3 ?_
  refine lv_evi (nI (1 - 1)) (e_sub (by omega)) ?_
  refine vp_callSi (W.runS (As := [.long (lN N), .int (nI (1 - 1))]) (rest := []) ⟨gx, gb, gml, gown, gts⟩ (kX3_numberAt Gl N (1 - 1) (by omega) (by omega)) (va_cwS 2 gts gX3_leadByLast_X3_numberAt rfl rfl rfl (by decide +kernel) ⟨Nat.le_of_ble_eq_true rfl, Nat.le_of_ble_eq_true rfl⟩) ⟨fun _ _ _ _ h => h, fun U hU hW => ⟨rfl, trivial⟩⟩ rfl rfl hl.1 rfl (lv_room (Nat.le_of_ble_eq_true rfl)) dX3_leadByLast_4 ⟨Nat.le_of_ble_eq_true rfl, Nat.le_of_ble_eq_true rfl⟩) (fun r hw => ?_)
  have hr4 := hw
  subst hr4
  refine lv_lload_n gx gb dX3_leadByLast_7 rfl (lv_at hl 0 rfl) ?_
  refine lv_iload_n gx gb dX3_leadByLast_8 rfl (lv_at hl 1 rfl) ?_
  refine lv_iconst (v := nI 1) gx gb dX3_leadByLast_9 (by decide) ?_
  refine lv_isub gx gb dX3_leadByLast_10 ?_
  refine lv_evi (nI (1 - 1)) (e_sub (by omega)) ?_
  refine vp_callSi (W.runS (As := [.long (lN N), .int (nI 0)]) (rest := [.int (nI (dg 256 N (1 - 1)))]) ⟨gx, gb, gml, gown, gts⟩ (kX3_lead_0 Gl N (by omega)) (va_cwS 2 gts gX3_leadByLast_X3_lead rfl rfl rfl (by decide +kernel) ⟨Nat.le_of_ble_eq_true rfl, Nat.le_of_ble_eq_true rfl⟩) ⟨fun _ _ _ _ h => h, fun U hU hW => ⟨rfl, trivial⟩⟩ rfl rfl hl.1 rfl (lv_room (Nat.le_of_ble_eq_true rfl)) dX3_leadByLast_11 ⟨Nat.le_of_ble_eq_true rfl, Nat.le_of_ble_eq_true rfl⟩) (fun r hw => ?_)
  have hr11 := hw
  subst hr11
  refine lv_isub gx gb dX3_leadByLast_14 ?_
  refine lv_evi (zI (((dg 256 N (1 - 1) : Nat) : Int) - (ldN N 0))) (by rw [nI_zc (dg 256 N (1 - 1))]; exact zI_sub ((dg 256 N (1 - 1) : Nat) : Int) (ldN N 0)) ?_
  exact W.iret (v := zI (((dg 256 N (1 - 1) : Nat) : Int) - (ldN N 0))) gx gb gr (fun t ht hW => ⟨zI (((dg 256 N (1 - 1) : Nat) : Int) - (ldN N 0)), rfl, (by first | (dsimp only; done) | ((try dsimp only); rfl)), ht⟩) (fun q h => by cases h) dX3_leadByLast_15

set_option maxHeartbeats 4000000 in
set_option maxRecDepth 100000 in
theorem kX3_lead_1 (Gl : Launch) (N : Nat) (hN : N < 9223372036854775808) : Met Gl yX3_lead wsX3_lead ({ frames := 2, cells := 0, slots := 0, locals := 44 } : Room) (va_Pc [.long (lN N), .int (nI 1)] (fun _ => True)) (vp_Si (fun r : Int32 => r = zI (ldN N 1))) 0 0 (fun _ => False) := by
  refine Met.ofW (cc := cX3_lead) (maxL := 3) (ret := (some .int)) (by decide +kernel) rfl ?_
  intro Gp Ge Gs Gm Ga Gw Gt Gc G1 Bd gml gv
  obtain ⟨rfl, -⟩ := gv
  have gx := Bd.exec
  have gb := Bd.bytes
  have gr := Bd.returns
  have gts := atoms_spec (ws := wsX3_lead) Bd.pre
  have gown : Gs.vm.findClass RX3 = some Gm.cls := findClass_of_methodNamed Bd.named
  have glk := Bd.notSynchronized
  have hl := lv_entry ([.long (lN N), .int (nI 1)]) (n := 3) (Nat.le_of_ble_eq_true rfl)
  rw [lg_entry_eq]
  generalize (lg_sl ([.long (lN N), .int (nI 1)]) ++ List.replicate (3 - (lg_sl ([.long (lN N), .int (nI 1)])).length) Slot.unset).toArray = ls at hl ⊢
  have hl : lv_has ls 3 [(0, .long (lN N)), (2, .int (nI 1))] := hl
  refine lv_iload_n gx gb dX3_lead_0 rfl (lv_at hl 1 rfl) ?_
  refine lv_iconst (v := nI 1) gx gb dX3_lead_1 (by decide) ?_
  refine lv_icmp_lt (tgt := 11) gx gb dX3_lead_2 (by decide) (fun c2 => ?_) (fun c2 => ?_)
  · skip
    rw [nI_ltI (by omega) (by omega)] at c2
    exfalso; omega
  · skip
    rw [nI_ltI (by omega) (by omega)] at c2
    refine lv_iload_n gx gb dX3_lead_5 rfl (lv_at hl 1 rfl) ?_
    refine lv_bipush (v := nI 7) gx gb dX3_lead_6 (by decide) ?_
    refine lv_icmp_le (tgt := 13) gx gb dX3_lead_8 (by decide) (fun c8 => ?_) (fun c8 => ?_)
    · skip
      rw [nI_leI (by omega) (by omega)] at c8
      refine lv_lload_n gx gb dX3_lead_13 rfl (lv_at hl 0 rfl) ?_
      refine lv_iload_n gx gb dX3_lead_14 rfl (lv_at hl 1 rfl) ?_
      refine vp_callSi (W.runS (As := [.long (lN N), .int (nI 1)]) (rest := []) ⟨gx, gb, gml, gown, gts⟩ (kX3_leadByFirst_1 Gl N (by omega)) (va_cwS 2 gts gX3_lead_X3_leadByFirst rfl rfl rfl (by decide +kernel) ⟨Nat.le_of_ble_eq_true rfl, Nat.le_of_ble_eq_true rfl⟩) ⟨fun _ _ _ _ h => h, fun U hU hW => ⟨rfl, trivial⟩⟩ rfl rfl hl.1 rfl (lv_room (Nat.le_of_ble_eq_true rfl)) dX3_lead_15 ⟨Nat.le_of_ble_eq_true rfl, Nat.le_of_ble_eq_true rfl⟩) (fun r hw => ?_)
      have hr15 := hw
      subst hr15
      refine lv_lload_n gx gb dX3_lead_18 rfl (lv_at hl 0 rfl) ?_
      refine lv_iload_n gx gb dX3_lead_19 rfl (lv_at hl 1 rfl) ?_
      refine vp_callSi (W.runS (As := [.long (lN N), .int (nI 1)]) (rest := [.int (zI ((dg 256 N 0 : Int) - ldN (N / 256) 0))]) ⟨gx, gb, gml, gown, gts⟩ (kX3_leadByLast_1 Gl N (by omega)) (va_cwS 2 gts gX3_lead_X3_leadByLast rfl rfl rfl (by decide +kernel) ⟨Nat.le_of_ble_eq_true rfl, Nat.le_of_ble_eq_true rfl⟩) ⟨fun _ _ _ _ h => h, fun U hU hW => ⟨rfl, trivial⟩⟩ rfl rfl hl.1 rfl (lv_room (Nat.le_of_ble_eq_true rfl)) dX3_lead_20 ⟨Nat.le_of_ble_eq_true rfl, Nat.le_of_ble_eq_true rfl⟩) (fun r hw => ?_)
      have hr20 := hw
      subst hr20
      have hb1 := ldN_bd 0 (N / 256)
      have hb2 := ldN_bd 0 N
      have hb3 := dg_lt (b := 256) (by omega) N 0
      have hb4 := dg_lt (b := 256) (by omega) N 0
      refine va_mmax gx gb (by rw [gml]; exact hl.1.symm) gown (gts (.methodLink RX3 29 Lib.Math.max.name) (by decide +kernel)) (gts (.static Lib.Math.max.name) (by decide +kernel)) (gts (.initialized "java/lang/Math") (by decide +kernel)) (gts (.code Lib.Math.max.name Lib.Math.max.code 2 (some .int)) (by decide +kernel)) (Nat.le_of_ble_eq_true rfl) (Nat.le_of_ble_eq_true rfl) (Nat.le_of_ble_eq_true rfl) (Nat.le_of_ble_eq_true rfl) dX3_lead_23 ?_
      refine lv_evi (zI (max ((dg 256 N 0 : Int) - ldN (N / 256) 0) ((dg 256 N 0 : Int) - ldN N 0))) (z_max (by omega) (by omega) (by omega) (by omega)) ?_
      exact W.iret (v := zI (max ((dg 256 N 0 : Int) - ldN (N / 256) 0) ((dg 256 N 0 : Int) - ldN N 0))) gx gb gr (fun t ht hW => ⟨zI (max ((dg 256 N 0 : Int) - ldN (N / 256) 0) ((dg 256 N 0 : Int) - ldN N 0)), rfl, (by first | (dsimp only; done) | ((try dsimp only); rfl)), ht⟩) (fun q h => by cases h) dX3_lead_26
    · skip
      rw [nI_leI (by omega) (by omega)] at c8
      exfalso; omega

set_option maxHeartbeats 4000000 in
set_option maxRecDepth 100000 in
theorem kX3_leadByFirst_2 (Gl : Launch) (N : Nat) (hN : N < 9223372036854775808) : Met Gl yX3_leadByFirst wsX3_leadByFirst ({ frames := 3, cells := 0, slots := 0, locals := 66 } : Room) (va_Pc [.long (lN N), .int (nI 2)] (fun _ => True)) (vp_Si (fun r : Int32 => r = zI ((dg 256 N 0 : Int) - ldN (N / 256) 1))) 0 0 (fun _ => False) := by
  refine Met.ofW (cc := cX3_leadByFirst) (maxL := 3) (ret := (some .int)) (by decide +kernel) rfl ?_
  intro Gp Ge Gs Gm Ga Gw Gt Gc G1 Bd gml gv
  obtain ⟨rfl, -⟩ := gv
  have gx := Bd.exec
  have gb := Bd.bytes
  have gr := Bd.returns
  have gts := atoms_spec (ws := wsX3_leadByFirst) Bd.pre
  have gown : Gs.vm.findClass RX3 = some Gm.cls := findClass_of_methodNamed Bd.named
  have glk := Bd.notSynchronized
  have hl := lv_entry ([.long (lN N), .int (nI 2)]) (n := 3) (Nat.le_of_ble_eq_true rfl)
  rw [lg_entry_eq]
  generalize (lg_sl ([.long (lN N), .int (nI 2)]) ++ List.replicate (3 - (lg_sl ([.long (lN N), .int (nI 2)])).length) Slot.unset).toArray = ls at hl ⊢
  have hl : lv_has ls 3 [(0, .long (lN N)), (2, .int (nI 2))] := hl
  refine lv_lload_n gx gb dX3_leadByFirst_0 rfl (lv_at hl 0 rfl) ?_
  refine lv_iconst (v := nI 0) gx gb dX3_leadByFirst_1 (by decide) ?_
  refine vp_callSi (W.runS (As := [.long (lN N), .int (nI 0)]) (rest := []) ⟨gx, gb, gml, gown, gts⟩ (kX3_numberAt Gl N 0 (by omega) (by omega)) (va_cwS 2 gts gX3_leadByFirst_X3_numberAt rfl rfl rfl (by decide +kernel) ⟨Nat.le_of_ble_eq_true rfl, Nat.le_of_ble_eq_true rfl⟩) ⟨fun _ _ _ _ h => h, fun U hU hW => ⟨rfl, trivial⟩⟩ rfl rfl hl.1 rfl (lv_room (Nat.le_of_ble_eq_true rfl)) dX3_leadByFirst_2 ⟨Nat.le_of_ble_eq_true rfl, Nat.le_of_ble_eq_true rfl⟩) (fun r hw => ?_)
  have hr2 := hw
  subst hr2
  refine lv_lload_n gx gb dX3_leadByFirst_5 rfl (lv_at hl 0 rfl) ?_
  refine lv_bipush (v := nI 8) gx gb dX3_leadByFirst_6 (by decide) ?_
  refine lv_lshr (v := lN (N / 2 ^ 8)) gx gb dX3_leadByFirst_8 (e_shrL (by omega) (by omega)) ?_
  refine lv_iload_n gx gb dX3_leadByFirst_9 rfl (lv_at hl 1 rfl) ?_
  refine lv_iconst (v := nI 1) gx gb dX3_leadByFirst_10 (by decide) ?_
  refine lv_isub gx gb dX3_leadByFirst_11 ?_
  refine lv_evi (nI (2 - 1)) (e_sub (by omega)) ?_
  have hdv := Nat.div_le_self N (2 ^ 8)
  refine vp_callSi (W.runS (As := [.long (lN (N / 2 ^ 8)), .int (nI 1)]) (rest := [.int (nI (dg 256 N 0))]) ⟨gx, gb, gml, gown, gts⟩ (kX3_lead_1 Gl (N / 2 ^ 8) (by omega)) (va_cwS 2 gts gX3_leadByFirst_X3_lead rfl rfl rfl (by decide +kernel) ⟨Nat.le_of_ble_eq_true rfl, Nat.le_of_ble_eq_true rfl⟩) ⟨fun _ _ _ _ h => h, fun U hU hW => ⟨rfl, trivial⟩⟩ rfl rfl hl.1 rfl (lv_room (Nat.le_of_ble_eq_true rfl)) dX3_leadByFirst_12 ⟨Nat.le_of_ble_eq_true rfl, Nat.le_of_ble_eq_true rfl⟩) (fun r hw => ?_)
  have hr12 := hw
  subst hr12
  have hb1 := ldN_bd 1 (N / 256)
  refine lv_isub gx gb dX3_leadByFirst_15 ?_
  refine lv_evi (zI (((dg 256 N 0 : Nat) : Int) - (ldN (N / 2 ^ 8) 1))) (by rw [nI_zc (dg 256 N 0)]; exact zI_sub ((dg 256 N 0 : Nat) : Int) (ldN (N / 2 ^ 8) 1)) ?_
  exact W.iret (v := zI (((dg 256 N 0 : Nat) : Int) - (ldN (N / 2 ^ 8) 1))) gx gb gr (fun t ht hW => ⟨zI (((dg 256 N 0 : Nat) : Int) - (ldN (N / 2 ^ 8) 1)), rfl, (by first | (dsimp only; done) | ((try dsimp only); rfl)), ht⟩) (fun q h => by cases h) dX3_leadByFirst_16

set_option maxHeartbeats 4000000 in
set_option maxRecDepth 100000 in
theorem kX3_leadByLast_2 (Gl : Launch) (N : Nat) (hN : N < 9223372036854775808) : Met Gl yX3_leadByLast wsX3_leadByLast ({ frames := 3, cells := 0, slots := 0, locals := 66 } : Room) (va_Pc [.long (lN N), .int (nI 2)] (fun _ => True)) (vp_Si (fun r : Int32 => r = zI ((dg 256 N 1 : Int) - ldN N 1))) 0 0 (fun _ => False) := by
  refine Met.ofW (cc := cX3_leadByLast) (maxL := 3) (ret := (some .int)) (by decide +kernel) rfl ?_
  intro Gp Ge Gs Gm Ga Gw Gt Gc G1 Bd gml gv
  obtain ⟨rfl, -⟩ := gv
  have gx := Bd.exec
  have gb := Bd.bytes
  have gr := Bd.returns
  have gts := atoms_spec (ws := wsX3_leadByLast) Bd.pre
  have gown : Gs.vm.findClass RX3 = some Gm.cls := findClass_of_methodNamed Bd.named
  have glk := Bd.notSynchronized
  have hl := lv_entry ([.long (lN N), .int (nI 2)]) (n := 3) (Nat.le_of_ble_eq_true rfl)
  rw [lg_entry_eq]
  generalize (lg_sl ([.long (lN N), .int (nI 2)]) ++ List.replicate (3 - (lg_sl ([.long (lN N), .int (nI 2)])).length) Slot.unset).toArray = ls at hl ⊢
  have hl : lv_has ls 3 [(0, .long (lN N)), (2, .int (nI 2))] := hl
  refine lv_lload_n gx gb dX3_leadByLast_0 rfl (lv_at hl 0 rfl) ?_
  refine lv_iload_n gx gb dX3_leadByLast_1 rfl (lv_at hl 1 rfl) ?_
  refine lv_iconst (v := nI 1) gx gb dX3_leadByLast_2 (by decide) ?_
  refine lv_isub gx gb dX3_leadByLast_3 ?_
  refine lv_evi (nI (2 - 1)) (e_sub (by omega)) ?_
  refine vp_callSi (W.runS (As := [.long (lN N), .int (nI (2 - 1))]) (rest := []) ⟨gx, gb, gml, gown, gts⟩ (kX3_numberAt Gl N (2 - 1) (by omega) (by omega)) (va_cwS 2 gts gX3_leadByLast_X3_numberAt rfl rfl rfl (by decide +kernel) ⟨Nat.le_of_ble_eq_true rfl, Nat.le_of_ble_eq_true rfl⟩) ⟨fun _ _ _ _ h => h, fun U hU hW => ⟨rfl, trivial⟩⟩ rfl rfl hl.1 rfl (lv_room (Nat.le_of_ble_eq_true rfl)) dX3_leadByLast_4 ⟨Nat.le_of_ble_eq_true rfl, Nat.le_of_ble_eq_true rfl⟩) (fun r hw => ?_)
  have hr4 := hw
  subst hr4
  refine lv_lload_n gx gb dX3_leadByLast_7 rfl (lv_at hl 0 rfl) ?_
  refine lv_iload_n gx gb dX3_leadByLast_8 rfl (lv_at hl 1 rfl) ?_
  refine lv_iconst (v := nI 1) gx gb dX3_leadByLast_9 (by decide) ?_
  refine lv_isub gx gb dX3_leadByLast_10 ?_
  refine lv_evi (nI (2 - 1)) (e_sub (by omega)) ?_
  refine vp_callSi (W.runS (As := [.long (lN N), .int (nI 1)]) (rest := [.int (nI (dg 256 N (2 - 1)))]) ⟨gx, gb, gml, gown, gts⟩ (kX3_lead_1 Gl N (by omega)) (va_cwS 2 gts gX3_leadByLast_X3_lead rfl rfl rfl (by decide +kernel) ⟨Nat.le_of_ble_eq_true rfl, Nat.le_of_ble_eq_true rfl⟩) ⟨fun _ _ _ _ h => h, fun U hU hW => ⟨rfl, trivial⟩⟩ rfl rfl hl.1 rfl (lv_room (Nat.le_of_ble_eq_true rfl)) dX3_leadByLast_11 ⟨Nat.le_of_ble_eq_true rfl, Nat.le_of_ble_eq_true rfl⟩) (fun r hw => ?_)
  have hr11 := hw
  subst hr11
  refine lv_isub gx gb dX3_leadByLast_14 ?_
  refine lv_evi (zI (((dg 256 N (2 - 1) : Nat) : Int) - (ldN N 1))) (by rw [nI_zc (dg 256 N (2 - 1))]; exact zI_sub ((dg 256 N (2 - 1) : Nat) : Int) (ldN N 1)) ?_
  exact W.iret (v := zI (((dg 256 N (2 - 1) : Nat) : Int) - (ldN N 1))) gx gb gr (fun t ht hW => ⟨zI (((dg 256 N (2 - 1) : Nat) : Int) - (ldN N 1)), rfl, (by first | (dsimp only; done) | ((try dsimp only); rfl)), ht⟩) (fun q h => by cases h) dX3_leadByLast_15

set_option maxHeartbeats 4000000 in
set_option maxRecDepth 100000 in
theorem kX3_lead_2 (Gl : Launch) (N : Nat) (hN : N < 9223372036854775808) : Met Gl yX3_lead wsX3_lead ({ frames := 4, cells := 0, slots := 0, locals := 88 } : Room) (va_Pc [.long (lN N), .int (nI 2)] (fun _ => True)) (vp_Si (fun r : Int32 => r = zI (ldN N 2))) 0 0 (fun _ => False) := by
  refine Met.ofW (cc := cX3_lead) (maxL := 3) (ret := (some .int)) (by decide +kernel) rfl ?_
  intro Gp Ge Gs Gm Ga Gw Gt Gc G1 Bd gml gv
  obtain ⟨rfl, -⟩ := gv
  have gx := Bd.exec
  have gb := Bd.bytes
  have gr := Bd.returns
  have gts := atoms_spec (ws := wsX3_lead) Bd.pre
  have gown : Gs.vm.findClass RX3 = some Gm.cls := findClass_of_methodNamed Bd.named
  have glk := Bd.notSynchronized
  have hl := lv_entry ([.long (lN N), .int (nI 2)]) (n := 3) (Nat.le_of_ble_eq_true rfl)
  rw [lg_entry_eq]
  generalize (lg_sl ([.long (lN N), .int (nI 2)]) ++ List.replicate (3 - (lg_sl ([.long (lN N), .int (nI 2)])).length) Slot.unset).toArray = ls at hl ⊢
  have hl : lv_has ls 3 [(0, .long (lN N)), (2, .int (nI 2))] := hl
  refine lv_iload_n gx gb dX3_lead_0 rfl (lv_at hl 1 rfl) ?_
  refine lv_iconst (v := nI 1) gx gb dX3_lead_1 (by decide) ?_
  refine lv_icmp_lt (tgt := 11) gx gb dX3_lead_2 (by decide) (fun c2 => ?_) (fun c2 => ?_)
  · skip
    rw [nI_ltI (by omega) (by omega)] at c2
    exfalso; omega
  · skip
    rw [nI_ltI (by omega) (by omega)] at c2
    refine lv_iload_n gx gb dX3_lead_5 rfl (lv_at hl 1 rfl) ?_
    refine lv_bipush (v := nI 7) gx gb dX3_lead_6 (by decide) ?_
    refine lv_icmp_le (tgt := 13) gx gb dX3_lead_8 (by decide) (fun c8 => ?_) (fun c8 => ?_)
    · skip
      rw [nI_leI (by omega) (by omega)] at c8
      refine lv_lload_n gx gb dX3_lead_13 rfl (lv_at hl 0 rfl) ?_
      refine lv_iload_n gx gb dX3_lead_14 rfl (lv_at hl 1 rfl) ?_
      refine vp_callSi (W.runS (As := [.long (lN N), .int (nI 2)]) (rest := []) ⟨gx, gb, gml, gown, gts⟩ (kX3_leadByFirst_2 Gl N (by omega)) (va_cwS 2 gts gX3_lead_X3_leadByFirst rfl rfl rfl (by decide +kernel) ⟨Nat.le_of_ble_eq_true rfl, Nat.le_of_ble_eq_true rfl⟩) ⟨fun _ _ _ _ h => h, fun U hU hW => ⟨rfl, trivial⟩⟩ rfl rfl hl.1 rfl (lv_room (Nat.le_of_ble_eq_true rfl)) dX3_lead_15 ⟨Nat.le_of_ble_eq_true rfl, Nat.le_of_ble_eq_true rfl⟩) (fun r hw => ?_)
      have hr15 := hw
      subst hr15
      refine lv_lload_n gx gb dX3_lead_18 rfl (lv_at hl 0 rfl) ?_
      refine lv_iload_n gx gb dX3_lead_19 rfl (lv_at hl 1 rfl) ?_
      refine vp_callSi (W.runS (As := [.long (lN N), .int (nI 2)]) (rest := [.int (zI ((dg 256 N 0 : Int) - ldN (N / 256) 1))]) ⟨gx, gb, gml, gown, gts⟩ (kX3_leadByLast_2 Gl N (by omega)) (va_cwS 2 gts gX3_lead_X3_leadByLast rfl rfl rfl (by decide +kernel) ⟨Nat.le_of_ble_eq_true rfl, Nat.le_of_ble_eq_true rfl⟩) ⟨fun _ _ _ _ h => h, fun U hU hW => ⟨rfl, trivial⟩⟩ rfl rfl hl.1 rfl (lv_room (Nat.le_of_ble_eq_true rfl)) dX3_lead_20 ⟨Nat.le_of_ble_eq_true rfl, Nat.le_of_ble_eq_true rfl⟩) (fun r hw => ?_)
      have hr20 := hw
      subst hr20
      have hb1 := ldN_bd 1 (N / 256)
      have hb2 := ldN_bd 1 N
      have hb3 := dg_lt (b := 256) (by omega) N 0
      have hb4 := dg_lt (b := 256) (by omega) N 1
      refine va_mmax gx gb (by rw [gml]; exact hl.1.symm) gown (gts (.methodLink RX3 29 Lib.Math.max.name) (by decide +kernel)) (gts (.static Lib.Math.max.name) (by decide +kernel)) (gts (.initialized "java/lang/Math") (by decide +kernel)) (gts (.code Lib.Math.max.name Lib.Math.max.code 2 (some .int)) (by decide +kernel)) (Nat.le_of_ble_eq_true rfl) (Nat.le_of_ble_eq_true rfl) (Nat.le_of_ble_eq_true rfl) (Nat.le_of_ble_eq_true rfl) dX3_lead_23 ?_
      refine lv_evi (zI (max ((dg 256 N 0 : Int) - ldN (N / 256) 1) ((dg 256 N 1 : Int) - ldN N 1))) (z_max (by omega) (by omega) (by omega) (by omega)) ?_
      exact W.iret (v := zI (max ((dg 256 N 0 : Int) - ldN (N / 256) 1) ((dg 256 N 1 : Int) - ldN N 1))) gx gb gr (fun t ht hW => ⟨zI (max ((dg 256 N 0 : Int) - ldN (N / 256) 1) ((dg 256 N 1 : Int) - ldN N 1)), rfl, (by first | (dsimp only; done) | ((try dsimp only); rfl)), ht⟩) (fun q h => by cases h) dX3_lead_26
    · skip
      rw [nI_leI (by omega) (by omega)] at c8
      exfalso; omega

set_option maxHeartbeats 4000000 in
set_option maxRecDepth 100000 in
theorem kX3_leadByFirst_3 (Gl : Launch) (N : Nat) (hN : N < 9223372036854775808) : Met Gl yX3_leadByFirst wsX3_leadByFirst ({ frames := 5, cells := 0, slots := 0, locals := 110 } : Room) (va_Pc [.long (lN N), .int (nI 3)] (fun _ => True)) (vp_Si (fun r : Int32 => r = zI ((dg 256 N 0 : Int) - ldN (N / 256) 2))) 0 0 (fun _ => False) := by
  refine Met.ofW (cc := cX3_leadByFirst) (maxL := 3) (ret := (some .int)) (by decide +kernel) rfl ?_
  intro Gp Ge Gs Gm Ga Gw Gt Gc G1 Bd gml gv
  obtain ⟨rfl, -⟩ := gv
  have gx := Bd.exec
  have gb := Bd.bytes
  have gr := Bd.returns
  have gts := atoms_spec (ws := wsX3_leadByFirst) Bd.pre
  have gown : Gs.vm.findClass RX3 = some Gm.cls := findClass_of_methodNamed Bd.named
  have glk := Bd.notSynchronized
  have hl := lv_entry ([.long (lN N), .int (nI 3)]) (n := 3) (Nat.le_of_ble_eq_true rfl)
  rw [lg_entry_eq]
  generalize (lg_sl ([.long (lN N), .int (nI 3)]) ++ List.replicate (3 - (lg_sl ([.long (lN N), .int (nI 3)])).length) Slot.unset).toArray = ls at hl ⊢
  have hl : lv_has ls 3 [(0, .long (lN N)), (2, .int (nI 3))] := hl
  refine lv_lload_n gx gb dX3_leadByFirst_0 rfl (lv_at hl 0 rfl) ?_
  refine lv_iconst (v := nI 0) gx gb dX3_leadByFirst_1 (by decide) ?_
  refine vp_callSi (W.runS (As := [.long (lN N), .int (nI 0)]) (rest := []) ⟨gx, gb, gml, gown, gts⟩ (kX3_numberAt Gl N 0 (by omega) (by omega)) (va_cwS 2 gts gX3_leadByFirst_X3_numberAt rfl rfl rfl (by decide +kernel) ⟨Nat.le_of_ble_eq_true rfl, Nat.le_of_ble_eq_true rfl⟩) ⟨fun _ _ _ _ h => h, fun U hU hW => ⟨rfl, trivial⟩⟩ rfl rfl hl.1 rfl (lv_room (Nat.le_of_ble_eq_true rfl)) dX3_leadByFirst_2 ⟨Nat.le_of_ble_eq_true rfl, Nat.le_of_ble_eq_true rfl⟩) (fun r hw => ?_)
  have hr2 := hw
  subst hr2
  refine lv_lload_n gx gb dX3_leadByFirst_5 rfl (lv_at hl 0 rfl) ?_
  refine lv_bipush (v := nI 8) gx gb dX3_leadByFirst_6 (by decide) ?_
  refine lv_lshr (v := lN (N / 2 ^ 8)) gx gb dX3_leadByFirst_8 (e_shrL (by omega) (by omega)) ?_
  refine lv_iload_n gx gb dX3_leadByFirst_9 rfl (lv_at hl 1 rfl) ?_
  refine lv_iconst (v := nI 1) gx gb dX3_leadByFirst_10 (by decide) ?_
  refine lv_isub gx gb dX3_leadByFirst_11 ?_
  refine lv_evi (nI (3 - 1)) (e_sub (by omega)) ?_
  have hdv := Nat.div_le_self N (2 ^ 8)
  refine vp_callSi (W.runS (As := [.long (lN (N / 2 ^ 8)), .int (nI 2)]) (rest := [.int (nI (dg 256 N 0))]) ⟨gx, gb, gml, gown, gts⟩ (kX3_lead_2 Gl (N / 2 ^ 8) (by omega)) (va_cwS 2 gts gX3_leadByFirst_X3_lead rfl rfl rfl (by decide +kernel) ⟨Nat.le_of_ble_eq_true rfl, Nat.le_of_ble_eq_true rfl⟩) ⟨fun _ _ _ _ h => h, fun U hU hW => ⟨rfl, trivial⟩⟩ rfl rfl hl.1 rfl (lv_room (Nat.le_of_ble_eq_true rfl)) dX3_leadByFirst_12 ⟨Nat.le_of_ble_eq_true rfl, Nat.le_of_ble_eq_true rfl⟩) (fun r hw => ?_)
  have hr12 := hw
  subst hr12
  have hb1 := ldN_bd 2 (N / 256)
  refine lv_isub gx gb dX3_leadByFirst_15 ?_
  refine lv_evi (zI (((dg 256 N 0 : Nat) : Int) - (ldN (N / 2 ^ 8) 2))) (by rw [nI_zc (dg 256 N 0)]; exact zI_sub ((dg 256 N 0 : Nat) : Int) (ldN (N / 2 ^ 8) 2)) ?_
  exact W.iret (v := zI (((dg 256 N 0 : Nat) : Int) - (ldN (N / 2 ^ 8) 2))) gx gb gr (fun t ht hW => ⟨zI (((dg 256 N 0 : Nat) : Int) - (ldN (N / 2 ^ 8) 2)), rfl, (by first | (dsimp only; done) | ((try dsimp only); rfl)), ht⟩) (fun q h => by cases h) dX3_leadByFirst_16

set_option maxHeartbeats 4000000 in
set_option maxRecDepth 100000 in
theorem kX3_leadByLast_3 (Gl : Launch) (N : Nat) (hN : N < 9223372036854775808) : Met Gl yX3_leadByLast wsX3_leadByLast ({ frames := 5, cells := 0, slots := 0, locals := 110 } : Room) (va_Pc [.long (lN N), .int (nI 3)] (fun _ => True)) (vp_Si (fun r : Int32 => r = zI ((dg 256 N 2 : Int) - ldN N 2))) 0 0 (fun _ => False) := by
  refine Met.ofW (cc := cX3_leadByLast) (maxL := 3) (ret := (some .int)) (by decide +kernel) rfl ?_
  intro Gp Ge Gs Gm Ga Gw Gt Gc G1 Bd gml gv
  obtain ⟨rfl, -⟩ := gv
  have gx := Bd.exec
  have gb := Bd.bytes
  have gr := Bd.returns
  have gts := atoms_spec (ws := wsX3_leadByLast) Bd.pre
  have gown : Gs.vm.findClass RX3 = some Gm.cls := findClass_of_methodNamed Bd.named
  have glk := Bd.notSynchronized
  have hl := lv_entry ([.long (lN N), .int (nI 3)]) (n := 3) (Nat.le_of_ble_eq_true rfl)
  rw [lg_entry_eq]
  generalize (lg_sl ([.long (lN N), .int (nI 3)]) ++ List.replicate (3 - (lg_sl ([.long (lN N), .int (nI 3)])).length) Slot.unset).toArray = ls at hl ⊢
  have hl : lv_has ls 3 [(0, .long (lN N)), (2, .int (nI 3))] := hl
  refine lv_lload_n gx gb dX3_leadByLast_0 rfl (lv_at hl 0 rfl) ?_
  refine lv_iload_n gx gb dX3_leadByLast_1 rfl (lv_at hl 1 rfl) ?_
  refine lv_iconst (v := nI 1) gx gb dX3_leadByLast_2 (by decide) ?_
  refine lv_isub gx gb dX3_leadByLast_3 ?_
  refine lv_evi (nI (3 - 1)) (e_sub (by omega)) ?_
  refine vp_callSi (W.runS (As := [.long (lN N), .int (nI (3 - 1))]) (rest := []) ⟨gx, gb, gml, gown, gts⟩ (kX3_numberAt Gl N (3 - 1) (by omega) (by omega)) (va_cwS 2 gts gX3_leadByLast_X3_numberAt rfl rfl rfl (by decide +kernel) ⟨Nat.le_of_ble_eq_true rfl, Nat.le_of_ble_eq_true rfl⟩) ⟨fun _ _ _ _ h => h, fun U hU hW => ⟨rfl, trivial⟩⟩ rfl rfl hl.1 rfl (lv_room (Nat.le_of_ble_eq_true rfl)) dX3_leadByLast_4 ⟨Nat.le_of_ble_eq_true rfl, Nat.le_of_ble_eq_true rfl⟩) (fun r hw => ?_)
  have hr4 := hw
  subst hr4
  refine lv_lload_n gx gb dX3_leadByLast_7 rfl (lv_at hl 0 rfl) ?_
  refine lv_iload_n gx gb dX3_leadByLast_8 rfl (lv_at hl 1 rfl) ?_
  refine lv_iconst (v := nI 1) gx gb dX3_leadByLast_9 (by decide) ?_
  refine lv_isub gx gb dX3_leadByLast_10 ?_
  refine lv_evi (nI (3 - 1)) (e_sub (by omega)) ?_
  refine vp_callSi (W.runS (As := [.long (lN N), .int (nI 2)]) (rest := [.int (nI (dg 256 N (3 - 1)))]) ⟨gx, gb, gml, gown, gts⟩ (kX3_lead_2 Gl N (by omega)) (va_cwS 2 gts gX3_leadByLast_X3_lead rfl rfl rfl (by decide +kernel) ⟨Nat.le_of_ble_eq_true rfl, Nat.le_of_ble_eq_true rfl⟩) ⟨fun _ _ _ _ h => h, fun U hU hW => ⟨rfl, trivial⟩⟩ rfl rfl hl.1 rfl (lv_room (Nat.le_of_ble_eq_true rfl)) dX3_leadByLast_11 ⟨Nat.le_of_ble_eq_true rfl, Nat.le_of_ble_eq_true rfl⟩) (fun r hw => ?_)
  have hr11 := hw
  subst hr11
  refine lv_isub gx gb dX3_leadByLast_14 ?_
  refine lv_evi (zI (((dg 256 N (3 - 1) : Nat) : Int) - (ldN N 2))) (by rw [nI_zc (dg 256 N (3 - 1))]; exact zI_sub ((dg 256 N (3 - 1) : Nat) : Int) (ldN N 2)) ?_
  exact W.iret (v := zI (((dg 256 N (3 - 1) : Nat) : Int) - (ldN N 2))) gx gb gr (fun t ht hW => ⟨zI (((dg 256 N (3 - 1) : Nat) : Int) - (ldN N 2)), rfl, (by first | (dsimp only; done) | ((try dsimp only); rfl)), ht⟩) (fun q h => by cases h) dX3_leadByLast_15

set_option maxHeartbeats 4000000 in
set_option maxRecDepth 100000 in
theorem kX3_lead_3 (Gl : Launch) (N : Nat) (hN : N < 9223372036854775808) : Met Gl yX3_lead wsX3_lead ({ frames := 6, cells := 0, slots := 0, locals := 132 } : Room) (va_Pc [.long (lN N), .int (nI 3)] (fun _ => True)) (vp_Si (fun r : Int32 => r = zI (ldN N 3))) 0 0 (fun _ => False) := by
  refine Met.ofW (cc := cX3_lead) (maxL := 3) (ret := (some .int)) (by decide +kernel) rfl ?_
  intro Gp Ge Gs Gm Ga Gw Gt Gc G1 Bd gml gv
  obtain ⟨rfl, -⟩ := gv
  have gx := Bd.exec
  have gb := Bd.bytes
  have gr := Bd.returns
  have gts := atoms_spec (ws := wsX3_lead) Bd.pre
  have gown : Gs.vm.findClass RX3 = some Gm.cls := findClass_of_methodNamed Bd.named
  have glk := Bd.notSynchronized
  have hl := lv_entry ([.long (lN N), .int (nI 3)]) (n := 3) (Nat.le_of_ble_eq_true rfl)
  rw [lg_entry_eq]
  generalize (lg_sl ([.long (lN N), .int (nI 3)]) ++ List.replicate (3 - (lg_sl ([.long (lN N), .int (nI 3)])).length) Slot.unset).toArray = ls at hl ⊢
  have hl : lv_has ls 3 [(0, .long (lN N)), (2, .int (nI 3))] := hl
  refine lv_iload_n gx gb dX3_lead_0 rfl (lv_at hl 1 rfl) ?_
  refine lv_iconst (v := nI 1) gx gb dX3_lead_1 (by decide) ?_
  refine lv_icmp_lt (tgt := 11) gx gb dX3_lead_2 (by decide) (fun c2 => ?_) (fun c2 => ?_)
  · skip
    rw [nI_ltI (by omega) (by omega)] at c2
    exfalso; omega
  · skip
    rw [nI_ltI (by omega) (by omega)] at c2
    refine lv_iload_n gx gb dX3_lead_5 rfl (lv_at hl 1 rfl) ?_
    refine lv_bipush (v := nI 7) gx gb dX3_lead_6 (by decide) ?_
    refine lv_icmp_le (tgt := 13) gx gb dX3_lead_8 (by decide) (fun c8 => ?_) (fun c8 => ?_)
    · skip
      rw [nI_leI (by omega) (by omega)] at c8
      refine lv_lload_n gx gb dX3_lead_13 rfl (lv_at hl 0 rfl) ?_
      refine lv_iload_n gx gb dX3_lead_14 rfl (lv_at hl 1 rfl) ?_
      refine vp_callSi (W.runS (As := [.long (lN N), .int (nI 3)]) (rest := []) ⟨gx, gb, gml, gown, gts⟩ (kX3_leadByFirst_3 Gl N (by omega)) (va_cwS 2 gts gX3_lead_X3_leadByFirst rfl rfl rfl (by decide +kernel) ⟨Nat.le_of_ble_eq_true rfl, Nat.le_of_ble_eq_true rfl⟩) ⟨fun _ _ _ _ h => h, fun U hU hW => ⟨rfl, trivial⟩⟩ rfl rfl hl.1 rfl (lv_room (Nat.le_of_ble_eq_true rfl)) dX3_lead_15 ⟨Nat.le_of_ble_eq_true rfl, Nat.le_of_ble_eq_true rfl⟩) (fun r hw => ?_)
      have hr15 := hw
      subst hr15
      refine lv_lload_n gx gb dX3_lead_18 rfl (lv_at hl 0 rfl) ?_
      refine lv_iload_n gx gb dX3_lead_19 rfl (lv_at hl 1 rfl) ?_
      refine vp_callSi (W.runS (As := [.long (lN N), .int (nI 3)]) (rest := [.int (zI ((dg 256 N 0 : Int) - ldN (N / 256) 2))]) ⟨gx, gb, gml, gown, gts⟩ (kX3_leadByLast_3 Gl N (by omega)) (va_cwS 2 gts gX3_lead_X3_leadByLast rfl rfl rfl (by decide +kernel) ⟨Nat.le_of_ble_eq_true rfl, Nat.le_of_ble_eq_true rfl⟩) ⟨fun _ _ _ _ h => h, fun U hU hW => ⟨rfl, trivial⟩⟩ rfl rfl hl.1 rfl (lv_room (Nat.le_of_ble_eq_true rfl)) dX3_lead_20 ⟨Nat.le_of_ble_eq_true rfl, Nat.le_of_ble_eq_true rfl⟩) (fun r hw => ?_)
      have hr20 := hw
      subst hr20
      have hb1 := ldN_bd 2 (N / 256)
      have hb2 := ldN_bd 2 N
      have hb3 := dg_lt (b := 256) (by omega) N 0
      have hb4 := dg_lt (b := 256) (by omega) N 2
      refine va_mmax gx gb (by rw [gml]; exact hl.1.symm) gown (gts (.methodLink RX3 29 Lib.Math.max.name) (by decide +kernel)) (gts (.static Lib.Math.max.name) (by decide +kernel)) (gts (.initialized "java/lang/Math") (by decide +kernel)) (gts (.code Lib.Math.max.name Lib.Math.max.code 2 (some .int)) (by decide +kernel)) (Nat.le_of_ble_eq_true rfl) (Nat.le_of_ble_eq_true rfl) (Nat.le_of_ble_eq_true rfl) (Nat.le_of_ble_eq_true rfl) dX3_lead_23 ?_
      refine lv_evi (zI (max ((dg 256 N 0 : Int) - ldN (N / 256) 2) ((dg 256 N 2 : Int) - ldN N 2))) (z_max (by omega) (by omega) (by omega) (by omega)) ?_
      exact W.iret (v := zI (max ((dg 256 N 0 : Int) - ldN (N / 256) 2) ((dg 256 N 2 : Int) - ldN N 2))) gx gb gr (fun t ht hW => ⟨zI (max ((dg 256 N 0 : Int) - ldN (N / 256) 2) ((dg 256 N 2 : Int) - ldN N 2)), rfl, (by first | (dsimp only; done) | ((try dsimp only); rfl)), ht⟩) (fun q h => by cases h) dX3_lead_26
    · skip
      rw [nI_leI (by omega) (by omega)] at c8
      exfalso; omega

set_option maxHeartbeats 4000000 in
set_option maxRecDepth 100000 in
theorem kX3_leadByFirst_4 (Gl : Launch) (N : Nat) (hN : N < 9223372036854775808) : Met Gl yX3_leadByFirst wsX3_leadByFirst ({ frames := 7, cells := 0, slots := 0, locals := 154 } : Room) (va_Pc [.long (lN N), .int (nI 4)] (fun _ => True)) (vp_Si (fun r : Int32 => r = zI ((dg 256 N 0 : Int) - ldN (N / 256) 3))) 0 0 (fun _ => False) := by
  refine Met.ofW (cc := cX3_leadByFirst) (maxL := 3) (ret := (some .int)) (by decide +kernel) rfl ?_
  intro Gp Ge Gs Gm Ga Gw Gt Gc G1 Bd gml gv
  obtain ⟨rfl, -⟩ := gv
  have gx := Bd.exec
  have gb := Bd.bytes
  have gr := Bd.returns
  have gts := atoms_spec (ws := wsX3_leadByFirst) Bd.pre
  have gown : Gs.vm.findClass RX3 = some Gm.cls := findClass_of_methodNamed Bd.named
  have glk := Bd.notSynchronized
  have hl := lv_entry ([.long (lN N), .int (nI 4)]) (n := 3) (Nat.le_of_ble_eq_true rfl)
  rw [lg_entry_eq]
  generalize (lg_sl ([.long (lN N), .int (nI 4)]) ++ List.replicate (3 - (lg_sl ([.long (lN N), .int (nI 4)])).length) Slot.unset).toArray = ls at hl ⊢
  have hl : lv_has ls 3 [(0, .long (lN N)), (2, .int (nI 4))] := hl
  refine lv_lload_n gx gb dX3_leadByFirst_0 rfl (lv_at hl 0 rfl) ?_
  refine lv_iconst (v := nI 0) gx gb dX3_leadByFirst_1 (by decide) ?_
  refine vp_callSi (W.runS (As := [.long (lN N), .int (nI 0)]) (rest := []) ⟨gx, gb, gml, gown, gts⟩ (kX3_numberAt Gl N 0 (by omega) (by omega)) (va_cwS 2 gts gX3_leadByFirst_X3_numberAt rfl rfl rfl (by decide +kernel) ⟨Nat.le_of_ble_eq_true rfl, Nat.le_of_ble_eq_true rfl⟩) ⟨fun _ _ _ _ h => h, fun U hU hW => ⟨rfl, trivial⟩⟩ rfl rfl hl.1 rfl (lv_room (Nat.le_of_ble_eq_true rfl)) dX3_leadByFirst_2 ⟨Nat.le_of_ble_eq_true rfl, Nat.le_of_ble_eq_true rfl⟩) (fun r hw => ?_)
  have hr2 := hw
  subst hr2
  refine lv_lload_n gx gb dX3_leadByFirst_5 rfl (lv_at hl 0 rfl) ?_
  refine lv_bipush (v := nI 8) gx gb dX3_leadByFirst_6 (by decide) ?_
  refine lv_lshr (v := lN (N / 2 ^ 8)) gx gb dX3_leadByFirst_8 (e_shrL (by omega) (by omega)) ?_
  refine lv_iload_n gx gb dX3_leadByFirst_9 rfl (lv_at hl 1 rfl) ?_
  refine lv_iconst (v := nI 1) gx gb dX3_leadByFirst_10 (by decide) ?_
  refine lv_isub gx gb dX3_leadByFirst_11 ?_
  refine lv_evi (nI (4 - 1)) (e_sub (by omega)) ?_
  have hdv := Nat.div_le_self N (2 ^ 8)
  refine vp_callSi (W.runS (As := [.long (lN (N / 2 ^ 8)), .int (nI 3)]) (rest := [.int (nI (dg 256 N 0))]) ⟨gx, gb, gml, gown, gts⟩ (kX3_lead_3 Gl (N / 2 ^ 8) (by omega)) (va_cwS 2 gts gX3_leadByFirst_X3_lead rfl rfl rfl (by decide +kernel) ⟨Nat.le_of_ble_eq_true rfl, Nat.le_of_ble_eq_true rfl⟩) ⟨fun _ _ _ _ h => h, fun U hU hW => ⟨rfl, trivial⟩⟩ rfl rfl hl.1 rfl (lv_room (Nat.le_of_ble_eq_true rfl)) dX3_leadByFirst_12 ⟨Nat.le_of_ble_eq_true rfl, Nat.le_of_ble_eq_true rfl⟩) (fun r hw => ?_)
  have hr12 := hw
  subst hr12
  have hb1 := ldN_bd 3 (N / 256)
  refine lv_isub gx gb dX3_leadByFirst_15 ?_
  refine lv_evi (zI (((dg 256 N 0 : Nat) : Int) - (ldN (N / 2 ^ 8) 3))) (by rw [nI_zc (dg 256 N 0)]; exact zI_sub ((dg 256 N 0 : Nat) : Int) (ldN (N / 2 ^ 8) 3)) ?_
  exact W.iret (v := zI (((dg 256 N 0 : Nat) : Int) - (ldN (N / 2 ^ 8) 3))) gx gb gr (fun t ht hW => ⟨zI (((dg 256 N 0 : Nat) : Int) - (ldN (N / 2 ^ 8) 3)), rfl, (by first | (dsimp only; done) | ((try dsimp only); rfl)), ht⟩) (fun q h => by cases h) dX3_leadByFirst_16

set_option maxHeartbeats 4000000 in
set_option maxRecDepth 100000 in
theorem kX3_leadByLast_4 (Gl : Launch) (N : Nat) (hN : N < 9223372036854775808) : Met Gl yX3_leadByLast wsX3_leadByLast ({ frames := 7, cells := 0, slots := 0, locals := 154 } : Room) (va_Pc [.long (lN N), .int (nI 4)] (fun _ => True)) (vp_Si (fun r : Int32 => r = zI ((dg 256 N 3 : Int) - ldN N 3))) 0 0 (fun _ => False) := by
  refine Met.ofW (cc := cX3_leadByLast) (maxL := 3) (ret := (some .int)) (by decide +kernel) rfl ?_
  intro Gp Ge Gs Gm Ga Gw Gt Gc G1 Bd gml gv
  obtain ⟨rfl, -⟩ := gv
  have gx := Bd.exec
  have gb := Bd.bytes
  have gr := Bd.returns
  have gts := atoms_spec (ws := wsX3_leadByLast) Bd.pre
  have gown : Gs.vm.findClass RX3 = some Gm.cls := findClass_of_methodNamed Bd.named
  have glk := Bd.notSynchronized
  have hl := lv_entry ([.long (lN N), .int (nI 4)]) (n := 3) (Nat.le_of_ble_eq_true rfl)
  rw [lg_entry_eq]
  generalize (lg_sl ([.long (lN N), .int (nI 4)]) ++ List.replicate (3 - (lg_sl ([.long (lN N), .int (nI 4)])).length) Slot.unset).toArray = ls at hl ⊢
  have hl : lv_has ls 3 [(0, .long (lN N)), (2, .int (nI 4))] := hl
  refine lv_lload_n gx gb dX3_leadByLast_0 rfl (lv_at hl 0 rfl) ?_
  refine lv_iload_n gx gb dX3_leadByLast_1 rfl (lv_at hl 1 rfl) ?_
  refine lv_iconst (v := nI 1) gx gb dX3_leadByLast_2 (by decide) ?_
  refine lv_isub gx gb dX3_leadByLast_3 ?_
  refine lv_evi (nI (4 - 1)) (e_sub (by omega)) ?_
  refine vp_callSi (W.runS (As := [.long (lN N), .int (nI (4 - 1))]) (rest := []) ⟨gx, gb, gml, gown, gts⟩ (kX3_numberAt Gl N (4 - 1) (by omega) (by omega)) (va_cwS 2 gts gX3_leadByLast_X3_numberAt rfl rfl rfl (by decide +kernel) ⟨Nat.le_of_ble_eq_true rfl, Nat.le_of_ble_eq_true rfl⟩) ⟨fun _ _ _ _ h => h, fun U hU hW => ⟨rfl, trivial⟩⟩ rfl rfl hl.1 rfl (lv_room (Nat.le_of_ble_eq_true rfl)) dX3_leadByLast_4 ⟨Nat.le_of_ble_eq_true rfl, Nat.le_of_ble_eq_true rfl⟩) (fun r hw => ?_)
  have hr4 := hw
  subst hr4
  refine lv_lload_n gx gb dX3_leadByLast_7 rfl (lv_at hl 0 rfl) ?_
  refine lv_iload_n gx gb dX3_leadByLast_8 rfl (lv_at hl 1 rfl) ?_
  refine lv_iconst (v := nI 1) gx gb dX3_leadByLast_9 (by decide) ?_
  refine lv_isub gx gb dX3_leadByLast_10 ?_
  refine lv_evi (nI (4 - 1)) (e_sub (by omega)) ?_
  refine vp_callSi (W.runS (As := [.long (lN N), .int (nI 3)]) (rest := [.int (nI (dg 256 N (4 - 1)))]) ⟨gx, gb, gml, gown, gts⟩ (kX3_lead_3 Gl N (by omega)) (va_cwS 2 gts gX3_leadByLast_X3_lead rfl rfl rfl (by decide +kernel) ⟨Nat.le_of_ble_eq_true rfl, Nat.le_of_ble_eq_true rfl⟩) ⟨fun _ _ _ _ h => h, fun U hU hW => ⟨rfl, trivial⟩⟩ rfl rfl hl.1 rfl (lv_room (Nat.le_of_ble_eq_true rfl)) dX3_leadByLast_11 ⟨Nat.le_of_ble_eq_true rfl, Nat.le_of_ble_eq_true rfl⟩) (fun r hw => ?_)
  have hr11 := hw
  subst hr11
  refine lv_isub gx gb dX3_leadByLast_14 ?_
  refine lv_evi (zI (((dg 256 N (4 - 1) : Nat) : Int) - (ldN N 3))) (by rw [nI_zc (dg 256 N (4 - 1))]; exact zI_sub ((dg 256 N (4 - 1) : Nat) : Int) (ldN N 3)) ?_
  exact W.iret (v := zI (((dg 256 N (4 - 1) : Nat) : Int) - (ldN N 3))) gx gb gr (fun t ht hW => ⟨zI (((dg 256 N (4 - 1) : Nat) : Int) - (ldN N 3)), rfl, (by first | (dsimp only; done) | ((try dsimp only); rfl)), ht⟩) (fun q h => by cases h) dX3_leadByLast_15

set_option maxHeartbeats 4000000 in
set_option maxRecDepth 100000 in
theorem kX3_lead_4 (Gl : Launch) (N : Nat) (hN : N < 9223372036854775808) : Met Gl yX3_lead wsX3_lead ({ frames := 8, cells := 0, slots := 0, locals := 176 } : Room) (va_Pc [.long (lN N), .int (nI 4)] (fun _ => True)) (vp_Si (fun r : Int32 => r = zI (ldN N 4))) 0 0 (fun _ => False) := by
  refine Met.ofW (cc := cX3_lead) (maxL := 3) (ret := (some .int)) (by decide +kernel) rfl ?_
  intro Gp Ge Gs Gm Ga Gw Gt Gc G1 Bd gml gv
  obtain ⟨rfl, -⟩ := gv
  have gx := Bd.exec
  have gb := Bd.bytes
  have gr := Bd.returns
  have gts := atoms_spec (ws := wsX3_lead) Bd.pre
  have gown : Gs.vm.findClass RX3 = some Gm.cls := findClass_of_methodNamed Bd.named
  have glk := Bd.notSynchronized
  have hl := lv_entry ([.long (lN N), .int (nI 4)]) (n := 3) (Nat.le_of_ble_eq_true rfl)
  rw [lg_entry_eq]
  generalize (lg_sl ([.long (lN N), .int (nI 4)]) ++ List.replicate (3 - (lg_sl ([.long (lN N), .int (nI 4)])).length) Slot.unset).toArray = ls at hl ⊢
  have hl : lv_has ls 3 [(0, .long (lN N)), (2, .int (nI 4))] := hl
  refine lv_iload_n gx gb dX3_lead_0 rfl (lv_at hl 1 rfl) ?_
  refine lv_iconst (v := nI 1) gx gb dX3_lead_1 (by decide) ?_
  refine lv_icmp_lt (tgt := 11) gx gb dX3_lead_2 (by decide) (fun c2 => ?_) (fun c2 => ?_)
  · skip
    rw [nI_ltI (by omega) (by omega)] at c2
    exfalso; omega
  · skip
    rw [nI_ltI (by omega) (by omega)] at c2
    refine lv_iload_n gx gb dX3_lead_5 rfl (lv_at hl 1 rfl) ?_
    refine lv_bipush (v := nI 7) gx gb dX3_lead_6 (by decide) ?_
    refine lv_icmp_le (tgt := 13) gx gb dX3_lead_8 (by decide) (fun c8 => ?_) (fun c8 => ?_)
    · skip
      rw [nI_leI (by omega) (by omega)] at c8
      refine lv_lload_n gx gb dX3_lead_13 rfl (lv_at hl 0 rfl) ?_
      refine lv_iload_n gx gb dX3_lead_14 rfl (lv_at hl 1 rfl) ?_
      refine vp_callSi (W.runS (As := [.long (lN N), .int (nI 4)]) (rest := []) ⟨gx, gb, gml, gown, gts⟩ (kX3_leadByFirst_4 Gl N (by omega)) (va_cwS 2 gts gX3_lead_X3_leadByFirst rfl rfl rfl (by decide +kernel) ⟨Nat.le_of_ble_eq_true rfl, Nat.le_of_ble_eq_true rfl⟩) ⟨fun _ _ _ _ h => h, fun U hU hW => ⟨rfl, trivial⟩⟩ rfl rfl hl.1 rfl (lv_room (Nat.le_of_ble_eq_true rfl)) dX3_lead_15 ⟨Nat.le_of_ble_eq_true rfl, Nat.le_of_ble_eq_true rfl⟩) (fun r hw => ?_)
      have hr15 := hw
      subst hr15
      refine lv_lload_n gx gb dX3_lead_18 rfl (lv_at hl 0 rfl) ?_
      refine lv_iload_n gx gb dX3_lead_19 rfl (lv_at hl 1 rfl) ?_
      refine vp_callSi (W.runS (As := [.long (lN N), .int (nI 4)]) (rest := [.int (zI ((dg 256 N 0 : Int) - ldN (N / 256) 3))]) ⟨gx, gb, gml, gown, gts⟩ (kX3_leadByLast_4 Gl N (by omega)) (va_cwS 2 gts gX3_lead_X3_leadByLast rfl rfl rfl (by decide +kernel) ⟨Nat.le_of_ble_eq_true rfl, Nat.le_of_ble_eq_true rfl⟩) ⟨fun _ _ _ _ h => h, fun U hU hW => ⟨rfl, trivial⟩⟩ rfl rfl hl.1 rfl (lv_room (Nat.le_of_ble_eq_true rfl)) dX3_lead_20 ⟨Nat.le_of_ble_eq_true rfl, Nat.le_of_ble_eq_true rfl⟩) (fun r hw => ?_)
      have hr20 := hw
      subst hr20
      have hb1 := ldN_bd 3 (N / 256)
      have hb2 := ldN_bd 3 N
      have hb3 := dg_lt (b := 256) (by omega) N 0
      have hb4 := dg_lt (b := 256) (by omega) N 3
      refine va_mmax gx gb (by rw [gml]; exact hl.1.symm) gown (gts (.methodLink RX3 29 Lib.Math.max.name) (by decide +kernel)) (gts (.static Lib.Math.max.name) (by decide +kernel)) (gts (.initialized "java/lang/Math") (by decide +kernel)) (gts (.code Lib.Math.max.name Lib.Math.max.code 2 (some .int)) (by decide +kernel)) (Nat.le_of_ble_eq_true rfl) (Nat.le_of_ble_eq_true rfl) (Nat.le_of_ble_eq_true rfl) (Nat.le_of_ble_eq_true rfl) dX3_lead_23 ?_
      refine lv_evi (zI (max ((dg 256 N 0 : Int) - ldN (N / 256) 3) ((dg 256 N 3 : Int) - ldN N 3))) (z_max (by omega) (by omega) (by omega) (by omega)) ?_
      exact W.iret (v := zI (max ((dg 256 N 0 : Int) - ldN (N / 256) 3) ((dg 256 N 3 : Int) - ldN N 3))) gx gb gr (fun t ht hW => ⟨zI (max ((dg 256 N 0 : Int) - ldN (N / 256) 3) ((dg 256 N 3 : Int) - ldN N 3)), rfl, (by first | (dsimp only; done) | ((try dsimp only); rfl)), ht⟩) (fun q h => by cases h) dX3_lead_26
    · skip
      rw [nI_leI (by omega) (by omega)] at c8
      exfalso; omega

set_option maxHeartbeats 4000000 in
set_option maxRecDepth 100000 in
theorem kX3_leadByFirst_5 (Gl : Launch) (N : Nat) (hN : N < 9223372036854775808) : Met Gl yX3_leadByFirst wsX3_leadByFirst ({ frames := 9, cells := 0, slots := 0, locals := 198 } : Room) (va_Pc [.long (lN N), .int (nI 5)] (fun _ => True)) (vp_Si (fun r : Int32 => r = zI ((dg 256 N 0 : Int) - ldN (N / 256) 4))) 0 0 (fun _ => False) := by
  refine Met.ofW (cc := cX3_leadByFirst) (maxL := 3) (ret := (some .int)) (by decide +kernel) rfl ?_
  intro Gp Ge Gs Gm Ga Gw Gt Gc G1 Bd gml gv
  obtain ⟨rfl, -⟩ := gv
  have gx := Bd.exec
  have gb := Bd.bytes
  have gr := Bd.returns
  have gts := atoms_spec (ws := wsX3_leadByFirst) Bd.pre
  have gown : Gs.vm.findClass RX3 = some Gm.cls := findClass_of_methodNamed Bd.named
  have glk := Bd.notSynchronized
  have hl := lv_entry ([.long (lN N), .int (nI 5)]) (n := 3) (Nat.le_of_ble_eq_true rfl)
  rw [lg_entry_eq]
  generalize (lg_sl ([.long (lN N), .int (nI 5)]) ++ List.replicate (3 - (lg_sl ([.long (lN N), .int (nI 5)])).length) Slot.unset).toArray = ls at hl ⊢
  have hl : lv_has ls 3 [(0, .long (lN N)), (2, .int (nI 5))] := hl
  refine lv_lload_n gx gb dX3_leadByFirst_0 rfl (lv_at hl 0 rfl) ?_
  refine lv_iconst (v := nI 0) gx gb dX3_leadByFirst_1 (by decide) ?_
  refine vp_callSi (W.runS (As := [.long (lN N), .int (nI 0)]) (rest := []) ⟨gx, gb, gml, gown, gts⟩ (kX3_numberAt Gl N 0 (by omega) (by omega)) (va_cwS 2 gts gX3_leadByFirst_X3_numberAt rfl rfl rfl (by decide +kernel) ⟨Nat.le_of_ble_eq_true rfl, Nat.le_of_ble_eq_true rfl⟩) ⟨fun _ _ _ _ h => h, fun U hU hW => ⟨rfl, trivial⟩⟩ rfl rfl hl.1 rfl (lv_room (Nat.le_of_ble_eq_true rfl)) dX3_leadByFirst_2 ⟨Nat.le_of_ble_eq_true rfl, Nat.le_of_ble_eq_true rfl⟩) (fun r hw => ?_)
  have hr2 := hw
  subst hr2
  refine lv_lload_n gx gb dX3_leadByFirst_5 rfl (lv_at hl 0 rfl) ?_
  refine lv_bipush (v := nI 8) gx gb dX3_leadByFirst_6 (by decide) ?_
  refine lv_lshr (v := lN (N / 2 ^ 8)) gx gb dX3_leadByFirst_8 (e_shrL (by omega) (by omega)) ?_
  refine lv_iload_n gx gb dX3_leadByFirst_9 rfl (lv_at hl 1 rfl) ?_
  refine lv_iconst (v := nI 1) gx gb dX3_leadByFirst_10 (by decide) ?_
  refine lv_isub gx gb dX3_leadByFirst_11 ?_
  refine lv_evi (nI (5 - 1)) (e_sub (by omega)) ?_
  have hdv := Nat.div_le_self N (2 ^ 8)
  refine vp_callSi (W.runS (As := [.long (lN (N / 2 ^ 8)), .int (nI 4)]) (rest := [.int (nI (dg 256 N 0))]) ⟨gx, gb, gml, gown, gts⟩ (kX3_lead_4 Gl (N / 2 ^ 8) (by omega)) (va_cwS 2 gts gX3_leadByFirst_X3_lead rfl rfl rfl (by decide +kernel) ⟨Nat.le_of_ble_eq_true rfl, Nat.le_of_ble_eq_true rfl⟩) ⟨fun _ _ _ _ h => h, fun U hU hW => ⟨rfl, trivial⟩⟩ rfl rfl hl.1 rfl (lv_room (Nat.le_of_ble_eq_true rfl)) dX3_leadByFirst_12 ⟨Nat.le_of_ble_eq_true rfl, Nat.le_of_ble_eq_true rfl⟩) (fun r hw => ?_)
  have hr12 := hw
  subst hr12
  have hb1 := ldN_bd 4 (N / 256)
  refine lv_isub gx gb dX3_leadByFirst_15 ?_
  refine lv_evi (zI (((dg 256 N 0 : Nat) : Int) - (ldN (N / 2 ^ 8) 4))) (by rw [nI_zc (dg 256 N 0)]; exact zI_sub ((dg 256 N 0 : Nat) : Int) (ldN (N / 2 ^ 8) 4)) ?_
  exact W.iret (v := zI (((dg 256 N 0 : Nat) : Int) - (ldN (N / 2 ^ 8) 4))) gx gb gr (fun t ht hW => ⟨zI (((dg 256 N 0 : Nat) : Int) - (ldN (N / 2 ^ 8) 4)), rfl, (by first | (dsimp only; done) | ((try dsimp only); rfl)), ht⟩) (fun q h => by cases h) dX3_leadByFirst_16

set_option maxHeartbeats 4000000 in
set_option maxRecDepth 100000 in
theorem kX3_leadByLast_5 (Gl : Launch) (N : Nat) (hN : N < 9223372036854775808) : Met Gl yX3_leadByLast wsX3_leadByLast ({ frames := 9, cells := 0, slots := 0, locals := 198 } : Room) (va_Pc [.long (lN N), .int (nI 5)] (fun _ => True)) (vp_Si (fun r : Int32 => r = zI ((dg 256 N 4 : Int) - ldN N 4))) 0 0 (fun _ => False) := by
  refine Met.ofW (cc := cX3_leadByLast) (maxL := 3) (ret := (some .int)) (by decide +kernel) rfl ?_
  intro Gp Ge Gs Gm Ga Gw Gt Gc G1 Bd gml gv
  obtain ⟨rfl, -⟩ := gv
  have gx := Bd.exec
  have gb := Bd.bytes
  have gr := Bd.returns
  have gts := atoms_spec (ws := wsX3_leadByLast) Bd.pre
  have gown : Gs.vm.findClass RX3 = some Gm.cls := findClass_of_methodNamed Bd.named
  have glk := Bd.notSynchronized
  have hl := lv_entry ([.long (lN N), .int (nI 5)]) (n := 3) (Nat.le_of_ble_eq_true rfl)
  rw [lg_entry_eq]
  generalize (lg_sl ([.long (lN N), .int (nI 5)]) ++ List.replicate (3 - (lg_sl ([.long (lN N), .int (nI 5)])).length) Slot.unset).toArray = ls at hl ⊢
  have hl : lv_has ls 3 [(0, .long (lN N)), (2, .int (nI 5))] := hl
  refine lv_lload_n gx gb dX3_leadByLast_0 rfl (lv_at hl 0 rfl) ?_
  refine lv_iload_n gx gb dX3_leadByLast_1 rfl (lv_at hl 1 rfl) ?_
  refine lv_iconst (v := nI 1) gx gb dX3_leadByLast_2 (by decide) ?_
  refine lv_isub gx gb dX3_leadByLast_3 ?_
  refine lv_evi (nI (5 - 1)) (e_sub (by omega)) ?_
  refine vp_callSi (W.runS (As := [.long (lN N), .int (nI (5 - 1))]) (rest := []) ⟨gx, gb, gml, gown, gts⟩ (kX3_numberAt Gl N (5 - 1) (by omega) (by omega)) (va_cwS 2 gts gX3_leadByLast_X3_numberAt rfl rfl rfl (by decide +kernel) ⟨Nat.le_of_ble_eq_true rfl, Nat.le_of_ble_eq_true rfl⟩) ⟨fun _ _ _ _ h => h, fun U hU hW => ⟨rfl, trivial⟩⟩ rfl rfl hl.1 rfl (lv_room (Nat.le_of_ble_eq_true rfl)) dX3_leadByLast_4 ⟨Nat.le_of_ble_eq_true rfl, Nat.le_of_ble_eq_true rfl⟩) (fun r hw => ?_)
  have hr4 := hw
  subst hr4
  refine lv_lload_n gx gb dX3_leadByLast_7 rfl (lv_at hl 0 rfl) ?_
  refine lv_iload_n gx gb dX3_leadByLast_8 rfl (lv_at hl 1 rfl) ?_
  refine lv_iconst (v := nI 1) gx gb dX3_leadByLast_9 (by decide) ?_
  refine lv_isub gx gb dX3_leadByLast_10 ?_
  refine lv_evi (nI (5 - 1)) (e_sub (by omega)) ?_
  refine vp_callSi (W.runS (As := [.long (lN N), .int (nI 4)]) (rest := [.int (nI (dg 256 N (5 - 1)))]) ⟨gx, gb, gml, gown, gts⟩ (kX3_lead_4 Gl N (by omega)) (va_cwS 2 gts gX3_leadByLast_X3_lead rfl rfl rfl (by decide +kernel) ⟨Nat.le_of_ble_eq_true rfl, Nat.le_of_ble_eq_true rfl⟩) ⟨fun _ _ _ _ h => h, fun U hU hW => ⟨rfl, trivial⟩⟩ rfl rfl hl.1 rfl (lv_room (Nat.le_of_ble_eq_true rfl)) dX3_leadByLast_11 ⟨Nat.le_of_ble_eq_true rfl, Nat.le_of_ble_eq_true rfl⟩) (fun r hw => ?_)
  have hr11 := hw
  subst hr11
  refine lv_isub gx gb dX3_leadByLast_14 ?_
  refine lv_evi (zI (((dg 256 N (5 - 1) : Nat) : Int) - (ldN N 4))) (by rw [nI_zc (dg 256 N (5 - 1))]; exact zI_sub ((dg 256 N (5 - 1) : Nat) : Int) (ldN N 4)) ?_
  exact W.iret (v := zI (((dg 256 N (5 - 1) : Nat) : Int) - (ldN N 4))) gx gb gr (fun t ht hW => ⟨zI (((dg 256 N (5 - 1) : Nat) : Int) - (ldN N 4)), rfl, (by first | (dsimp only; done) | ((try dsimp only); rfl)), ht⟩) (fun q h => by cases h) dX3_leadByLast_15

set_option maxHeartbeats 4000000 in
set_option maxRecDepth 100000 in
theorem kX3_lead_5 (Gl : Launch) (N : Nat) (hN : N < 9223372036854775808) : Met Gl yX3_lead wsX3_lead ({ frames := 10, cells := 0, slots := 0, locals := 220 } : Room) (va_Pc [.long (lN N), .int (nI 5)] (fun _ => True)) (vp_Si (fun r : Int32 => r = zI (ldN N 5))) 0 0 (fun _ => False) := by
  refine Met.ofW (cc := cX3_lead) (maxL := 3) (ret := (some .int)) (by decide +kernel) rfl ?_
  intro Gp Ge Gs Gm Ga Gw Gt Gc G1 Bd gml gv
  obtain ⟨rfl, -⟩ := gv
  have gx := Bd.exec
  have gb := Bd.bytes
  have gr := Bd.returns
  have gts := atoms_spec (ws := wsX3_lead) Bd.pre
  have gown : Gs.vm.findClass RX3 = some Gm.cls := findClass_of_methodNamed Bd.named
  have glk := Bd.notSynchronized
  have hl := lv_entry ([.long (lN N), .int (nI 5)]) (n := 3) (Nat.le_of_ble_eq_true rfl)
  rw [lg_entry_eq]
  generalize (lg_sl ([.long (lN N), .int (nI 5)]) ++ List.replicate (3 - (lg_sl ([.long (lN N), .int (nI 5)])).length) Slot.unset).toArray = ls at hl ⊢
  have hl : lv_has ls 3 [(0, .long (lN N)), (2, .int (nI 5))] := hl
  refine lv_iload_n gx gb dX3_lead_0 rfl (lv_at hl 1 rfl) ?_
  refine lv_iconst (v := nI 1) gx gb dX3_lead_1 (by decide) ?_
  refine lv_icmp_lt (tgt := 11) gx gb dX3_lead_2 (by decide) (fun c2 => ?_) (fun c2 => ?_)
  · skip
    rw [nI_ltI (by omega) (by omega)] at c2
    exfalso; omega
  · skip
    rw [nI_ltI (by omega) (by omega)] at c2
    refine lv_iload_n gx gb dX3_lead_5 rfl (lv_at hl 1 rfl) ?_
    refine lv_bipush (v := nI 7) gx gb dX3_lead_6 (by decide) ?_
    refine lv_icmp_le (tgt := 13) gx gb dX3_lead_8 (by decide) (fun c8 => ?_) (fun c8 => ?_)
    · skip
      rw [nI_leI (by omega) (by omega)] at c8
      refine lv_lload_n gx gb dX3_lead_13 rfl (lv_at hl 0 rfl) ?_
      refine lv_iload_n gx gb dX3_lead_14 rfl (lv_at hl 1 rfl) ?_
      refine vp_callSi (W.runS (As := [.long (lN N), .int (nI 5)]) (rest := []) ⟨gx, gb, gml, gown, gts⟩ (kX3_leadByFirst_5 Gl N (by omega)) (va_cwS 2 gts gX3_lead_X3_leadByFirst rfl rfl rfl (by decide +kernel) ⟨Nat.le_of_ble_eq_true rfl, Nat.le_of_ble_eq_true rfl⟩) ⟨fun _ _ _ _ h => h, fun U hU hW => ⟨rfl, trivial⟩⟩ rfl rfl hl.1 rfl (lv_room (Nat.le_of_ble_eq_true rfl)) dX3_lead_15 ⟨Nat.le_of_ble_eq_true rfl, Nat.le_of_ble_eq_true rfl⟩) (fun r hw => ?_)
      have hr15 := hw
      subst hr15
      refine lv_lload_n gx gb dX3_lead_18 rfl (lv_at hl 0 rfl) ?_
      refine lv_iload_n gx gb dX3_lead_19 rfl (lv_at hl 1 rfl) ?_
      refine vp_callSi (W.runS (As := [.long (lN N), .int (nI 5)]) (rest := [.int (zI ((dg 256 N 0 : Int) - ldN (N / 256) 4))]) ⟨gx, gb, gml, gown, gts⟩ (kX3_leadByLast_5 Gl N (by omega)) (va_cwS 2 gts gX3_lead_X3_leadByLast rfl rfl rfl (by decide +kernel) ⟨Nat.le_of_ble_eq_true rfl, Nat.le_of_ble_eq_true rfl⟩) ⟨fun _ _ _ _ h => h, fun U hU hW => ⟨rfl, trivial⟩⟩ rfl rfl hl.1 rfl (lv_room (Nat.le_of_ble_eq_true rfl)) dX3_lead_20 ⟨Nat.le_of_ble_eq_true rfl, Nat.le_of_ble_eq_true rfl⟩) (fun r hw => ?_)
      have hr20 := hw
      subst hr20
      have hb1 := ldN_bd 4 (N / 256)
      have hb2 := ldN_bd 4 N
      have hb3 := dg_lt (b := 256) (by omega) N 0
      have hb4 := dg_lt (b := 256) (by omega) N 4
      refine va_mmax gx gb (by rw [gml]; exact hl.1.symm) gown (gts (.methodLink RX3 29 Lib.Math.max.name) (by decide +kernel)) (gts (.static Lib.Math.max.name) (by decide +kernel)) (gts (.initialized "java/lang/Math") (by decide +kernel)) (gts (.code Lib.Math.max.name Lib.Math.max.code 2 (some .int)) (by decide +kernel)) (Nat.le_of_ble_eq_true rfl) (Nat.le_of_ble_eq_true rfl) (Nat.le_of_ble_eq_true rfl) (Nat.le_of_ble_eq_true rfl) dX3_lead_23 ?_
      refine lv_evi (zI (max ((dg 256 N 0 : Int) - ldN (N / 256) 4) ((dg 256 N 4 : Int) - ldN N 4))) (z_max (by omega) (by omega) (by omega) (by omega)) ?_
      exact W.iret (v := zI (max ((dg 256 N 0 : Int) - ldN (N / 256) 4) ((dg 256 N 4 : Int) - ldN N 4))) gx gb gr (fun t ht hW => ⟨zI (max ((dg 256 N 0 : Int) - ldN (N / 256) 4) ((dg 256 N 4 : Int) - ldN N 4)), rfl, (by first | (dsimp only; done) | ((try dsimp only); rfl)), ht⟩) (fun q h => by cases h) dX3_lead_26
    · skip
      rw [nI_leI (by omega) (by omega)] at c8
      exfalso; omega

set_option maxHeartbeats 4000000 in
set_option maxRecDepth 100000 in
theorem kX3_leadByFirst_6 (Gl : Launch) (N : Nat) (hN : N < 9223372036854775808) : Met Gl yX3_leadByFirst wsX3_leadByFirst ({ frames := 11, cells := 0, slots := 0, locals := 242 } : Room) (va_Pc [.long (lN N), .int (nI 6)] (fun _ => True)) (vp_Si (fun r : Int32 => r = zI ((dg 256 N 0 : Int) - ldN (N / 256) 5))) 0 0 (fun _ => False) := by
  refine Met.ofW (cc := cX3_leadByFirst) (maxL := 3) (ret := (some .int)) (by decide +kernel) rfl ?_
  intro Gp Ge Gs Gm Ga Gw Gt Gc G1 Bd gml gv
  obtain ⟨rfl, -⟩ := gv
  have gx := Bd.exec
  have gb := Bd.bytes
  have gr := Bd.returns
  have gts := atoms_spec (ws := wsX3_leadByFirst) Bd.pre
  have gown : Gs.vm.findClass RX3 = some Gm.cls := findClass_of_methodNamed Bd.named
  have glk := Bd.notSynchronized
  have hl := lv_entry ([.long (lN N), .int (nI 6)]) (n := 3) (Nat.le_of_ble_eq_true rfl)
  rw [lg_entry_eq]
  generalize (lg_sl ([.long (lN N), .int (nI 6)]) ++ List.replicate (3 - (lg_sl ([.long (lN N), .int (nI 6)])).length) Slot.unset).toArray = ls at hl ⊢
  have hl : lv_has ls 3 [(0, .long (lN N)), (2, .int (nI 6))] := hl
  refine lv_lload_n gx gb dX3_leadByFirst_0 rfl (lv_at hl 0 rfl) ?_
  refine lv_iconst (v := nI 0) gx gb dX3_leadByFirst_1 (by decide) ?_
  refine vp_callSi (W.runS (As := [.long (lN N), .int (nI 0)]) (rest := []) ⟨gx, gb, gml, gown, gts⟩ (kX3_numberAt Gl N 0 (by omega) (by omega)) (va_cwS 2 gts gX3_leadByFirst_X3_numberAt rfl rfl rfl (by decide +kernel) ⟨Nat.le_of_ble_eq_true rfl, Nat.le_of_ble_eq_true rfl⟩) ⟨fun _ _ _ _ h => h, fun U hU hW => ⟨rfl, trivial⟩⟩ rfl rfl hl.1 rfl (lv_room (Nat.le_of_ble_eq_true rfl)) dX3_leadByFirst_2 ⟨Nat.le_of_ble_eq_true rfl, Nat.le_of_ble_eq_true rfl⟩) (fun r hw => ?_)
  have hr2 := hw
  subst hr2
  refine lv_lload_n gx gb dX3_leadByFirst_5 rfl (lv_at hl 0 rfl) ?_
  refine lv_bipush (v := nI 8) gx gb dX3_leadByFirst_6 (by decide) ?_
  refine lv_lshr (v := lN (N / 2 ^ 8)) gx gb dX3_leadByFirst_8 (e_shrL (by omega) (by omega)) ?_
  refine lv_iload_n gx gb dX3_leadByFirst_9 rfl (lv_at hl 1 rfl) ?_
  refine lv_iconst (v := nI 1) gx gb dX3_leadByFirst_10 (by decide) ?_
  refine lv_isub gx gb dX3_leadByFirst_11 ?_
  refine lv_evi (nI (6 - 1)) (e_sub (by omega)) ?_
  have hdv := Nat.div_le_self N (2 ^ 8)
  refine vp_callSi (W.runS (As := [.long (lN (N / 2 ^ 8)), .int (nI 5)]) (rest := [.int (nI (dg 256 N 0))]) ⟨gx, gb, gml, gown, gts⟩ (kX3_lead_5 Gl (N / 2 ^ 8) (by omega)) (va_cwS 2 gts gX3_leadByFirst_X3_lead rfl rfl rfl (by decide +kernel) ⟨Nat.le_of_ble_eq_true rfl, Nat.le_of_ble_eq_true rfl⟩) ⟨fun _ _ _ _ h => h, fun U hU hW => ⟨rfl, trivial⟩⟩ rfl rfl hl.1 rfl (lv_room (Nat.le_of_ble_eq_true rfl)) dX3_leadByFirst_12 ⟨Nat.le_of_ble_eq_true rfl, Nat.le_of_ble_eq_true rfl⟩) (fun r hw => ?_)
  have hr12 := hw
  subst hr12
  have hb1 := ldN_bd 5 (N / 256)
  refine lv_isub gx gb dX3_leadByFirst_15 ?_
  refine lv_evi (zI (((dg 256 N 0 : Nat) : Int) - (ldN (N / 2 ^ 8) 5))) (by rw [nI_zc (dg 256 N 0)]; exact zI_sub ((dg 256 N 0 : Nat) : Int) (ldN (N / 2 ^ 8) 5)) ?_
  exact W.iret (v := zI (((dg 256 N 0 : Nat) : Int) - (ldN (N / 2 ^ 8) 5))) gx gb gr (fun t ht hW => ⟨zI (((dg 256 N 0 : Nat) : Int) - (ldN (N / 2 ^ 8) 5)), rfl, (by first | (dsimp only; done) | ((try dsimp only); rfl)), ht⟩) (fun q h => by cases h) dX3_leadByFirst_16

set_option maxHeartbeats 4000000 in
set_option maxRecDepth 100000 in
theorem kX3_leadByLast_6 (Gl : Launch) (N : Nat) (hN : N < 9223372036854775808) : Met Gl yX3_leadByLast wsX3_leadByLast ({ frames := 11, cells := 0, slots := 0, locals := 242 } : Room) (va_Pc [.long (lN N), .int (nI 6)] (fun _ => True)) (vp_Si (fun r : Int32 => r = zI ((dg 256 N 5 : Int) - ldN N 5))) 0 0 (fun _ => False) := by
  refine Met.ofW (cc := cX3_leadByLast) (maxL := 3) (ret := (some .int)) (by decide +kernel) rfl ?_
  intro Gp Ge Gs Gm Ga Gw Gt Gc G1 Bd gml gv
  obtain ⟨rfl, -⟩ := gv
  have gx := Bd.exec
  have gb := Bd.bytes
  have gr := Bd.returns
  have gts := atoms_spec (ws := wsX3_leadByLast) Bd.pre
  have gown : Gs.vm.findClass RX3 = some Gm.cls := findClass_of_methodNamed Bd.named
  have glk := Bd.notSynchronized
  have hl := lv_entry ([.long (lN N), .int (nI 6)]) (n := 3) (Nat.le_of_ble_eq_true rfl)
  rw [lg_entry_eq]
  generalize (lg_sl ([.long (lN N), .int (nI 6)]) ++ List.replicate (3 - (lg_sl ([.long (lN N), .int (nI 6)])).length) Slot.unset).toArray = ls at hl ⊢
  have hl : lv_has ls 3 [(0, .long (lN N)), (2, .int (nI 6))] := hl
  refine lv_lload_n gx gb dX3_leadByLast_0 rfl (lv_at hl 0 rfl) ?_
  refine lv_iload_n gx gb dX3_leadByLast_1 rfl (lv_at hl 1 rfl) ?_
  refine lv_iconst (v := nI 1) gx gb dX3_leadByLast_2 (by decide) ?_
  refine lv_isub gx gb dX3_leadByLast_3 ?_
  refine lv_evi (nI (6 - 1)) (e_sub (by omega)) ?_
  refine vp_callSi (W.runS (As := [.long (lN N), .int (nI (6 - 1))]) (rest := []) ⟨gx, gb, gml, gown, gts⟩ (kX3_numberAt Gl N (6 - 1) (by omega) (by omega)) (va_cwS 2 gts gX3_leadByLast_X3_numberAt rfl rfl rfl (by decide +kernel) ⟨Nat.le_of_ble_eq_true rfl, Nat.le_of_ble_eq_true rfl⟩) ⟨fun _ _ _ _ h => h, fun U hU hW => ⟨rfl, trivial⟩⟩ rfl rfl hl.1 rfl (lv_room (Nat.le_of_ble_eq_true rfl)) dX3_leadByLast_4 ⟨Nat.le_of_ble_eq_true rfl, Nat.le_of_ble_eq_true rfl⟩) (fun r hw => ?_)
  have hr4 := hw
  subst hr4
  refine lv_lload_n gx gb dX3_leadByLast_7 rfl (lv_at hl 0 rfl) ?_
  refine lv_iload_n gx gb dX3_leadByLast_8 rfl (lv_at hl 1 rfl) ?_
  refine lv_iconst (v := nI 1) gx gb dX3_leadByLast_9 (by decide) ?_
  refine lv_isub gx gb dX3_leadByLast_10 ?_
  refine lv_evi (nI (6 - 1)) (e_sub (by omega)) ?_
  refine vp_callSi (W.runS (As := [.long (lN N), .int (nI 5)]) (rest := [.int (nI (dg 256 N (6 - 1)))]) ⟨gx, gb, gml, gown, gts⟩ (kX3_lead_5 Gl N (by omega)) (va_cwS 2 gts gX3_leadByLast_X3_lead rfl rfl rfl (by decide +kernel) ⟨Nat.le_of_ble_eq_true rfl, Nat.le_of_ble_eq_true rfl⟩) ⟨fun _ _ _ _ h => h, fun U hU hW => ⟨rfl, trivial⟩⟩ rfl rfl hl.1 rfl (lv_room (Nat.le_of_ble_eq_true rfl)) dX3_leadByLast_11 ⟨Nat.le_of_ble_eq_true rfl, Nat.le_of_ble_eq_true rfl⟩) (fun r hw => ?_)
  have hr11 := hw
  subst hr11
  refine lv_isub gx gb dX3_leadByLast_14 ?_
  refine lv_evi (zI (((dg 256 N (6 - 1) : Nat) : Int) - (ldN N 5))) (by rw [nI_zc (dg 256 N (6 - 1))]; exact zI_sub ((dg 256 N (6 - 1) : Nat) : Int) (ldN N 5)) ?_
  exact W.iret (v := zI (((dg 256 N (6 - 1) : Nat) : Int) - (ldN N 5))) gx gb gr (fun t ht hW => ⟨zI (((dg 256 N (6 - 1) : Nat) : Int) - (ldN N 5)), rfl, (by first | (dsimp only; done) | ((try dsimp only); rfl)), ht⟩) (fun q h => by cases h) dX3_leadByLast_15

set_option maxHeartbeats 4000000 in
set_option maxRecDepth 100000 in
theorem kX3_lead_6 (Gl : Launch) (N : Nat) (hN : N < 9223372036854775808) : Met Gl yX3_lead wsX3_lead ({ frames := 12, cells := 0, slots := 0, locals := 264 } : Room) (va_Pc [.long (lN N), .int (nI 6)] (fun _ => True)) (vp_Si (fun r : Int32 => r = zI (ldN N 6))) 0 0 (fun _ => False) := by
  refine Met.ofW (cc := cX3_lead) (maxL := 3) (ret := (some .int)) (by decide +kernel) rfl ?_
  intro Gp Ge Gs Gm Ga Gw Gt Gc G1 Bd gml gv
  obtain ⟨rfl, -⟩ := gv
  have gx := Bd.exec
  have gb := Bd.bytes
  have gr := Bd.returns
  have gts := atoms_spec (ws := wsX3_lead) Bd.pre
  have gown : Gs.vm.findClass RX3 = some Gm.cls := findClass_of_methodNamed Bd.named
  have glk := Bd.notSynchronized
  have hl := lv_entry ([.long (lN N), .int (nI 6)]) (n := 3) (Nat.le_of_ble_eq_true rfl)
  rw [lg_entry_eq]
  generalize (lg_sl ([.long (lN N), .int (nI 6)]) ++ List.replicate (3 - (lg_sl ([.long (lN N), .int (nI 6)])).length) Slot.unset).toArray = ls at hl ⊢
  have hl : lv_has ls 3 [(0, .long (lN N)), (2, .int (nI 6))] := hl
  refine lv_iload_n gx gb dX3_lead_0 rfl (lv_at hl 1 rfl) ?_
  refine lv_iconst (v := nI 1) gx gb dX3_lead_1 (by decide) ?_
  refine lv_icmp_lt (tgt := 11) gx gb dX3_lead_2 (by decide) (fun c2 => ?_) (fun c2 => ?_)
  · skip
    rw [nI_ltI (by omega) (by omega)] at c2
    exfalso; omega
  · skip
    rw [nI_ltI (by omega) (by omega)] at c2
    refine lv_iload_n gx gb dX3_lead_5 rfl (lv_at hl 1 rfl) ?_
    refine lv_bipush (v := nI 7) gx gb dX3_lead_6 (by decide) ?_
    refine lv_icmp_le (tgt := 13) gx gb dX3_lead_8 (by decide) (fun c8 => ?_) (fun c8 => ?_)
    · skip
      rw [nI_leI (by omega) (by omega)] at c8
      refine lv_lload_n gx gb dX3_lead_13 rfl (lv_at hl 0 rfl) ?_
      refine lv_iload_n gx gb dX3_lead_14 rfl (lv_at hl 1 rfl) ?_
      refine vp_callSi (W.runS (As := [.long (lN N), .int (nI 6)]) (rest := []) ⟨gx, gb, gml, gown, gts⟩ (kX3_leadByFirst_6 Gl N (by omega)) (va_cwS 2 gts gX3_lead_X3_leadByFirst rfl rfl rfl (by decide +kernel) ⟨Nat.le_of_ble_eq_true rfl, Nat.le_of_ble_eq_true rfl⟩) ⟨fun _ _ _ _ h => h, fun U hU hW => ⟨rfl, trivial⟩⟩ rfl rfl hl.1 rfl (lv_room (Nat.le_of_ble_eq_true rfl)) dX3_lead_15 ⟨Nat.le_of_ble_eq_true rfl, Nat.le_of_ble_eq_true rfl⟩) (fun r hw => ?_)
      have hr15 := hw
      subst hr15
      refine lv_lload_n gx gb dX3_lead_18 rfl (lv_at hl 0 rfl) ?_
      refine lv_iload_n gx gb dX3_lead_19 rfl (lv_at hl 1 rfl) ?_
      refine vp_callSi (W.runS (As := [.long (lN N), .int (nI 6)]) (rest := [.int (zI ((dg 256 N 0 : Int) - ldN (N / 256) 5))]) ⟨gx, gb, gml, gown, gts⟩ (kX3_leadByLast_6 Gl N (by omega)) (va_cwS 2 gts gX3_lead_X3_leadByLast rfl rfl rfl (by decide +kernel) ⟨Nat.le_of_ble_eq_true rfl, Nat.le_of_ble_eq_true rfl⟩) ⟨fun _ _ _ _ h => h, fun U hU hW => ⟨rfl, trivial⟩⟩ rfl rfl hl.1 rfl (lv_room (Nat.le_of_ble_eq_true rfl)) dX3_lead_20 ⟨Nat.le_of_ble_eq_true rfl, Nat.le_of_ble_eq_true rfl⟩) (fun r hw => ?_)
      have hr20 := hw
      subst hr20
      have hb1 := ldN_bd 5 (N / 256)
      have hb2 := ldN_bd 5 N
      have hb3 := dg_lt (b := 256) (by omega) N 0
      have hb4 := dg_lt (b := 256) (by omega) N 5
      refine va_mmax gx gb (by rw [gml]; exact hl.1.symm) gown (gts (.methodLink RX3 29 Lib.Math.max.name) (by decide +kernel)) (gts (.static Lib.Math.max.name) (by decide +kernel)) (gts (.initialized "java/lang/Math") (by decide +kernel)) (gts (.code Lib.Math.max.name Lib.Math.max.code 2 (some .int)) (by decide +kernel)) (Nat.le_of_ble_eq_true rfl) (Nat.le_of_ble_eq_true rfl) (Nat.le_of_ble_eq_true rfl) (Nat.le_of_ble_eq_true rfl) dX3_lead_23 ?_
      refine lv_evi (zI (max ((dg 256 N 0 : Int) - ldN (N / 256) 5) ((dg 256 N 5 : Int) - ldN N 5))) (z_max (by omega) (by omega) (by omega) (by omega)) ?_
      exact W.iret (v := zI (max ((dg 256 N 0 : Int) - ldN (N / 256) 5) ((dg 256 N 5 : Int) - ldN N 5))) gx gb gr (fun t ht hW => ⟨zI (max ((dg 256 N 0 : Int) - ldN (N / 256) 5) ((dg 256 N 5 : Int) - ldN N 5)), rfl, (by first | (dsimp only; done) | ((try dsimp only); rfl)), ht⟩) (fun q h => by cases h) dX3_lead_26
    · skip
      rw [nI_leI (by omega) (by omega)] at c8
      exfalso; omega

set_option maxHeartbeats 4000000 in
set_option maxRecDepth 100000 in
theorem kX3_leadByFirst_7 (Gl : Launch) (N : Nat) (hN : N < 9223372036854775808) : Met Gl yX3_leadByFirst wsX3_leadByFirst ({ frames := 13, cells := 0, slots := 0, locals := 286 } : Room) (va_Pc [.long (lN N), .int (nI 7)] (fun _ => True)) (vp_Si (fun r : Int32 => r = zI ((dg 256 N 0 : Int) - ldN (N / 256) 6))) 0 0 (fun _ => False) := by
  refine Met.ofW (cc := cX3_leadByFirst) (maxL := 3) (ret := (some .int)) (by decide +kernel) rfl ?_
  intro Gp Ge Gs Gm Ga Gw Gt Gc G1 Bd gml gv
  obtain ⟨rfl, -⟩ := gv
  have gx := Bd.exec
  have gb := Bd.bytes
  have gr := Bd.returns
  have gts := atoms_spec (ws := wsX3_leadByFirst) Bd.pre
  have gown : Gs.vm.findClass RX3 = some Gm.cls := findClass_of_methodNamed Bd.named
  have glk := Bd.notSynchronized
  have hl := lv_entry ([.long (lN N), .int (nI 7)]) (n := 3) (Nat.le_of_ble_eq_true rfl)
  rw [lg_entry_eq]
  generalize (lg_sl ([.long (lN N), .int (nI 7)]) ++ List.replicate (3 - (lg_sl ([.long (lN N), .int (nI 7)])).length) Slot.unset).toArray = ls at hl ⊢
  have hl : lv_has ls 3 [(0, .long (lN N)), (2, .int (nI 7))] := hl
  refine lv_lload_n gx gb dX3_leadByFirst_0 rfl (lv_at hl 0 rfl) ?_
  refine lv_iconst (v := nI 0) gx gb dX3_leadByFirst_1 (by decide) ?_
  refine vp_callSi (W.runS (As := [.long (lN N), .int (nI 0)]) (rest := []) ⟨gx, gb, gml, gown, gts⟩ (kX3_numberAt Gl N 0 (by omega) (by omega)) (va_cwS 2 gts gX3_leadByFirst_X3_numberAt rfl rfl rfl (by decide +kernel) ⟨Nat.le_of_ble_eq_true rfl, Nat.le_of_ble_eq_true rfl⟩) ⟨fun _ _ _ _ h => h, fun U hU hW => ⟨rfl, trivial⟩⟩ rfl rfl hl.1 rfl (lv_room (Nat.le_of_ble_eq_true rfl)) dX3_leadByFirst_2 ⟨Nat.le_of_ble_eq_true rfl, Nat.le_of_ble_eq_true rfl⟩) (fun r hw => ?_)
  have hr2 := hw
  subst hr2
  refine lv_lload_n gx gb dX3_leadByFirst_5 rfl (lv_at hl 0 rfl) ?_
  refine lv_bipush (v := nI 8) gx gb dX3_leadByFirst_6 (by decide) ?_
  refine lv_lshr (v := lN (N / 2 ^ 8)) gx gb dX3_leadByFirst_8 (e_shrL (by omega) (by omega)) ?_
  refine lv_iload_n gx gb dX3_leadByFirst_9 rfl (lv_at hl 1 rfl) ?_
  refine lv_iconst (v := nI 1) gx gb dX3_leadByFirst_10 (by decide) ?_
  refine lv_isub gx gb dX3_leadByFirst_11 ?_
  refine lv_evi (nI (7 - 1)) (e_sub (by omega)) ?_
  have hdv := Nat.div_le_self N (2 ^ 8)
  refine vp_callSi (W.runS (As := [.long (lN (N / 2 ^ 8)), .int (nI 6)]) (rest := [.int (nI (dg 256 N 0))]) ⟨gx, gb, gml, gown, gts⟩ (kX3_lead_6 Gl (N / 2 ^ 8) (by omega)) (va_cwS 2 gts gX3_leadByFirst_X3_lead rfl rfl rfl (by decide +kernel) ⟨Nat.le_of_ble_eq_true rfl, Nat.le_of_ble_eq_true rfl⟩) ⟨fun _ _ _ _ h => h, fun U hU hW => ⟨rfl, trivial⟩⟩ rfl rfl hl.1 rfl (lv_room (Nat.le_of_ble_eq_true rfl)) dX3_leadByFirst_12 ⟨Nat.le_of_ble_eq_true rfl, Nat.le_of_ble_eq_true rfl⟩) (fun r hw => ?_)
  have hr12 := hw
  subst hr12
  have hb1 := ldN_bd 6 (N / 256)
  refine lv_isub gx gb dX3_leadByFirst_15 ?_
  refine lv_evi (zI (((dg 256 N 0 : Nat) : Int) - (ldN (N / 2 ^ 8) 6))) (by rw [nI_zc (dg 256 N 0)]; exact zI_sub ((dg 256 N 0 : Nat) : Int) (ldN (N / 2 ^ 8) 6)) ?_
  exact W.iret (v := zI (((dg 256 N 0 : Nat) : Int) - (ldN (N / 2 ^ 8) 6))) gx gb gr (fun t ht hW => ⟨zI (((dg 256 N 0 : Nat) : Int) - (ldN (N / 2 ^ 8) 6)), rfl, (by first | (dsimp only; done) | ((try dsimp only); rfl)), ht⟩) (fun q h => by cases h) dX3_leadByFirst_16

set_option maxHeartbeats 4000000 in
set_option maxRecDepth 100000 in
theorem kX3_leadByLast_7 (Gl : Launch) (N : Nat) (hN : N < 9223372036854775808) : Met Gl yX3_leadByLast wsX3_leadByLast ({ frames := 13, cells := 0, slots := 0, locals := 286 } : Room) (va_Pc [.long (lN N), .int (nI 7)] (fun _ => True)) (vp_Si (fun r : Int32 => r = zI ((dg 256 N 6 : Int) - ldN N 6))) 0 0 (fun _ => False) := by
  refine Met.ofW (cc := cX3_leadByLast) (maxL := 3) (ret := (some .int)) (by decide +kernel) rfl ?_
  intro Gp Ge Gs Gm Ga Gw Gt Gc G1 Bd gml gv
  obtain ⟨rfl, -⟩ := gv
  have gx := Bd.exec
  have gb := Bd.bytes
  have gr := Bd.returns
  have gts := atoms_spec (ws := wsX3_leadByLast) Bd.pre
  have gown : Gs.vm.findClass RX3 = some Gm.cls := findClass_of_methodNamed Bd.named
  have glk := Bd.notSynchronized
  have hl := lv_entry ([.long (lN N), .int (nI 7)]) (n := 3) (Nat.le_of_ble_eq_true rfl)
  rw [lg_entry_eq]
  generalize (lg_sl ([.long (lN N), .int (nI 7)]) ++ List.replicate (3 - (lg_sl ([.long (lN N), .int (nI 7)])).length) Slot.unset).toArray = ls at hl ⊢
  have hl : lv_has ls 3 [(0, .long (lN N)), (2, .int (nI 7))] := hl
  refine lv_lload_n gx gb dX3_leadByLast_0 rfl (lv_at hl 0 rfl) ?_
  refine lv_iload_n gx gb dX3_leadByLast_1 rfl (lv_at hl 1 rfl) ?_
  refine lv_iconst (v := nI 1) gx gb dX3_leadByLast_2 (by decide) ?_
  refine lv_isub gx gb dX3_leadByLast_3 ?_
  refine lv_evi (nI (7 - 1)) (e_sub (by omega)) ?_
  refine vp_callSi (W.runS (As := [.long (lN N), .int (nI (7 - 1))]) (rest := []) ⟨gx, gb, gml, gown, gts⟩ (kX3_numberAt Gl N (7 - 1) (by omega) (by omega)) (va_cwS 2 gts gX3_leadByLast_X3_numberAt rfl rfl rfl (by decide +kernel) ⟨Nat.le_of_ble_eq_true rfl, Nat.le_of_ble_eq_true rfl⟩) ⟨fun _ _ _ _ h => h, fun U hU hW => ⟨rfl, trivial⟩⟩ rfl rfl hl.1 rfl (lv_room (Nat.le_of_ble_eq_true rfl)) dX3_leadByLast_4 ⟨Nat.le_of_ble_eq_true rfl, Nat.le_of_ble_eq_true rfl⟩) (fun r hw => ?_)
  have hr4 := hw
  subst hr4
  refine lv_lload_n gx gb dX3_leadByLast_7 rfl (lv_at hl 0 rfl) ?_
  refine lv_iload_n gx gb dX3_leadByLast_8 rfl (lv_at hl 1 rfl) ?_
  refine lv_iconst (v := nI 1) gx gb dX3_leadByLast_9 (by decide) ?_
  refine lv_isub gx gb dX3_leadByLast_10 ?_
  refine lv_evi (nI (7 - 1)) (e_sub (by omega)) ?_
  refine vp_callSi (W.runS (As := [.long (lN N), .int (nI 6)]) (rest := [.int (nI (dg 256 N (7 - 1)))]) ⟨gx, gb, gml, gown, gts⟩ (kX3_lead_6 Gl N (by omega)) (va_cwS 2 gts gX3_leadByLast_X3_lead rfl rfl rfl (by decide +kernel) ⟨Nat.le_of_ble_eq_true rfl, Nat.le_of_ble_eq_true rfl⟩) ⟨fun _ _ _ _ h => h, fun U hU hW => ⟨rfl, trivial⟩⟩ rfl rfl hl.1 rfl (lv_room (Nat.le_of_ble_eq_true rfl)) dX3_leadByLast_11 ⟨Nat.le_of_ble_eq_true rfl, Nat.le_of_ble_eq_true rfl⟩) (fun r hw => ?_)
  have hr11 := hw
  subst hr11
  refine lv_isub gx gb dX3_leadByLast_14 ?_
  refine lv_evi (zI (((dg 256 N (7 - 1) : Nat) : Int) - (ldN N 6))) (by rw [nI_zc (dg 256 N (7 - 1))]; exact zI_sub ((dg 256 N (7 - 1) : Nat) : Int) (ldN N 6)) ?_
  exact W.iret (v := zI (((dg 256 N (7 - 1) : Nat) : Int) - (ldN N 6))) gx gb gr (fun t ht hW => ⟨zI (((dg 256 N (7 - 1) : Nat) : Int) - (ldN N 6)), rfl, (by first | (dsimp only; done) | ((try dsimp only); rfl)), ht⟩) (fun q h => by cases h) dX3_leadByLast_15

set_option maxHeartbeats 4000000 in
set_option maxRecDepth 100000 in
theorem kX3_lead_7 (Gl : Launch) (N : Nat) (hN : N < 9223372036854775808) : Met Gl yX3_lead wsX3_lead ({ frames := 14, cells := 0, slots := 0, locals := 308 } : Room) (va_Pc [.long (lN N), .int (nI 7)] (fun _ => True)) (vp_Si (fun r : Int32 => r = zI (ldN N 7))) 0 0 (fun _ => False) := by
  refine Met.ofW (cc := cX3_lead) (maxL := 3) (ret := (some .int)) (by decide +kernel) rfl ?_
  intro Gp Ge Gs Gm Ga Gw Gt Gc G1 Bd gml gv
  obtain ⟨rfl, -⟩ := gv
  have gx := Bd.exec
  have gb := Bd.bytes
  have gr := Bd.returns
  have gts := atoms_spec (ws := wsX3_lead) Bd.pre
  have gown : Gs.vm.findClass RX3 = some Gm.cls := findClass_of_methodNamed Bd.named
  have glk := Bd.notSynchronized
  have hl := lv_entry ([.long (lN N), .int (nI 7)]) (n := 3) (Nat.le_of_ble_eq_true rfl)
  rw [lg_entry_eq]
  generalize (lg_sl ([.long (lN N), .int (nI 7)]) ++ List.replicate (3 - (lg_sl ([.long (lN N), .int (nI 7)])).length) Slot.unset).toArray = ls at hl ⊢
  have hl : lv_has ls 3 [(0, .long (lN N)), (2, .int (nI 7))] := hl
  refine lv_iload_n gx gb dX3_lead_0 rfl (lv_at hl 1 rfl) ?_
  refine lv_iconst (v := nI 1) gx gb dX3_lead_1 (by decide) ?_
  refine lv_icmp_lt (tgt := 11) gx gb dX3_lead_2 (by decide) (fun c2 => ?_) (fun c2 => ?_)
  · skip
    rw [nI_ltI (by omega) (by omega)] at c2
    exfalso; omega
  · skip
    rw [nI_ltI (by omega) (by omega)] at c2
    refine lv_iload_n gx gb dX3_lead_5 rfl (lv_at hl 1 rfl) ?_
    refine lv_bipush (v := nI 7) gx gb dX3_lead_6 (by decide) ?_
    refine lv_icmp_le (tgt := 13) gx gb dX3_lead_8 (by decide) (fun c8 => ?_) (fun c8 => ?_)
    · skip
      rw [nI_leI (by omega) (by omega)] at c8
      refine lv_lload_n gx gb dX3_lead_13 rfl (lv_at hl 0 rfl) ?_
      refine lv_iload_n gx gb dX3_lead_14 rfl (lv_at hl 1 rfl) ?_
      refine vp_callSi (W.runS (As := [.long (lN N), .int (nI 7)]) (rest := []) ⟨gx, gb, gml, gown, gts⟩ (kX3_leadByFirst_7 Gl N (by omega)) (va_cwS 2 gts gX3_lead_X3_leadByFirst rfl rfl rfl (by decide +kernel) ⟨Nat.le_of_ble_eq_true rfl, Nat.le_of_ble_eq_true rfl⟩) ⟨fun _ _ _ _ h => h, fun U hU hW => ⟨rfl, trivial⟩⟩ rfl rfl hl.1 rfl (lv_room (Nat.le_of_ble_eq_true rfl)) dX3_lead_15 ⟨Nat.le_of_ble_eq_true rfl, Nat.le_of_ble_eq_true rfl⟩) (fun r hw => ?_)
      have hr15 := hw
      subst hr15
      refine lv_lload_n gx gb dX3_lead_18 rfl (lv_at hl 0 rfl) ?_
      refine lv_iload_n gx gb dX3_lead_19 rfl (lv_at hl 1 rfl) ?_
      refine vp_callSi (W.runS (As := [.long (lN N), .int (nI 7)]) (rest := [.int (zI ((dg 256 N 0 : Int) - ldN (N / 256) 6))]) ⟨gx, gb, gml, gown, gts⟩ (kX3_leadByLast_7 Gl N (by omega)) (va_cwS 2 gts gX3_lead_X3_leadByLast rfl rfl rfl (by decide +kernel) ⟨Nat.le_of_ble_eq_true rfl, Nat.le_of_ble_eq_true rfl⟩) ⟨fun _ _ _ _ h => h, fun U hU hW => ⟨rfl, trivial⟩⟩ rfl rfl hl.1 rfl (lv_room (Nat.le_of_ble_eq_true rfl)) dX3_lead_20 ⟨Nat.le_of_ble_eq_true rfl, Nat.le_of_ble_eq_true rfl⟩) (fun r hw => ?_)
      have hr20 := hw
      subst hr20
      have hb1 := ldN_bd 6 (N / 256)
      have hb2 := ldN_bd 6 N
      have hb3 := dg_lt (b := 256) (by omega) N 0
      have hb4 := dg_lt (b := 256) (by omega) N 6
      refine va_mmax gx gb (by rw [gml]; exact hl.1.symm) gown (gts (.methodLink RX3 29 Lib.Math.max.name) (by decide +kernel)) (gts (.static Lib.Math.max.name) (by decide +kernel)) (gts (.initialized "java/lang/Math") (by decide +kernel)) (gts (.code Lib.Math.max.name Lib.Math.max.code 2 (some .int)) (by decide +kernel)) (Nat.le_of_ble_eq_true rfl) (Nat.le_of_ble_eq_true rfl) (Nat.le_of_ble_eq_true rfl) (Nat.le_of_ble_eq_true rfl) dX3_lead_23 ?_
      refine lv_evi (zI (max ((dg 256 N 0 : Int) - ldN (N / 256) 6) ((dg 256 N 6 : Int) - ldN N 6))) (z_max (by omega) (by omega) (by omega) (by omega)) ?_
      exact W.iret (v := zI (max ((dg 256 N 0 : Int) - ldN (N / 256) 6) ((dg 256 N 6 : Int) - ldN N 6))) gx gb gr (fun t ht hW => ⟨zI (max ((dg 256 N 0 : Int) - ldN (N / 256) 6) ((dg 256 N 6 : Int) - ldN N 6)), rfl, (by first | (dsimp only; done) | ((try dsimp only); rfl)), ht⟩) (fun q h => by cases h) dX3_lead_26
    · skip
      rw [nI_leI (by omega) (by omega)] at c8
      exfalso; omega

set_option maxHeartbeats 4000000 in
set_option maxRecDepth 100000 in
theorem kX2_isSomeTimes (Gl : Launch) (a b : Nat) (ha : a < 2147483648) (hb : b < 2147483648) : Met Gl yX2_isSomeTimes wsX2_isSomeTimes ({ frames := 0, cells := 0, slots := 0, locals := 0 } : Room) (va_Pc [.int (nI a), .int (nI b)] (fun _ => True)) (vp_Si (fun r : Int32 => r = bI (mlt a b))) 0 0 (fun _ => False) := by
  refine Met.ofW (cc := cX2_isSomeTimes) (maxL := 2) (ret := (some .boolean)) (by decide +kernel) rfl ?_
  intro Gp Ge Gs Gm Ga Gw Gt Gc G1 Bd gml gv
  obtain ⟨rfl, -⟩ := gv
  have gx := Bd.exec
  have gb := Bd.bytes
  have gr := Bd.returns
  have gts := atoms_spec (ws := wsX2_isSomeTimes) Bd.pre
  have gown : Gs.vm.findClass RX2 = some Gm.cls := findClass_of_methodNamed Bd.named
  have glk := Bd.notSynchronized
  have hl := lv_entry ([.int (nI a), .int (nI b)]) (n := 2) (Nat.le_of_ble_eq_true rfl)
  rw [lg_entry_eq]
  generalize (lg_sl ([.int (nI a), .int (nI b)]) ++ List.replicate (2 - (lg_sl ([.int (nI a), .int (nI b)])).length) Slot.unset).toArray = ls at hl ⊢
  have hl : lv_has ls 2 [(0, .int (nI a)), (1, .int (nI b))] := hl
  refine lv_iload_n gx gb dX2_isSomeTimes_0 rfl (lv_at hl 0 rfl) ?_
  refine lv_if_eq (tgt := 14) gx gb dX2_isSomeTimes_1 (by decide) (fun c1 => ?_) (fun c1 => ?_)
  · skip
    rw [n0_eq (by omega)] at c1
    refine lv_iconst (v := nI 1) gx gb dX2_isSomeTimes_14 (by decide) ?_
    refine lv_goto (tgt := 19) gx gb dX2_isSomeTimes_15 (by decide) ?_
    exact W.zret (v := nI 1) gx gb gr (by decide) (fun t ht hW => ⟨nI 1, rfl, (by first | (dsimp only; done) | ((try dsimp only); first | exact bI_t (decide_eq_true (by omega)) | exact bI_t (decide_eq_true (Or.inr ⟨by omega, by omega⟩)) | exact bI_f (decide_eq_false (by omega)) | exact bI_f (decide_eq_false (fun hh => hh.elim (fun h => by omega) (fun h => by omega))))), ht⟩) (fun q h => by cases h) dX2_isSomeTimes_19
  · skip
    rw [n0_eq (by omega)] at c1
    refine lv_iload_n gx gb dX2_isSomeTimes_4 rfl (lv_at hl 1 rfl) ?_
    refine lv_if_le (tgt := 18) gx gb dX2_isSomeTimes_5 (by decide) (fun c5 => ?_) (fun c5 => ?_)
    · skip
      rw [n0_le (by omega)] at c5
      refine lv_iconst (v := nI 0) gx gb dX2_isSomeTimes_18 (by decide) ?_
      exact W.zret (v := nI 0) gx gb gr (by decide) (fun t ht hW => ⟨nI 0, rfl, (by first | (dsimp only; done) | ((try dsimp only); first | exact bI_t (decide_eq_true (by omega)) | exact bI_t (decide_eq_true (Or.inr ⟨by omega, by omega⟩)) | exact bI_f (decide_eq_false (by omega)) | exact bI_f (decide_eq_false (fun hh => hh.elim (fun h => by omega) (fun h => by omega))))), ht⟩) (fun q h => by cases h) dX2_isSomeTimes_19
    · skip
      rw [n0_le (by omega)] at c5
      refine lv_iload_n gx gb dX2_isSomeTimes_8 rfl (lv_at hl 0 rfl) ?_
      refine lv_iload_n gx gb dX2_isSomeTimes_9 rfl (lv_at hl 1 rfl) ?_
      refine lv_irem gx gb dX2_isSomeTimes_10 (nI_ne0 (by omega) (by omega)) ?_
      refine lv_evi (nI (a % b)) (e_rem (by omega) (by omega) (by omega)) ?_
      have hmo := Nat.mod_le a b
      refine lv_if_ne (tgt := 18) gx gb dX2_isSomeTimes_11 (by decide) (fun c11 => ?_) (fun c11 => ?_)
      · skip
        rw [n0_eq (by omega)] at c11
        refine lv_iconst (v := nI 0) gx gb dX2_isSomeTimes_18 (by decide) ?_
        exact W.zret (v := nI 0) gx gb gr (by decide) (fun t ht hW => ⟨nI 0, rfl, (by first | (dsimp only; done) | ((try dsimp only); first | exact bI_t (decide_eq_true (by omega)) | exact bI_t (decide_eq_true (Or.inr ⟨by omega, by omega⟩)) | exact bI_f (decide_eq_false (by omega)) | exact bI_f (decide_eq_false (fun hh => hh.elim (fun h => by omega) (fun h => by omega))))), ht⟩) (fun q h => by cases h) dX2_isSomeTimes_19
      · skip
        rw [n0_eq (by omega)] at c11
        refine lv_iconst (v := nI 1) gx gb dX2_isSomeTimes_14 (by decide) ?_
        refine lv_goto (tgt := 19) gx gb dX2_isSomeTimes_15 (by decide) ?_
        exact W.zret (v := nI 1) gx gb gr (by decide) (fun t ht hW => ⟨nI 1, rfl, (by first | (dsimp only; done) | ((try dsimp only); first | exact bI_t (decide_eq_true (by omega)) | exact bI_t (decide_eq_true (Or.inr ⟨by omega, by omega⟩)) | exact bI_f (decide_eq_false (by omega)) | exact bI_f (decide_eq_false (fun hh => hh.elim (fun h => by omega) (fun h => by omega))))), ht⟩) (fun q h => by cases h) dX2_isSomeTimes_19

set_option maxHeartbeats 4000000 in
set_option maxRecDepth 100000 in
theorem kX2_evenAheadOfOdd (Gl : Launch) (N q : Nat) (hN : N < 9223372036854775808) (hq : q ≤ 7) (hq1 : 1 ≤ q) : Met Gl yX2_evenAheadOfOdd wsX2_evenAheadOfOdd ({ frames := 1, cells := 0, slots := 0, locals := 22 } : Room) (va_Pc [.long (lN N), .int (nI q)] (fun _ => True)) (vp_Si (fun r : Int32 => r = bI (tau 1 (dg 256 N) q))) 0 0 (fun _ => False) := by
  refine Met.ofW (cc := cX2_evenAheadOfOdd) (maxL := 4) (ret := (some .boolean)) (by decide +kernel) rfl ?_
  intro Gp Ge Gs Gm Ga Gw Gt Gc G1 Bd gml gv
  obtain ⟨rfl, -⟩ := gv
  have gx := Bd.exec
  have gb := Bd.bytes
  have gr := Bd.returns
  have gts := atoms_spec (ws := wsX2_evenAheadOfOdd) Bd.pre
  have gown : Gs.vm.findClass RX2 = some Gm.cls := findClass_of_methodNamed Bd.named
  have glk := Bd.notSynchronized
  have hl := lv_entry ([.long (lN N), .int (nI q)]) (n := 4) (Nat.le_of_ble_eq_true rfl)
  rw [lg_entry_eq]
  generalize (lg_sl ([.long (lN N), .int (nI q)]) ++ List.replicate (4 - (lg_sl ([.long (lN N), .int (nI q)])).length) Slot.unset).toArray = ls at hl ⊢
  have hl : lv_has ls 4 [(0, .long (lN N)), (2, .int (nI q))] := hl
  refine lv_iconst (v := nI 1) gx gb dX2_evenAheadOfOdd_0 (by decide) ?_
  refine lv_istore_n (lv' := [(3, .int (nI 1)), (0, .long (lN N)), (2, .int (nI q))]) gx gb dX2_evenAheadOfOdd_1 rfl hl (by decide) rfl (fun ls hl => ?_)
  have L2 : ∀ fu : Nat, ∀ (i : Nat) (hi : i + 1 ≤ q) (h0 : ∀ x, x < i → ¬ (dg 256 N x % 2 = 1 ∧ dg 256 N (x + 1) % 2 = 0)), (q - i) < fu → ∀ ls : Array Slot, lv_has ls 4 [(3, .int (nI (i + 1))), (0, .long (lN N)), (2, .int (nI q))] → W Gp Gl Ge (headSpec wsX2_evenAheadOfOdd ({ frames := 1, cells := 0, slots := 0, locals := 22 } : Room)).room Gs Gm ([.long (lN N), .int (nI q)] : List Value).toArray Gw Gt Gc Gs.heap [] 0 0 (MQ Gw (vp_Si (fun r : Int32 => r = bI (tau 1 (dg 256 N) q))) ([.long (lN N), .int (nI q)] : List Value).toArray Gs 0 0 (fun _ => False)) (F0 Gm 2 ls []) := by
    intro fu
    induction fu with
    | zero => intro i hi h0 hfu; exact absurd hfu (Nat.not_lt_zero _)
    | succ fu ih2 =>
      intro i hi h0 hfu ls hl
      refine lv_iload_n gx gb dX2_evenAheadOfOdd_2 rfl (lv_at hl 0 rfl) ?_
      refine lv_iload_n gx gb dX2_evenAheadOfOdd_3 rfl (lv_at hl 2 rfl) ?_
      refine lv_icmp_ge (tgt := 38) gx gb dX2_evenAheadOfOdd_4 (by decide) (fun c4 => ?_) (fun c4 => ?_)
      · skip
        rw [nI_leI (by omega) (by omega)] at c4
        refine lv_iconst (v := nI 1) gx gb dX2_evenAheadOfOdd_38 (by decide) ?_
        exact W.zret (v := nI 1) gx gb gr (by decide) (fun t ht hW => ⟨nI 1, rfl, (by first | (dsimp only; done) | ((try dsimp only); exact bI_t (decide_eq_true (fun x hx => h0 x (by omega))))), ht⟩) (fun q h => by cases h) dX2_evenAheadOfOdd_39
      · skip
        rw [nI_leI (by omega) (by omega)] at c4
        have h90 := dg_lt (b := 256) (by omega) N (i + 1)
        have h91 := dg_lt (b := 256) (by omega) N i
        refine lv_lload_n gx gb dX2_evenAheadOfOdd_7 rfl (lv_at hl 1 rfl) ?_
        refine lv_iload_n gx gb dX2_evenAheadOfOdd_8 rfl (lv_at hl 0 rfl) ?_
        refine lv_iconst (v := nI 1) gx gb dX2_evenAheadOfOdd_9 (by decide) ?_
        refine lv_isub gx gb dX2_evenAheadOfOdd_10 ?_
        refine lv_evi (nI ((i + 1) - 1)) (e_sub (by omega)) ?_
        refine lv_evi (nI i) (congrArg nI (by omega)) ?_
        refine vp_callSi (W.runS (As := [.long (lN N), .int (nI i)]) (rest := []) ⟨gx, gb, gml, gown, gts⟩ (kX3_numberAt Gl N i (by omega) (by omega)) (va_cwS 2 gts gX2_evenAheadOfOdd_X3_numberAt rfl rfl rfl (by decide +kernel) ⟨Nat.le_of_ble_eq_true rfl, Nat.le_of_ble_eq_true rfl⟩) ⟨fun _ _ _ _ h => h, fun U hU hW => ⟨rfl, trivial⟩⟩ rfl rfl hl.1 rfl (lv_room (Nat.le_of_ble_eq_true rfl)) dX2_evenAheadOfOdd_11 ⟨Nat.le_of_ble_eq_true rfl, Nat.le_of_ble_eq_true rfl⟩) (fun r hw => ?_)
        have hr11 := hw
        subst hr11
        refine lv_iconst (v := nI 2) gx gb dX2_evenAheadOfOdd_14 (by decide) ?_
        refine lv_irem gx gb dX2_evenAheadOfOdd_15 (nI_ne0 (by omega) (by omega)) ?_
        refine lv_evi (nI ((dg 256 N i) % 2)) (e_rem (by omega) (by omega) (by omega)) ?_
        refine lv_iconst (v := nI 1) gx gb dX2_evenAheadOfOdd_16 (by decide) ?_
        refine lv_icmp_ne (tgt := 32) gx gb dX2_evenAheadOfOdd_17 (by decide) (fun c17 => ?_) (fun c17 => ?_)
        · skip
          rw [nI_eq (by omega) (by omega)] at c17
          refine lv_iinc (v := nI (i + 1 + 1)) (lv' := [(3, .int (nI (i + 1 + 1))), (0, .long (lN N)), (2, .int (nI q))]) gx gb dX2_evenAheadOfOdd_32 hl (k := 0) rfl (nI_add (i + 1) 1) (by decide) rfl (fun ls hl => ?_)
          refine lv_goto (tgt := 2) gx gb dX2_evenAheadOfOdd_35 (by decide) ?_
          exact ih2 (i + 1) (by omega) (by intro x hx; exact (Nat.lt_or_ge x i).elim (fun h => h0 x h) (fun h => by obtain rfl : x = i := (by omega); omega)) (by omega) ls (lv_sub hl [0, 1, 2] rfl)
        · skip
          rw [nI_eq (by omega) (by omega)] at c17
          refine lv_lload_n gx gb dX2_evenAheadOfOdd_20 rfl (lv_at hl 1 rfl) ?_
          refine lv_iload_n gx gb dX2_evenAheadOfOdd_21 rfl (lv_at hl 0 rfl) ?_
          refine vp_callSi (W.runS (As := [.long (lN N), .int (nI (i + 1))]) (rest := []) ⟨gx, gb, gml, gown, gts⟩ (kX3_numberAt Gl N (i + 1) (by omega) (by omega)) (va_cwS 2 gts gX2_evenAheadOfOdd_X3_numberAt rfl rfl rfl (by decide +kernel) ⟨Nat.le_of_ble_eq_true rfl, Nat.le_of_ble_eq_true rfl⟩) ⟨fun _ _ _ _ h => h, fun U hU hW => ⟨rfl, trivial⟩⟩ rfl rfl hl.1 rfl (lv_room (Nat.le_of_ble_eq_true rfl)) dX2_evenAheadOfOdd_22 ⟨Nat.le_of_ble_eq_true rfl, Nat.le_of_ble_eq_true rfl⟩) (fun r hw => ?_)
          have hr22 := hw
          subst hr22
          refine lv_iconst (v := nI 2) gx gb dX2_evenAheadOfOdd_25 (by decide) ?_
          refine lv_irem gx gb dX2_evenAheadOfOdd_26 (nI_ne0 (by omega) (by omega)) ?_
          refine lv_evi (nI ((dg 256 N (i + 1)) % 2)) (e_rem (by omega) (by omega) (by omega)) ?_
          refine lv_if_ne (tgt := 32) gx gb dX2_evenAheadOfOdd_27 (by decide) (fun c27 => ?_) (fun c27 => ?_)
          · skip
            rw [n0_eq (by omega)] at c27
            refine lv_iinc (v := nI (i + 1 + 1)) (lv' := [(3, .int (nI (i + 1 + 1))), (0, .long (lN N)), (2, .int (nI q))]) gx gb dX2_evenAheadOfOdd_32 hl (k := 0) rfl (nI_add (i + 1) 1) (by decide) rfl (fun ls hl => ?_)
            refine lv_goto (tgt := 2) gx gb dX2_evenAheadOfOdd_35 (by decide) ?_
            exact ih2 (i + 1) (by omega) (by intro x hx; exact (Nat.lt_or_ge x i).elim (fun h => h0 x h) (fun h => by obtain rfl : x = i := (by omega); omega)) (by omega) ls (lv_sub hl [0, 1, 2] rfl)
          · skip
            rw [n0_eq (by omega)] at c27
            refine lv_iconst (v := nI 0) gx gb dX2_evenAheadOfOdd_30 (by decide) ?_
            exact W.zret (v := nI 0) gx gb gr (by decide) (fun t ht hW => ⟨nI 0, rfl, (by first | (dsimp only; done) | ((try dsimp only); exact bI_f (decide_eq_false (fun hh => hh i (by omega) ⟨by omega, by omega⟩)))), ht⟩) (fun q h => by cases h) dX2_evenAheadOfOdd_31
  exact L2 _ 0 (by omega) (by intro x hx; exact absurd hx (Nat.not_lt_zero _)) (Nat.lt_succ_self _) ls (lv_sub hl [0, 1, 2] rfl)

set_option maxHeartbeats 4000000 in
set_option maxRecDepth 100000 in
theorem kX2_evenAndOddByTurns (Gl : Launch) (N q : Nat) (hN : N < 9223372036854775808) (hq : q ≤ 7) (hq1 : 1 ≤ q) : Met Gl yX2_evenAndOddByTurns wsX2_evenAndOddByTurns ({ frames := 1, cells := 0, slots := 0, locals := 22 } : Room) (va_Pc [.long (lN N), .int (nI q)] (fun _ => True)) (vp_Si (fun r : Int32 => r = bI (tau 4 (dg 256 N) q))) 0 0 (fun _ => False) := by
  refine Met.ofW (cc := cX2_evenAndOddByTurns) (maxL := 4) (ret := (some .boolean)) (by decide +kernel) rfl ?_
  intro Gp Ge Gs Gm Ga Gw Gt Gc G1 Bd gml gv
  obtain ⟨rfl, -⟩ := gv
  have gx := Bd.exec
  have gb := Bd.bytes
  have gr := Bd.returns
  have gts := atoms_spec (ws := wsX2_evenAndOddByTurns) Bd.pre
  have gown : Gs.vm.findClass RX2 = some Gm.cls := findClass_of_methodNamed Bd.named
  have glk := Bd.notSynchronized
  have hl := lv_entry ([.long (lN N), .int (nI q)]) (n := 4) (Nat.le_of_ble_eq_true rfl)
  rw [lg_entry_eq]
  generalize (lg_sl ([.long (lN N), .int (nI q)]) ++ List.replicate (4 - (lg_sl ([.long (lN N), .int (nI q)])).length) Slot.unset).toArray = ls at hl ⊢
  have hl : lv_has ls 4 [(0, .long (lN N)), (2, .int (nI q))] := hl
  refine lv_iconst (v := nI 1) gx gb dX2_evenAndOddByTurns_0 (by decide) ?_
  refine lv_istore_n (lv' := [(3, .int (nI 1)), (0, .long (lN N)), (2, .int (nI q))]) gx gb dX2_evenAndOddByTurns_1 rfl hl (by decide) rfl (fun ls hl => ?_)
  have L2 : ∀ fu : Nat, ∀ (i : Nat) (hi : i + 1 ≤ q) (h0 : ∀ x, x < i → dg 256 N x % 2 ≠ dg 256 N (x + 1) % 2), (q - i) < fu → ∀ ls : Array Slot, lv_has ls 4 [(3, .int (nI (i + 1))), (0, .long (lN N)), (2, .int (nI q))] → W Gp Gl Ge (headSpec wsX2_evenAndOddByTurns ({ frames := 1, cells := 0, slots := 0, locals := 22 } : Room)).room Gs Gm ([.long (lN N), .int (nI q)] : List Value).toArray Gw Gt Gc Gs.heap [] 0 0 (MQ Gw (vp_Si (fun r : Int32 => r = bI (tau 4 (dg 256 N) q))) ([.long (lN N), .int (nI q)] : List Value).toArray Gs 0 0 (fun _ => False)) (F0 Gm 2 ls []) := by
    intro fu
    induction fu with
    | zero => intro i hi h0 hfu; exact absurd hfu (Nat.not_lt_zero _)
    | succ fu ih2 =>
      intro i hi h0 hfu ls hl
      refine lv_iload_n gx gb dX2_evenAndOddByTurns_2 rfl (lv_at hl 0 rfl) ?_
      refine lv_iload_n gx gb dX2_evenAndOddByTurns_3 rfl (lv_at hl 2 rfl) ?_
      refine lv_icmp_ge (tgt := 34) gx gb dX2_evenAndOddByTurns_4 (by decide) (fun c4 => ?_) (fun c4 => ?_)
      · skip
        rw [nI_leI (by omega) (by omega)] at c4
        refine lv_iconst (v := nI 1) gx gb dX2_evenAndOddByTurns_34 (by decide) ?_
        exact W.zret (v := nI 1) gx gb gr (by decide) (fun t ht hW => ⟨nI 1, rfl, (by first | (dsimp only; done) | ((try dsimp only); exact bI_t (decide_eq_true (fun x hx => h0 x (by omega))))), ht⟩) (fun q h => by cases h) dX2_evenAndOddByTurns_35
      · skip
        rw [nI_leI (by omega) (by omega)] at c4
        have h90 := dg_lt (b := 256) (by omega) N (i + 1)
        have h91 := dg_lt (b := 256) (by omega) N i
        refine lv_lload_n gx gb dX2_evenAndOddByTurns_7 rfl (lv_at hl 1 rfl) ?_
        refine lv_iload_n gx gb dX2_evenAndOddByTurns_8 rfl (lv_at hl 0 rfl) ?_
        refine lv_iconst (v := nI 1) gx gb dX2_evenAndOddByTurns_9 (by decide) ?_
        refine lv_isub gx gb dX2_evenAndOddByTurns_10 ?_
        refine lv_evi (nI ((i + 1) - 1)) (e_sub (by omega)) ?_
        refine lv_evi (nI i) (congrArg nI (by omega)) ?_
        refine vp_callSi (W.runS (As := [.long (lN N), .int (nI i)]) (rest := []) ⟨gx, gb, gml, gown, gts⟩ (kX3_numberAt Gl N i (by omega) (by omega)) (va_cwS 2 gts gX2_evenAndOddByTurns_X3_numberAt rfl rfl rfl (by decide +kernel) ⟨Nat.le_of_ble_eq_true rfl, Nat.le_of_ble_eq_true rfl⟩) ⟨fun _ _ _ _ h => h, fun U hU hW => ⟨rfl, trivial⟩⟩ rfl rfl hl.1 rfl (lv_room (Nat.le_of_ble_eq_true rfl)) dX2_evenAndOddByTurns_11 ⟨Nat.le_of_ble_eq_true rfl, Nat.le_of_ble_eq_true rfl⟩) (fun r hw => ?_)
        have hr11 := hw
        subst hr11
        refine lv_iconst (v := nI 2) gx gb dX2_evenAndOddByTurns_14 (by decide) ?_
        refine lv_irem gx gb dX2_evenAndOddByTurns_15 (nI_ne0 (by omega) (by omega)) ?_
        refine lv_evi (nI ((dg 256 N i) % 2)) (e_rem (by omega) (by omega) (by omega)) ?_
        refine lv_lload_n gx gb dX2_evenAndOddByTurns_16 rfl (lv_at hl 1 rfl) ?_
        refine lv_iload_n gx gb dX2_evenAndOddByTurns_17 rfl (lv_at hl 0 rfl) ?_
        refine vp_callSi (W.runS (As := [.long (lN N), .int (nI (i + 1))]) (rest := [.int (nI ((dg 256 N i) % 2))]) ⟨gx, gb, gml, gown, gts⟩ (kX3_numberAt Gl N (i + 1) (by omega) (by omega)) (va_cwS 2 gts gX2_evenAndOddByTurns_X3_numberAt rfl rfl rfl (by decide +kernel) ⟨Nat.le_of_ble_eq_true rfl, Nat.le_of_ble_eq_true rfl⟩) ⟨fun _ _ _ _ h => h, fun U hU hW => ⟨rfl, trivial⟩⟩ rfl rfl hl.1 rfl (lv_room (Nat.le_of_ble_eq_true rfl)) dX2_evenAndOddByTurns_18 ⟨Nat.le_of_ble_eq_true rfl, Nat.le_of_ble_eq_true rfl⟩) (fun r hw => ?_)
        have hr18 := hw
        subst hr18
        refine lv_iconst (v := nI 2) gx gb dX2_evenAndOddByTurns_21 (by decide) ?_
        refine lv_irem gx gb dX2_evenAndOddByTurns_22 (nI_ne0 (by omega) (by omega)) ?_
        refine lv_evi (nI ((dg 256 N (i + 1)) % 2)) (e_rem (by omega) (by omega) (by omega)) ?_
        refine lv_icmp_ne (tgt := 28) gx gb dX2_evenAndOddByTurns_23 (by decide) (fun c23 => ?_) (fun c23 => ?_)
        · skip
          rw [nI_eq (by omega) (by omega)] at c23
          refine lv_iinc (v := nI (i + 1 + 1)) (lv' := [(3, .int (nI (i + 1 + 1))), (0, .long (lN N)), (2, .int (nI q))]) gx gb dX2_evenAndOddByTurns_28 hl (k := 0) rfl (nI_add (i + 1) 1) (by decide) rfl (fun ls hl => ?_)
          refine lv_goto (tgt := 2) gx gb dX2_evenAndOddByTurns_31 (by decide) ?_
          exact ih2 (i + 1) (by omega) (by intro x hx; exact (Nat.lt_or_ge x i).elim (fun h => h0 x h) (fun h => by obtain rfl : x = i := (by omega); exact c23)) (by omega) ls (lv_sub hl [0, 1, 2] rfl)
        · skip
          rw [nI_eq (by omega) (by omega)] at c23
          refine lv_iconst (v := nI 0) gx gb dX2_evenAndOddByTurns_26 (by decide) ?_
          exact W.zret (v := nI 0) gx gb gr (by decide) (fun t ht hW => ⟨nI 0, rfl, (by first | (dsimp only; done) | ((try dsimp only); exact bI_f (decide_eq_false (fun hh => hh i (by omega) (by omega))))), ht⟩) (fun q h => by cases h) dX2_evenAndOddByTurns_27
  exact L2 _ 0 (by omega) (by intro x hx; exact absurd hx (Nat.not_lt_zero _)) (Nat.lt_succ_self _) ls (lv_sub hl [0, 1, 2] rfl)

set_option maxHeartbeats 4000000 in
set_option maxRecDepth 100000 in
theorem kX2_oneTimesTheOther (Gl : Launch) (N q : Nat) (hN : N < 9223372036854775808) (hq : q ≤ 7) (hq1 : 1 ≤ q) : Met Gl yX2_oneTimesTheOther wsX2_oneTimesTheOther ({ frames := 1, cells := 0, slots := 0, locals := 22 } : Room) (va_Pc [.long (lN N), .int (nI q)] (fun _ => True)) (vp_Si (fun r : Int32 => r = bI (tau 5 (dg 256 N) q))) 0 0 (fun _ => False) := by
  refine Met.ofW (cc := cX2_oneTimesTheOther) (maxL := 6) (ret := (some .boolean)) (by decide +kernel) rfl ?_
  intro Gp Ge Gs Gm Ga Gw Gt Gc G1 Bd gml gv
  obtain ⟨rfl, -⟩ := gv
  have gx := Bd.exec
  have gb := Bd.bytes
  have gr := Bd.returns
  have gts := atoms_spec (ws := wsX2_oneTimesTheOther) Bd.pre
  have gown : Gs.vm.findClass RX2 = some Gm.cls := findClass_of_methodNamed Bd.named
  have glk := Bd.notSynchronized
  have hl := lv_entry ([.long (lN N), .int (nI q)]) (n := 6) (Nat.le_of_ble_eq_true rfl)
  rw [lg_entry_eq]
  generalize (lg_sl ([.long (lN N), .int (nI q)]) ++ List.replicate (6 - (lg_sl ([.long (lN N), .int (nI q)])).length) Slot.unset).toArray = ls at hl ⊢
  have hl : lv_has ls 6 [(0, .long (lN N)), (2, .int (nI q))] := hl
  refine lv_iconst (v := nI 1) gx gb dX2_oneTimesTheOther_0 (by decide) ?_
  refine lv_istore_n (lv' := [(3, .int (nI 1)), (0, .long (lN N)), (2, .int (nI q))]) gx gb dX2_oneTimesTheOther_1 rfl hl (by decide) rfl (fun ls hl => ?_)
  have L2 : ∀ fu : Nat, ∀ (i : Nat) (hi : i + 1 ≤ q) (h0 : ∀ x, x < i → mlt (dg 256 N x) (dg 256 N (x + 1)) = true ∨ mlt (dg 256 N (x + 1)) (dg 256 N x) = true), (q - i) < fu → ∀ ls : Array Slot, lv_has ls 6 [(3, .int (nI (i + 1))), (0, .long (lN N)), (2, .int (nI q))] → W Gp Gl Ge (headSpec wsX2_oneTimesTheOther ({ frames := 1, cells := 0, slots := 0, locals := 22 } : Room)).room Gs Gm ([.long (lN N), .int (nI q)] : List Value).toArray Gw Gt Gc Gs.heap [] 0 0 (MQ Gw (vp_Si (fun r : Int32 => r = bI (tau 5 (dg 256 N) q))) ([.long (lN N), .int (nI q)] : List Value).toArray Gs 0 0 (fun _ => False)) (F0 Gm 2 ls []) := by
    intro fu
    induction fu with
    | zero => intro i hi h0 hfu; exact absurd hfu (Nat.not_lt_zero _)
    | succ fu ih2 =>
      intro i hi h0 hfu ls hl
      refine lv_iload_n gx gb dX2_oneTimesTheOther_2 rfl (lv_at hl 0 rfl) ?_
      refine lv_iload_n gx gb dX2_oneTimesTheOther_3 rfl (lv_at hl 2 rfl) ?_
      refine lv_icmp_ge (tgt := 51) gx gb dX2_oneTimesTheOther_4 (by decide) (fun c4 => ?_) (fun c4 => ?_)
      · skip
        rw [nI_leI (by omega) (by omega)] at c4
        refine lv_iconst (v := nI 1) gx gb dX2_oneTimesTheOther_51 (by decide) ?_
        exact W.zret (v := nI 1) gx gb gr (by decide) (fun t ht hW => ⟨nI 1, rfl, (by first | (dsimp only; done) | ((try dsimp only); exact bI_t (decide_eq_true (fun x hx => h0 x (by omega))))), ht⟩) (fun q h => by cases h) dX2_oneTimesTheOther_52
      · skip
        rw [nI_leI (by omega) (by omega)] at c4
        have h90 := dg_lt (b := 256) (by omega) N (i + 1)
        have h91 := dg_lt (b := 256) (by omega) N i
        refine lv_lload_n gx gb dX2_oneTimesTheOther_7 rfl (lv_at hl 1 rfl) ?_
        refine lv_iload_n gx gb dX2_oneTimesTheOther_8 rfl (lv_at hl 0 rfl) ?_
        refine lv_iconst (v := nI 1) gx gb dX2_oneTimesTheOther_9 (by decide) ?_
        refine lv_isub gx gb dX2_oneTimesTheOther_10 ?_
        refine lv_evi (nI ((i + 1) - 1)) (e_sub (by omega)) ?_
        refine lv_evi (nI i) (congrArg nI (by omega)) ?_
        refine vp_callSi (W.runS (As := [.long (lN N), .int (nI i)]) (rest := []) ⟨gx, gb, gml, gown, gts⟩ (kX3_numberAt Gl N i (by omega) (by omega)) (va_cwS 2 gts gX2_oneTimesTheOther_X3_numberAt rfl rfl rfl (by decide +kernel) ⟨Nat.le_of_ble_eq_true rfl, Nat.le_of_ble_eq_true rfl⟩) ⟨fun _ _ _ _ h => h, fun U hU hW => ⟨rfl, trivial⟩⟩ rfl rfl hl.1 rfl (lv_room (Nat.le_of_ble_eq_true rfl)) dX2_oneTimesTheOther_11 ⟨Nat.le_of_ble_eq_true rfl, Nat.le_of_ble_eq_true rfl⟩) (fun r hw => ?_)
        have hr11 := hw
        subst hr11
        refine lv_istore (lv' := [(4, .int (nI (dg 256 N i))), (3, .int (nI (i + 1))), (0, .long (lN N)), (2, .int (nI q))]) gx gb dX2_oneTimesTheOther_14 hl (by decide) rfl (fun ls hl => ?_)
        refine lv_lload_n gx gb dX2_oneTimesTheOther_16 rfl (lv_at hl 2 rfl) ?_
        refine lv_iload_n gx gb dX2_oneTimesTheOther_17 rfl (lv_at hl 1 rfl) ?_
        refine vp_callSi (W.runS (As := [.long (lN N), .int (nI (i + 1))]) (rest := []) ⟨gx, gb, gml, gown, gts⟩ (kX3_numberAt Gl N (i + 1) (by omega) (by omega)) (va_cwS 2 gts gX2_oneTimesTheOther_X3_numberAt rfl rfl rfl (by decide +kernel) ⟨Nat.le_of_ble_eq_true rfl, Nat.le_of_ble_eq_true rfl⟩) ⟨fun _ _ _ _ h => h, fun U hU hW => ⟨rfl, trivial⟩⟩ rfl rfl hl.1 rfl (lv_room (Nat.le_of_ble_eq_true rfl)) dX2_oneTimesTheOther_18 ⟨Nat.le_of_ble_eq_true rfl, Nat.le_of_ble_eq_true rfl⟩) (fun r hw => ?_)
        have hr18 := hw
        subst hr18
        refine lv_istore (lv' := [(5, .int (nI (dg 256 N (i + 1)))), (4, .int (nI (dg 256 N i))), (3, .int (nI (i + 1))), (0, .long (lN N)), (2, .int (nI q))]) gx gb dX2_oneTimesTheOther_21 hl (by decide) rfl (fun ls hl => ?_)
        refine lv_iload gx gb dX2_oneTimesTheOther_23 (lv_at hl 1 rfl) ?_
        refine lv_iload gx gb dX2_oneTimesTheOther_25 (lv_at hl 0 rfl) ?_
        refine vp_callSi (W.runS (As := [.int (nI (dg 256 N i)), .int (nI (dg 256 N (i + 1)))]) (rest := []) ⟨gx, gb, gml, gown, gts⟩ (kX2_isSomeTimes Gl (dg 256 N i) (dg 256 N (i + 1)) (by omega) (by omega)) (va_cwS 2 gts gX2_oneTimesTheOther_X2_isSomeTimes rfl rfl rfl (by decide +kernel) ⟨Nat.le_of_ble_eq_true rfl, Nat.le_of_ble_eq_true rfl⟩) ⟨fun _ _ _ _ h => h, fun U hU hW => ⟨rfl, trivial⟩⟩ rfl rfl hl.1 rfl (lv_room (Nat.le_of_ble_eq_true rfl)) dX2_oneTimesTheOther_27 ⟨Nat.le_of_ble_eq_true rfl, Nat.le_of_ble_eq_true rfl⟩) (fun r hw => ?_)
        have hr27 := hw
        subst hr27
        refine lv_if_ne (tgt := 45) gx gb dX2_oneTimesTheOther_30 (by decide) (fun c30 => ?_) (fun c30 => ?_)
        · skip
          rw [b0_eq] at c30
          have c30 := nf_t c30
          refine lv_iinc (v := nI (i + 1 + 1)) (lv' := [(3, .int (nI (i + 1 + 1))), (5, .int (nI (dg 256 N (i + 1)))), (4, .int (nI (dg 256 N i))), (0, .long (lN N)), (2, .int (nI q))]) gx gb dX2_oneTimesTheOther_45 hl (k := 2) rfl (nI_add (i + 1) 1) (by decide) rfl (fun ls hl => ?_)
          refine lv_goto (tgt := 2) gx gb dX2_oneTimesTheOther_48 (by decide) ?_
          exact ih2 (i + 1) (by omega) (by intro x hx; exact (Nat.lt_or_ge x i).elim (fun h => h0 x h) (fun h => by obtain rfl : x = i := (by omega); first | exact Or.inl (c30) | exact Or.inr (c40))) (by omega) ls (lv_sub hl [0, 3, 4] rfl)
        · skip
          rw [b0_eq] at c30
          refine lv_iload gx gb dX2_oneTimesTheOther_33 (lv_at hl 0 rfl) ?_
          refine lv_iload gx gb dX2_oneTimesTheOther_35 (lv_at hl 1 rfl) ?_
          refine vp_callSi (W.runS (As := [.int (nI (dg 256 N (i + 1))), .int (nI (dg 256 N i))]) (rest := []) ⟨gx, gb, gml, gown, gts⟩ (kX2_isSomeTimes Gl (dg 256 N (i + 1)) (dg 256 N i) (by omega) (by omega)) (va_cwS 2 gts gX2_oneTimesTheOther_X2_isSomeTimes rfl rfl rfl (by decide +kernel) ⟨Nat.le_of_ble_eq_true rfl, Nat.le_of_ble_eq_true rfl⟩) ⟨fun _ _ _ _ h => h, fun U hU hW => ⟨rfl, trivial⟩⟩ rfl rfl hl.1 rfl (lv_room (Nat.le_of_ble_eq_true rfl)) dX2_oneTimesTheOther_37 ⟨Nat.le_of_ble_eq_true rfl, Nat.le_of_ble_eq_true rfl⟩) (fun r hw => ?_)
          have hr37 := hw
          subst hr37
          refine lv_if_ne (tgt := 45) gx gb dX2_oneTimesTheOther_40 (by decide) (fun c40 => ?_) (fun c40 => ?_)
          · skip
            rw [b0_eq] at c40
            have c40 := nf_t c40
            refine lv_iinc (v := nI (i + 1 + 1)) (lv' := [(3, .int (nI (i + 1 + 1))), (5, .int (nI (dg 256 N (i + 1)))), (4, .int (nI (dg 256 N i))), (0, .long (lN N)), (2, .int (nI q))]) gx gb dX2_oneTimesTheOther_45 hl (k := 2) rfl (nI_add (i + 1) 1) (by decide) rfl (fun ls hl => ?_)
            refine lv_goto (tgt := 2) gx gb dX2_oneTimesTheOther_48 (by decide) ?_
            exact ih2 (i + 1) (by omega) (by intro x hx; exact (Nat.lt_or_ge x i).elim (fun h => h0 x h) (fun h => by obtain rfl : x = i := (by omega); first | exact Or.inl (c30) | exact Or.inr (c40))) (by omega) ls (lv_sub hl [0, 3, 4] rfl)
          · skip
            rw [b0_eq] at c40
            refine lv_iconst (v := nI 0) gx gb dX2_oneTimesTheOther_43 (by decide) ?_
            exact W.zret (v := nI 0) gx gb gr (by decide) (fun t ht hW => ⟨nI 0, rfl, (by first | (dsimp only; done) | ((try dsimp only); exact bI_f (decide_eq_false (fun hh => (hh i (by omega)).elim (fun h => by rw [c30] at h; cases h) (fun h => by rw [c40] at h; cases h))))), ht⟩) (fun q h => by cases h) dX2_oneTimesTheOther_44
  exact L2 _ 0 (by omega) (by intro x hx; exact absurd hx (Nat.not_lt_zero _)) (Nat.lt_succ_self _) ls (lv_sub hl [0, 1, 2] rfl)

set_option maxHeartbeats 4000000 in
set_option maxRecDepth 100000 in
theorem kX2_teach (Gl : Launch) (k N q : Nat) (hk : k ≤ 6) (hN : N < 9223372036854775808) (hq : q ≤ 7) (hq1 : 1 ≤ q) (h99 : ∀ i, i < q → dg 256 N i ≤ 99) : Met Gl yX2_teach wsX2_teach ({ frames := 2, cells := 0, slots := 0, locals := 65 } : Room) (va_Pc [.int (nI k), .long (lN N), .int (nI q)] (fun _ => True)) (vp_Si (fun r : Int32 => r = bI (tau k (dg 256 N) q))) 0 0 (fun _ => False) := by
  refine Met.ofW (cc := cX2_teach) (maxL := 4) (ret := (some .boolean)) (by decide +kernel) rfl ?_
  intro Gp Ge Gs Gm Ga Gw Gt Gc G1 Bd gml gv
  obtain ⟨rfl, -⟩ := gv
  have gx := Bd.exec
  have gb := Bd.bytes
  have gr := Bd.returns
  have gts := atoms_spec (ws := wsX2_teach) Bd.pre
  have gown : Gs.vm.findClass RX2 = some Gm.cls := findClass_of_methodNamed Bd.named
  have glk := Bd.notSynchronized
  have hl := lv_entry ([.int (nI k), .long (lN N), .int (nI q)]) (n := 4) (Nat.le_of_ble_eq_true rfl)
  rw [lg_entry_eq]
  generalize (lg_sl ([.int (nI k), .long (lN N), .int (nI q)]) ++ List.replicate (4 - (lg_sl ([.int (nI k), .long (lN N), .int (nI q)])).length) Slot.unset).toArray = ls at hl ⊢
  have hl : lv_has ls 4 [(0, .int (nI k)), (1, .long (lN N)), (3, .int (nI q))] := hl
  refine lv_iload_n gx gb dX2_teach_0 rfl (lv_at hl 0 rfl) ?_
  rcases (show k = 0 ∨ k = 1 ∨ k = 2 ∨ k = 3 ∨ k = 4 ∨ k = 5 ∨ k = 6 by omega) with rfl | rfl | rfl | rfl | rfl | rfl | rfl
  · skip
    refine lv_tableIn (tgt := 44) (off := 43) gx gb dX2_teach_1 (by decide) (by decide) (by decide) (by decide) ?_
    refine lv_lload_n gx gb dX2_teach_44 rfl (lv_at hl 1 rfl) ?_
    refine lv_iload_n gx gb dX2_teach_45 rfl (lv_at hl 2 rfl) ?_
    refine vp_callSi (W.runS (As := [.long (lN N), .int (nI q)]) (rest := []) ⟨gx, gb, gml, gown, gts⟩ (kX3_longestRise Gl N q (by omega) (by omega) (by omega)) (va_cwS 2 gts gX2_teach_X3_longestRise rfl rfl rfl (by decide +kernel) ⟨Nat.le_of_ble_eq_true rfl, Nat.le_of_ble_eq_true rfl⟩) ⟨fun _ _ _ _ h => h, fun U hU hW => ⟨rfl, trivial⟩⟩ rfl rfl hl.1 rfl (lv_room (Nat.le_of_ble_eq_true rfl)) dX2_teach_46 ⟨Nat.le_of_ble_eq_true rfl, Nat.le_of_ble_eq_true rfl⟩) (fun r hw => ?_)
    have hr46 := hw
    subst hr46
    have hr7 : lrise (dg 256 N) q ≤ q := by have := (lr_bd (dg 256 N) (q - 1)).2.2; unfold lrise; omega
    refine lv_iload_n gx gb dX2_teach_49 rfl (lv_at hl 2 rfl) ?_
    refine lv_icmp_ne (tgt := 57) gx gb dX2_teach_50 (by decide) (fun c50 => ?_) (fun c50 => ?_)
    · skip
      rw [nI_eq (by omega) (by omega)] at c50
      refine lv_iconst (v := nI 0) gx gb dX2_teach_57 (by decide) ?_
      exact W.zret (v := nI 0) gx gb gr (by decide) (fun t ht hW => ⟨nI 0, rfl, (by first | (dsimp only; done) | ((try dsimp only); first | exact bI_t (decide_eq_true (lrise_all (by omega) |>.mp c50)) | exact bI_f (decide_eq_false (fun hh => c50 ((lrise_all (by omega)).mpr hh))))), ht⟩) (fun q h => by cases h) dX2_teach_58
    · skip
      rw [nI_eq (by omega) (by omega)] at c50
      refine lv_iconst (v := nI 1) gx gb dX2_teach_53 (by decide) ?_
      refine lv_goto (tgt := 58) gx gb dX2_teach_54 (by decide) ?_
      exact W.zret (v := nI 1) gx gb gr (by decide) (fun t ht hW => ⟨nI 1, rfl, (by first | (dsimp only; done) | ((try dsimp only); first | exact bI_t (decide_eq_true (lrise_all (by omega) |>.mp c50)) | exact bI_f (decide_eq_false (fun hh => c50 ((lrise_all (by omega)).mpr hh))))), ht⟩) (fun q h => by cases h) dX2_teach_58
  · skip
    refine lv_tableIn (tgt := 59) (off := 58) gx gb dX2_teach_1 (by decide) (by decide) (by decide) (by decide) ?_
    refine lv_lload_n gx gb dX2_teach_59 rfl (lv_at hl 1 rfl) ?_
    refine lv_iload_n gx gb dX2_teach_60 rfl (lv_at hl 2 rfl) ?_
    refine vp_callSi (W.runS (As := [.long (lN N), .int (nI q)]) (rest := []) ⟨gx, gb, gml, gown, gts⟩ (kX2_evenAheadOfOdd Gl N q (by omega) (by omega) (by omega)) (va_cwS 2 gts gX2_teach_X2_evenAheadOfOdd rfl rfl rfl (by decide +kernel) ⟨Nat.le_of_ble_eq_true rfl, Nat.le_of_ble_eq_true rfl⟩) ⟨fun _ _ _ _ h => h, fun U hU hW => ⟨rfl, trivial⟩⟩ rfl rfl hl.1 rfl (lv_room (Nat.le_of_ble_eq_true rfl)) dX2_teach_61 ⟨Nat.le_of_ble_eq_true rfl, Nat.le_of_ble_eq_true rfl⟩) (fun r hw => ?_)
    have hr61 := hw
    subst hr61
    exact W.zret (v := bI (tau 1 (dg 256 N) q)) gx gb gr (bI_nar _) (fun t ht hW => ⟨bI (tau 1 (dg 256 N) q), rfl, (by first | (dsimp only; done) | ((try dsimp only); rfl)), ht⟩) (fun q h => by cases h) dX2_teach_64
  · skip
    refine lv_tableIn (tgt := 65) (off := 64) gx gb dX2_teach_1 (by decide) (by decide) (by decide) (by decide) ?_
    refine lv_lload_n gx gb dX2_teach_65 rfl (lv_at hl 1 rfl) ?_
    refine lv_iconst (v := nI 0) gx gb dX2_teach_66 (by decide) ?_
    refine vp_callSi (W.runS (As := [.long (lN N), .int (nI 0)]) (rest := []) ⟨gx, gb, gml, gown, gts⟩ (kX3_numberAt Gl N 0 (by omega) (by omega)) (va_cwS 2 gts gX2_teach_X3_numberAt rfl rfl rfl (by decide +kernel) ⟨Nat.le_of_ble_eq_true rfl, Nat.le_of_ble_eq_true rfl⟩) ⟨fun _ _ _ _ h => h, fun U hU hW => ⟨rfl, trivial⟩⟩ rfl rfl hl.1 rfl (lv_room (Nat.le_of_ble_eq_true rfl)) dX2_teach_67 ⟨Nat.le_of_ble_eq_true rfl, Nat.le_of_ble_eq_true rfl⟩) (fun r hw => ?_)
    have hr67 := hw
    subst hr67
    have h90 := h99 0 (by omega)
    refine vp_callSi (W.runS (As := [.int (nI (dg 256 N 0))]) (rest := []) ⟨gx, gb, gml, gown, gts⟩ (kX0_isPrime Gl (dg 256 N 0) (by omega)) (va_cwS 1 gts gX2_teach_X0_isPrime rfl rfl rfl (by decide +kernel) ⟨Nat.le_of_ble_eq_true rfl, Nat.le_of_ble_eq_true rfl⟩) ⟨fun _ _ _ _ h => h, fun U hU hW => ⟨rfl, trivial⟩⟩ rfl rfl hl.1 rfl (lv_room (Nat.le_of_ble_eq_true rfl)) dX2_teach_70 ⟨Nat.le_of_ble_eq_true rfl, Nat.le_of_ble_eq_true rfl⟩) (fun r hw => ?_)
    have hr70 := hw
    subst hr70
    exact W.zret (v := bI (prm (dg 256 N 0))) gx gb gr (bI_nar _) (fun t ht hW => ⟨bI (prm (dg 256 N 0)), rfl, (by first | (dsimp only; done) | ((try dsimp only); rfl)), ht⟩) (fun q h => by cases h) dX2_teach_73
  · skip
    refine lv_tableIn (tgt := 74) (off := 73) gx gb dX2_teach_1 (by decide) (by decide) (by decide) (by decide) ?_
    refine lv_lload_n gx gb dX2_teach_74 rfl (lv_at hl 1 rfl) ?_
    refine lv_iconst (v := nI 0) gx gb dX2_teach_75 (by decide) ?_
    refine lv_iconst (v := nI 3) gx gb dX2_teach_76 (by decide) ?_
    refine lv_iload_n gx gb dX2_teach_77 rfl (lv_at hl 2 rfl) ?_
    refine va_mmin gx gb (by rw [gml]; exact hl.1.symm) gown (gts (.methodLink RX2 34 Lib.Math.min.name) (by decide +kernel)) (gts (.static Lib.Math.min.name) (by decide +kernel)) (gts (.initialized "java/lang/Math") (by decide +kernel)) (gts (.code Lib.Math.min.name Lib.Math.min.code 2 (some .int)) (by decide +kernel)) (Nat.le_of_ble_eq_true rfl) (Nat.le_of_ble_eq_true rfl) (Nat.le_of_ble_eq_true rfl) (Nat.le_of_ble_eq_true rfl) dX2_teach_78 ?_
    refine lv_evi (nI (min 3 q)) (e_min (by omega) (by omega)) ?_
    refine vp_callSi (W.runS (As := [.long (lN N), .int (nI 0), .int (nI (min 3 q))]) (rest := []) ⟨gx, gb, gml, gown, gts⟩ (kX3_sum Gl N 0 (min 3 q) (by omega) (by omega) (by omega)) (va_cwS 3 gts gX2_teach_X3_sum rfl rfl rfl (by decide +kernel) ⟨Nat.le_of_ble_eq_true rfl, Nat.le_of_ble_eq_true rfl⟩) ⟨fun _ _ _ _ h => h, fun U hU hW => ⟨rfl, trivial⟩⟩ rfl rfl hl.1 rfl (lv_room (Nat.le_of_ble_eq_true rfl)) dX2_teach_81 ⟨Nat.le_of_ble_eq_true rfl, Nat.le_of_ble_eq_true rfl⟩) (fun r hw => ?_)
    have hr81 := hw
    subst hr81
    have hsm := sm_le (v := dg 256 N) (a := 0) (c := 99) (n := min 3 q - 0) (fun i _ => h99 (0 + i) (by omega))
    refine vp_callSi (W.runS (As := [.int (nI (sm (dg 256 N) 0 ((min 3 q) - 0)))]) (rest := []) ⟨gx, gb, gml, gown, gts⟩ (kX0_isSquare Gl (sm (dg 256 N) 0 ((min 3 q) - 0)) (by omega)) (va_cwS 1 gts gX2_teach_X0_isSquare rfl rfl rfl (by decide +kernel) ⟨Nat.le_of_ble_eq_true rfl, Nat.le_of_ble_eq_true rfl⟩) ⟨fun _ _ _ _ h => h, fun U hU hW => ⟨rfl, trivial⟩⟩ rfl rfl hl.1 rfl (lv_room (Nat.le_of_ble_eq_true rfl)) dX2_teach_84 ⟨Nat.le_of_ble_eq_true rfl, Nat.le_of_ble_eq_true rfl⟩) (fun r hw => ?_)
    have hr84 := hw
    subst hr84
    exact W.zret (v := bI (sqr (sm (dg 256 N) 0 ((min 3 q) - 0)))) gx gb gr (bI_nar _) (fun t ht hW => ⟨bI (sqr (sm (dg 256 N) 0 ((min 3 q) - 0))), rfl, (by first | (dsimp only; done) | ((try dsimp only); rfl)), ht⟩) (fun q h => by cases h) dX2_teach_87
  · skip
    refine lv_tableIn (tgt := 88) (off := 87) gx gb dX2_teach_1 (by decide) (by decide) (by decide) (by decide) ?_
    refine lv_lload_n gx gb dX2_teach_88 rfl (lv_at hl 1 rfl) ?_
    refine lv_iload_n gx gb dX2_teach_89 rfl (lv_at hl 2 rfl) ?_
    refine vp_callSi (W.runS (As := [.long (lN N), .int (nI q)]) (rest := []) ⟨gx, gb, gml, gown, gts⟩ (kX2_evenAndOddByTurns Gl N q (by omega) (by omega) (by omega)) (va_cwS 2 gts gX2_teach_X2_evenAndOddByTurns rfl rfl rfl (by decide +kernel) ⟨Nat.le_of_ble_eq_true rfl, Nat.le_of_ble_eq_true rfl⟩) ⟨fun _ _ _ _ h => h, fun U hU hW => ⟨rfl, trivial⟩⟩ rfl rfl hl.1 rfl (lv_room (Nat.le_of_ble_eq_true rfl)) dX2_teach_90 ⟨Nat.le_of_ble_eq_true rfl, Nat.le_of_ble_eq_true rfl⟩) (fun r hw => ?_)
    have hr90 := hw
    subst hr90
    exact W.zret (v := bI (tau 4 (dg 256 N) q)) gx gb gr (bI_nar _) (fun t ht hW => ⟨bI (tau 4 (dg 256 N) q), rfl, (by first | (dsimp only; done) | ((try dsimp only); rfl)), ht⟩) (fun q h => by cases h) dX2_teach_93
  · skip
    refine lv_tableIn (tgt := 94) (off := 93) gx gb dX2_teach_1 (by decide) (by decide) (by decide) (by decide) ?_
    refine lv_lload_n gx gb dX2_teach_94 rfl (lv_at hl 1 rfl) ?_
    refine lv_iload_n gx gb dX2_teach_95 rfl (lv_at hl 2 rfl) ?_
    refine vp_callSi (W.runS (As := [.long (lN N), .int (nI q)]) (rest := []) ⟨gx, gb, gml, gown, gts⟩ (kX2_oneTimesTheOther Gl N q (by omega) (by omega) (by omega)) (va_cwS 2 gts gX2_teach_X2_oneTimesTheOther rfl rfl rfl (by decide +kernel) ⟨Nat.le_of_ble_eq_true rfl, Nat.le_of_ble_eq_true rfl⟩) ⟨fun _ _ _ _ h => h, fun U hU hW => ⟨rfl, trivial⟩⟩ rfl rfl hl.1 rfl (lv_room (Nat.le_of_ble_eq_true rfl)) dX2_teach_96 ⟨Nat.le_of_ble_eq_true rfl, Nat.le_of_ble_eq_true rfl⟩) (fun r hw => ?_)
    have hr96 := hw
    subst hr96
    exact W.zret (v := bI (tau 5 (dg 256 N) q)) gx gb gr (bI_nar _) (fun t ht hW => ⟨bI (tau 5 (dg 256 N) q), rfl, (by first | (dsimp only; done) | ((try dsimp only); rfl)), ht⟩) (fun q h => by cases h) dX2_teach_99
  · skip
    refine lv_tableIn (tgt := 100) (off := 99) gx gb dX2_teach_1 (by decide) (by decide) (by decide) (by decide) ?_
    refine lv_lload_n gx gb dX2_teach_100 rfl (lv_at hl 1 rfl) ?_
    refine lv_iconst (v := nI 0) gx gb dX2_teach_101 (by decide) ?_
    refine lv_iload_n gx gb dX2_teach_102 rfl (lv_at hl 2 rfl) ?_
    refine lv_iconst (v := nI 2) gx gb dX2_teach_103 (by decide) ?_
    refine lv_idiv gx gb dX2_teach_104 (nI_ne0 (by omega) (by omega)) ?_
    refine lv_evi (nI (q / 2)) (e_div (by omega) (by omega) (by omega)) ?_
    refine vp_callSi (W.runS (As := [.long (lN N), .int (nI 0), .int (nI (q / 2))]) (rest := []) ⟨gx, gb, gml, gown, gts⟩ (kX3_sum Gl N 0 (q / 2) (by omega) (by omega) (by omega)) (va_cwS 3 gts gX2_teach_X3_sum rfl rfl rfl (by decide +kernel) ⟨Nat.le_of_ble_eq_true rfl, Nat.le_of_ble_eq_true rfl⟩) ⟨fun _ _ _ _ h => h, fun U hU hW => ⟨rfl, trivial⟩⟩ rfl rfl hl.1 rfl (lv_room (Nat.le_of_ble_eq_true rfl)) dX2_teach_105 ⟨Nat.le_of_ble_eq_true rfl, Nat.le_of_ble_eq_true rfl⟩) (fun r hw => ?_)
    have hr105 := hw
    subst hr105
    refine lv_lload_n gx gb dX2_teach_108 rfl (lv_at hl 1 rfl) ?_
    refine lv_iload_n gx gb dX2_teach_109 rfl (lv_at hl 2 rfl) ?_
    refine lv_iconst (v := nI 2) gx gb dX2_teach_110 (by decide) ?_
    refine lv_idiv gx gb dX2_teach_111 (nI_ne0 (by omega) (by omega)) ?_
    refine lv_evi (nI (q / 2)) (e_div (by omega) (by omega) (by omega)) ?_
    refine lv_iload_n gx gb dX2_teach_112 rfl (lv_at hl 2 rfl) ?_
    refine vp_callSi (W.runS (As := [.long (lN N), .int (nI (q / 2)), .int (nI q)]) (rest := [.int (nI (sm (dg 256 N) 0 ((q / 2) - 0)))]) ⟨gx, gb, gml, gown, gts⟩ (kX3_sum Gl N (q / 2) q (by omega) (by omega) (by omega)) (va_cwS 3 gts gX2_teach_X3_sum rfl rfl rfl (by decide +kernel) ⟨Nat.le_of_ble_eq_true rfl, Nat.le_of_ble_eq_true rfl⟩) ⟨fun _ _ _ _ h => h, fun U hU hW => ⟨rfl, trivial⟩⟩ rfl rfl hl.1 rfl (lv_room (Nat.le_of_ble_eq_true rfl)) dX2_teach_113 ⟨Nat.le_of_ble_eq_true rfl, Nat.le_of_ble_eq_true rfl⟩) (fun r hw => ?_)
    have hr113 := hw
    subst hr113
    have hs1 := sm_le (v := dg 256 N) (a := 0) (c := 255) (n := q / 2 - 0) (fun i _ => by have := dg_lt (b := 256) (by omega) N (0 + i); omega)
    have hs2 := sm_le (v := dg 256 N) (a := q / 2) (c := 255) (n := q - q / 2) (fun i _ => by have := dg_lt (b := 256) (by omega) N (q / 2 + i); omega)
    refine lv_icmp_ne (tgt := 123) gx gb dX2_teach_116 (by decide) (fun c116 => ?_) (fun c116 => ?_)
    · skip
      rw [nI_eq (by omega) (by omega)] at c116
      refine lv_iconst (v := nI 0) gx gb dX2_teach_123 (by decide) ?_
      exact W.zret (v := nI 0) gx gb gr (by decide) (fun t ht hW => ⟨nI 0, rfl, (by first | (dsimp only; done) | ((try dsimp only); first | exact bI_t (decide_eq_true c116) | exact bI_f (decide_eq_false c116))), ht⟩) (fun q h => by cases h) dX2_teach_124
    · skip
      rw [nI_eq (by omega) (by omega)] at c116
      refine lv_iconst (v := nI 1) gx gb dX2_teach_119 (by decide) ?_
      refine lv_goto (tgt := 124) gx gb dX2_teach_120 (by decide) ?_
      exact W.zret (v := nI 1) gx gb gr (by decide) (fun t ht hW => ⟨nI 1, rfl, (by first | (dsimp only; done) | ((try dsimp only); first | exact bI_t (decide_eq_true c116) | exact bI_f (decide_eq_false c116))), ht⟩) (fun q h => by cases h) dX2_teach_124

set_option maxHeartbeats 4000000 in
set_option maxRecDepth 100000 in
theorem kX2_asBits (Gl : Launch) (N q : Nat) (hN : N < 9223372036854775808) (hq : q ≤ 7) (hq1 : 1 ≤ q) (h99 : ∀ i, i < q → dg 256 N i ≤ 99) : Met Gl yX2_asBits wsX2_asBits ({ frames := 3, cells := 0, slots := 0, locals := 88 } : Room) (va_Pc [.long (lN N), .int (nI q)] (fun _ => True)) (vp_Si (fun r : Int32 => r = nI (tbits (dg 256 N) q 7))) 0 0 (fun _ => False) := by
  refine Met.ofW (cc := cX2_asBits) (maxL := 5) (ret := (some .int)) (by decide +kernel) rfl ?_
  intro Gp Ge Gs Gm Ga Gw Gt Gc G1 Bd gml gv
  obtain ⟨rfl, -⟩ := gv
  have gx := Bd.exec
  have gb := Bd.bytes
  have gr := Bd.returns
  have gts := atoms_spec (ws := wsX2_asBits) Bd.pre
  have gown : Gs.vm.findClass RX2 = some Gm.cls := findClass_of_methodNamed Bd.named
  have glk := Bd.notSynchronized
  have hl := lv_entry ([.long (lN N), .int (nI q)]) (n := 5) (Nat.le_of_ble_eq_true rfl)
  rw [lg_entry_eq]
  generalize (lg_sl ([.long (lN N), .int (nI q)]) ++ List.replicate (5 - (lg_sl ([.long (lN N), .int (nI q)])).length) Slot.unset).toArray = ls at hl ⊢
  have hl : lv_has ls 5 [(0, .long (lN N)), (2, .int (nI q))] := hl
  refine lv_iconst (v := nI 0) gx gb dX2_asBits_0 (by decide) ?_
  refine lv_istore_n (lv' := [(3, .int (nI 0)), (0, .long (lN N)), (2, .int (nI q))]) gx gb dX2_asBits_1 rfl hl (by decide) rfl (fun ls hl => ?_)
  refine lv_iconst (v := nI 0) gx gb dX2_asBits_2 (by decide) ?_
  refine lv_istore (lv' := [(4, .int (nI 0)), (3, .int (nI 0)), (0, .long (lN N)), (2, .int (nI q))]) gx gb dX2_asBits_3 hl (by decide) rfl (fun ls hl => ?_)
  have L5 : ∀ fu : Nat, ∀ (i : Nat) (hi : i ≤ 7), (7 - i) < fu → ∀ ls : Array Slot, lv_has ls 5 [(3, .int (nI (tbits (dg 256 N) q i))), (4, .int (nI i)), (0, .long (lN N)), (2, .int (nI q))] → W Gp Gl Ge (headSpec wsX2_asBits ({ frames := 3, cells := 0, slots := 0, locals := 88 } : Room)).room Gs Gm ([.long (lN N), .int (nI q)] : List Value).toArray Gw Gt Gc Gs.heap [] 0 0 (MQ Gw (vp_Si (fun r : Int32 => r = nI (tbits (dg 256 N) q 7))) ([.long (lN N), .int (nI q)] : List Value).toArray Gs 0 0 (fun _ => False)) (F0 Gm 5 ls []) := by
    intro fu
    induction fu with
    | zero => intro i hi hfu; exact absurd hfu (Nat.not_lt_zero _)
    | succ fu ih5 =>
      intro i hi hfu ls hl
      refine lv_iload gx gb dX2_asBits_5 (lv_at hl 1 rfl) ?_
      refine lv_bipush (v := nI 7) gx gb dX2_asBits_7 (by decide) ?_
      refine lv_icmp_ge (tgt := 39) gx gb dX2_asBits_9 (by decide) (fun c9 => ?_) (fun c9 => ?_)
      · skip
        rw [nI_leI (by omega) (by omega)] at c9
        refine lv_iload_n gx gb dX2_asBits_39 rfl (lv_at hl 0 rfl) ?_
        exact W.iret (v := nI (tbits (dg 256 N) q i)) gx gb gr (fun t ht hW => ⟨nI (tbits (dg 256 N) q i), rfl, (by first | (dsimp only; done) | ((try dsimp only); obtain rfl : i = 7 := (by omega); rfl)), ht⟩) (fun q h => by cases h) dX2_asBits_40
      · skip
        rw [nI_leI (by omega) (by omega)] at c9
        have L31 : ∀ (x : Nat) (hxx : x = if tau i (dg 256 N) q then 1 * 2 ^ i else 0), ∀ ls : Array Slot, lv_has ls 5 [(3, .int (nI (tbits (dg 256 N) q i))), (4, .int (nI i)), (0, .long (lN N)), (2, .int (nI q))] → W Gp Gl Ge (headSpec wsX2_asBits ({ frames := 3, cells := 0, slots := 0, locals := 88 } : Room)).room Gs Gm ([.long (lN N), .int (nI q)] : List Value).toArray Gw Gt Gc Gs.heap [] 0 0 (MQ Gw (vp_Si (fun r : Int32 => r = nI (tbits (dg 256 N) q 7))) ([.long (lN N), .int (nI q)] : List Value).toArray Gs 0 0 (fun _ => False)) (F0 Gm 31 ls [.int (nI x), .int (nI (tbits (dg 256 N) q i))]) := by
          intro x hxx ls hl
          subst hxx
          have hl : lv_has ls 5 [(3, .int (nI (tbits (dg 256 N) q i))), (4, .int (nI i)), (0, .long (lN N)), (2, .int (nI q))] := hl
          refine lv_ior gx gb dX2_asBits_31 ?_
          refine lv_evi (nI ((tbits (dg 256 N) q i) ||| (if tau i (dg 256 N) q then 1 * 2 ^ i else 0))) (e_or (tbits (dg 256 N) q i) (if tau i (dg 256 N) q then 1 * 2 ^ i else 0)) ?_
          refine lv_istore_n (lv' := [(3, .int (nI ((tbits (dg 256 N) q i) ||| (if tau i (dg 256 N) q then 1 * 2 ^ i else 0)))), (4, .int (nI i)), (0, .long (lN N)), (2, .int (nI q))]) gx gb dX2_asBits_32 rfl hl (by decide) rfl (fun ls hl => ?_)
          refine lv_iinc (v := nI (i + 1)) (lv' := [(4, .int (nI (i + 1))), (3, .int (nI ((tbits (dg 256 N) q i) ||| (if tau i (dg 256 N) q then 1 * 2 ^ i else 0)))), (0, .long (lN N)), (2, .int (nI q))]) gx gb dX2_asBits_33 hl (k := 1) rfl (nI_add i 1) (by decide) rfl (fun ls hl => ?_)
          refine lv_goto (tgt := 5) gx gb dX2_asBits_36 (by decide) ?_
          exact ih5 (i + 1) (by omega) (by omega) ls (lv_sub hl [1, 0, 2, 3] rfl)
        refine lv_iload_n gx gb dX2_asBits_12 rfl (lv_at hl 0 rfl) ?_
        refine lv_iload gx gb dX2_asBits_13 (lv_at hl 1 rfl) ?_
        refine lv_lload_n gx gb dX2_asBits_15 rfl (lv_at hl 2 rfl) ?_
        refine lv_iload_n gx gb dX2_asBits_16 rfl (lv_at hl 3 rfl) ?_
        refine vp_callSi (W.runS (As := [.int (nI i), .long (lN N), .int (nI q)]) (rest := [.int (nI (tbits (dg 256 N) q i))]) ⟨gx, gb, gml, gown, gts⟩ (kX2_teach Gl i N q (by omega) (by omega) (by omega) (by omega) (by exact h99)) (va_cwS 3 gts gX2_asBits_X2_teach rfl rfl rfl (by decide +kernel) ⟨Nat.le_of_ble_eq_true rfl, Nat.le_of_ble_eq_true rfl⟩) ⟨fun _ _ _ _ h => h, fun U hU hW => ⟨rfl, trivial⟩⟩ rfl rfl hl.1 rfl (lv_room (Nat.le_of_ble_eq_true rfl)) dX2_asBits_17 ⟨Nat.le_of_ble_eq_true rfl, Nat.le_of_ble_eq_true rfl⟩) (fun r hw => ?_)
        have hr17 := hw
        subst hr17
        refine lv_if_eq (tgt := 30) gx gb dX2_asBits_20 (by decide) (fun c20 => ?_) (fun c20 => ?_)
        · skip
          rw [b0_eq] at c20
          refine lv_iconst (v := nI 0) gx gb dX2_asBits_30 (by decide) ?_
          exact L31 0 (by first | (rw [c20]; rfl) | (rw [c20]; rfl)) ls (lv_sub hl [0, 1, 2, 3] rfl)
        · skip
          rw [b0_eq] at c20
          have c20 := nf_t c20
          refine lv_iconst (v := nI 1) gx gb dX2_asBits_23 (by decide) ?_
          refine lv_iload gx gb dX2_asBits_24 (lv_at hl 1 rfl) ?_
          refine lv_ishl gx gb dX2_asBits_26 ?_
          refine lv_evi (nI (1 * 2 ^ i)) (e_shl _ (by omega)) ?_
          refine lv_goto (tgt := 31) gx gb dX2_asBits_27 (by decide) ?_
          exact L31 (1 * 2 ^ i) (by first | (rw [c20]; rfl) | (rw [c20]; rfl)) ls (lv_sub hl [0, 1, 2, 3] rfl)
  exact L5 _ 0 (by omega) (Nat.lt_succ_self _) ls (lv_sub hl [1, 0, 2, 3] rfl)

