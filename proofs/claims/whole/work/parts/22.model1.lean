set_option maxHeartbeats 4000000 in
set_option maxRecDepth 100000 in
theorem kX9_in (Gl : Launch) (v a b : Int) (hlv : -2147483648 ≤ v) (huv : v < 2147483648) (hla : -2147483648 ≤ a) (hua : a < 2147483648) (hlb : -2147483648 ≤ b) (hub : b < 2147483648) : Met Gl yX9_in wsX9_in ({ frames := 0, cells := 0, slots := 0, locals := 0 } : Room) (va_Pc [.int (zI v), .int (zI a), .int (zI b)] (fun _ => True)) (vp_Si (fun r : Int32 => r = bI (decide (a ≤ v ∧ v ≤ b)))) 0 0 (fun _ => False) := by
  refine Met.ofW (cc := cX9_in) (maxL := 3) (ret := (some .boolean)) (by decide +kernel) rfl ?_
  intro Gp Ge Gs Gm Ga Gw Gt Gc G1 Bd gml gv
  obtain ⟨rfl, -⟩ := gv
  have gx := Bd.exec
  have gb := Bd.bytes
  have gr := Bd.returns
  have gts := atoms_spec (ws := wsX9_in) Bd.pre
  have gown : Gs.vm.findClass RX9 = some Gm.cls := findClass_of_methodNamed Bd.named
  have glk := Bd.notSynchronized
  have hl := lv_entry ([.int (zI v), .int (zI a), .int (zI b)]) (n := 3) (Nat.le_of_ble_eq_true rfl)
  rw [lg_entry_eq]
  generalize (lg_sl ([.int (zI v), .int (zI a), .int (zI b)]) ++ List.replicate (3 - (lg_sl ([.int (zI v), .int (zI a), .int (zI b)])).length) Slot.unset).toArray = ls at hl ⊢
  have hl : lv_has ls 3 [(0, .int (zI v)), (1, .int (zI a)), (2, .int (zI b))] := hl
  refine lv_iload_n gx gb dX9_in_0 rfl (lv_at hl 0 rfl) ?_
  refine lv_iload_n gx gb dX9_in_1 rfl (lv_at hl 1 rfl) ?_
  refine lv_icmp_lt (tgt := 14) gx gb dX9_in_2 (by decide) (fun c2 => ?_) (fun c2 => ?_)
  · skip
    rw [zI_lt (by omega) (by omega) (by omega) (by omega)] at c2
    refine lv_iconst (v := nI 0) gx gb dX9_in_14 (by decide) ?_
    exact W.zret (v := nI 0) gx gb gr (by decide) (fun t ht hW => ⟨nI 0, rfl, (by first | (dsimp only; done) | ((try dsimp only); first | exact bI_t (decide_eq_true (by omega)) | exact bI_f (decide_eq_false (by omega)))), ht⟩) (fun q h => by cases h) dX9_in_15
  · skip
    rw [zI_lt (by omega) (by omega) (by omega) (by omega)] at c2
    refine lv_iload_n gx gb dX9_in_5 rfl (lv_at hl 0 rfl) ?_
    refine lv_iload_n gx gb dX9_in_6 rfl (lv_at hl 2 rfl) ?_
    refine lv_icmp_gt (tgt := 14) gx gb dX9_in_7 (by decide) (fun c7 => ?_) (fun c7 => ?_)
    · skip
      rw [zI_lt (by omega) (by omega) (by omega) (by omega)] at c7
      refine lv_iconst (v := nI 0) gx gb dX9_in_14 (by decide) ?_
      exact W.zret (v := nI 0) gx gb gr (by decide) (fun t ht hW => ⟨nI 0, rfl, (by first | (dsimp only; done) | ((try dsimp only); first | exact bI_t (decide_eq_true (by omega)) | exact bI_f (decide_eq_false (by omega)))), ht⟩) (fun q h => by cases h) dX9_in_15
    · skip
      rw [zI_lt (by omega) (by omega) (by omega) (by omega)] at c7
      refine lv_iconst (v := nI 1) gx gb dX9_in_10 (by decide) ?_
      refine lv_goto (tgt := 15) gx gb dX9_in_11 (by decide) ?_
      exact W.zret (v := nI 1) gx gb gr (by decide) (fun t ht hW => ⟨nI 1, rfl, (by first | (dsimp only; done) | ((try dsimp only); first | exact bI_t (decide_eq_true (by omega)) | exact bI_f (decide_eq_false (by omega)))), ht⟩) (fun q h => by cases h) dX9_in_15

set_option maxHeartbeats 4000000 in
set_option maxRecDepth 100000 in
theorem kX9_isLetter (Gl : Launch) (a : Nat) (ha : a < 2147483648) : Met Gl yX9_isLetter wsX9_isLetter ({ frames := 0, cells := 0, slots := 0, locals := 0 } : Room) (va_Pc [.int (nI a)] (fun _ => True)) (vp_Si (fun r : Int32 => r = bI (isLet a))) 0 0 (fun _ => False) := by
  refine Met.ofW (cc := cX9_isLetter) (maxL := 1) (ret := (some .boolean)) (by decide +kernel) rfl ?_
  intro Gp Ge Gs Gm Ga Gw Gt Gc G1 Bd gml gv
  obtain ⟨rfl, -⟩ := gv
  have gx := Bd.exec
  have gb := Bd.bytes
  have gr := Bd.returns
  have gts := atoms_spec (ws := wsX9_isLetter) Bd.pre
  have gown : Gs.vm.findClass RX9 = some Gm.cls := findClass_of_methodNamed Bd.named
  have glk := Bd.notSynchronized
  have hl := lv_entry ([.int (nI a)]) (n := 1) (Nat.le_of_ble_eq_true rfl)
  rw [lg_entry_eq]
  generalize (lg_sl ([.int (nI a)]) ++ List.replicate (1 - (lg_sl ([.int (nI a)])).length) Slot.unset).toArray = ls at hl ⊢
  have hl : lv_has ls 1 [(0, .int (nI a))] := hl
  refine lv_iload_n gx gb dX9_isLetter_0 rfl (lv_at hl 0 rfl) ?_
  refine lv_bipush (v := nI 98) gx gb dX9_isLetter_1 (by decide) ?_
  refine lv_icmp_eq (tgt := 24) gx gb dX9_isLetter_3 (by decide) (fun c3 => ?_) (fun c3 => ?_)
  · skip
    rw [nI_eq (by omega) (by omega)] at c3
    refine lv_iconst (v := nI 1) gx gb dX9_isLetter_24 (by decide) ?_
    refine lv_goto (tgt := 29) gx gb dX9_isLetter_25 (by decide) ?_
    exact W.zret (v := nI 1) gx gb gr (by decide) (fun t ht hW => ⟨nI 1, rfl, (by first | (dsimp only; done) | ((try dsimp only); first | exact bI_t (decide_eq_true (by omega)) | exact bI_f (decide_eq_false (by omega)))), ht⟩) (fun q h => by cases h) dX9_isLetter_29
  · skip
    rw [nI_eq (by omega) (by omega)] at c3
    refine lv_iload_n gx gb dX9_isLetter_6 rfl (lv_at hl 0 rfl) ?_
    refine lv_bipush (v := nI 112) gx gb dX9_isLetter_7 (by decide) ?_
    refine lv_icmp_eq (tgt := 24) gx gb dX9_isLetter_9 (by decide) (fun c9 => ?_) (fun c9 => ?_)
    · skip
      rw [nI_eq (by omega) (by omega)] at c9
      refine lv_iconst (v := nI 1) gx gb dX9_isLetter_24 (by decide) ?_
      refine lv_goto (tgt := 29) gx gb dX9_isLetter_25 (by decide) ?_
      exact W.zret (v := nI 1) gx gb gr (by decide) (fun t ht hW => ⟨nI 1, rfl, (by first | (dsimp only; done) | ((try dsimp only); first | exact bI_t (decide_eq_true (by omega)) | exact bI_f (decide_eq_false (by omega)))), ht⟩) (fun q h => by cases h) dX9_isLetter_29
    · skip
      rw [nI_eq (by omega) (by omega)] at c9
      refine lv_iload_n gx gb dX9_isLetter_12 rfl (lv_at hl 0 rfl) ?_
      refine lv_bipush (v := nI 103) gx gb dX9_isLetter_13 (by decide) ?_
      refine lv_icmp_eq (tgt := 24) gx gb dX9_isLetter_15 (by decide) (fun c15 => ?_) (fun c15 => ?_)
      · skip
        rw [nI_eq (by omega) (by omega)] at c15
        refine lv_iconst (v := nI 1) gx gb dX9_isLetter_24 (by decide) ?_
        refine lv_goto (tgt := 29) gx gb dX9_isLetter_25 (by decide) ?_
        exact W.zret (v := nI 1) gx gb gr (by decide) (fun t ht hW => ⟨nI 1, rfl, (by first | (dsimp only; done) | ((try dsimp only); first | exact bI_t (decide_eq_true (by omega)) | exact bI_f (decide_eq_false (by omega)))), ht⟩) (fun q h => by cases h) dX9_isLetter_29
      · skip
        rw [nI_eq (by omega) (by omega)] at c15
        refine lv_iload_n gx gb dX9_isLetter_18 rfl (lv_at hl 0 rfl) ?_
        refine lv_bipush (v := nI 120) gx gb dX9_isLetter_19 (by decide) ?_
        refine lv_icmp_ne (tgt := 28) gx gb dX9_isLetter_21 (by decide) (fun c21 => ?_) (fun c21 => ?_)
        · skip
          rw [nI_eq (by omega) (by omega)] at c21
          refine lv_iconst (v := nI 0) gx gb dX9_isLetter_28 (by decide) ?_
          exact W.zret (v := nI 0) gx gb gr (by decide) (fun t ht hW => ⟨nI 0, rfl, (by first | (dsimp only; done) | ((try dsimp only); first | exact bI_t (decide_eq_true (by omega)) | exact bI_f (decide_eq_false (by omega)))), ht⟩) (fun q h => by cases h) dX9_isLetter_29
        · skip
          rw [nI_eq (by omega) (by omega)] at c21
          refine lv_iconst (v := nI 1) gx gb dX9_isLetter_24 (by decide) ?_
          refine lv_goto (tgt := 29) gx gb dX9_isLetter_25 (by decide) ?_
          exact W.zret (v := nI 1) gx gb gr (by decide) (fun t ht hW => ⟨nI 1, rfl, (by first | (dsimp only; done) | ((try dsimp only); first | exact bI_t (decide_eq_true (by omega)) | exact bI_f (decide_eq_false (by omega)))), ht⟩) (fun q h => by cases h) dX9_isLetter_29

set_option maxHeartbeats 4000000 in
set_option maxRecDepth 100000 in
theorem kX9_isPrime (Gl : Launch) (v : Nat) (hv : v < 32768) : Met Gl yX9_isPrime wsX9_isPrime ({ frames := 0, cells := 0, slots := 0, locals := 0 } : Room) (va_Pc [.int (nI v)] (fun _ => True)) (vp_Si (fun r : Int32 => r = bI (prm v))) 0 0 (fun _ => False) := by
  refine Met.ofW (cc := cX9_isPrime) (maxL := 3) (ret := (some .boolean)) (by decide +kernel) rfl ?_
  intro Gp Ge Gs Gm Ga Gw Gt Gc G1 Bd gml gv
  obtain ⟨rfl, -⟩ := gv
  have gx := Bd.exec
  have gb := Bd.bytes
  have gr := Bd.returns
  have gts := atoms_spec (ws := wsX9_isPrime) Bd.pre
  have gown : Gs.vm.findClass RX9 = some Gm.cls := findClass_of_methodNamed Bd.named
  have glk := Bd.notSynchronized
  have hl := lv_entry ([.int (nI v)]) (n := 3) (Nat.le_of_ble_eq_true rfl)
  rw [lg_entry_eq]
  generalize (lg_sl ([.int (nI v)]) ++ List.replicate (3 - (lg_sl ([.int (nI v)])).length) Slot.unset).toArray = ls at hl ⊢
  have hl : lv_has ls 3 [(0, .int (nI v))] := hl
  refine lv_iload_n gx gb dX9_isPrime_0 rfl (lv_at hl 0 rfl) ?_
  refine lv_iconst (v := nI 1) gx gb dX9_isPrime_1 (by decide) ?_
  refine lv_icmp_le (tgt := 9) gx gb dX9_isPrime_2 (by decide) (fun c2 => ?_) (fun c2 => ?_)
  · skip
    rw [nI_leI (by omega) (by omega)] at c2
    refine lv_iconst (v := nI 0) gx gb dX9_isPrime_9 (by decide) ?_
    refine lv_istore_n (lv' := [(1, .int (nI 0)), (0, .int (nI v))]) gx gb dX9_isPrime_10 rfl hl (by decide) rfl (fun ls hl => ?_)
    refine lv_iconst (v := nI 2) gx gb dX9_isPrime_11 (by decide) ?_
    refine lv_istore_n (lv' := [(2, .int (nI 2)), (1, .int (nI 0)), (0, .int (nI v))]) gx gb dX9_isPrime_12 rfl hl (by decide) rfl (fun ls hl => ?_)
    have L13 : ∀ fu : Nat, ∀ (b : Bool) (d : Nat) (hd : 2 ≤ d) (hd2 : d ≤ v + 2) (hp : b = true ↔ (2 ≤ v ∧ ∀ k, 2 ≤ k → k < d → v % k ≠ 0)) (hs : ∀ k, 2 ≤ k → k < d → k * k ≤ v), (v + 2 - d) < fu → ∀ ls : Array Slot, lv_has ls 3 [(1, .int (bI b)), (2, .int (nI d)), (0, .int (nI v))] → W Gp Gl Ge (headSpec wsX9_isPrime ({ frames := 0, cells := 0, slots := 0, locals := 0 } : Room)).room Gs Gm ([.int (nI v)] : List Value).toArray Gw Gt Gc Gs.heap [] 0 0 (MQ Gw (vp_Si (fun r : Int32 => r = bI (prm v))) ([.int (nI v)] : List Value).toArray Gs 0 0 (fun _ => False)) (F0 Gm 13 ls []) := by
      intro fu
      induction fu with
      | zero => intro b d hd hd2 hp hs hfu; exact absurd hfu (Nat.not_lt_zero _)
      | succ fu ih13 =>
        intro b d hd hd2 hp hs hfu ls hl
        have hdd : d * d ≤ 40000 * 40000 := Nat.mul_le_mul (by omega) (by omega)
        have hd4 : 2 * d ≤ d * d := Nat.mul_le_mul_right d hd
        have hmo := Nat.mod_le v d
        refine lv_iload_n gx gb dX9_isPrime_13 rfl (lv_at hl 1 rfl) ?_
        refine lv_iload_n gx gb dX9_isPrime_14 rfl (lv_at hl 1 rfl) ?_
        refine lv_imul gx gb dX9_isPrime_15 ?_
        refine lv_evi (nI (d * d)) (pk_mul d d) ?_
        refine lv_iload_n gx gb dX9_isPrime_16 rfl (lv_at hl 2 rfl) ?_
        refine lv_icmp_gt (tgt := 42) gx gb dX9_isPrime_17 (by decide) (fun c17 => ?_) (fun c17 => ?_)
        · skip
          rw [nI_ltI (by omega) (by omega)] at c17
          refine lv_iload_n gx gb dX9_isPrime_42 rfl (lv_at hl 0 rfl) ?_
          exact W.zret (v := bI b) gx gb gr (bI_nar _) (fun t ht hW => ⟨bI b, rfl, (by first | (dsimp only; done) | ((try dsimp only); exact congrArg bI (prm_ex hp hs (by omega)))), ht⟩) (fun q h => by cases h) dX9_isPrime_43
        · skip
          rw [nI_ltI (by omega) (by omega)] at c17
          refine lv_iload_n gx gb dX9_isPrime_20 rfl (lv_at hl 0 rfl) ?_
          refine lv_if_eq (tgt := 34) gx gb dX9_isPrime_21 (by decide) (fun c21 => ?_) (fun c21 => ?_)
          · skip
            rw [b0_eq] at c21
            refine lv_iconst (v := nI 0) gx gb dX9_isPrime_34 (by decide) ?_
            refine lv_istore_n (lv' := [(1, .int (nI 0)), (2, .int (nI d)), (0, .int (nI v))]) gx gb dX9_isPrime_35 rfl hl (by decide) rfl (fun ls hl => ?_)
            refine lv_iinc (v := nI (d + 1)) (lv' := [(2, .int (nI (d + 1))), (1, .int (nI 0)), (0, .int (nI v))]) gx gb dX9_isPrime_36 hl (k := 1) rfl (nI_add d 1) (by decide) rfl (fun ls hl => ?_)
            refine lv_goto (tgt := 13) gx gb dX9_isPrime_39 (by decide) ?_
            exact ih13 false (d + 1) (by omega) (by omega) (by first | exact prm_st hp c21 (by omega) | exact prm_sf hp c21 (by omega) hd | exact prm_sn hp c21) (by intro k h2 hk; exact (Nat.lt_or_ge k d).elim (fun q => hs k h2 q) (fun q => by obtain rfl : k = d := (by omega); omega)) (by omega) ls (lv_sub hl [1, 0, 2] rfl)
          · skip
            rw [b0_eq] at c21
            have c21 := nf_t c21
            refine lv_iload_n gx gb dX9_isPrime_24 rfl (lv_at hl 2 rfl) ?_
            refine lv_iload_n gx gb dX9_isPrime_25 rfl (lv_at hl 1 rfl) ?_
            refine lv_irem gx gb dX9_isPrime_26 (nI_ne0 (by omega) (by omega)) ?_
            refine lv_evi (nI (v % d)) (e_rem (by omega) (by omega) (by omega)) ?_
            refine lv_if_le (tgt := 34) gx gb dX9_isPrime_27 (by decide) (fun c27 => ?_) (fun c27 => ?_)
            · skip
              rw [n0_le (by omega)] at c27
              refine lv_iconst (v := nI 0) gx gb dX9_isPrime_34 (by decide) ?_
              refine lv_istore_n (lv' := [(1, .int (nI 0)), (2, .int (nI d)), (0, .int (nI v))]) gx gb dX9_isPrime_35 rfl hl (by decide) rfl (fun ls hl => ?_)
              refine lv_iinc (v := nI (d + 1)) (lv' := [(2, .int (nI (d + 1))), (1, .int (nI 0)), (0, .int (nI v))]) gx gb dX9_isPrime_36 hl (k := 1) rfl (nI_add d 1) (by decide) rfl (fun ls hl => ?_)
              refine lv_goto (tgt := 13) gx gb dX9_isPrime_39 (by decide) ?_
              exact ih13 false (d + 1) (by omega) (by omega) (by first | exact prm_st hp c21 (by omega) | exact prm_sf hp c21 (by omega) hd | exact prm_sn hp c21) (by intro k h2 hk; exact (Nat.lt_or_ge k d).elim (fun q => hs k h2 q) (fun q => by obtain rfl : k = d := (by omega); omega)) (by omega) ls (lv_sub hl [1, 0, 2] rfl)
            · skip
              rw [n0_le (by omega)] at c27
              refine lv_iconst (v := nI 1) gx gb dX9_isPrime_30 (by decide) ?_
              refine lv_goto (tgt := 35) gx gb dX9_isPrime_31 (by decide) ?_
              refine lv_istore_n (lv' := [(1, .int (nI 1)), (2, .int (nI d)), (0, .int (nI v))]) gx gb dX9_isPrime_35 rfl hl (by decide) rfl (fun ls hl => ?_)
              refine lv_iinc (v := nI (d + 1)) (lv' := [(2, .int (nI (d + 1))), (1, .int (nI 1)), (0, .int (nI v))]) gx gb dX9_isPrime_36 hl (k := 1) rfl (nI_add d 1) (by decide) rfl (fun ls hl => ?_)
              refine lv_goto (tgt := 13) gx gb dX9_isPrime_39 (by decide) ?_
              exact ih13 true (d + 1) (by omega) (by omega) (by first | exact prm_st hp c21 (by omega) | exact prm_sf hp c21 (by omega) hd | exact prm_sn hp c21) (by intro k h2 hk; exact (Nat.lt_or_ge k d).elim (fun q => hs k h2 q) (fun q => by obtain rfl : k = d := (by omega); omega)) (by omega) ls (lv_sub hl [1, 0, 2] rfl)
    exact L13 _ false 2 (by omega) (by omega) (by first | exact ⟨fun _ => ⟨by omega, fun k _ hk => absurd hk (by omega)⟩, fun _ => rfl⟩ | exact ⟨fun h => (by cases h), fun h => absurd h.1 (by omega)⟩) (by intro k h2 hk; exact absurd hk (by omega)) (Nat.lt_succ_self _) ls (lv_sub hl [1, 0, 2] rfl)
  · skip
    rw [nI_leI (by omega) (by omega)] at c2
    refine lv_iconst (v := nI 1) gx gb dX9_isPrime_5 (by decide) ?_
    refine lv_goto (tgt := 10) gx gb dX9_isPrime_6 (by decide) ?_
    refine lv_istore_n (lv' := [(1, .int (nI 1)), (0, .int (nI v))]) gx gb dX9_isPrime_10 rfl hl (by decide) rfl (fun ls hl => ?_)
    refine lv_iconst (v := nI 2) gx gb dX9_isPrime_11 (by decide) ?_
    refine lv_istore_n (lv' := [(2, .int (nI 2)), (1, .int (nI 1)), (0, .int (nI v))]) gx gb dX9_isPrime_12 rfl hl (by decide) rfl (fun ls hl => ?_)
    have L13 : ∀ fu : Nat, ∀ (b : Bool) (d : Nat) (hd : 2 ≤ d) (hd2 : d ≤ v + 2) (hp : b = true ↔ (2 ≤ v ∧ ∀ k, 2 ≤ k → k < d → v % k ≠ 0)) (hs : ∀ k, 2 ≤ k → k < d → k * k ≤ v), (v + 2 - d) < fu → ∀ ls : Array Slot, lv_has ls 3 [(1, .int (bI b)), (2, .int (nI d)), (0, .int (nI v))] → W Gp Gl Ge (headSpec wsX9_isPrime ({ frames := 0, cells := 0, slots := 0, locals := 0 } : Room)).room Gs Gm ([.int (nI v)] : List Value).toArray Gw Gt Gc Gs.heap [] 0 0 (MQ Gw (vp_Si (fun r : Int32 => r = bI (prm v))) ([.int (nI v)] : List Value).toArray Gs 0 0 (fun _ => False)) (F0 Gm 13 ls []) := by
      intro fu
      induction fu with
      | zero => intro b d hd hd2 hp hs hfu; exact absurd hfu (Nat.not_lt_zero _)
      | succ fu ih13 =>
        intro b d hd hd2 hp hs hfu ls hl
        have hdd : d * d ≤ 40000 * 40000 := Nat.mul_le_mul (by omega) (by omega)
        have hd4 : 2 * d ≤ d * d := Nat.mul_le_mul_right d hd
        have hmo := Nat.mod_le v d
        refine lv_iload_n gx gb dX9_isPrime_13 rfl (lv_at hl 1 rfl) ?_
        refine lv_iload_n gx gb dX9_isPrime_14 rfl (lv_at hl 1 rfl) ?_
        refine lv_imul gx gb dX9_isPrime_15 ?_
        refine lv_evi (nI (d * d)) (pk_mul d d) ?_
        refine lv_iload_n gx gb dX9_isPrime_16 rfl (lv_at hl 2 rfl) ?_
        refine lv_icmp_gt (tgt := 42) gx gb dX9_isPrime_17 (by decide) (fun c17 => ?_) (fun c17 => ?_)
        · skip
          rw [nI_ltI (by omega) (by omega)] at c17
          refine lv_iload_n gx gb dX9_isPrime_42 rfl (lv_at hl 0 rfl) ?_
          exact W.zret (v := bI b) gx gb gr (bI_nar _) (fun t ht hW => ⟨bI b, rfl, (by first | (dsimp only; done) | ((try dsimp only); exact congrArg bI (prm_ex hp hs (by omega)))), ht⟩) (fun q h => by cases h) dX9_isPrime_43
        · skip
          rw [nI_ltI (by omega) (by omega)] at c17
          refine lv_iload_n gx gb dX9_isPrime_20 rfl (lv_at hl 0 rfl) ?_
          refine lv_if_eq (tgt := 34) gx gb dX9_isPrime_21 (by decide) (fun c21 => ?_) (fun c21 => ?_)
          · skip
            rw [b0_eq] at c21
            refine lv_iconst (v := nI 0) gx gb dX9_isPrime_34 (by decide) ?_
            refine lv_istore_n (lv' := [(1, .int (nI 0)), (2, .int (nI d)), (0, .int (nI v))]) gx gb dX9_isPrime_35 rfl hl (by decide) rfl (fun ls hl => ?_)
            refine lv_iinc (v := nI (d + 1)) (lv' := [(2, .int (nI (d + 1))), (1, .int (nI 0)), (0, .int (nI v))]) gx gb dX9_isPrime_36 hl (k := 1) rfl (nI_add d 1) (by decide) rfl (fun ls hl => ?_)
            refine lv_goto (tgt := 13) gx gb dX9_isPrime_39 (by decide) ?_
            exact ih13 false (d + 1) (by omega) (by omega) (by first | exact prm_st hp c21 (by omega) | exact prm_sf hp c21 (by omega) hd | exact prm_sn hp c21) (by intro k h2 hk; exact (Nat.lt_or_ge k d).elim (fun q => hs k h2 q) (fun q => by obtain rfl : k = d := (by omega); omega)) (by omega) ls (lv_sub hl [1, 0, 2] rfl)
          · skip
            rw [b0_eq] at c21
            have c21 := nf_t c21
            refine lv_iload_n gx gb dX9_isPrime_24 rfl (lv_at hl 2 rfl) ?_
            refine lv_iload_n gx gb dX9_isPrime_25 rfl (lv_at hl 1 rfl) ?_
            refine lv_irem gx gb dX9_isPrime_26 (nI_ne0 (by omega) (by omega)) ?_
            refine lv_evi (nI (v % d)) (e_rem (by omega) (by omega) (by omega)) ?_
            refine lv_if_le (tgt := 34) gx gb dX9_isPrime_27 (by decide) (fun c27 => ?_) (fun c27 => ?_)
            · skip
              rw [n0_le (by omega)] at c27
              refine lv_iconst (v := nI 0) gx gb dX9_isPrime_34 (by decide) ?_
              refine lv_istore_n (lv' := [(1, .int (nI 0)), (2, .int (nI d)), (0, .int (nI v))]) gx gb dX9_isPrime_35 rfl hl (by decide) rfl (fun ls hl => ?_)
              refine lv_iinc (v := nI (d + 1)) (lv' := [(2, .int (nI (d + 1))), (1, .int (nI 0)), (0, .int (nI v))]) gx gb dX9_isPrime_36 hl (k := 1) rfl (nI_add d 1) (by decide) rfl (fun ls hl => ?_)
              refine lv_goto (tgt := 13) gx gb dX9_isPrime_39 (by decide) ?_
              exact ih13 false (d + 1) (by omega) (by omega) (by first | exact prm_st hp c21 (by omega) | exact prm_sf hp c21 (by omega) hd | exact prm_sn hp c21) (by intro k h2 hk; exact (Nat.lt_or_ge k d).elim (fun q => hs k h2 q) (fun q => by obtain rfl : k = d := (by omega); omega)) (by omega) ls (lv_sub hl [1, 0, 2] rfl)
            · skip
              rw [n0_le (by omega)] at c27
              refine lv_iconst (v := nI 1) gx gb dX9_isPrime_30 (by decide) ?_
              refine lv_goto (tgt := 35) gx gb dX9_isPrime_31 (by decide) ?_
              refine lv_istore_n (lv' := [(1, .int (nI 1)), (2, .int (nI d)), (0, .int (nI v))]) gx gb dX9_isPrime_35 rfl hl (by decide) rfl (fun ls hl => ?_)
              refine lv_iinc (v := nI (d + 1)) (lv' := [(2, .int (nI (d + 1))), (1, .int (nI 1)), (0, .int (nI v))]) gx gb dX9_isPrime_36 hl (k := 1) rfl (nI_add d 1) (by decide) rfl (fun ls hl => ?_)
              refine lv_goto (tgt := 13) gx gb dX9_isPrime_39 (by decide) ?_
              exact ih13 true (d + 1) (by omega) (by omega) (by first | exact prm_st hp c21 (by omega) | exact prm_sf hp c21 (by omega) hd | exact prm_sn hp c21) (by intro k h2 hk; exact (Nat.lt_or_ge k d).elim (fun q => hs k h2 q) (fun q => by obtain rfl : k = d := (by omega); omega)) (by omega) ls (lv_sub hl [1, 0, 2] rfl)
    exact L13 _ true 2 (by omega) (by omega) (by first | exact ⟨fun _ => ⟨by omega, fun k _ hk => absurd hk (by omega)⟩, fun _ => rfl⟩ | exact ⟨fun h => (by cases h), fun h => absurd h.1 (by omega)⟩) (by intro k h2 hk; exact absurd hk (by omega)) (Nat.lt_succ_self _) ls (lv_sub hl [1, 0, 2] rfl)

set_option maxHeartbeats 4000000 in
set_option maxRecDepth 100000 in
theorem kX9_isSquare (Gl : Launch) (v : Nat) (hv : v < 32768) : Met Gl yX9_isSquare wsX9_isSquare ({ frames := 0, cells := 0, slots := 0, locals := 0 } : Room) (va_Pc [.int (nI v)] (fun _ => True)) (vp_Si (fun r : Int32 => r = bI (sqr v))) 0 0 (fun _ => False) := by
  refine Met.ofW (cc := cX9_isSquare) (maxL := 2) (ret := (some .boolean)) (by decide +kernel) rfl ?_
  intro Gp Ge Gs Gm Ga Gw Gt Gc G1 Bd gml gv
  obtain ⟨rfl, -⟩ := gv
  have gx := Bd.exec
  have gb := Bd.bytes
  have gr := Bd.returns
  have gts := atoms_spec (ws := wsX9_isSquare) Bd.pre
  have gown : Gs.vm.findClass RX9 = some Gm.cls := findClass_of_methodNamed Bd.named
  have glk := Bd.notSynchronized
  have hl := lv_entry ([.int (nI v)]) (n := 2) (Nat.le_of_ble_eq_true rfl)
  rw [lg_entry_eq]
  generalize (lg_sl ([.int (nI v)]) ++ List.replicate (2 - (lg_sl ([.int (nI v)])).length) Slot.unset).toArray = ls at hl ⊢
  have hl : lv_has ls 2 [(0, .int (nI v))] := hl
  refine lv_iconst (v := nI 0) gx gb dX9_isSquare_0 (by decide) ?_
  refine lv_istore_n (lv' := [(1, .int (nI 0)), (0, .int (nI v))]) gx gb dX9_isSquare_1 rfl hl (by decide) rfl (fun ls hl => ?_)
  have L2 : ∀ fu : Nat, ∀ (d : Nat) (hd2 : d ≤ v + 1) (hp : ∀ k, k < d → k * k < v), (v + 1 - d) < fu → ∀ ls : Array Slot, lv_has ls 2 [(1, .int (nI d)), (0, .int (nI v))] → W Gp Gl Ge (headSpec wsX9_isSquare ({ frames := 0, cells := 0, slots := 0, locals := 0 } : Room)).room Gs Gm ([.int (nI v)] : List Value).toArray Gw Gt Gc Gs.heap [] 0 0 (MQ Gw (vp_Si (fun r : Int32 => r = bI (sqr v))) ([.int (nI v)] : List Value).toArray Gs 0 0 (fun _ => False)) (F0 Gm 2 ls []) := by
    intro fu
    induction fu with
    | zero => intro d hd2 hp hfu; exact absurd hfu (Nat.not_lt_zero _)
    | succ fu ih2 =>
      intro d hd2 hp hfu ls hl
      have hdd : d * d ≤ 40000 * 40000 := Nat.mul_le_mul (by omega) (by omega)
      have hd4 : d = 0 ∨ d ≤ d * d := (Nat.eq_zero_or_pos d).elim Or.inl (fun q => Or.inr (Nat.le_mul_of_pos_right d q))
      refine lv_iload_n gx gb dX9_isSquare_2 rfl (lv_at hl 0 rfl) ?_
      refine lv_iload_n gx gb dX9_isSquare_3 rfl (lv_at hl 0 rfl) ?_
      refine lv_imul gx gb dX9_isSquare_4 ?_
      refine lv_evi (nI (d * d)) (pk_mul d d) ?_
      refine lv_iload_n gx gb dX9_isSquare_5 rfl (lv_at hl 1 rfl) ?_
      refine lv_icmp_ge (tgt := 15) gx gb dX9_isSquare_6 (by decide) (fun c6 => ?_) (fun c6 => ?_)
      · skip
        rw [nI_leI (by omega) (by omega)] at c6
        refine lv_iload_n gx gb dX9_isSquare_15 rfl (lv_at hl 0 rfl) ?_
        refine lv_iload_n gx gb dX9_isSquare_16 rfl (lv_at hl 0 rfl) ?_
        refine lv_imul gx gb dX9_isSquare_17 ?_
        refine lv_evi (nI (d * d)) (pk_mul d d) ?_
        refine lv_iload_n gx gb dX9_isSquare_18 rfl (lv_at hl 1 rfl) ?_
        refine lv_icmp_ne (tgt := 26) gx gb dX9_isSquare_19 (by decide) (fun c19 => ?_) (fun c19 => ?_)
        · skip
          rw [nI_eq (by omega) (by omega)] at c19
          refine lv_iconst (v := nI 0) gx gb dX9_isSquare_26 (by decide) ?_
          exact W.zret (v := nI 0) gx gb gr (by decide) (fun t ht hW => ⟨nI 0, rfl, (by first | (dsimp only; done) | ((try dsimp only); first | exact bI_t (sqr_t (by omega)) | exact bI_f (sqr_f (d := d) (by omega) (fun k hk => Nat.ne_of_lt (hp k hk))))), ht⟩) (fun q h => by cases h) dX9_isSquare_27
        · skip
          rw [nI_eq (by omega) (by omega)] at c19
          refine lv_iconst (v := nI 1) gx gb dX9_isSquare_22 (by decide) ?_
          refine lv_goto (tgt := 27) gx gb dX9_isSquare_23 (by decide) ?_
          exact W.zret (v := nI 1) gx gb gr (by decide) (fun t ht hW => ⟨nI 1, rfl, (by first | (dsimp only; done) | ((try dsimp only); first | exact bI_t (sqr_t (by omega)) | exact bI_f (sqr_f (d := d) (by omega) (fun k hk => Nat.ne_of_lt (hp k hk))))), ht⟩) (fun q h => by cases h) dX9_isSquare_27
      · skip
        rw [nI_leI (by omega) (by omega)] at c6
        refine lv_iinc (v := nI (d + 1)) (lv' := [(1, .int (nI (d + 1))), (0, .int (nI v))]) gx gb dX9_isSquare_9 hl (k := 0) rfl (nI_add d 1) (by decide) rfl (fun ls hl => ?_)
        refine lv_goto (tgt := 2) gx gb dX9_isSquare_12 (by decide) ?_
        exact ih2 (d + 1) (by omega) (by intro k hkd; exact (Nat.lt_or_ge k d).elim (fun q => hp k q) (fun q => by obtain rfl : k = d := (by omega); omega)) (by omega) ls (lv_sub hl [0, 1] rfl)
  exact L2 _ 0 (by omega) (by intro k hkd; exact absurd hkd (by omega)) (Nat.lt_succ_self _) ls (lv_sub hl [0, 1] rfl)

set_option maxHeartbeats 4000000 in
set_option maxRecDepth 100000 in
theorem kX9_isTimes (Gl : Launch) (a b : Nat) (ha : a < 2147483648) (hb : b < 2147483648) : Met Gl yX9_isTimes wsX9_isTimes ({ frames := 0, cells := 0, slots := 0, locals := 0 } : Room) (va_Pc [.int (nI a), .int (nI b)] (fun _ => True)) (vp_Si (fun r : Int32 => r = bI (mlt a b))) 0 0 (fun _ => False) := by
  refine Met.ofW (cc := cX9_isTimes) (maxL := 2) (ret := (some .boolean)) (by decide +kernel) rfl ?_
  intro Gp Ge Gs Gm Ga Gw Gt Gc G1 Bd gml gv
  obtain ⟨rfl, -⟩ := gv
  have gx := Bd.exec
  have gb := Bd.bytes
  have gr := Bd.returns
  have gts := atoms_spec (ws := wsX9_isTimes) Bd.pre
  have gown : Gs.vm.findClass RX9 = some Gm.cls := findClass_of_methodNamed Bd.named
  have glk := Bd.notSynchronized
  have hl := lv_entry ([.int (nI a), .int (nI b)]) (n := 2) (Nat.le_of_ble_eq_true rfl)
  rw [lg_entry_eq]
  generalize (lg_sl ([.int (nI a), .int (nI b)]) ++ List.replicate (2 - (lg_sl ([.int (nI a), .int (nI b)])).length) Slot.unset).toArray = ls at hl ⊢
  have hl : lv_has ls 2 [(0, .int (nI a)), (1, .int (nI b))] := hl
  refine lv_iload_n gx gb dX9_isTimes_0 rfl (lv_at hl 1 rfl) ?_
  refine lv_if_ne (tgt := 16) gx gb dX9_isTimes_1 (by decide) (fun c1 => ?_) (fun c1 => ?_)
  · skip
    rw [n0_eq (by omega)] at c1
    refine lv_iload_n gx gb dX9_isTimes_16 rfl (lv_at hl 0 rfl) ?_
    refine lv_iload_n gx gb dX9_isTimes_17 rfl (lv_at hl 1 rfl) ?_
    refine lv_irem gx gb dX9_isTimes_18 (nI_ne0 (by omega) (by omega)) ?_
    refine lv_evi (nI (a % b)) (e_rem (by omega) (by omega) (by omega)) ?_
    have hmo := Nat.mod_le a b
    refine lv_if_ne (tgt := 26) gx gb dX9_isTimes_19 (by decide) (fun c19 => ?_) (fun c19 => ?_)
    · skip
      rw [n0_eq (by omega)] at c19
      refine lv_iconst (v := nI 0) gx gb dX9_isTimes_26 (by decide) ?_
      exact W.zret (v := nI 0) gx gb gr (by decide) (fun t ht hW => ⟨nI 0, rfl, (by first | (dsimp only; done) | ((try dsimp only); first | exact bI_t (decide_eq_true (by omega)) | exact bI_t (decide_eq_true (Or.inr ⟨by omega, by omega⟩)) | exact bI_f (decide_eq_false (by omega)) | exact bI_f (decide_eq_false (fun hh => hh.elim (fun h => by omega) (fun h => by omega))) | exact bI_f (decide_eq_false (fun hh => hh.elim (fun h => c19 (by rw [h]; exact Nat.zero_mod _)) (fun h => by omega))))), ht⟩) (fun q h => by cases h) dX9_isTimes_27
    · skip
      rw [n0_eq (by omega)] at c19
      refine lv_iconst (v := nI 1) gx gb dX9_isTimes_22 (by decide) ?_
      refine lv_goto (tgt := 27) gx gb dX9_isTimes_23 (by decide) ?_
      exact W.zret (v := nI 1) gx gb gr (by decide) (fun t ht hW => ⟨nI 1, rfl, (by first | (dsimp only; done) | ((try dsimp only); first | exact bI_t (decide_eq_true (by omega)) | exact bI_t (decide_eq_true (Or.inr ⟨by omega, by omega⟩)) | exact bI_f (decide_eq_false (by omega)) | exact bI_f (decide_eq_false (fun hh => hh.elim (fun h => by omega) (fun h => by omega))) | exact bI_f (decide_eq_false (fun hh => hh.elim (fun h => c19 (by rw [h]; exact Nat.zero_mod _)) (fun h => by omega))))), ht⟩) (fun q h => by cases h) dX9_isTimes_27
  · skip
    rw [n0_eq (by omega)] at c1
    refine lv_iload_n gx gb dX9_isTimes_4 rfl (lv_at hl 0 rfl) ?_
    refine lv_if_ne (tgt := 12) gx gb dX9_isTimes_5 (by decide) (fun c5 => ?_) (fun c5 => ?_)
    · skip
      rw [n0_eq (by omega)] at c5
      refine lv_iconst (v := nI 0) gx gb dX9_isTimes_12 (by decide) ?_
      refine lv_goto (tgt := 27) gx gb dX9_isTimes_13 (by decide) ?_
      exact W.zret (v := nI 0) gx gb gr (by decide) (fun t ht hW => ⟨nI 0, rfl, (by first | (dsimp only; done) | ((try dsimp only); first | exact bI_t (decide_eq_true (by omega)) | exact bI_t (decide_eq_true (Or.inr ⟨by omega, by omega⟩)) | exact bI_f (decide_eq_false (by omega)) | exact bI_f (decide_eq_false (fun hh => hh.elim (fun h => by omega) (fun h => by omega))) | exact bI_f (decide_eq_false (fun hh => hh.elim (fun h => c19 (by rw [h]; exact Nat.zero_mod _)) (fun h => by omega))))), ht⟩) (fun q h => by cases h) dX9_isTimes_27
    · skip
      rw [n0_eq (by omega)] at c5
      refine lv_iconst (v := nI 1) gx gb dX9_isTimes_8 (by decide) ?_
      refine lv_goto (tgt := 27) gx gb dX9_isTimes_9 (by decide) ?_
      exact W.zret (v := nI 1) gx gb gr (by decide) (fun t ht hW => ⟨nI 1, rfl, (by first | (dsimp only; done) | ((try dsimp only); first | exact bI_t (decide_eq_true (by omega)) | exact bI_t (decide_eq_true (Or.inr ⟨by omega, by omega⟩)) | exact bI_f (decide_eq_false (by omega)) | exact bI_f (decide_eq_false (fun hh => hh.elim (fun h => by omega) (fun h => by omega))) | exact bI_f (decide_eq_false (fun hh => hh.elim (fun h => c19 (by rw [h]; exact Nat.zero_mod _)) (fun h => by omega))))), ht⟩) (fun q h => by cases h) dX9_isTimes_27

set_option maxHeartbeats 4000000 in
set_option maxRecDepth 100000 in
theorem kX9_isLesson (Gl : Launch) (k : Int) (hl : -2147483648 ≤ k) (hu : k < 2147483648) : Met Gl yX9_isLesson wsX9_isLesson ({ frames := 1, cells := 0, slots := 0, locals := 22 } : Room) (va_Pc [.int (zI k)] (fun _ => True)) (vp_Si (fun r : Int32 => r = bI (decide (((0 : Nat) : Int) ≤ k ∧ k ≤ ((6 : Nat) : Int))))) 0 0 (fun _ => False) := by
  refine Met.ofW (cc := cX9_isLesson) (maxL := 1) (ret := (some .boolean)) (by decide +kernel) rfl ?_
  intro Gp Ge Gs Gm Ga Gw Gt Gc G1 Bd gml gv
  obtain ⟨rfl, -⟩ := gv
  have gx := Bd.exec
  have gb := Bd.bytes
  have gr := Bd.returns
  have gts := atoms_spec (ws := wsX9_isLesson) Bd.pre
  have gown : Gs.vm.findClass RX9 = some Gm.cls := findClass_of_methodNamed Bd.named
  have glk := Bd.notSynchronized
  have hl := lv_entry ([.int (zI k)]) (n := 1) (Nat.le_of_ble_eq_true rfl)
  rw [lg_entry_eq]
  generalize (lg_sl ([.int (zI k)]) ++ List.replicate (1 - (lg_sl ([.int (zI k)])).length) Slot.unset).toArray = ls at hl ⊢
  have hl : lv_has ls 1 [(0, .int (zI k))] := hl
  refine lv_iload_n gx gb dX9_isLesson_0 rfl (lv_at hl 0 rfl) ?_
  refine lv_iconst (v := nI 0) gx gb dX9_isLesson_1 (by decide) ?_
  refine lv_bipush (v := nI 6) gx gb dX9_isLesson_2 (by decide) ?_
  refine lv_evs [.int (zI ((6 : Nat) : Int)), .int (zI ((0 : Nat) : Int)), .int (zI k)] (by simp only [nI_zc]) ?_
  refine vp_callSi (W.runS (As := [.int (zI k), .int (zI ((0 : Nat) : Int)), .int (zI ((6 : Nat) : Int))]) (rest := []) ⟨gx, gb, gml, gown, gts⟩ (kX9_in Gl k ((0 : Nat) : Int) ((6 : Nat) : Int) (by omega) (by omega) (by omega) (by omega) (by omega) (by omega)) (va_cwS 3 gts gX9_isLesson_X9_in rfl rfl rfl (by decide +kernel) ⟨Nat.le_of_ble_eq_true rfl, Nat.le_of_ble_eq_true rfl⟩) ⟨fun _ _ _ _ h => h, fun U hU hW => ⟨rfl, trivial⟩⟩ rfl rfl hl.1 rfl (lv_room (Nat.le_of_ble_eq_true rfl)) dX9_isLesson_4 ⟨Nat.le_of_ble_eq_true rfl, Nat.le_of_ble_eq_true rfl⟩) (fun r hw => ?_)
  have hr4 := hw
  subst hr4
  exact W.zret (v := bI (decide (((0 : Nat) : Int) ≤ k ∧ k ≤ ((6 : Nat) : Int)))) gx gb gr (bI_nar _) (fun t ht hW => ⟨bI (decide (((0 : Nat) : Int) ≤ k ∧ k ≤ ((6 : Nat) : Int))), rfl, (by first | (dsimp only; done) | ((try dsimp only); rfl)), ht⟩) (fun q h => by cases h) dX9_isLesson_7

set_option maxHeartbeats 4000000 in
set_option maxRecDepth 100000 in
theorem kX9_isSwan (Gl : Launch) (D : va_G) (cI cJ cZ : ClassId) (mo : Nat) (ma : Nat) (mb : Nat) (mc : Nat) (md : Nat) (me : Nat) (mf : Nat) (mg : Nat) (mh : Nat) (mi : Nat) (mj : Nat) (mk : Nat) (ml : Nat) (mn : Nat) (n : Nat) (q : Nat) (c : Nat) (w : Nat) (z : Nat) (ev : Nat) (num : Nat → Nat) (plc : Nat → Nat) (sig : Nat → Nat) (pad : Nat → Nat) (row : Nat → Nat) (dig : Nat → Nat) (far : Nat → Int32) (cfr : Nat → Nat) (cby : Nat → Nat) (que : Nat → Nat) (has : Nat → Nat) (img : Nat → Nat) (kep : Nat → Nat) (s : Int) (hl : -2147483648 ≤ s) (hu : s < 2147483648) (hn : 1 ≤ n) (hn7 : n ≤ 7) : Met Gl yX9_isSwan wsX9_isSwan ({ frames := 1, cells := 0, slots := 0, locals := 22 } : Room) (va_Pc [.ref mo, .int (zI s)] (fun U => va_P D vwCl (wM mo ma mb mc md me mf mg mh mi mj mk ml mn cI cZ n q c w z ev num plc sig pad row dig far cfr cby que has img kep) U.heap ∧ va_K D vwCl [(cI, .int), (cJ, .long), (cZ, .boolean)] U)) (vp_Si (fun r : Int32 => r = bI (decide (((0 : Nat) : Int) ≤ s ∧ s ≤ ((n - 1 : Nat) : Int))))) 0 0 (fun _ => False) := by
  refine Met.ofW (cc := cX9_isSwan) (maxL := 2) (ret := (some .boolean)) (by decide +kernel) rfl ?_
  intro Gp Ge Gs Gm Ga Gw Gt Gc G1 Bd gml gv
  obtain ⟨rfl, hP, hK⟩ := gv
  have gx := Bd.exec
  have gb := Bd.bytes
  have gr := Bd.returns
  have gts := atoms_spec (ws := wsX9_isSwan) Bd.pre
  have gown : Gs.vm.findClass RX9 = some Gm.cls := findClass_of_methodNamed Bd.named
  have glk := Bd.notSynchronized
  have hl := lv_entry ([.ref mo, .int (zI s)]) (n := 2) (Nat.le_of_ble_eq_true rfl)
  rw [lg_entry_eq]
  generalize (lg_sl ([.ref mo, .int (zI s)]) ++ List.replicate (2 - (lg_sl ([.ref mo, .int (zI s)])).length) Slot.unset).toArray = ls at hl ⊢
  have hl : lv_has ls 2 [(0, .ref mo), (1, .int (zI s))] := hl
  have i9 : ∀ w ∈ wsX90, w ∈ wsX9_isSwan := by decide +kernel
  refine lv_iload_n gx gb dX9_isSwan_0 rfl (lv_at hl 1 rfl) ?_
  refine lv_iconst (v := nI 0) gx gb dX9_isSwan_1 (by decide) ?_
  refine lv_aload_n gx gb dX9_isSwan_2 rfl (lv_at hl 0 rfl) ?_
  refine va_get (D := D) (ci := 4) (v := .int (nI n)) (C := RX9) (T := TX9) (N := 19) gx gb gts i9 gown hK hP 0 rfl rfl 0 (by decide) (gts (.fieldLink RX9 7 "SwanSumsModel" "all" "I") (by decide +kernel)) (fun _ h9 => h9) rfl dX9_isSwan_3 ?_
  refine lv_iconst (v := nI 1) gx gb dX9_isSwan_6 (by decide) ?_
  refine lv_isub gx gb dX9_isSwan_7 ?_
  refine lv_evi (nI (n - 1)) (e_sub (by omega)) ?_
  refine lv_evs [.int (zI ((n - 1 : Nat) : Int)), .int (zI ((0 : Nat) : Int)), .int (zI s)] (by simp only [nI_zc]) ?_
  refine vp_callSi (W.runS (As := [.int (zI s), .int (zI ((0 : Nat) : Int)), .int (zI ((n - 1 : Nat) : Int))]) (rest := []) ⟨gx, gb, gml, gown, gts⟩ (kX9_in Gl s ((0 : Nat) : Int) ((n - 1 : Nat) : Int) (by omega) (by omega) (by omega) (by omega) (by omega) (by omega)) (va_cwS 3 gts gX9_isSwan_X9_in rfl rfl rfl (by decide +kernel) ⟨Nat.le_of_ble_eq_true rfl, Nat.le_of_ble_eq_true rfl⟩) ⟨fun _ _ _ _ h => h, fun U hU hW => ⟨rfl, trivial⟩⟩ rfl rfl hl.1 rfl (lv_room (Nat.le_of_ble_eq_true rfl)) dX9_isSwan_8 ⟨Nat.le_of_ble_eq_true rfl, Nat.le_of_ble_eq_true rfl⟩) (fun r hw => ?_)
  have hr8 := hw
  subst hr8
  exact W.zret (v := bI (decide (((0 : Nat) : Int) ≤ s ∧ s ≤ ((n - 1 : Nat) : Int)))) gx gb gr (bI_nar _) (fun t ht hW => ⟨bI (decide (((0 : Nat) : Int) ≤ s ∧ s ≤ ((n - 1 : Nat) : Int))), rfl, (by first | (dsimp only; done) | ((try dsimp only); rfl)), ht⟩) (fun q h => by cases h) dX9_isSwan_11

set_option maxHeartbeats 4000000 in
set_option maxRecDepth 100000 in
theorem kX9_opens (Gl : Launch) (D : va_G) (cI cJ cZ : ClassId) (mo : Nat) (ma : Nat) (mb : Nat) (mc : Nat) (md : Nat) (me : Nat) (mf : Nat) (mg : Nat) (mh : Nat) (mi : Nat) (mj : Nat) (mk : Nat) (ml : Nat) (mn : Nat) (n : Nat) (q : Nat) (c : Nat) (w : Nat) (z : Nat) (ev : Nat) (num : Nat → Nat) (plc : Nat → Nat) (sig : Nat → Nat) (pad : Nat → Nat) (row : Nat → Nat) (dig : Nat → Nat) (far : Nat → Int32) (cfr : Nat → Nat) (cby : Nat → Nat) (que : Nat → Nat) (has : Nat → Nat) (img : Nat → Nat) (kep : Nat → Nat) (hw : w ≤ 60) (hg : ∀ k, k < w → pad k < 127) : Met Gl yX9_opens wsX9_opens ({ frames := 0, cells := 0, slots := 0, locals := 0 } : Room) (va_Pc [.ref mo] (fun U => va_P D vwCl (wM mo ma mb mc md me mf mg mh mi mj mk ml mn cI cZ n q c w z ev num plc sig pad row dig far cfr cby que has img kep) U.heap ∧ va_K D vwCl [(cI, .int), (cJ, .long), (cZ, .boolean)] U)) (vp_Si (fun r : Int32 => r = nI (cq pad w))) 0 0 (fun _ => False) := by
  refine Met.ofW (cc := cX9_opens) (maxL := 3) (ret := (some .int)) (by decide +kernel) rfl ?_
  intro Gp Ge Gs Gm Ga Gw Gt Gc G1 Bd gml gv
  obtain ⟨rfl, hP, hK⟩ := gv
  have gx := Bd.exec
  have gb := Bd.bytes
  have gr := Bd.returns
  have gts := atoms_spec (ws := wsX9_opens) Bd.pre
  have gown : Gs.vm.findClass RX9 = some Gm.cls := findClass_of_methodNamed Bd.named
  have glk := Bd.notSynchronized
  have hl := lv_entry ([.ref mo]) (n := 3) (Nat.le_of_ble_eq_true rfl)
  rw [lg_entry_eq]
  generalize (lg_sl ([.ref mo]) ++ List.replicate (3 - (lg_sl ([.ref mo])).length) Slot.unset).toArray = ls at hl ⊢
  have hl : lv_has ls 3 [(0, .ref mo)] := hl
  have i9 : ∀ w ∈ wsX90, w ∈ wsX9_opens := by decide +kernel
  refine lv_iconst (v := nI 0) gx gb dX9_opens_0 (by decide) ?_
  refine lv_istore_n (lv' := [(1, .int (nI 0)), (0, .ref mo)]) gx gb dX9_opens_1 rfl hl (by decide) rfl (fun ls hl => ?_)
  refine lv_iconst (v := nI 0) gx gb dX9_opens_2 (by decide) ?_
  refine lv_istore_n (lv' := [(2, .int (nI 0)), (1, .int (nI 0)), (0, .ref mo)]) gx gb dX9_opens_3 rfl hl (by decide) rfl (fun ls hl => ?_)
  have L4 : ∀ fu : Nat, ∀ (i : Nat) (hi : i ≤ w), (w - i) < fu → ∀ ls : Array Slot, lv_has ls 3 [(1, .int (nI (cq pad i))), (2, .int (nI i)), (0, .ref mo)] → W Gp Gl Ge (headSpec wsX9_opens ({ frames := 0, cells := 0, slots := 0, locals := 0 } : Room)).room Gs Gm ([.ref mo] : List Value).toArray Gw Gt Gc Gs.heap [] 0 0 (MQ Gw (vp_Si (fun r : Int32 => r = nI (cq pad w))) ([.ref mo] : List Value).toArray Gs 0 0 (fun _ => False)) (F0 Gm 4 ls []) := by
    intro fu
    induction fu with
    | zero => intro i hi hfu; exact absurd hfu (Nat.not_lt_zero _)
    | succ fu ih4 =>
      intro i hi hfu ls hl
      refine lv_iload_n gx gb dX9_opens_4 rfl (lv_at hl 1 rfl) ?_
      refine lv_aload_n gx gb dX9_opens_5 rfl (lv_at hl 2 rfl) ?_
      refine va_get (D := D) (ci := 4) (v := .int (nI w)) (C := RX9) (T := TX9) (N := 19) gx gb gts i9 gown hK hP 0 rfl rfl 6 (by decide) (gts (.fieldLink RX9 71 "SwanSumsModel" "signs" "I") (by decide +kernel)) (fun _ h9 => h9) rfl dX9_opens_6 ?_
      refine lv_icmp_ge (tgt := 37) gx gb dX9_opens_9 (by decide) (fun c9 => ?_) (fun c9 => ?_)
      · skip
        rw [nI_leI (by omega) (by omega)] at c9
        refine lv_iload_n gx gb dX9_opens_37 rfl (lv_at hl 0 rfl) ?_
        exact W.iret (v := nI (cq pad i)) gx gb gr (fun t ht hW => ⟨nI (cq pad i), rfl, (by first | (dsimp only; done) | ((try dsimp only); obtain rfl : i = w := (by omega); rfl)), ht⟩) (fun q h => by cases h) dX9_opens_38
      · skip
        rw [nI_leI (by omega) (by omega)] at c9
        have L29 : ∀ (x : Nat) (hxx : x = if pad i = 63 then 1 else 0), ∀ ls : Array Slot, lv_has ls 3 [(1, .int (nI (cq pad i))), (2, .int (nI i)), (0, .ref mo)] → W Gp Gl Ge (headSpec wsX9_opens ({ frames := 0, cells := 0, slots := 0, locals := 0 } : Room)).room Gs Gm ([.ref mo] : List Value).toArray Gw Gt Gc Gs.heap [] 0 0 (MQ Gw (vp_Si (fun r : Int32 => r = nI (cq pad w))) ([.ref mo] : List Value).toArray Gs 0 0 (fun _ => False)) (F0 Gm 29 ls [.int (nI x), .int (nI (cq pad i))]) := by
          intro x hxx ls hl
          subst hxx
          have hl : lv_has ls 3 [(1, .int (nI (cq pad i))), (2, .int (nI i)), (0, .ref mo)] := hl
          refine lv_iadd gx gb dX9_opens_29 ?_
          refine lv_evi (nI ((cq pad i) + (if pad i = 63 then 1 else 0))) (nI_add (cq pad i) (if pad i = 63 then 1 else 0)) ?_
          refine lv_istore_n (lv' := [(1, .int (nI ((cq pad i) + (if pad i = 63 then 1 else 0)))), (2, .int (nI i)), (0, .ref mo)]) gx gb dX9_opens_30 rfl hl (by decide) rfl (fun ls hl => ?_)
          refine lv_iinc (v := nI (i + 1)) (lv' := [(2, .int (nI (i + 1))), (1, .int (nI ((cq pad i) + (if pad i = 63 then 1 else 0)))), (0, .ref mo)]) gx gb dX9_opens_31 hl (k := 1) rfl (nI_add i 1) (by decide) rfl (fun ls hl => ?_)
          refine lv_goto (tgt := 4) gx gb dX9_opens_34 (by decide) ?_
          exact ih4 (i + 1) (by omega) (by omega) ls (lv_sub hl [1, 0, 2] rfl)
        have hgi := hg i (by omega)
        refine lv_iload_n gx gb dX9_opens_12 rfl (lv_at hl 0 rfl) ?_
        refine lv_aload_n gx gb dX9_opens_13 rfl (lv_at hl 2 rfl) ?_
        refine va_get (D := D) (ci := 4) (v := .ref md) (C := RX9) (T := TX9) (N := 19) gx gb gts i9 gown hK hP 0 rfl rfl 7 (by decide) (gts (.fieldLink RX9 26 "SwanSumsModel" "pad" "[I") (by decide +kernel)) (fun _ h9 => h9) rfl dX9_opens_14 ?_
        refine lv_iload_n gx gb dX9_opens_17 rfl (lv_at hl 1 rfl) ?_
        refine va_iald gx gb hK hP 4 0 rfl rfl (vp_in_nI (n := i) (by omega) (by decide)) dX9_opens_18 ?_
        refine lv_evi (nI (pad i)) (aN_rd pad (by omega)) ?_
        refine lv_bipush (v := nI 63) gx gb dX9_opens_19 (by decide) ?_
        refine lv_icmp_ne (tgt := 28) gx gb dX9_opens_21 (by decide) (fun c21 => ?_) (fun c21 => ?_)
        · skip
          rw [nI_eq (by omega) (by omega)] at c21
          refine lv_iconst (v := nI 0) gx gb dX9_opens_28 (by decide) ?_
          exact L29 0 (by first | (rw [if_pos (by omega)]) | (rw [if_neg (by omega)])) ls (lv_sub hl [0, 1, 2] rfl)
        · skip
          rw [nI_eq (by omega) (by omega)] at c21
          refine lv_iconst (v := nI 1) gx gb dX9_opens_24 (by decide) ?_
          refine lv_goto (tgt := 29) gx gb dX9_opens_25 (by decide) ?_
          exact L29 1 (by first | (rw [if_pos (by omega)]) | (rw [if_neg (by omega)])) ls (lv_sub hl [0, 1, 2] rfl)
  exact L4 _ 0 (by omega) (Nat.lt_succ_self _) ls (lv_sub hl [1, 0, 2] rfl)

set_option maxHeartbeats 4000000 in
set_option maxRecDepth 100000 in
theorem kX9_asNow (Gl : Launch) (D : va_G) (cI cJ cZ : ClassId) (mo : Nat) (ma : Nat) (mb : Nat) (mc : Nat) (md : Nat) (me : Nat) (mf : Nat) (mg : Nat) (mh : Nat) (mi : Nat) (mj : Nat) (mk : Nat) (ml : Nat) (mn : Nat) (n : Nat) (q : Nat) (c : Nat) (w : Nat) (z : Nat) (ev : Nat) (num : Nat → Nat) (plc : Nat → Nat) (sig : Nat → Nat) (pad : Nat → Nat) (row : Nat → Nat) (dig : Nat → Nat) (far : Nat → Int32) (cfr : Nat → Nat) (cby : Nat → Nat) (que : Nat → Nat) (has : Nat → Nat) (img : Nat → Nat) (kep : Nat → Nat) (sz : Nat) : Met Gl yX9_asNow wsX9_asNow ({ frames := 0, cells := 0, slots := 0, locals := 0 } : Room) (va_Pc [.ref mo] (fun U => U.heap.size = sz ∧ va_P D vwCl (wM mo ma mb mc md me mf mg mh mi mj mk ml mn cI cZ n q c w z ev num plc sig pad row dig far cfr cby que has img kep) U.heap ∧ va_K D vwCl [(cI, .int), (cJ, .long), (cZ, .boolean)] U ∧ va_D (fun _ => True) (wM mo ma mb mc md me mf mg mh mi mj mk ml mn cI cZ n q c w z ev num plc sig pad row dig far cfr cby que has img kep))) (va_Qv (fun u : Unit => True) (fun (u : Unit) t => va_P D vwCl (wM mo ma mb mc md me mf mg mh mi mj mk ml mn cI cZ n q c w q ev num plc sig pad (cpy plc row 7) dig far cfr cby que has img kep) t.heap ∧ va_K D vwCl [(cI, .int), (cJ, .long), (cZ, .boolean)] t ∧ va_D (va_A (wM mo ma mb mc md me mf mg mh mi mj mk ml mn cI cZ n q c w z ev num plc sig pad row dig far cfr cby que has img kep) sz) (wM mo ma mb mc md me mf mg mh mi mj mk ml mn cI cZ n q c w q ev num plc sig pad (cpy plc row 7) dig far cfr cby que has img kep)) (va_A (wM mo ma mb mc md me mf mg mh mi mj mk ml mn cI cZ n q c w z ev num plc sig pad row dig far cfr cby que has img kep) sz)) 0 0 (va_A (wM mo ma mb mc md me mf mg mh mi mj mk ml mn cI cZ n q c w z ev num plc sig pad row dig far cfr cby que has img kep) sz) := by
  refine Met.ofW (cc := cX9_asNow) (maxL := 2) (ret := none) (by decide +kernel) rfl ?_
  intro Gp Ge Gs Gm Ga Gw Gt Gc G1 Bd gml gv
  obtain ⟨rfl, hsz, hP, hK, hD0⟩ := gv
  have gx := Bd.exec
  have gb := Bd.bytes
  have gr := Bd.returns
  have gts := atoms_spec (ws := wsX9_asNow) Bd.pre
  have gown : Gs.vm.findClass RX9 = some Gm.cls := findClass_of_methodNamed Bd.named
  have glk := Bd.notSynchronized
  subst hsz
  have hD := hD0.self (sz := Gs.heap.size)
  generalize hAe : va_A (wM mo ma mb mc md me mf mg mh mi mj mk ml mn cI cZ n q c w z ev num plc sig pad row dig far cfr cby que has img kep) Gs.heap.size = A at hD ⊢
  have hA : ∀ q : Nat, Gs.heap.size ≤ q → A q := fun q h => by rw [← hAe]; exact Or.inr h
  have hS : va_S A Gs.heap Gs.heap [] := va_S.rf
  have hP : va_P D vwCl (wM mo ma mb mc md me mf mg mh mi mj mk ml mn cI cZ n q c w z ev num plc sig pad row dig far cfr cby que has img kep) Gs.heap := hP
  have hl := lv_entry ([.ref mo]) (n := 2) (Nat.le_of_ble_eq_true rfl)
  rw [lg_entry_eq]
  generalize (lg_sl ([.ref mo]) ++ List.replicate (2 - (lg_sl ([.ref mo])).length) Slot.unset).toArray = ls at hl ⊢
  have hl : lv_has ls 2 [(0, .ref mo)] := hl
  have i9 : ∀ w ∈ wsX90, w ∈ wsX9_asNow := by decide +kernel
  refine lv_aload_n gx gb dX9_asNow_0 rfl (lv_at hl 0 rfl) ?_
  refine lv_aload_n gx gb dX9_asNow_1 rfl (lv_at hl 0 rfl) ?_
  refine va_get (D := D) (ci := 4) (v := .int (nI q)) (C := RX9) (T := TX9) (N := 19) gx gb gts i9 gown hK hP 0 rfl rfl 1 (by decide) (gts (.fieldLink RX9 13 "SwanSumsModel" "many" "I") (by decide +kernel)) (fun _ h9 => h9) rfl dX9_asNow_2 ?_
  refine va_put (D := D) (ci := 4) (v := .int (nI q)) (ty := .int) (C := RX9) (T := TX9) (N := 19) gx gb gts i9 tyX9 tyX9_ok nmX9 gown hK hP hD hS 0 rfl rfl 9 (by decide) (gts (.fieldLink RX9 81 "SwanSumsModel" "size" "I") (by decide +kernel)) (fun _ h9 => h9) rfl (by decide +kernel) rfl rfl (Nat.le_of_ble_eq_true rfl) dX9_asNow_5 (fun H locs hP hD hS => ?_)
  have hP : va_P D vwCl (wM mo ma mb mc md me mf mg mh mi mj mk ml mn cI cZ n q c w q ev num plc sig pad row dig far cfr cby que has img kep) H := hP
  have hD : va_D A (wM mo ma mb mc md me mf mg mh mi mj mk ml mn cI cZ n q c w q ev num plc sig pad row dig far cfr cby que has img kep) := hD
  refine lv_iconst (v := nI 0) gx gb dX9_asNow_8 (by decide) ?_
  refine lv_istore_n (lv' := [(1, .int (nI 0)), (0, .ref mo)]) gx gb dX9_asNow_9 rfl hl (by decide) rfl (fun ls hl => ?_)
  have L10 : ∀ fu : Nat, ∀ (i : Nat) (hi : i ≤ 7), (7 - i) < fu → ∀ (H : Heap) (locs : List Loc), va_P D vwCl (wM mo ma mb mc md me mf mg mh mi mj mk ml mn cI cZ n q c w q ev num plc sig pad (cpy plc row i) dig far cfr cby que has img kep) H → va_D A (wM mo ma mb mc md me mf mg mh mi mj mk ml mn cI cZ n q c w q ev num plc sig pad (cpy plc row i) dig far cfr cby que has img kep) → va_S A Gs.heap H locs → ∀ ls : Array Slot, lv_has ls 2 [(1, .int (nI i)), (0, .ref mo)] → W Gp Gl Ge (headSpec wsX9_asNow ({ frames := 0, cells := 0, slots := 0, locals := 0 } : Room)).room Gs Gm ([.ref mo] : List Value).toArray Gw Gt Gc H locs 0 0 (MQ Gw (va_Qv (fun u : Unit => True) (fun (u : Unit) t => va_P D vwCl (wM mo ma mb mc md me mf mg mh mi mj mk ml mn cI cZ n q c w q ev num plc sig pad (cpy plc row 7) dig far cfr cby que has img kep) t.heap ∧ va_K D vwCl [(cI, .int), (cJ, .long), (cZ, .boolean)] t ∧ va_D A (wM mo ma mb mc md me mf mg mh mi mj mk ml mn cI cZ n q c w q ev num plc sig pad (cpy plc row 7) dig far cfr cby que has img kep)) A) ([.ref mo] : List Value).toArray Gs 0 0 A) (F0 Gm 10 ls []) := by
    intro fu
    induction fu with
    | zero => intro i hi hfu; exact absurd hfu (Nat.not_lt_zero _)
    | succ fu ih10 =>
      intro i hi hfu H locs hP hD hS ls hl
      refine lv_iload_n gx gb dX9_asNow_10 rfl (lv_at hl 0 rfl) ?_
      refine lv_bipush (v := nI 7) gx gb dX9_asNow_11 (by decide) ?_
      refine lv_icmp_ge (tgt := 34) gx gb dX9_asNow_13 (by decide) (fun c13 => ?_) (fun c13 => ?_)
      · skip
        rw [nI_leI (by omega) (by omega)] at c13
        have e_row : cpy plc row i = cpy plc row 7 := by rw [show i = 7 by omega]
        rw [e_row] at hP hD
        exact W.vret gx gb gr (fun t ht hW => ⟨⟨(), rfl, (by first | (dsimp only; done) | ((try dsimp only); trivial)), by rw [ht]; exact hP, va_K.moved hW.alike hK, hD⟩, hS.F ht⟩) hS.2.2 dX9_asNow_34
      · skip
        rw [nI_leI (by omega) (by omega)] at c13
        refine lv_aload_n gx gb dX9_asNow_16 rfl (lv_at hl 1 rfl) ?_
        refine va_get (D := D) (ci := 4) (v := .ref me) (C := RX9) (T := TX9) (N := 19) gx gb gts i9 gown hK hP 0 rfl rfl 8 (by decide) (gts (.fieldLink RX9 29 "SwanSumsModel" "row" "[I") (by decide +kernel)) (fun _ h9 => h9) rfl dX9_asNow_17 ?_
        refine lv_iload_n gx gb dX9_asNow_20 rfl (lv_at hl 0 rfl) ?_
        refine lv_aload_n gx gb dX9_asNow_21 rfl (lv_at hl 1 rfl) ?_
        refine va_get (D := D) (ci := 4) (v := .ref mb) (C := RX9) (T := TX9) (N := 19) gx gb gts i9 gown hK hP 0 rfl rfl 3 (by decide) (gts (.fieldLink RX9 20 "SwanSumsModel" "place" "[I") (by decide +kernel)) (fun _ h9 => h9) rfl dX9_asNow_22 ?_
        refine lv_iload_n gx gb dX9_asNow_25 rfl (lv_at hl 0 rfl) ?_
        refine va_iald gx gb hK hP 2 0 rfl rfl (vp_in_nI (n := i) (by omega) (by decide)) dX9_asNow_26 ?_
        refine lv_evi (nI (plc i)) (aN_rd plc (by omega)) ?_
        refine va_iast gx gb hK hP hD hS 5 0 rfl rfl (vp_in_nI (n := i) (by omega) (by decide)) dX9_asNow_27 (fun H locs hP hD hS => ?_)
        rw [aN_st (cpy plc row i) (plc i) (by omega)] at hP hD
        have hP : va_P D vwCl (wM mo ma mb mc md me mf mg mh mi mj mk ml mn cI cZ n q c w q ev num plc sig pad (up (cpy plc row i) i (plc i)) dig far cfr cby que has img kep) H := hP
        have hD : va_D A (wM mo ma mb mc md me mf mg mh mi mj mk ml mn cI cZ n q c w q ev num plc sig pad (up (cpy plc row i) i (plc i)) dig far cfr cby que has img kep) := hD
        refine lv_iinc (v := nI (i + 1)) (lv' := [(1, .int (nI (i + 1))), (0, .ref mo)]) gx gb dX9_asNow_28 hl (k := 0) rfl (nI_add i 1) (by decide) rfl (fun ls hl => ?_)
        refine lv_goto (tgt := 10) gx gb dX9_asNow_31 (by decide) ?_
        rw [cpy_s] at hP hD
        exact ih10 (i + 1) (by omega) (by omega) _ _ hP hD hS ls (lv_sub hl [0, 1] rfl)
  rw [← cpy_0 plc row] at hP hD
  exact L10 _ 0 (by omega) (Nat.lt_succ_self _) _ _ hP hD hS ls (lv_sub hl [0, 1] rfl)

set_option maxHeartbeats 4000000 in
set_option maxRecDepth 100000 in
theorem kX9_change (Gl : Launch) (D : va_G) (cI cJ cZ : ClassId) (mo : Nat) (ma : Nat) (mb : Nat) (mc : Nat) (md : Nat) (me : Nat) (mf : Nat) (mg : Nat) (mh : Nat) (mi : Nat) (mj : Nat) (mk : Nat) (ml : Nat) (mn : Nat) (n : Nat) (q : Nat) (c : Nat) (w : Nat) (z : Nat) (ev : Nat) (num : Nat → Nat) (plc : Nat → Nat) (sig : Nat → Nat) (pad : Nat → Nat) (row : Nat → Nat) (dig : Nat → Nat) (far : Nat → Int32) (cfr : Nat → Nat) (cby : Nat → Nat) (que : Nat → Nat) (has : Nat → Nat) (img : Nat → Nat) (kep : Nat → Nat) (sz : Nat) (i j : Nat) (hi : i ≤ 7) (hj : j ≤ 7) : Met Gl yX9_change wsX9_change ({ frames := 0, cells := 0, slots := 0, locals := 0 } : Room) (va_Pc [.ref mo, .int (nI i), .int (nI j)] (fun U => U.heap.size = sz ∧ va_P D vwCl (wM mo ma mb mc md me mf mg mh mi mj mk ml mn cI cZ n q c w z ev num plc sig pad row dig far cfr cby que has img kep) U.heap ∧ va_K D vwCl [(cI, .int), (cJ, .long), (cZ, .boolean)] U ∧ va_D (fun _ => True) (wM mo ma mb mc md me mf mg mh mi mj mk ml mn cI cZ n q c w z ev num plc sig pad row dig far cfr cby que has img kep))) (va_Qv (fun u : Unit => True) (fun (u : Unit) t => va_P D vwCl (wM mo ma mb mc md me mf mg mh mi mj mk ml mn cI cZ n q c w z ev num plc sig pad (swp i j row) dig far cfr cby que has img kep) t.heap ∧ va_K D vwCl [(cI, .int), (cJ, .long), (cZ, .boolean)] t ∧ va_D (va_A (wM mo ma mb mc md me mf mg mh mi mj mk ml mn cI cZ n q c w z ev num plc sig pad row dig far cfr cby que has img kep) sz) (wM mo ma mb mc md me mf mg mh mi mj mk ml mn cI cZ n q c w z ev num plc sig pad (swp i j row) dig far cfr cby que has img kep)) (va_A (wM mo ma mb mc md me mf mg mh mi mj mk ml mn cI cZ n q c w z ev num plc sig pad row dig far cfr cby que has img kep) sz)) 0 0 (va_A (wM mo ma mb mc md me mf mg mh mi mj mk ml mn cI cZ n q c w z ev num plc sig pad row dig far cfr cby que has img kep) sz) := by
  refine Met.ofW (cc := cX9_change) (maxL := 4) (ret := none) (by decide +kernel) rfl ?_
  intro Gp Ge Gs Gm Ga Gw Gt Gc G1 Bd gml gv
  obtain ⟨rfl, hsz, hP, hK, hD0⟩ := gv
  have gx := Bd.exec
  have gb := Bd.bytes
  have gr := Bd.returns
  have gts := atoms_spec (ws := wsX9_change) Bd.pre
  have gown : Gs.vm.findClass RX9 = some Gm.cls := findClass_of_methodNamed Bd.named
  have glk := Bd.notSynchronized
  subst hsz
  have hD := hD0.self (sz := Gs.heap.size)
  generalize hAe : va_A (wM mo ma mb mc md me mf mg mh mi mj mk ml mn cI cZ n q c w z ev num plc sig pad row dig far cfr cby que has img kep) Gs.heap.size = A at hD ⊢
  have hA : ∀ q : Nat, Gs.heap.size ≤ q → A q := fun q h => by rw [← hAe]; exact Or.inr h
  have hS : va_S A Gs.heap Gs.heap [] := va_S.rf
  have hP : va_P D vwCl (wM mo ma mb mc md me mf mg mh mi mj mk ml mn cI cZ n q c w z ev num plc sig pad row dig far cfr cby que has img kep) Gs.heap := hP
  have hl := lv_entry ([.ref mo, .int (nI i), .int (nI j)]) (n := 4) (Nat.le_of_ble_eq_true rfl)
  rw [lg_entry_eq]
  generalize (lg_sl ([.ref mo, .int (nI i), .int (nI j)]) ++ List.replicate (4 - (lg_sl ([.ref mo, .int (nI i), .int (nI j)])).length) Slot.unset).toArray = ls at hl ⊢
  have hl : lv_has ls 4 [(0, .ref mo), (1, .int (nI i)), (2, .int (nI j))] := hl
  have i9 : ∀ w ∈ wsX90, w ∈ wsX9_change := by decide +kernel
  refine lv_aload_n gx gb dX9_change_0 rfl (lv_at hl 0 rfl) ?_
  refine va_get (D := D) (ci := 4) (v := .ref me) (C := RX9) (T := TX9) (N := 19) gx gb gts i9 gown hK hP 0 rfl rfl 8 (by decide) (gts (.fieldLink RX9 29 "SwanSumsModel" "row" "[I") (by decide +kernel)) (fun _ h9 => h9) rfl dX9_change_1 ?_
  refine lv_iload_n gx gb dX9_change_4 rfl (lv_at hl 1 rfl) ?_
  refine va_iald gx gb hK hP 5 0 rfl rfl (vp_in_nI (n := i) (by omega) (by decide)) dX9_change_5 ?_
  refine lv_evi (nI (row i)) (aN_rd row (by omega)) ?_
  refine lv_istore_n (lv' := [(3, .int (nI (row i))), (0, .ref mo), (1, .int (nI i)), (2, .int (nI j))]) gx gb dX9_change_6 rfl hl (by decide) rfl (fun ls hl => ?_)
  refine lv_aload_n gx gb dX9_change_7 rfl (lv_at hl 1 rfl) ?_
  refine va_get (D := D) (ci := 4) (v := .ref me) (C := RX9) (T := TX9) (N := 19) gx gb gts i9 gown hK hP 0 rfl rfl 8 (by decide) (gts (.fieldLink RX9 29 "SwanSumsModel" "row" "[I") (by decide +kernel)) (fun _ h9 => h9) rfl dX9_change_8 ?_
  refine lv_iload_n gx gb dX9_change_11 rfl (lv_at hl 2 rfl) ?_
  refine lv_aload_n gx gb dX9_change_12 rfl (lv_at hl 1 rfl) ?_
  refine va_get (D := D) (ci := 4) (v := .ref me) (C := RX9) (T := TX9) (N := 19) gx gb gts i9 gown hK hP 0 rfl rfl 8 (by decide) (gts (.fieldLink RX9 29 "SwanSumsModel" "row" "[I") (by decide +kernel)) (fun _ h9 => h9) rfl dX9_change_13 ?_
  refine lv_iload_n gx gb dX9_change_16 rfl (lv_at hl 3 rfl) ?_
  refine va_iald gx gb hK hP 5 0 rfl rfl (vp_in_nI (n := j) (by omega) (by decide)) dX9_change_17 ?_
  refine lv_evi (nI (row j)) (aN_rd row (by omega)) ?_
  refine va_iast gx gb hK hP hD hS 5 0 rfl rfl (vp_in_nI (n := i) (by omega) (by decide)) dX9_change_18 (fun H locs hP hD hS => ?_)
  rw [aN_st row (row j) (by omega)] at hP hD
  have hP : va_P D vwCl (wM mo ma mb mc md me mf mg mh mi mj mk ml mn cI cZ n q c w z ev num plc sig pad (up row i (row j)) dig far cfr cby que has img kep) H := hP
  have hD : va_D A (wM mo ma mb mc md me mf mg mh mi mj mk ml mn cI cZ n q c w z ev num plc sig pad (up row i (row j)) dig far cfr cby que has img kep) := hD
  refine lv_aload_n gx gb dX9_change_19 rfl (lv_at hl 1 rfl) ?_
  refine va_get (D := D) (ci := 4) (v := .ref me) (C := RX9) (T := TX9) (N := 19) gx gb gts i9 gown hK hP 0 rfl rfl 8 (by decide) (gts (.fieldLink RX9 29 "SwanSumsModel" "row" "[I") (by decide +kernel)) (fun _ h9 => h9) rfl dX9_change_20 ?_
  refine lv_iload_n gx gb dX9_change_23 rfl (lv_at hl 3 rfl) ?_
  refine lv_iload_n gx gb dX9_change_24 rfl (lv_at hl 0 rfl) ?_
  refine va_iast gx gb hK hP hD hS 5 0 rfl rfl (vp_in_nI (n := j) (by omega) (by decide)) dX9_change_25 (fun H locs hP hD hS => ?_)
  rw [aN_st (up row i (row j)) (row i) (by omega)] at hP hD
  have hP : va_P D vwCl (wM mo ma mb mc md me mf mg mh mi mj mk ml mn cI cZ n q c w z ev num plc sig pad (up (up row i (row j)) j (row i)) dig far cfr cby que has img kep) H := hP
  have hD : va_D A (wM mo ma mb mc md me mf mg mh mi mj mk ml mn cI cZ n q c w z ev num plc sig pad (up (up row i (row j)) j (row i)) dig far cfr cby que has img kep) := hD
  have e_row : up (up row i (row j)) j (row i) = swp i j row := by rfl
  rw [e_row] at hP hD
  exact W.vret gx gb gr (fun t ht hW => ⟨⟨(), rfl, (by first | (dsimp only; done) | ((try dsimp only); trivial)), by rw [ht]; exact hP, va_K.moved hW.alike hK, hD⟩, hS.F ht⟩) hS.2.2 dX9_change_26

set_option maxHeartbeats 4000000 in
set_option maxRecDepth 100000 in
theorem kX9_bread (Gl : Launch) (D : va_G) (cI cJ cZ : ClassId) (mo : Nat) (ma : Nat) (mb : Nat) (mc : Nat) (md : Nat) (me : Nat) (mf : Nat) (mg : Nat) (mh : Nat) (mi : Nat) (mj : Nat) (mk : Nat) (ml : Nat) (mn : Nat) (n : Nat) (q : Nat) (c : Nat) (w : Nat) (z : Nat) (ev : Nat) (num : Nat → Nat) (plc : Nat → Nat) (sig : Nat → Nat) (pad : Nat → Nat) (row : Nat → Nat) (dig : Nat → Nat) (far : Nat → Int32) (cfr : Nat → Nat) (cby : Nat → Nat) (que : Nat → Nat) (has : Nat → Nat) (img : Nat → Nat) (kep : Nat → Nat) (sz : Nat) (p : Nat) (hp : p ≤ 7) : Met Gl yX9_bread wsX9_bread ({ frames := 1, cells := 0, slots := 0, locals := 23 } : Room) (va_Pc [.ref mo, .int (nI p)] (fun U => U.heap.size = sz ∧ va_P D vwCl (wM mo ma mb mc md me mf mg mh mi mj mk ml mn cI cZ n q c w z ev num plc sig pad row dig far cfr cby que has img kep) U.heap ∧ va_K D vwCl [(cI, .int), (cJ, .long), (cZ, .boolean)] U ∧ va_D (fun _ => True) (wM mo ma mb mc md me mf mg mh mi mj mk ml mn cI cZ n q c w z ev num plc sig pad row dig far cfr cby que has img kep))) (va_Qv (fun u : Unit => True) (fun (u : Unit) t => va_P D vwCl (wM mo ma mb mc md me mf mg mh mi mj mk ml mn cI cZ n q c w z ev num plc sig pad (breadF p row) dig far cfr cby que has img kep) t.heap ∧ va_K D vwCl [(cI, .int), (cJ, .long), (cZ, .boolean)] t ∧ va_D (va_A (wM mo ma mb mc md me mf mg mh mi mj mk ml mn cI cZ n q c w z ev num plc sig pad row dig far cfr cby que has img kep) sz) (wM mo ma mb mc md me mf mg mh mi mj mk ml mn cI cZ n q c w z ev num plc sig pad (breadF p row) dig far cfr cby que has img kep)) (va_A (wM mo ma mb mc md me mf mg mh mi mj mk ml mn cI cZ n q c w z ev num plc sig pad row dig far cfr cby que has img kep) sz)) 0 0 (va_A (wM mo ma mb mc md me mf mg mh mi mj mk ml mn cI cZ n q c w z ev num plc sig pad row dig far cfr cby que has img kep) sz) := by
  refine Met.ofW (cc := cX9_bread) (maxL := 3) (ret := none) (by decide +kernel) rfl ?_
  intro Gp Ge Gs Gm Ga Gw Gt Gc G1 Bd gml gv
  obtain ⟨rfl, hsz, hP, hK, hD0⟩ := gv
  have gx := Bd.exec
  have gb := Bd.bytes
  have gr := Bd.returns
  have gts := atoms_spec (ws := wsX9_bread) Bd.pre
  have gown : Gs.vm.findClass RX9 = some Gm.cls := findClass_of_methodNamed Bd.named
  have glk := Bd.notSynchronized
  subst hsz
  have hD := hD0.self (sz := Gs.heap.size)
  generalize hAe : va_A (wM mo ma mb mc md me mf mg mh mi mj mk ml mn cI cZ n q c w z ev num plc sig pad row dig far cfr cby que has img kep) Gs.heap.size = A at hD ⊢
  have hA : ∀ q : Nat, Gs.heap.size ≤ q → A q := fun q h => by rw [← hAe]; exact Or.inr h
  have hS : va_S A Gs.heap Gs.heap [] := va_S.rf
  have hP : va_P D vwCl (wM mo ma mb mc md me mf mg mh mi mj mk ml mn cI cZ n q c w z ev num plc sig pad row dig far cfr cby que has img kep) Gs.heap := hP
  have hl := lv_entry ([.ref mo, .int (nI p)]) (n := 3) (Nat.le_of_ble_eq_true rfl)
  rw [lg_entry_eq]
  generalize (lg_sl ([.ref mo, .int (nI p)]) ++ List.replicate (3 - (lg_sl ([.ref mo, .int (nI p)])).length) Slot.unset).toArray = ls at hl ⊢
  have hl : lv_has ls 3 [(0, .ref mo), (1, .int (nI p))] := hl
  refine lv_iload_n gx gb dX9_bread_0 rfl (lv_at hl 1 rfl) ?_
  refine lv_istore_n (lv' := [(2, .int (nI p)), (0, .ref mo), (1, .int (nI p))]) gx gb dX9_bread_1 rfl hl (by decide) rfl (fun ls hl => ?_)
  have L2 : ∀ fu : Nat, ∀ (k : Nat) (hk : k ≤ p), k < fu → ∀ (H : Heap) (locs : List Loc), va_P D vwCl (wM mo ma mb mc md me mf mg mh mi mj mk ml mn cI cZ n q c w z ev num plc sig pad (brd k p row) dig far cfr cby que has img kep) H → va_D A (wM mo ma mb mc md me mf mg mh mi mj mk ml mn cI cZ n q c w z ev num plc sig pad (brd k p row) dig far cfr cby que has img kep) → va_S A Gs.heap H locs → ∀ ls : Array Slot, lv_has ls 3 [(2, .int (nI k)), (0, .ref mo), (1, .int (nI p))] → W Gp Gl Ge (headSpec wsX9_bread ({ frames := 1, cells := 0, slots := 0, locals := 23 } : Room)).room Gs Gm ([.ref mo, .int (nI p)] : List Value).toArray Gw Gt Gc H locs 0 0 (MQ Gw (va_Qv (fun u : Unit => True) (fun (u : Unit) t => va_P D vwCl (wM mo ma mb mc md me mf mg mh mi mj mk ml mn cI cZ n q c w z ev num plc sig pad (breadF p row) dig far cfr cby que has img kep) t.heap ∧ va_K D vwCl [(cI, .int), (cJ, .long), (cZ, .boolean)] t ∧ va_D A (wM mo ma mb mc md me mf mg mh mi mj mk ml mn cI cZ n q c w z ev num plc sig pad (breadF p row) dig far cfr cby que has img kep)) A) ([.ref mo, .int (nI p)] : List Value).toArray Gs 0 0 A) (F0 Gm 2 ls []) := by
    intro fu
    induction fu with
    | zero => intro k hk hfu; exact absurd hfu (Nat.not_lt_zero _)
    | succ fu ih2 =>
      intro k hk hfu H locs hP hD hS ls hl
      refine lv_iload_n gx gb dX9_bread_2 rfl (lv_at hl 0 rfl) ?_
      refine lv_if_le (tgt := 20) gx gb dX9_bread_3 (by decide) (fun c3 => ?_) (fun c3 => ?_)
      · skip
        rw [n0_le (by omega)] at c3
        have e_row : brd k p row = breadF p row := by rw [show k = 0 by omega, brd_0]
        rw [e_row] at hP hD
        exact W.vret gx gb gr (fun t ht hW => ⟨⟨(), rfl, (by first | (dsimp only; done) | ((try dsimp only); trivial)), by rw [ht]; exact hP, va_K.moved hW.alike hK, hD⟩, hS.F ht⟩) hS.2.2 dX9_bread_20
      · skip
        rw [n0_le (by omega)] at c3
        refine lv_aload_n gx gb dX9_bread_6 rfl (lv_at hl 1 rfl) ?_
        refine lv_iload_n gx gb dX9_bread_7 rfl (lv_at hl 0 rfl) ?_
        refine lv_iload_n gx gb dX9_bread_8 rfl (lv_at hl 0 rfl) ?_
        refine lv_iconst (v := nI 1) gx gb dX9_bread_9 (by decide) ?_
        refine lv_isub gx gb dX9_bread_10 ?_
        refine lv_evi (nI (k - 1)) (e_sub (by omega)) ?_
        have hPc := hP.sub (ws' := wM mo ma mb mc md me mf mg mh mi mj mk ml mn cI cZ n q c w z ev num plc sig pad (brd k p row) dig far cfr cby que has img kep) [0, 1, 2, 3, 4, 5, 6, 7, 8, 9, 10, 11, 12, 13] rfl
        have hDc := hD.sub (ws' := wM mo ma mb mc md me mf mg mh mi mj mk ml mn cI cZ n q c w z ev num plc sig pad (brd k p row) dig far cfr cby que has img kep) [0, 1, 2, 3, 4, 5, 6, 7, 8, 9, 10, 11, 12, 13] (by decide) rfl
        have hFc := va_free (wc := wM mo ma mb mc md me mf mg mh mi mj mk ml mn cI cZ n q c w z ev num plc sig pad (brd k p row) dig far cfr cby que has img kep) hD hS hA [0, 1, 2, 3, 4, 5, 6, 7, 8, 9, 10, 11, 12, 13] rfl
        refine va_callv (va_runV (As := [.int (nI k), .int (nI (k - 1))]) (rest := []) ⟨gx, gb, gml, gown, gts⟩ (kX9_change Gl D cI cJ cZ mo ma mb mc md me mf mg mh mi mj mk ml mn n q c w z ev num plc sig pad (brd k p row) dig far cfr cby que has img kep _ k (k - 1) (by omega) (by omega)) (cwV 2 gts gX9_bread_X9_change rfl rfl rfl (by decide +kernel) ⟨Nat.le_of_ble_eq_true rfl, Nat.le_of_ble_eq_true rfl⟩) ⟨fun a U g mk q => by obtain ⟨q0, q1, qP, qK, qD⟩ := q; exact ⟨q0, q1, qP, va_K.moved (u := U) (U := U.calling g mk a) (Vm.Alike.refl U.vm) qK, qD⟩, va_recv hK hPc (ci := 4) (q0 := 0) rfl rfl, fun U hU hW => ⟨rfl, by rw [hU], by rw [hU]; exact hPc, va_K.moved hW.alike hK, hDc.weaken (fun _ _ _ _ => trivial)⟩⟩ rfl rfl hl.1 rfl (lv_room (Nat.le_of_ble_eq_true rfl)) dX9_bread_11 ⟨Nat.le_of_ble_eq_true rfl, Nat.le_of_ble_eq_true rfl⟩) hS (fun q _ h => hFc q h) hFc (fun u t H1 locs ht hvm hw hB hz1 hk1 hS => ?_)
        obtain ⟨hP1, hK1, hD1⟩ := hB
        rw [ht] at hP1
        try dsimp only at hw
        try dsimp only at hP1
        try dsimp only at hD1
        have hK := va_K.moved hvm.symm hK1
        obtain ⟨hP, hD⟩ := va_join (wr := []) (w1 := wM mo ma mb mc md me mf mg mh mi mj mk ml mn cI cZ n q c w z ev num plc sig pad (swp k (k - 1) (brd k p row)) dig far cfr cby que has img kep) hP hD [0, 1, 2, 3, 4, 5, 6, 7, 8, 9, 10, 11, 12, 13] [] rfl rfl (by decide) (by decide) hk1 hFc hP1 hD1
        have hP := hP.sub (ws' := wM mo ma mb mc md me mf mg mh mi mj mk ml mn cI cZ n q c w z ev num plc sig pad (swp k (k - 1) (brd k p row)) dig far cfr cby que has img kep) [0, 1, 2, 3, 4, 5, 6, 7, 8, 9, 10, 11, 12, 13] rfl
        have hD := hD.sub (ws' := wM mo ma mb mc md me mf mg mh mi mj mk ml mn cI cZ n q c w z ev num plc sig pad (swp k (k - 1) (brd k p row)) dig far cfr cby que has img kep) [0, 1, 2, 3, 4, 5, 6, 7, 8, 9, 10, 11, 12, 13] (by decide) rfl
        have hK := va_K.moved (Vm.Alike.refl Gs.vm) hK
        generalize H1 = H at hP hS ⊢
        refine lv_iinc (v := nI (k - 1)) (lv' := [(2, .int (nI (k - 1))), (0, .ref mo), (1, .int (nI p))]) gx gb dX9_bread_14 hl (k := 0) rfl (e_dec1 (by omega)) (by decide) rfl (fun ls hl => ?_)
        refine lv_goto (tgt := 2) gx gb dX9_bread_17 (by decide) ?_
        rw [show swp k (k - 1) (brd k p row) = brd (k - 1) p row from by obtain ⟨k, rfl⟩ : ∃ x, k = x + 1 := ⟨k - 1, by omega⟩; exact brd_s row hk] at hP hD
        exact ih2 (k - 1) (by omega) (by omega) _ _ hP hD hS ls (lv_sub hl [0, 1, 2] rfl)
  rw [← brd_p p row] at hP hD
  exact L2 _ p (by omega) (Nat.lt_succ_self _) _ _ hP hD hS ls (lv_sub hl [0, 1, 2] rfl)

set_option maxHeartbeats 4000000 in
set_option maxRecDepth 100000 in
theorem kX9_pike (Gl : Launch) (D : va_G) (cI cJ cZ : ClassId) (mo : Nat) (ma : Nat) (mb : Nat) (mc : Nat) (md : Nat) (me : Nat) (mf : Nat) (mg : Nat) (mh : Nat) (mi : Nat) (mj : Nat) (mk : Nat) (ml : Nat) (mn : Nat) (n : Nat) (q : Nat) (c : Nat) (w : Nat) (z : Nat) (ev : Nat) (num : Nat → Nat) (plc : Nat → Nat) (sig : Nat → Nat) (pad : Nat → Nat) (row : Nat → Nat) (dig : Nat → Nat) (far : Nat → Int32) (cfr : Nat → Nat) (cby : Nat → Nat) (que : Nat → Nat) (has : Nat → Nat) (img : Nat → Nat) (kep : Nat → Nat) (sz : Nat) (p : Nat) (hz : z ≤ 7) (hp : p < z) : Met Gl yX9_pike wsX9_pike ({ frames := 1, cells := 0, slots := 0, locals := 23 } : Room) (va_Pc [.ref mo, .int (nI p)] (fun U => U.heap.size = sz ∧ va_P D vwCl (wM mo ma mb mc md me mf mg mh mi mj mk ml mn cI cZ n q c w z ev num plc sig pad row dig far cfr cby que has img kep) U.heap ∧ va_K D vwCl [(cI, .int), (cJ, .long), (cZ, .boolean)] U ∧ va_D (fun _ => True) (wM mo ma mb mc md me mf mg mh mi mj mk ml mn cI cZ n q c w z ev num plc sig pad row dig far cfr cby que has img kep))) (va_Qv (fun u : Unit => True) (fun (u : Unit) t => va_P D vwCl (wM mo ma mb mc md me mf mg mh mi mj mk ml mn cI cZ n q c w z ev num plc sig pad (pikeF p (z - 1) row) dig far cfr cby que has img kep) t.heap ∧ va_K D vwCl [(cI, .int), (cJ, .long), (cZ, .boolean)] t ∧ va_D (va_A (wM mo ma mb mc md me mf mg mh mi mj mk ml mn cI cZ n q c w z ev num plc sig pad row dig far cfr cby que has img kep) sz) (wM mo ma mb mc md me mf mg mh mi mj mk ml mn cI cZ n q c w z ev num plc sig pad (pikeF p (z - 1) row) dig far cfr cby que has img kep)) (va_A (wM mo ma mb mc md me mf mg mh mi mj mk ml mn cI cZ n q c w z ev num plc sig pad row dig far cfr cby que has img kep) sz)) 0 0 (va_A (wM mo ma mb mc md me mf mg mh mi mj mk ml mn cI cZ n q c w z ev num plc sig pad row dig far cfr cby que has img kep) sz) := by
  refine Met.ofW (cc := cX9_pike) (maxL := 3) (ret := none) (by decide +kernel) rfl ?_
  intro Gp Ge Gs Gm Ga Gw Gt Gc G1 Bd gml gv
  obtain ⟨rfl, hsz, hP, hK, hD0⟩ := gv
  have gx := Bd.exec
  have gb := Bd.bytes
  have gr := Bd.returns
  have gts := atoms_spec (ws := wsX9_pike) Bd.pre
  have gown : Gs.vm.findClass RX9 = some Gm.cls := findClass_of_methodNamed Bd.named
  have glk := Bd.notSynchronized
  subst hsz
  have hD := hD0.self (sz := Gs.heap.size)
  generalize hAe : va_A (wM mo ma mb mc md me mf mg mh mi mj mk ml mn cI cZ n q c w z ev num plc sig pad row dig far cfr cby que has img kep) Gs.heap.size = A at hD ⊢
  have hA : ∀ q : Nat, Gs.heap.size ≤ q → A q := fun q h => by rw [← hAe]; exact Or.inr h
  have hS : va_S A Gs.heap Gs.heap [] := va_S.rf
  have hP : va_P D vwCl (wM mo ma mb mc md me mf mg mh mi mj mk ml mn cI cZ n q c w z ev num plc sig pad row dig far cfr cby que has img kep) Gs.heap := hP
  have hl := lv_entry ([.ref mo, .int (nI p)]) (n := 3) (Nat.le_of_ble_eq_true rfl)
  rw [lg_entry_eq]
  generalize (lg_sl ([.ref mo, .int (nI p)]) ++ List.replicate (3 - (lg_sl ([.ref mo, .int (nI p)])).length) Slot.unset).toArray = ls at hl ⊢
  have hl : lv_has ls 3 [(0, .ref mo), (1, .int (nI p))] := hl
  have i9 : ∀ w ∈ wsX90, w ∈ wsX9_pike := by decide +kernel
  refine lv_iload_n gx gb dX9_pike_0 rfl (lv_at hl 1 rfl) ?_
  refine lv_istore_n (lv' := [(2, .int (nI p)), (0, .ref mo), (1, .int (nI p))]) gx gb dX9_pike_1 rfl hl (by decide) rfl (fun ls hl => ?_)
  have L2 : ∀ fu : Nat, ∀ (k : Nat) (hk : p ≤ k) (hk2 : k < z), (z - k) < fu → ∀ (H : Heap) (locs : List Loc), va_P D vwCl (wM mo ma mb mc md me mf mg mh mi mj mk ml mn cI cZ n q c w z ev num plc sig pad (pikeF p k row) dig far cfr cby que has img kep) H → va_D A (wM mo ma mb mc md me mf mg mh mi mj mk ml mn cI cZ n q c w z ev num plc sig pad (pikeF p k row) dig far cfr cby que has img kep) → va_S A Gs.heap H locs → ∀ ls : Array Slot, lv_has ls 3 [(2, .int (nI k)), (0, .ref mo), (1, .int (nI p))] → W Gp Gl Ge (headSpec wsX9_pike ({ frames := 1, cells := 0, slots := 0, locals := 23 } : Room)).room Gs Gm ([.ref mo, .int (nI p)] : List Value).toArray Gw Gt Gc H locs 0 0 (MQ Gw (va_Qv (fun u : Unit => True) (fun (u : Unit) t => va_P D vwCl (wM mo ma mb mc md me mf mg mh mi mj mk ml mn cI cZ n q c w z ev num plc sig pad (pikeF p (z - 1) row) dig far cfr cby que has img kep) t.heap ∧ va_K D vwCl [(cI, .int), (cJ, .long), (cZ, .boolean)] t ∧ va_D A (wM mo ma mb mc md me mf mg mh mi mj mk ml mn cI cZ n q c w z ev num plc sig pad (pikeF p (z - 1) row) dig far cfr cby que has img kep)) A) ([.ref mo, .int (nI p)] : List Value).toArray Gs 0 0 A) (F0 Gm 2 ls []) := by
    intro fu
    induction fu with
    | zero => intro k hk hk2 hfu; exact absurd hfu (Nat.not_lt_zero _)
    | succ fu ih2 =>
      intro k hk hk2 hfu H locs hP hD hS ls hl
      refine lv_iload_n gx gb dX9_pike_2 rfl (lv_at hl 0 rfl) ?_
      refine lv_iconst (v := nI 1) gx gb dX9_pike_3 (by decide) ?_
      refine lv_iadd gx gb dX9_pike_4 ?_
      refine lv_evi (nI (k + 1)) (nI_add k 1) ?_
      refine lv_aload_n gx gb dX9_pike_5 rfl (lv_at hl 1 rfl) ?_
      refine va_get (D := D) (ci := 4) (v := .int (nI z)) (C := RX9) (T := TX9) (N := 19) gx gb gts i9 gown hK hP 0 rfl rfl 9 (by decide) (gts (.fieldLink RX9 81 "SwanSumsModel" "size" "I") (by decide +kernel)) (fun _ h9 => h9) rfl dX9_pike_6 ?_
      refine lv_icmp_ge (tgt := 26) gx gb dX9_pike_9 (by decide) (fun c9 => ?_) (fun c9 => ?_)
      · skip
        rw [nI_leI (by omega) (by omega)] at c9
        have e_row : pikeF p k row = pikeF p (z - 1) row := by rw [show k = z - 1 by omega]
        rw [e_row] at hP hD
        exact W.vret gx gb gr (fun t ht hW => ⟨⟨(), rfl, (by first | (dsimp only; done) | ((try dsimp only); trivial)), by rw [ht]; exact hP, va_K.moved hW.alike hK, hD⟩, hS.F ht⟩) hS.2.2 dX9_pike_26
      · skip
        rw [nI_leI (by omega) (by omega)] at c9
        refine lv_aload_n gx gb dX9_pike_12 rfl (lv_at hl 1 rfl) ?_
        refine lv_iload_n gx gb dX9_pike_13 rfl (lv_at hl 0 rfl) ?_
        refine lv_iload_n gx gb dX9_pike_14 rfl (lv_at hl 0 rfl) ?_
        refine lv_iconst (v := nI 1) gx gb dX9_pike_15 (by decide) ?_
        refine lv_iadd gx gb dX9_pike_16 ?_
        refine lv_evi (nI (k + 1)) (nI_add k 1) ?_
        have hPc := hP.sub (ws' := wM mo ma mb mc md me mf mg mh mi mj mk ml mn cI cZ n q c w z ev num plc sig pad (pikeF p k row) dig far cfr cby que has img kep) [0, 1, 2, 3, 4, 5, 6, 7, 8, 9, 10, 11, 12, 13] rfl
        have hDc := hD.sub (ws' := wM mo ma mb mc md me mf mg mh mi mj mk ml mn cI cZ n q c w z ev num plc sig pad (pikeF p k row) dig far cfr cby que has img kep) [0, 1, 2, 3, 4, 5, 6, 7, 8, 9, 10, 11, 12, 13] (by decide) rfl
        have hFc := va_free (wc := wM mo ma mb mc md me mf mg mh mi mj mk ml mn cI cZ n q c w z ev num plc sig pad (pikeF p k row) dig far cfr cby que has img kep) hD hS hA [0, 1, 2, 3, 4, 5, 6, 7, 8, 9, 10, 11, 12, 13] rfl
        refine va_callv (va_runV (As := [.int (nI k), .int (nI (k + 1))]) (rest := []) ⟨gx, gb, gml, gown, gts⟩ (kX9_change Gl D cI cJ cZ mo ma mb mc md me mf mg mh mi mj mk ml mn n q c w z ev num plc sig pad (pikeF p k row) dig far cfr cby que has img kep _ k (k + 1) (by omega) (by omega)) (cwV 2 gts gX9_pike_X9_change rfl rfl rfl (by decide +kernel) ⟨Nat.le_of_ble_eq_true rfl, Nat.le_of_ble_eq_true rfl⟩) ⟨fun a U g mk q => by obtain ⟨q0, q1, qP, qK, qD⟩ := q; exact ⟨q0, q1, qP, va_K.moved (u := U) (U := U.calling g mk a) (Vm.Alike.refl U.vm) qK, qD⟩, va_recv hK hPc (ci := 4) (q0 := 0) rfl rfl, fun U hU hW => ⟨rfl, by rw [hU], by rw [hU]; exact hPc, va_K.moved hW.alike hK, hDc.weaken (fun _ _ _ _ => trivial)⟩⟩ rfl rfl hl.1 rfl (lv_room (Nat.le_of_ble_eq_true rfl)) dX9_pike_17 ⟨Nat.le_of_ble_eq_true rfl, Nat.le_of_ble_eq_true rfl⟩) hS (fun q _ h => hFc q h) hFc (fun u t H1 locs ht hvm hw hB hz1 hk1 hS => ?_)
        obtain ⟨hP1, hK1, hD1⟩ := hB
        rw [ht] at hP1
        try dsimp only at hw
        try dsimp only at hP1
        try dsimp only at hD1
        have hK := va_K.moved hvm.symm hK1
        obtain ⟨hP, hD⟩ := va_join (wr := []) (w1 := wM mo ma mb mc md me mf mg mh mi mj mk ml mn cI cZ n q c w z ev num plc sig pad (swp k (k + 1) (pikeF p k row)) dig far cfr cby que has img kep) hP hD [0, 1, 2, 3, 4, 5, 6, 7, 8, 9, 10, 11, 12, 13] [] rfl rfl (by decide) (by decide) hk1 hFc hP1 hD1
        have hP := hP.sub (ws' := wM mo ma mb mc md me mf mg mh mi mj mk ml mn cI cZ n q c w z ev num plc sig pad (swp k (k + 1) (pikeF p k row)) dig far cfr cby que has img kep) [0, 1, 2, 3, 4, 5, 6, 7, 8, 9, 10, 11, 12, 13] rfl
        have hD := hD.sub (ws' := wM mo ma mb mc md me mf mg mh mi mj mk ml mn cI cZ n q c w z ev num plc sig pad (swp k (k + 1) (pikeF p k row)) dig far cfr cby que has img kep) [0, 1, 2, 3, 4, 5, 6, 7, 8, 9, 10, 11, 12, 13] (by decide) rfl
        have hK := va_K.moved (Vm.Alike.refl Gs.vm) hK
        generalize H1 = H at hP hS ⊢
        refine lv_iinc (v := nI (k + 1)) (lv' := [(2, .int (nI (k + 1))), (0, .ref mo), (1, .int (nI p))]) gx gb dX9_pike_20 hl (k := 0) rfl (nI_add k 1) (by decide) rfl (fun ls hl => ?_)
        refine lv_goto (tgt := 2) gx gb dX9_pike_23 (by decide) ?_
        rw [pikeF_s row hk] at hP hD
        exact ih2 (k + 1) (by omega) (by omega) (by omega) _ _ hP hD hS ls (lv_sub hl [0, 1, 2] rfl)
  rw [← pikeF_p p row] at hP hD
  exact L2 _ p (by omega) (by omega) (Nat.lt_succ_self _) _ _ hP hD hS ls (lv_sub hl [0, 1, 2] rfl)

set_option maxHeartbeats 4000000 in
set_option maxRecDepth 100000 in
theorem kX9_rain (Gl : Launch) (D : va_G) (cI cJ cZ : ClassId) (mo : Nat) (ma : Nat) (mb : Nat) (mc : Nat) (md : Nat) (me : Nat) (mf : Nat) (mg : Nat) (mh : Nat) (mi : Nat) (mj : Nat) (mk : Nat) (ml : Nat) (mn : Nat) (n : Nat) (q : Nat) (c : Nat) (w : Nat) (z : Nat) (ev : Nat) (num : Nat → Nat) (plc : Nat → Nat) (sig : Nat → Nat) (pad : Nat → Nat) (row : Nat → Nat) (dig : Nat → Nat) (far : Nat → Int32) (cfr : Nat → Nat) (cby : Nat → Nat) (que : Nat → Nat) (has : Nat → Nat) (img : Nat → Nat) (kep : Nat → Nat) (sz : Nat) (hz : z ≤ 7) : Met Gl yX9_rain wsX9_rain ({ frames := 1, cells := 0, slots := 0, locals := 23 } : Room) (va_Pc [.ref mo] (fun U => U.heap.size = sz ∧ va_P D vwCl (wM mo ma mb mc md me mf mg mh mi mj mk ml mn cI cZ n q c w z ev num plc sig pad row dig far cfr cby que has img kep) U.heap ∧ va_K D vwCl [(cI, .int), (cJ, .long), (cZ, .boolean)] U ∧ va_D (fun _ => True) (wM mo ma mb mc md me mf mg mh mi mj mk ml mn cI cZ n q c w z ev num plc sig pad row dig far cfr cby que has img kep))) (va_Qv (fun u : Unit => True) (fun (u : Unit) t => va_P D vwCl (wM mo ma mb mc md me mf mg mh mi mj mk ml mn cI cZ n q c w z ev num plc sig pad (rainF z row) dig far cfr cby que has img kep) t.heap ∧ va_K D vwCl [(cI, .int), (cJ, .long), (cZ, .boolean)] t ∧ va_D (va_A (wM mo ma mb mc md me mf mg mh mi mj mk ml mn cI cZ n q c w z ev num plc sig pad row dig far cfr cby que has img kep) sz) (wM mo ma mb mc md me mf mg mh mi mj mk ml mn cI cZ n q c w z ev num plc sig pad (rainF z row) dig far cfr cby que has img kep)) (va_A (wM mo ma mb mc md me mf mg mh mi mj mk ml mn cI cZ n q c w z ev num plc sig pad row dig far cfr cby que has img kep) sz)) 0 0 (va_A (wM mo ma mb mc md me mf mg mh mi mj mk ml mn cI cZ n q c w z ev num plc sig pad row dig far cfr cby que has img kep) sz) := by
  refine Met.ofW (cc := cX9_rain) (maxL := 2) (ret := none) (by decide +kernel) rfl ?_
  intro Gp Ge Gs Gm Ga Gw Gt Gc G1 Bd gml gv
  obtain ⟨rfl, hsz, hP, hK, hD0⟩ := gv
  have gx := Bd.exec
  have gb := Bd.bytes
  have gr := Bd.returns
  have gts := atoms_spec (ws := wsX9_rain) Bd.pre
  have gown : Gs.vm.findClass RX9 = some Gm.cls := findClass_of_methodNamed Bd.named
  have glk := Bd.notSynchronized
  subst hsz
  have hD := hD0.self (sz := Gs.heap.size)
  generalize hAe : va_A (wM mo ma mb mc md me mf mg mh mi mj mk ml mn cI cZ n q c w z ev num plc sig pad row dig far cfr cby que has img kep) Gs.heap.size = A at hD ⊢
  have hA : ∀ q : Nat, Gs.heap.size ≤ q → A q := fun q h => by rw [← hAe]; exact Or.inr h
  have hS : va_S A Gs.heap Gs.heap [] := va_S.rf
  have hP : va_P D vwCl (wM mo ma mb mc md me mf mg mh mi mj mk ml mn cI cZ n q c w z ev num plc sig pad row dig far cfr cby que has img kep) Gs.heap := hP
  have hl := lv_entry ([.ref mo]) (n := 2) (Nat.le_of_ble_eq_true rfl)
  rw [lg_entry_eq]
  generalize (lg_sl ([.ref mo]) ++ List.replicate (2 - (lg_sl ([.ref mo])).length) Slot.unset).toArray = ls at hl ⊢
  have hl : lv_has ls 2 [(0, .ref mo)] := hl
  have i9 : ∀ w ∈ wsX90, w ∈ wsX9_rain := by decide +kernel
  refine lv_iconst (v := nI 0) gx gb dX9_rain_0 (by decide) ?_
  refine lv_istore_n (lv' := [(1, .int (nI 0)), (0, .ref mo)]) gx gb dX9_rain_1 rfl hl (by decide) rfl (fun ls hl => ?_)
  have L2 : ∀ fu : Nat, ∀ (i : Nat) (hi : i ≤ z / 2), (z / 2 - i) < fu → ∀ (H : Heap) (locs : List Loc), va_P D vwCl (wM mo ma mb mc md me mf mg mh mi mj mk ml mn cI cZ n q c w z ev num plc sig pad (rnF i z row) dig far cfr cby que has img kep) H → va_D A (wM mo ma mb mc md me mf mg mh mi mj mk ml mn cI cZ n q c w z ev num plc sig pad (rnF i z row) dig far cfr cby que has img kep) → va_S A Gs.heap H locs → ∀ ls : Array Slot, lv_has ls 2 [(1, .int (nI i)), (0, .ref mo)] → W Gp Gl Ge (headSpec wsX9_rain ({ frames := 1, cells := 0, slots := 0, locals := 23 } : Room)).room Gs Gm ([.ref mo] : List Value).toArray Gw Gt Gc H locs 0 0 (MQ Gw (va_Qv (fun u : Unit => True) (fun (u : Unit) t => va_P D vwCl (wM mo ma mb mc md me mf mg mh mi mj mk ml mn cI cZ n q c w z ev num plc sig pad (rainF z row) dig far cfr cby que has img kep) t.heap ∧ va_K D vwCl [(cI, .int), (cJ, .long), (cZ, .boolean)] t ∧ va_D A (wM mo ma mb mc md me mf mg mh mi mj mk ml mn cI cZ n q c w z ev num plc sig pad (rainF z row) dig far cfr cby que has img kep)) A) ([.ref mo] : List Value).toArray Gs 0 0 A) (F0 Gm 2 ls []) := by
    intro fu
    induction fu with
    | zero => intro i hi hfu; exact absurd hfu (Nat.not_lt_zero _)
    | succ fu ih2 =>
      intro i hi hfu H locs hP hD hS ls hl
      refine lv_iload_n gx gb dX9_rain_2 rfl (lv_at hl 0 rfl) ?_
      refine lv_aload_n gx gb dX9_rain_3 rfl (lv_at hl 1 rfl) ?_
      refine va_get (D := D) (ci := 4) (v := .int (nI z)) (C := RX9) (T := TX9) (N := 19) gx gb gts i9 gown hK hP 0 rfl rfl 9 (by decide) (gts (.fieldLink RX9 81 "SwanSumsModel" "size" "I") (by decide +kernel)) (fun _ h9 => h9) rfl dX9_rain_4 ?_
      refine lv_iconst (v := nI 2) gx gb dX9_rain_7 (by decide) ?_
      refine lv_idiv gx gb dX9_rain_8 (nI_ne0 (by omega) (by omega)) ?_
      refine lv_evi (nI (z / 2)) (e_div (by omega) (by omega) (by omega)) ?_
      refine lv_icmp_ge (tgt := 31) gx gb dX9_rain_9 (by decide) (fun c9 => ?_) (fun c9 => ?_)
      · skip
        rw [nI_leI (by omega) (by omega)] at c9
        have e_row : rnF i z row = rainF z row := by exact rnF_e row (by omega) (by omega)
        rw [e_row] at hP hD
        exact W.vret gx gb gr (fun t ht hW => ⟨⟨(), rfl, (by first | (dsimp only; done) | ((try dsimp only); trivial)), by rw [ht]; exact hP, va_K.moved hW.alike hK, hD⟩, hS.F ht⟩) hS.2.2 dX9_rain_31
      · skip
        rw [nI_leI (by omega) (by omega)] at c9
        refine lv_aload_n gx gb dX9_rain_12 rfl (lv_at hl 1 rfl) ?_
        refine lv_iload_n gx gb dX9_rain_13 rfl (lv_at hl 0 rfl) ?_
        refine lv_aload_n gx gb dX9_rain_14 rfl (lv_at hl 1 rfl) ?_
        refine va_get (D := D) (ci := 4) (v := .int (nI z)) (C := RX9) (T := TX9) (N := 19) gx gb gts i9 gown hK hP 0 rfl rfl 9 (by decide) (gts (.fieldLink RX9 81 "SwanSumsModel" "size" "I") (by decide +kernel)) (fun _ h9 => h9) rfl dX9_rain_15 ?_
        refine lv_iconst (v := nI 1) gx gb dX9_rain_18 (by decide) ?_
        refine lv_isub gx gb dX9_rain_19 ?_
        refine lv_evi (nI (z - 1)) (e_sub (by omega)) ?_
        refine lv_iload_n gx gb dX9_rain_20 rfl (lv_at hl 0 rfl) ?_
        refine lv_isub gx gb dX9_rain_21 ?_
        refine lv_evi (nI ((z - 1) - i)) (e_sub (by omega)) ?_
        have hPc := hP.sub (ws' := wM mo ma mb mc md me mf mg mh mi mj mk ml mn cI cZ n q c w z ev num plc sig pad (rnF i z row) dig far cfr cby que has img kep) [0, 1, 2, 3, 4, 5, 6, 7, 8, 9, 10, 11, 12, 13] rfl
        have hDc := hD.sub (ws' := wM mo ma mb mc md me mf mg mh mi mj mk ml mn cI cZ n q c w z ev num plc sig pad (rnF i z row) dig far cfr cby que has img kep) [0, 1, 2, 3, 4, 5, 6, 7, 8, 9, 10, 11, 12, 13] (by decide) rfl
        have hFc := va_free (wc := wM mo ma mb mc md me mf mg mh mi mj mk ml mn cI cZ n q c w z ev num plc sig pad (rnF i z row) dig far cfr cby que has img kep) hD hS hA [0, 1, 2, 3, 4, 5, 6, 7, 8, 9, 10, 11, 12, 13] rfl
        refine va_callv (va_runV (As := [.int (nI i), .int (nI ((z - 1) - i))]) (rest := []) ⟨gx, gb, gml, gown, gts⟩ (kX9_change Gl D cI cJ cZ mo ma mb mc md me mf mg mh mi mj mk ml mn n q c w z ev num plc sig pad (rnF i z row) dig far cfr cby que has img kep _ i ((z - 1) - i) (by omega) (by omega)) (cwV 2 gts gX9_rain_X9_change rfl rfl rfl (by decide +kernel) ⟨Nat.le_of_ble_eq_true rfl, Nat.le_of_ble_eq_true rfl⟩) ⟨fun a U g mk q => by obtain ⟨q0, q1, qP, qK, qD⟩ := q; exact ⟨q0, q1, qP, va_K.moved (u := U) (U := U.calling g mk a) (Vm.Alike.refl U.vm) qK, qD⟩, va_recv hK hPc (ci := 4) (q0 := 0) rfl rfl, fun U hU hW => ⟨rfl, by rw [hU], by rw [hU]; exact hPc, va_K.moved hW.alike hK, hDc.weaken (fun _ _ _ _ => trivial)⟩⟩ rfl rfl hl.1 rfl (lv_room (Nat.le_of_ble_eq_true rfl)) dX9_rain_22 ⟨Nat.le_of_ble_eq_true rfl, Nat.le_of_ble_eq_true rfl⟩) hS (fun q _ h => hFc q h) hFc (fun u t H1 locs ht hvm hw hB hz1 hk1 hS => ?_)
        obtain ⟨hP1, hK1, hD1⟩ := hB
        rw [ht] at hP1
        try dsimp only at hw
        try dsimp only at hP1
        try dsimp only at hD1
        have hK := va_K.moved hvm.symm hK1
        obtain ⟨hP, hD⟩ := va_join (wr := []) (w1 := wM mo ma mb mc md me mf mg mh mi mj mk ml mn cI cZ n q c w z ev num plc sig pad (swp i ((z - 1) - i) (rnF i z row)) dig far cfr cby que has img kep) hP hD [0, 1, 2, 3, 4, 5, 6, 7, 8, 9, 10, 11, 12, 13] [] rfl rfl (by decide) (by decide) hk1 hFc hP1 hD1
        have hP := hP.sub (ws' := wM mo ma mb mc md me mf mg mh mi mj mk ml mn cI cZ n q c w z ev num plc sig pad (swp i ((z - 1) - i) (rnF i z row)) dig far cfr cby que has img kep) [0, 1, 2, 3, 4, 5, 6, 7, 8, 9, 10, 11, 12, 13] rfl
        have hD := hD.sub (ws' := wM mo ma mb mc md me mf mg mh mi mj mk ml mn cI cZ n q c w z ev num plc sig pad (swp i ((z - 1) - i) (rnF i z row)) dig far cfr cby que has img kep) [0, 1, 2, 3, 4, 5, 6, 7, 8, 9, 10, 11, 12, 13] (by decide) rfl
        have hK := va_K.moved (Vm.Alike.refl Gs.vm) hK
        generalize H1 = H at hP hS ⊢
        refine lv_iinc (v := nI (i + 1)) (lv' := [(1, .int (nI (i + 1))), (0, .ref mo)]) gx gb dX9_rain_25 hl (k := 0) rfl (nI_add i 1) (by decide) rfl (fun ls hl => ?_)
        refine lv_goto (tgt := 2) gx gb dX9_rain_28 (by decide) ?_
        rw [rnF_s row (by omega)] at hP hD
        exact ih2 (i + 1) (by omega) (by omega) _ _ hP hD hS ls (lv_sub hl [0, 1] rfl)
  rw [← rnF_0 z row] at hP hD
  exact L2 _ 0 (by omega) (Nat.lt_succ_self _) _ _ hP hD hS ls (lv_sub hl [0, 1] rfl)

set_option maxHeartbeats 4000000 in
set_option maxRecDepth 100000 in
theorem kX9_valueAt (Gl : Launch) (D : va_G) (cI cJ cZ : ClassId) (mo : Nat) (ma : Nat) (mb : Nat) (mc : Nat) (md : Nat) (me : Nat) (mf : Nat) (mg : Nat) (mh : Nat) (mi : Nat) (mj : Nat) (mk : Nat) (ml : Nat) (mn : Nat) (n : Nat) (q : Nat) (c : Nat) (w : Nat) (z : Nat) (ev : Nat) (num : Nat → Nat) (plc : Nat → Nat) (sig : Nat → Nat) (pad : Nat → Nat) (row : Nat → Nat) (dig : Nat → Nat) (far : Nat → Int32) (cfr : Nat → Nat) (cby : Nat → Nat) (que : Nat → Nat) (has : Nat → Nat) (img : Nat → Nat) (kep : Nat → Nat) (p : Nat) (hp : p ≤ 7) (hrp : row p ≤ 6) : Met Gl yX9_valueAt wsX9_valueAt ({ frames := 0, cells := 0, slots := 0, locals := 0 } : Room) (va_Pc [.ref mo, .int (nI p)] (fun U => va_P D vwCl (wM mo ma mb mc md me mf mg mh mi mj mk ml mn cI cZ n q c w z ev num plc sig pad row dig far cfr cby que has img kep) U.heap ∧ va_K D vwCl [(cI, .int), (cJ, .long), (cZ, .boolean)] U)) (vp_Si (fun r : Int32 => r = nI (num (row p)))) 0 0 (fun _ => False) := by
  refine Met.ofW (cc := cX9_valueAt) (maxL := 2) (ret := (some .int)) (by decide +kernel) rfl ?_
  intro Gp Ge Gs Gm Ga Gw Gt Gc G1 Bd gml gv
  obtain ⟨rfl, hP, hK⟩ := gv
  have gx := Bd.exec
  have gb := Bd.bytes
  have gr := Bd.returns
  have gts := atoms_spec (ws := wsX9_valueAt) Bd.pre
  have gown : Gs.vm.findClass RX9 = some Gm.cls := findClass_of_methodNamed Bd.named
  have glk := Bd.notSynchronized
  have hl := lv_entry ([.ref mo, .int (nI p)]) (n := 2) (Nat.le_of_ble_eq_true rfl)
  rw [lg_entry_eq]
  generalize (lg_sl ([.ref mo, .int (nI p)]) ++ List.replicate (2 - (lg_sl ([.ref mo, .int (nI p)])).length) Slot.unset).toArray = ls at hl ⊢
  have hl : lv_has ls 2 [(0, .ref mo), (1, .int (nI p))] := hl
  have i9 : ∀ w ∈ wsX90, w ∈ wsX9_valueAt := by decide +kernel
  refine lv_aload_n gx gb dX9_valueAt_0 rfl (lv_at hl 0 rfl) ?_
  refine va_get (D := D) (ci := 4) (v := .ref ma) (C := RX9) (T := TX9) (N := 19) gx gb gts i9 gown hK hP 0 rfl rfl 2 (by decide) (gts (.fieldLink RX9 16 "SwanSumsModel" "numbers" "[I") (by decide +kernel)) (fun _ h9 => h9) rfl dX9_valueAt_1 ?_
  refine lv_aload_n gx gb dX9_valueAt_4 rfl (lv_at hl 0 rfl) ?_
  refine va_get (D := D) (ci := 4) (v := .ref me) (C := RX9) (T := TX9) (N := 19) gx gb gts i9 gown hK hP 0 rfl rfl 8 (by decide) (gts (.fieldLink RX9 29 "SwanSumsModel" "row" "[I") (by decide +kernel)) (fun _ h9 => h9) rfl dX9_valueAt_5 ?_
  refine lv_iload_n gx gb dX9_valueAt_8 rfl (lv_at hl 1 rfl) ?_
  refine va_iald gx gb hK hP 5 0 rfl rfl (vp_in_nI (n := p) (by omega) (by decide)) dX9_valueAt_9 ?_
  refine lv_evi (nI (row p)) (aN_rd row (by omega)) ?_
  refine va_iald gx gb hK hP 1 0 rfl rfl (vp_in_nI (n := row p) (by omega) (by decide)) dX9_valueAt_10 ?_
  refine lv_evi (nI (num (row p))) (aN_rd num (by omega)) ?_
  exact W.iret (v := nI (num (row p))) gx gb gr (fun t ht hW => ⟨nI (num (row p)), rfl, (by first | (dsimp only; done) | ((try dsimp only); rfl)), ht⟩) (fun q h => by cases h) dX9_valueAt_11

set_option maxHeartbeats 4000000 in
set_option maxRecDepth 100000 in
theorem kX9_sumOf (Gl : Launch) (D : va_G) (cI cJ cZ : ClassId) (mo : Nat) (ma : Nat) (mb : Nat) (mc : Nat) (md : Nat) (me : Nat) (mf : Nat) (mg : Nat) (mh : Nat) (mi : Nat) (mj : Nat) (mk : Nat) (ml : Nat) (mn : Nat) (n : Nat) (q : Nat) (c : Nat) (w : Nat) (z : Nat) (ev : Nat) (num : Nat → Nat) (plc : Nat → Nat) (sig : Nat → Nat) (pad : Nat → Nat) (row : Nat → Nat) (dig : Nat → Nat) (far : Nat → Int32) (cfr : Nat → Nat) (cby : Nat → Nat) (que : Nat → Nat) (has : Nat → Nat) (img : Nat → Nat) (kep : Nat → Nat) (a b : Nat) (hab : a ≤ b) (hb : b ≤ 7) (hr : ∀ p, p < b → row p ≤ 6) : Met Gl yX9_sumOf wsX9_sumOf ({ frames := 1, cells := 0, slots := 0, locals := 21 } : Room) (va_Pc [.ref mo, .int (nI a), .int (nI b)] (fun U => va_P D vwCl (wM mo ma mb mc md me mf mg mh mi mj mk ml mn cI cZ n q c w z ev num plc sig pad row dig far cfr cby que has img kep) U.heap ∧ va_K D vwCl [(cI, .int), (cJ, .long), (cZ, .boolean)] U)) (vp_Si (fun r : Int32 => r = nI (sm (fun p => num (row p)) a (b - a)))) 0 0 (fun _ => False) := by
  refine Met.ofW (cc := cX9_sumOf) (maxL := 5) (ret := (some .int)) (by decide +kernel) rfl ?_
  intro Gp Ge Gs Gm Ga Gw Gt Gc G1 Bd gml gv
  obtain ⟨rfl, hP, hK⟩ := gv
  have gx := Bd.exec
  have gb := Bd.bytes
  have gr := Bd.returns
  have gts := atoms_spec (ws := wsX9_sumOf) Bd.pre
  have gown : Gs.vm.findClass RX9 = some Gm.cls := findClass_of_methodNamed Bd.named
  have glk := Bd.notSynchronized
  have hl := lv_entry ([.ref mo, .int (nI a), .int (nI b)]) (n := 5) (Nat.le_of_ble_eq_true rfl)
  rw [lg_entry_eq]
  generalize (lg_sl ([.ref mo, .int (nI a), .int (nI b)]) ++ List.replicate (5 - (lg_sl ([.ref mo, .int (nI a), .int (nI b)])).length) Slot.unset).toArray = ls at hl ⊢
  have hl : lv_has ls 5 [(0, .ref mo), (1, .int (nI a)), (2, .int (nI b))] := hl
  refine lv_iconst (v := nI 0) gx gb dX9_sumOf_0 (by decide) ?_
  refine lv_istore_n (lv' := [(3, .int (nI 0)), (0, .ref mo), (1, .int (nI a)), (2, .int (nI b))]) gx gb dX9_sumOf_1 rfl hl (by decide) rfl (fun ls hl => ?_)
  refine lv_iload_n gx gb dX9_sumOf_2 rfl (lv_at hl 2 rfl) ?_
  refine lv_istore (lv' := [(4, .int (nI a)), (3, .int (nI 0)), (0, .ref mo), (1, .int (nI a)), (2, .int (nI b))]) gx gb dX9_sumOf_3 hl (by decide) rfl (fun ls hl => ?_)
  have L5 : ∀ fu : Nat, ∀ (i : Nat) (hi : a + i ≤ b), (b - (a + i)) < fu → ∀ ls : Array Slot, lv_has ls 5 [(3, .int (nI (sm (fun p => num (row p)) a i))), (4, .int (nI (a + i))), (0, .ref mo), (1, .int (nI a)), (2, .int (nI b))] → W Gp Gl Ge (headSpec wsX9_sumOf ({ frames := 1, cells := 0, slots := 0, locals := 21 } : Room)).room Gs Gm ([.ref mo, .int (nI a), .int (nI b)] : List Value).toArray Gw Gt Gc Gs.heap [] 0 0 (MQ Gw (vp_Si (fun r : Int32 => r = nI (sm (fun p => num (row p)) a (b - a)))) ([.ref mo, .int (nI a), .int (nI b)] : List Value).toArray Gs 0 0 (fun _ => False)) (F0 Gm 5 ls []) := by
    intro fu
    induction fu with
    | zero => intro i hi hfu; exact absurd hfu (Nat.not_lt_zero _)
    | succ fu ih5 =>
      intro i hi hfu ls hl
      refine lv_iload gx gb dX9_sumOf_5 (lv_at hl 1 rfl) ?_
      refine lv_iload_n gx gb dX9_sumOf_7 rfl (lv_at hl 4 rfl) ?_
      refine lv_icmp_ge (tgt := 26) gx gb dX9_sumOf_8 (by decide) (fun c8 => ?_) (fun c8 => ?_)
      · skip
        rw [nI_leI (by omega) (by omega)] at c8
        refine lv_iload_n gx gb dX9_sumOf_26 rfl (lv_at hl 0 rfl) ?_
        exact W.iret (v := nI (sm (fun p => num (row p)) a i)) gx gb gr (fun t ht hW => ⟨nI (sm (fun p => num (row p)) a i), rfl, (by first | (dsimp only; done) | ((try dsimp only); obtain rfl : i = b - a := (by omega); rfl)), ht⟩) (fun q h => by cases h) dX9_sumOf_27
      · skip
        rw [nI_leI (by omega) (by omega)] at c8
        refine lv_iload_n gx gb dX9_sumOf_11 rfl (lv_at hl 0 rfl) ?_
        refine lv_aload_n gx gb dX9_sumOf_12 rfl (lv_at hl 2 rfl) ?_
        refine lv_iload gx gb dX9_sumOf_13 (lv_at hl 1 rfl) ?_
        have hri := hr (a + i) (by omega)
        have hPc := hP.sub (ws' := wM mo ma mb mc md me mf mg mh mi mj mk ml mn cI cZ n q c w z ev num plc sig pad row dig far cfr cby que has img kep) [0, 1, 2, 3, 4, 5, 6, 7, 8, 9, 10, 11, 12, 13] rfl
        refine vp_callSi (W.runV (As := [.int (nI (a + i))]) (rest := [.int (nI (sm (fun p => num (row p)) a i))]) ⟨gx, gb, gml, gown, gts⟩ (kX9_valueAt Gl D cI cJ cZ mo ma mb mc md me mf mg mh mi mj mk ml mn n q c w z ev num plc sig pad row dig far cfr cby que has img kep (a + i) (by omega) (by omega)) (cwV 1 gts gX9_sumOf_X9_valueAt rfl rfl rfl (by decide +kernel) ⟨Nat.le_of_ble_eq_true rfl, Nat.le_of_ble_eq_true rfl⟩) ⟨fun a U g mk q => ⟨q.1, q.2.1, va_K.moved (u := U) (U := U.calling g mk a) (Vm.Alike.refl U.vm) q.2.2⟩, va_recv hK hPc (ci := 4) (q0 := 0) rfl rfl, fun U hU hW => ⟨rfl, by rw [hU]; exact hPc, va_K.moved hW.alike hK⟩⟩ rfl rfl hl.1 rfl (lv_room (Nat.le_of_ble_eq_true rfl)) dX9_sumOf_15 ⟨Nat.le_of_ble_eq_true rfl, Nat.le_of_ble_eq_true rfl⟩) (fun r hw => ?_)
        have hr15 := hw
        subst hr15
        refine lv_iadd gx gb dX9_sumOf_18 ?_
        refine lv_evi (nI ((sm (fun p => num (row p)) a i) + (num (row (a + i))))) (nI_add (sm (fun p => num (row p)) a i) (num (row (a + i)))) ?_
        refine lv_istore_n (lv' := [(3, .int (nI ((sm (fun p => num (row p)) a i) + (num (row (a + i)))))), (4, .int (nI (a + i))), (0, .ref mo), (1, .int (nI a)), (2, .int (nI b))]) gx gb dX9_sumOf_19 rfl hl (by decide) rfl (fun ls hl => ?_)
        refine lv_iinc (v := nI (a + i + 1)) (lv' := [(4, .int (nI (a + i + 1))), (3, .int (nI ((sm (fun p => num (row p)) a i) + (num (row (a + i)))))), (0, .ref mo), (1, .int (nI a)), (2, .int (nI b))]) gx gb dX9_sumOf_20 hl (k := 1) rfl (nI_add (a + i) 1) (by decide) rfl (fun ls hl => ?_)
        refine lv_goto (tgt := 5) gx gb dX9_sumOf_23 (by decide) ?_
        exact ih5 (i + 1) (by omega) (by omega) ls (lv_sub hl [1, 0, 2, 3, 4] rfl)
  exact L5 _ 0 (by omega) (Nat.lt_succ_self _) ls (lv_sub hl [1, 0, 2, 3, 4] rfl)

set_option maxHeartbeats 4000000 in
set_option maxRecDepth 100000 in
theorem kX9_isTaught (Gl : Launch) (D : va_G) (cI cJ cZ : ClassId) (mo : Nat) (ma : Nat) (mb : Nat) (mc : Nat) (md : Nat) (me : Nat) (mf : Nat) (mg : Nat) (mh : Nat) (mi : Nat) (mj : Nat) (mk : Nat) (ml : Nat) (mn : Nat) (n : Nat) (q : Nat) (c : Nat) (w : Nat) (z : Nat) (ev : Nat) (num : Nat → Nat) (plc : Nat → Nat) (sig : Nat → Nat) (pad : Nat → Nat) (row : Nat → Nat) (dig : Nat → Nat) (far : Nat → Int32) (cfr : Nat → Nat) (cby : Nat → Nat) (que : Nat → Nat) (has : Nat → Nat) (img : Nat → Nat) (kep : Nat → Nat) (k : Nat) (hk : k ≤ 6) (hz1 : 1 ≤ z) (hz : z ≤ 7) (hr : ∀ p, p < z → row p ≤ 6) (hv : ∀ p, p < z → num (row p) ≤ 99) : Met Gl yX9_isTaught wsX9_isTaught ({ frames := 2, cells := 0, slots := 0, locals := 45 } : Room) (va_Pc [.ref mo, .int (nI k)] (fun U => va_P D vwCl (wM mo ma mb mc md me mf mg mh mi mj mk ml mn cI cZ n q c w z ev num plc sig pad row dig far cfr cby que has img kep) U.heap ∧ va_K D vwCl [(cI, .int), (cJ, .long), (cZ, .boolean)] U)) (vp_Si (fun r : Int32 => r = bI (tau k (fun p => num (row p)) z))) 0 0 (fun _ => False) := by
  refine Met.ofW (cc := cX9_isTaught) (maxL := 7) (ret := (some .boolean)) (by decide +kernel) rfl ?_
  intro Gp Ge Gs Gm Ga Gw Gt Gc G1 Bd gml gv
  obtain ⟨rfl, hP, hK⟩ := gv
  have gx := Bd.exec
  have gb := Bd.bytes
  have gr := Bd.returns
  have gts := atoms_spec (ws := wsX9_isTaught) Bd.pre
  have gown : Gs.vm.findClass RX9 = some Gm.cls := findClass_of_methodNamed Bd.named
  have glk := Bd.notSynchronized
  have hl := lv_entry ([.ref mo, .int (nI k)]) (n := 7) (Nat.le_of_ble_eq_true rfl)
  rw [lg_entry_eq]
  generalize (lg_sl ([.ref mo, .int (nI k)]) ++ List.replicate (7 - (lg_sl ([.ref mo, .int (nI k)])).length) Slot.unset).toArray = ls at hl ⊢
  have hl : lv_has ls 7 [(0, .ref mo), (1, .int (nI k))] := hl
  have i9 : ∀ w ∈ wsX90, w ∈ wsX9_isTaught := by decide +kernel
  refine lv_iload_n gx gb dX9_isTaught_0 rfl (lv_at hl 1 rfl) ?_
  refine lv_iconst (v := nI 2) gx gb dX9_isTaught_1 (by decide) ?_
  refine lv_icmp_ne (tgt := 14) gx gb dX9_isTaught_2 (by decide) (fun c2 => ?_) (fun c2 => ?_)
  · skip
    rw [nI_eq (by omega) (by omega)] at c2
    refine lv_iload_n gx gb dX9_isTaught_14 rfl (lv_at hl 1 rfl) ?_
    refine lv_iconst (v := nI 3) gx gb dX9_isTaught_15 (by decide) ?_
    refine lv_icmp_ne (tgt := 44) gx gb dX9_isTaught_16 (by decide) (fun c16 => ?_) (fun c16 => ?_)
    · skip
      rw [nI_eq (by omega) (by omega)] at c16
      refine lv_iload_n gx gb dX9_isTaught_44 rfl (lv_at hl 1 rfl) ?_
      refine lv_bipush (v := nI 6) gx gb dX9_isTaught_45 (by decide) ?_
      refine lv_icmp_ne (tgt := 84) gx gb dX9_isTaught_47 (by decide) (fun c47 => ?_) (fun c47 => ?_)
      · skip
        rw [nI_eq (by omega) (by omega)] at c47
        refine lv_iconst (v := nI 1) gx gb dX9_isTaught_84 (by decide) ?_
        refine lv_istore_n (lv' := [(2, .int (nI 1)), (0, .ref mo), (1, .int (nI k))]) gx gb dX9_isTaught_85 rfl hl (by decide) rfl (fun ls hl => ?_)
        refine lv_iconst (v := nI 1) gx gb dX9_isTaught_86 (by decide) ?_
        refine lv_istore_n (lv' := [(3, .int (nI 1)), (2, .int (nI 1)), (0, .ref mo), (1, .int (nI k))]) gx gb dX9_isTaught_87 rfl hl (by decide) rfl (fun ls hl => ?_)
        have L88 : ∀ fu : Nat, ∀ (b : Bool) (i : Nat) (hi : i + 1 ≤ z) (hb : b = true ↔ ∀ x, x < i → lesR k (num (row x)) (num (row (x + 1))) = true), (z - i) < fu → ∀ ls : Array Slot, lv_has ls 7 [(2, .int (bI b)), (3, .int (nI (i + 1))), (0, .ref mo), (1, .int (nI k))] → W Gp Gl Ge (headSpec wsX9_isTaught ({ frames := 2, cells := 0, slots := 0, locals := 45 } : Room)).room Gs Gm ([.ref mo, .int (nI k)] : List Value).toArray Gw Gt Gc Gs.heap [] 0 0 (MQ Gw (vp_Si (fun r : Int32 => r = bI (tau k (fun p => num (row p)) z))) ([.ref mo, .int (nI k)] : List Value).toArray Gs 0 0 (fun _ => False)) (F0 Gm 88 ls []) := by
          intro fu
          induction fu with
          | zero => intro b i hi hb hfu; exact absurd hfu (Nat.not_lt_zero _)
          | succ fu ih88 =>
            intro b i hi hb hfu ls hl
            refine lv_iload_n gx gb dX9_isTaught_88 rfl (lv_at hl 1 rfl) ?_
            refine lv_aload_n gx gb dX9_isTaught_89 rfl (lv_at hl 2 rfl) ?_
            refine va_get (D := D) (ci := 4) (v := .int (nI z)) (C := RX9) (T := TX9) (N := 19) gx gb gts i9 gown hK hP 0 rfl rfl 9 (by decide) (gts (.fieldLink RX9 81 "SwanSumsModel" "size" "I") (by decide +kernel)) (fun _ h9 => h9) rfl dX9_isTaught_90 ?_
            refine lv_icmp_ge (tgt := 227) gx gb dX9_isTaught_93 (by decide) (fun c93 => ?_) (fun c93 => ?_)
            · skip
              rw [nI_leI (by omega) (by omega)] at c93
              refine lv_iload_n gx gb dX9_isTaught_227 rfl (lv_at hl 0 rfl) ?_
              exact W.zret (v := bI b) gx gb gr (bI_nar _) (fun t ht hW => ⟨bI b, rfl, (by first | (dsimp only; done) | ((try dsimp only); exact congrArg bI (by rw [tau_les (by omega)]; exact (Bool.eq_iff_iff.mpr (hb.trans ⟨fun h => decide_eq_true (fun x hx => h x (by omega)), fun h x hx => of_decide_eq_true h x (by omega)⟩))))), ht⟩) (fun q h => by cases h) dX9_isTaught_228
            · skip
              rw [nI_leI (by omega) (by omega)] at c93
              have hv1 := hv i (by omega)
              have hv2 := hv (i + 1) (by omega)
              have hr1 := hr i (by omega)
              have hr2 := hr (i + 1) (by omega)
              refine lv_aload_n gx gb dX9_isTaught_96 rfl (lv_at hl 2 rfl) ?_
              refine lv_iload_n gx gb dX9_isTaught_97 rfl (lv_at hl 1 rfl) ?_
              refine lv_iconst (v := nI 1) gx gb dX9_isTaught_98 (by decide) ?_
              refine lv_isub gx gb dX9_isTaught_99 ?_
              refine lv_evi (nI ((i + 1) - 1)) (e_sub (by omega)) ?_
              refine lv_evi (nI i) (congrArg nI (by omega)) ?_
              have hPc := hP.sub (ws' := wM mo ma mb mc md me mf mg mh mi mj mk ml mn cI cZ n q c w z ev num plc sig pad row dig far cfr cby que has img kep) [0, 1, 2, 3, 4, 5, 6, 7, 8, 9, 10, 11, 12, 13] rfl
              refine vp_callSi (W.runV (As := [.int (nI i)]) (rest := []) ⟨gx, gb, gml, gown, gts⟩ (kX9_valueAt Gl D cI cJ cZ mo ma mb mc md me mf mg mh mi mj mk ml mn n q c w z ev num plc sig pad row dig far cfr cby que has img kep i (by omega) (by omega)) (cwV 1 gts gX9_isTaught_X9_valueAt rfl rfl rfl (by decide +kernel) ⟨Nat.le_of_ble_eq_true rfl, Nat.le_of_ble_eq_true rfl⟩) ⟨fun a U g mk q => ⟨q.1, q.2.1, va_K.moved (u := U) (U := U.calling g mk a) (Vm.Alike.refl U.vm) q.2.2⟩, va_recv hK hPc (ci := 4) (q0 := 0) rfl rfl, fun U hU hW => ⟨rfl, by rw [hU]; exact hPc, va_K.moved hW.alike hK⟩⟩ rfl rfl hl.1 rfl (lv_room (Nat.le_of_ble_eq_true rfl)) dX9_isTaught_100 ⟨Nat.le_of_ble_eq_true rfl, Nat.le_of_ble_eq_true rfl⟩) (fun r hw => ?_)
              have hr100 := hw
              subst hr100
              refine lv_istore (lv' := [(4, .int (nI (num (row i)))), (2, .int (bI b)), (3, .int (nI (i + 1))), (0, .ref mo), (1, .int (nI k))]) gx gb dX9_isTaught_103 hl (by decide) rfl (fun ls hl => ?_)
              refine lv_aload_n gx gb dX9_isTaught_105 rfl (lv_at hl 3 rfl) ?_
              refine lv_iload_n gx gb dX9_isTaught_106 rfl (lv_at hl 2 rfl) ?_
              have hPc := hP.sub (ws' := wM mo ma mb mc md me mf mg mh mi mj mk ml mn cI cZ n q c w z ev num plc sig pad row dig far cfr cby que has img kep) [0, 1, 2, 3, 4, 5, 6, 7, 8, 9, 10, 11, 12, 13] rfl
              refine vp_callSi (W.runV (As := [.int (nI (i + 1))]) (rest := []) ⟨gx, gb, gml, gown, gts⟩ (kX9_valueAt Gl D cI cJ cZ mo ma mb mc md me mf mg mh mi mj mk ml mn n q c w z ev num plc sig pad row dig far cfr cby que has img kep (i + 1) (by omega) (by omega)) (cwV 1 gts gX9_isTaught_X9_valueAt rfl rfl rfl (by decide +kernel) ⟨Nat.le_of_ble_eq_true rfl, Nat.le_of_ble_eq_true rfl⟩) ⟨fun a U g mk q => ⟨q.1, q.2.1, va_K.moved (u := U) (U := U.calling g mk a) (Vm.Alike.refl U.vm) q.2.2⟩, va_recv hK hPc (ci := 4) (q0 := 0) rfl rfl, fun U hU hW => ⟨rfl, by rw [hU]; exact hPc, va_K.moved hW.alike hK⟩⟩ rfl rfl hl.1 rfl (lv_room (Nat.le_of_ble_eq_true rfl)) dX9_isTaught_107 ⟨Nat.le_of_ble_eq_true rfl, Nat.le_of_ble_eq_true rfl⟩) (fun r hw => ?_)
              have hr107 := hw
              subst hr107
              refine lv_istore (lv' := [(5, .int (nI (num (row (i + 1))))), (4, .int (nI (num (row i)))), (2, .int (bI b)), (3, .int (nI (i + 1))), (0, .ref mo), (1, .int (nI k))]) gx gb dX9_isTaught_110 hl (by decide) rfl (fun ls hl => ?_)
              have L204 : ∀ (f : Bool) (hf : f = lesR k (num (row i)) (num (row (i + 1)))), ∀ ls : Array Slot, lv_has ls 7 [(5, .int (nI (num (row (i + 1))))), (4, .int (nI (num (row i)))), (2, .int (bI b)), (3, .int (nI (i + 1))), (0, .ref mo), (1, .int (nI k))] → W Gp Gl Ge (headSpec wsX9_isTaught ({ frames := 2, cells := 0, slots := 0, locals := 45 } : Room)).room Gs Gm ([.ref mo, .int (nI k)] : List Value).toArray Gw Gt Gc Gs.heap [] 0 0 (MQ Gw (vp_Si (fun r : Int32 => r = bI (tau k (fun p => num (row p)) z))) ([.ref mo, .int (nI k)] : List Value).toArray Gs 0 0 (fun _ => False)) (F0 Gm 204 ls [.int (bI f)]) := by
                intro f hf ls hl
                refine lv_istore (lv' := [(6, .int (bI f)), (5, .int (nI (num (row (i + 1))))), (4, .int (nI (num (row i)))), (2, .int (bI b)), (3, .int (nI (i + 1))), (0, .ref mo), (1, .int (nI k))]) gx gb dX9_isTaught_204 hl (by decide) rfl (fun ls hl => ?_)
                refine lv_iload_n gx gb dX9_isTaught_206 rfl (lv_at hl 3 rfl) ?_
                refine lv_if_eq (tgt := 219) gx gb dX9_isTaught_207 (by decide) (fun c207 => ?_) (fun c207 => ?_)
                · skip
                  rw [b0_eq] at c207
                  refine lv_iconst (v := nI 0) gx gb dX9_isTaught_219 (by decide) ?_
                  refine lv_istore_n (lv' := [(2, .int (nI 0)), (6, .int (bI f)), (5, .int (nI (num (row (i + 1))))), (4, .int (nI (num (row i)))), (3, .int (nI (i + 1))), (0, .ref mo), (1, .int (nI k))]) gx gb dX9_isTaught_220 rfl hl (by decide) rfl (fun ls hl => ?_)
                  refine lv_iinc (v := nI (i + 1 + 1)) (lv' := [(3, .int (nI (i + 1 + 1))), (2, .int (nI 0)), (6, .int (bI f)), (5, .int (nI (num (row (i + 1))))), (4, .int (nI (num (row i)))), (0, .ref mo), (1, .int (nI k))]) gx gb dX9_isTaught_221 hl (k := 4) rfl (nI_add (i + 1) 1) (by decide) rfl (fun ls hl => ?_)
                  refine lv_goto (tgt := 88) gx gb dX9_isTaught_224 (by decide) ?_
                  exact ih88 false (i + 1) (by omega) (by first | exact les_n hb c207 | exact les_f hb c207 (hf ▸ c212) | exact les_t hb c207 (hf ▸ c212)) (by omega) ls (lv_sub hl [1, 0, 5, 6] rfl)
                · skip
                  rw [b0_eq] at c207
                  have c207 := nf_t c207
                  refine lv_iload gx gb dX9_isTaught_210 (lv_at hl 0 rfl) ?_
                  refine lv_if_eq (tgt := 219) gx gb dX9_isTaught_212 (by decide) (fun c212 => ?_) (fun c212 => ?_)
                  · skip
                    rw [b0_eq] at c212
                    refine lv_iconst (v := nI 0) gx gb dX9_isTaught_219 (by decide) ?_
                    refine lv_istore_n (lv' := [(2, .int (nI 0)), (6, .int (bI f)), (5, .int (nI (num (row (i + 1))))), (4, .int (nI (num (row i)))), (3, .int (nI (i + 1))), (0, .ref mo), (1, .int (nI k))]) gx gb dX9_isTaught_220 rfl hl (by decide) rfl (fun ls hl => ?_)
                    refine lv_iinc (v := nI (i + 1 + 1)) (lv' := [(3, .int (nI (i + 1 + 1))), (2, .int (nI 0)), (6, .int (bI f)), (5, .int (nI (num (row (i + 1))))), (4, .int (nI (num (row i)))), (0, .ref mo), (1, .int (nI k))]) gx gb dX9_isTaught_221 hl (k := 4) rfl (nI_add (i + 1) 1) (by decide) rfl (fun ls hl => ?_)
                    refine lv_goto (tgt := 88) gx gb dX9_isTaught_224 (by decide) ?_
                    exact ih88 false (i + 1) (by omega) (by first | exact les_n hb c207 | exact les_f hb c207 (hf ▸ c212) | exact les_t hb c207 (hf ▸ c212)) (by omega) ls (lv_sub hl [1, 0, 5, 6] rfl)
                  · skip
                    rw [b0_eq] at c212
                    have c212 := nf_t c212
                    refine lv_iconst (v := nI 1) gx gb dX9_isTaught_215 (by decide) ?_
                    refine lv_goto (tgt := 220) gx gb dX9_isTaught_216 (by decide) ?_
                    refine lv_istore_n (lv' := [(2, .int (nI 1)), (6, .int (bI f)), (5, .int (nI (num (row (i + 1))))), (4, .int (nI (num (row i)))), (3, .int (nI (i + 1))), (0, .ref mo), (1, .int (nI k))]) gx gb dX9_isTaught_220 rfl hl (by decide) rfl (fun ls hl => ?_)
                    refine lv_iinc (v := nI (i + 1 + 1)) (lv' := [(3, .int (nI (i + 1 + 1))), (2, .int (nI 1)), (6, .int (bI f)), (5, .int (nI (num (row (i + 1))))), (4, .int (nI (num (row i)))), (0, .ref mo), (1, .int (nI k))]) gx gb dX9_isTaught_221 hl (k := 4) rfl (nI_add (i + 1) 1) (by decide) rfl (fun ls hl => ?_)
                    refine lv_goto (tgt := 88) gx gb dX9_isTaught_224 (by decide) ?_
                    exact ih88 true (i + 1) (by omega) (by first | exact les_n hb c207 | exact les_f hb c207 (hf ▸ c212) | exact les_t hb c207 (hf ▸ c212)) (by omega) ls (lv_sub hl [1, 0, 5, 6] rfl)
              refine lv_iload_n gx gb dX9_isTaught_112 rfl (lv_at hl 5 rfl) ?_
              refine lv_if_ne (tgt := 131) gx gb dX9_isTaught_113 (by decide) (fun c113 => ?_) (fun c113 => ?_)
              · skip
                rw [n0_eq (by omega)] at c113
                refine lv_iload_n gx gb dX9_isTaught_131 rfl (lv_at hl 5 rfl) ?_
                refine lv_iconst (v := nI 1) gx gb dX9_isTaught_132 (by decide) ?_
                refine lv_icmp_ne (tgt := 155) gx gb dX9_isTaught_133 (by decide) (fun c133 => ?_) (fun c133 => ?_)
                · skip
                  rw [nI_eq (by omega) (by omega)] at c133
                  refine lv_iload_n gx gb dX9_isTaught_155 rfl (lv_at hl 5 rfl) ?_
                  refine lv_iconst (v := nI 4) gx gb dX9_isTaught_156 (by decide) ?_
                  refine lv_icmp_ne (tgt := 179) gx gb dX9_isTaught_157 (by decide) (fun c157 => ?_) (fun c157 => ?_)
                  · skip
                    rw [nI_eq (by omega) (by omega)] at c157
                    refine lv_iload gx gb dX9_isTaught_179 (lv_at hl 1 rfl) ?_
                    refine lv_iload gx gb dX9_isTaught_181 (lv_at hl 0 rfl) ?_
                    refine vp_callSi (W.runS (As := [.int (nI (num (row i))), .int (nI (num (row (i + 1))))]) (rest := []) ⟨gx, gb, gml, gown, gts⟩ (kX9_isTimes Gl (num (row i)) (num (row (i + 1))) (by omega) (by omega)) (va_cwS 2 gts gX9_isTaught_X9_isTimes rfl rfl rfl (by decide +kernel) ⟨Nat.le_of_ble_eq_true rfl, Nat.le_of_ble_eq_true rfl⟩) ⟨fun _ _ _ _ h => h, fun U hU hW => ⟨rfl, trivial⟩⟩ rfl rfl hl.1 rfl (lv_room (Nat.le_of_ble_eq_true rfl)) dX9_isTaught_183 ⟨Nat.le_of_ble_eq_true rfl, Nat.le_of_ble_eq_true rfl⟩) (fun r hw => ?_)
                    have hr183 := hw
                    subst hr183
                    refine lv_if_ne (tgt := 199) gx gb dX9_isTaught_186 (by decide) (fun c186 => ?_) (fun c186 => ?_)
                    · skip
                      rw [b0_eq] at c186
                      have c186 := nf_t c186
                      refine lv_iconst (v := nI 1) gx gb dX9_isTaught_199 (by decide) ?_
                      refine lv_goto (tgt := 204) gx gb dX9_isTaught_200 (by decide) ?_
                      exact L204 true (by first | (rw [show k = 0 by omega]; simp [lesR]; omega) | (rw [show k = 1 by omega]; simp [lesR]; omega) | (rw [show k = 4 by omega]; simp [lesR]; omega) | (rw [show k = 5 by omega]; simp [lesR, c186]; done) | (rw [show k = 5 by omega]; simp [lesR, c186, c196]; done)) ls (lv_sub hl [0, 1, 2, 3, 4, 5] rfl)
                    · skip
                      rw [b0_eq] at c186
                      refine lv_iload gx gb dX9_isTaught_189 (lv_at hl 0 rfl) ?_
                      refine lv_iload gx gb dX9_isTaught_191 (lv_at hl 1 rfl) ?_
                      refine vp_callSi (W.runS (As := [.int (nI (num (row (i + 1)))), .int (nI (num (row i)))]) (rest := []) ⟨gx, gb, gml, gown, gts⟩ (kX9_isTimes Gl (num (row (i + 1))) (num (row i)) (by omega) (by omega)) (va_cwS 2 gts gX9_isTaught_X9_isTimes rfl rfl rfl (by decide +kernel) ⟨Nat.le_of_ble_eq_true rfl, Nat.le_of_ble_eq_true rfl⟩) ⟨fun _ _ _ _ h => h, fun U hU hW => ⟨rfl, trivial⟩⟩ rfl rfl hl.1 rfl (lv_room (Nat.le_of_ble_eq_true rfl)) dX9_isTaught_193 ⟨Nat.le_of_ble_eq_true rfl, Nat.le_of_ble_eq_true rfl⟩) (fun r hw => ?_)
                      have hr193 := hw
                      subst hr193
                      refine lv_if_eq (tgt := 203) gx gb dX9_isTaught_196 (by decide) (fun c196 => ?_) (fun c196 => ?_)
                      · skip
                        rw [b0_eq] at c196
                        refine lv_iconst (v := nI 0) gx gb dX9_isTaught_203 (by decide) ?_
                        exact L204 false (by first | (rw [show k = 0 by omega]; simp [lesR]; omega) | (rw [show k = 1 by omega]; simp [lesR]; omega) | (rw [show k = 4 by omega]; simp [lesR]; omega) | (rw [show k = 5 by omega]; simp [lesR, c186]; done) | (rw [show k = 5 by omega]; simp [lesR, c186, c196]; done)) ls (lv_sub hl [0, 1, 2, 3, 4, 5] rfl)
                      · skip
                        rw [b0_eq] at c196
                        have c196 := nf_t c196
                        refine lv_iconst (v := nI 1) gx gb dX9_isTaught_199 (by decide) ?_
                        refine lv_goto (tgt := 204) gx gb dX9_isTaught_200 (by decide) ?_
                        exact L204 true (by first | (rw [show k = 0 by omega]; simp [lesR]; omega) | (rw [show k = 1 by omega]; simp [lesR]; omega) | (rw [show k = 4 by omega]; simp [lesR]; omega) | (rw [show k = 5 by omega]; simp [lesR, c186]; done) | (rw [show k = 5 by omega]; simp [lesR, c186, c196]; done)) ls (lv_sub hl [0, 1, 2, 3, 4, 5] rfl)
                  · skip
                    rw [nI_eq (by omega) (by omega)] at c157
                    refine lv_iload gx gb dX9_isTaught_160 (lv_at hl 1 rfl) ?_
                    refine lv_iconst (v := nI 2) gx gb dX9_isTaught_162 (by decide) ?_
                    refine lv_irem gx gb dX9_isTaught_163 (nI_ne0 (by omega) (by omega)) ?_
                    refine lv_evi (nI ((num (row i)) % 2)) (e_rem (by omega) (by omega) (by omega)) ?_
                    refine lv_iload gx gb dX9_isTaught_164 (lv_at hl 0 rfl) ?_
                    refine lv_iconst (v := nI 2) gx gb dX9_isTaught_166 (by decide) ?_
                    refine lv_irem gx gb dX9_isTaught_167 (nI_ne0 (by omega) (by omega)) ?_
                    refine lv_evi (nI ((num (row (i + 1))) % 2)) (e_rem (by omega) (by omega) (by omega)) ?_
                    refine lv_icmp_eq (tgt := 175) gx gb dX9_isTaught_168 (by decide) (fun c168 => ?_) (fun c168 => ?_)
                    · skip
                      rw [nI_eq (by omega) (by omega)] at c168
                      refine lv_iconst (v := nI 0) gx gb dX9_isTaught_175 (by decide) ?_
                      refine lv_goto (tgt := 204) gx gb dX9_isTaught_176 (by decide) ?_
                      exact L204 false (by first | (rw [show k = 0 by omega]; simp [lesR]; omega) | (rw [show k = 1 by omega]; simp [lesR]; omega) | (rw [show k = 4 by omega]; simp [lesR]; omega) | (rw [show k = 5 by omega]; simp [lesR, c186]; done) | (rw [show k = 5 by omega]; simp [lesR, c186, c196]; done)) ls (lv_sub hl [0, 1, 2, 3, 4, 5] rfl)
                    · skip
                      rw [nI_eq (by omega) (by omega)] at c168
                      refine lv_iconst (v := nI 1) gx gb dX9_isTaught_171 (by decide) ?_
                      refine lv_goto (tgt := 204) gx gb dX9_isTaught_172 (by decide) ?_
                      exact L204 true (by first | (rw [show k = 0 by omega]; simp [lesR]; omega) | (rw [show k = 1 by omega]; simp [lesR]; omega) | (rw [show k = 4 by omega]; simp [lesR]; omega) | (rw [show k = 5 by omega]; simp [lesR, c186]; done) | (rw [show k = 5 by omega]; simp [lesR, c186, c196]; done)) ls (lv_sub hl [0, 1, 2, 3, 4, 5] rfl)
                · skip
                  rw [nI_eq (by omega) (by omega)] at c133
                  refine lv_iload gx gb dX9_isTaught_136 (lv_at hl 1 rfl) ?_
                  refine lv_iconst (v := nI 2) gx gb dX9_isTaught_138 (by decide) ?_
                  refine lv_irem gx gb dX9_isTaught_139 (nI_ne0 (by omega) (by omega)) ?_
                  refine lv_evi (nI ((num (row i)) % 2)) (e_rem (by omega) (by omega) (by omega)) ?_
                  refine lv_iload gx gb dX9_isTaught_140 (lv_at hl 0 rfl) ?_
                  refine lv_iconst (v := nI 2) gx gb dX9_isTaught_142 (by decide) ?_
                  refine lv_irem gx gb dX9_isTaught_143 (nI_ne0 (by omega) (by omega)) ?_
                  refine lv_evi (nI ((num (row (i + 1))) % 2)) (e_rem (by omega) (by omega) (by omega)) ?_
                  refine lv_icmp_gt (tgt := 151) gx gb dX9_isTaught_144 (by decide) (fun c144 => ?_) (fun c144 => ?_)
                  · skip
                    rw [nI_ltI (by omega) (by omega)] at c144
                    refine lv_iconst (v := nI 0) gx gb dX9_isTaught_151 (by decide) ?_
                    refine lv_goto (tgt := 204) gx gb dX9_isTaught_152 (by decide) ?_
                    exact L204 false (by first | (rw [show k = 0 by omega]; simp [lesR]; omega) | (rw [show k = 1 by omega]; simp [lesR]; omega) | (rw [show k = 4 by omega]; simp [lesR]; omega) | (rw [show k = 5 by omega]; simp [lesR, c186]; done) | (rw [show k = 5 by omega]; simp [lesR, c186, c196]; done)) ls (lv_sub hl [0, 1, 2, 3, 4, 5] rfl)
                  · skip
                    rw [nI_ltI (by omega) (by omega)] at c144
                    refine lv_iconst (v := nI 1) gx gb dX9_isTaught_147 (by decide) ?_
                    refine lv_goto (tgt := 204) gx gb dX9_isTaught_148 (by decide) ?_
                    exact L204 true (by first | (rw [show k = 0 by omega]; simp [lesR]; omega) | (rw [show k = 1 by omega]; simp [lesR]; omega) | (rw [show k = 4 by omega]; simp [lesR]; omega) | (rw [show k = 5 by omega]; simp [lesR, c186]; done) | (rw [show k = 5 by omega]; simp [lesR, c186, c196]; done)) ls (lv_sub hl [0, 1, 2, 3, 4, 5] rfl)
              · skip
                rw [n0_eq (by omega)] at c113
                refine lv_iload gx gb dX9_isTaught_116 (lv_at hl 1 rfl) ?_
                refine lv_iload gx gb dX9_isTaught_118 (lv_at hl 0 rfl) ?_
                refine lv_icmp_ge (tgt := 127) gx gb dX9_isTaught_120 (by decide) (fun c120 => ?_) (fun c120 => ?_)
                · skip
                  rw [nI_leI (by omega) (by omega)] at c120
                  refine lv_iconst (v := nI 0) gx gb dX9_isTaught_127 (by decide) ?_
                  refine lv_goto (tgt := 204) gx gb dX9_isTaught_128 (by decide) ?_
                  exact L204 false (by first | (rw [show k = 0 by omega]; simp [lesR]; omega) | (rw [show k = 1 by omega]; simp [lesR]; omega) | (rw [show k = 4 by omega]; simp [lesR]; omega) | (rw [show k = 5 by omega]; simp [lesR, c186]; done) | (rw [show k = 5 by omega]; simp [lesR, c186, c196]; done)) ls (lv_sub hl [0, 1, 2, 3, 4, 5] rfl)
                · skip
                  rw [nI_leI (by omega) (by omega)] at c120
                  refine lv_iconst (v := nI 1) gx gb dX9_isTaught_123 (by decide) ?_
                  refine lv_goto (tgt := 204) gx gb dX9_isTaught_124 (by decide) ?_
                  exact L204 true (by first | (rw [show k = 0 by omega]; simp [lesR]; omega) | (rw [show k = 1 by omega]; simp [lesR]; omega) | (rw [show k = 4 by omega]; simp [lesR]; omega) | (rw [show k = 5 by omega]; simp [lesR, c186]; done) | (rw [show k = 5 by omega]; simp [lesR, c186, c196]; done)) ls (lv_sub hl [0, 1, 2, 3, 4, 5] rfl)
        exact L88 _ true 0 (by omega) (by exact ⟨fun _ x hx => absurd hx (Nat.not_lt_zero _), fun _ => rfl⟩) (Nat.lt_succ_self _) ls (lv_sub hl [1, 0, 2, 3] rfl)
      · skip
        rw [nI_eq (by omega) (by omega)] at c47
        refine lv_aload_n gx gb dX9_isTaught_50 rfl (lv_at hl 0 rfl) ?_
        refine lv_iconst (v := nI 0) gx gb dX9_isTaught_51 (by decide) ?_
        refine lv_aload_n gx gb dX9_isTaught_52 rfl (lv_at hl 0 rfl) ?_
        refine va_get (D := D) (ci := 4) (v := .int (nI z)) (C := RX9) (T := TX9) (N := 19) gx gb gts i9 gown hK hP 0 rfl rfl 9 (by decide) (gts (.fieldLink RX9 81 "SwanSumsModel" "size" "I") (by decide +kernel)) (fun _ h9 => h9) rfl dX9_isTaught_53 ?_
        refine lv_iconst (v := nI 2) gx gb dX9_isTaught_56 (by decide) ?_
        refine lv_idiv gx gb dX9_isTaught_57 (nI_ne0 (by omega) (by omega)) ?_
        refine lv_evi (nI (z / 2)) (e_div (by omega) (by omega) (by omega)) ?_
        have hPc := hP.sub (ws' := wM mo ma mb mc md me mf mg mh mi mj mk ml mn cI cZ n q c w z ev num plc sig pad row dig far cfr cby que has img kep) [0, 1, 2, 3, 4, 5, 6, 7, 8, 9, 10, 11, 12, 13] rfl
        refine vp_callSi (W.runV (As := [.int (nI 0), .int (nI (z / 2))]) (rest := []) ⟨gx, gb, gml, gown, gts⟩ (kX9_sumOf Gl D cI cJ cZ mo ma mb mc md me mf mg mh mi mj mk ml mn n q c w z ev num plc sig pad row dig far cfr cby que has img kep 0 (z / 2) (by omega) (by omega) (by intro p hp; exact hr p (by omega))) (cwV 2 gts gX9_isTaught_X9_sumOf rfl rfl rfl (by decide +kernel) ⟨Nat.le_of_ble_eq_true rfl, Nat.le_of_ble_eq_true rfl⟩) ⟨fun a U g mk q => ⟨q.1, q.2.1, va_K.moved (u := U) (U := U.calling g mk a) (Vm.Alike.refl U.vm) q.2.2⟩, va_recv hK hPc (ci := 4) (q0 := 0) rfl rfl, fun U hU hW => ⟨rfl, by rw [hU]; exact hPc, va_K.moved hW.alike hK⟩⟩ rfl rfl hl.1 rfl (lv_room (Nat.le_of_ble_eq_true rfl)) dX9_isTaught_58 ⟨Nat.le_of_ble_eq_true rfl, Nat.le_of_ble_eq_true rfl⟩) (fun r hw => ?_)
        have hr58 := hw
        subst hr58
        refine lv_aload_n gx gb dX9_isTaught_61 rfl (lv_at hl 0 rfl) ?_
        refine lv_aload_n gx gb dX9_isTaught_62 rfl (lv_at hl 0 rfl) ?_
        refine va_get (D := D) (ci := 4) (v := .int (nI z)) (C := RX9) (T := TX9) (N := 19) gx gb gts i9 gown hK hP 0 rfl rfl 9 (by decide) (gts (.fieldLink RX9 81 "SwanSumsModel" "size" "I") (by decide +kernel)) (fun _ h9 => h9) rfl dX9_isTaught_63 ?_
        refine lv_iconst (v := nI 2) gx gb dX9_isTaught_66 (by decide) ?_
        refine lv_idiv gx gb dX9_isTaught_67 (nI_ne0 (by omega) (by omega)) ?_
        refine lv_evi (nI (z / 2)) (e_div (by omega) (by omega) (by omega)) ?_
        refine lv_aload_n gx gb dX9_isTaught_68 rfl (lv_at hl 0 rfl) ?_
        refine va_get (D := D) (ci := 4) (v := .int (nI z)) (C := RX9) (T := TX9) (N := 19) gx gb gts i9 gown hK hP 0 rfl rfl 9 (by decide) (gts (.fieldLink RX9 81 "SwanSumsModel" "size" "I") (by decide +kernel)) (fun _ h9 => h9) rfl dX9_isTaught_69 ?_
        have hPc := hP.sub (ws' := wM mo ma mb mc md me mf mg mh mi mj mk ml mn cI cZ n q c w z ev num plc sig pad row dig far cfr cby que has img kep) [0, 1, 2, 3, 4, 5, 6, 7, 8, 9, 10, 11, 12, 13] rfl
        refine vp_callSi (W.runV (As := [.int (nI (z / 2)), .int (nI z)]) (rest := [.int (nI (sm (fun p => num (row p)) 0 ((z / 2) - 0)))]) ⟨gx, gb, gml, gown, gts⟩ (kX9_sumOf Gl D cI cJ cZ mo ma mb mc md me mf mg mh mi mj mk ml mn n q c w z ev num plc sig pad row dig far cfr cby que has img kep (z / 2) z (by omega) (by omega) (by intro p hp; exact hr p (by omega))) (cwV 2 gts gX9_isTaught_X9_sumOf rfl rfl rfl (by decide +kernel) ⟨Nat.le_of_ble_eq_true rfl, Nat.le_of_ble_eq_true rfl⟩) ⟨fun a U g mk q => ⟨q.1, q.2.1, va_K.moved (u := U) (U := U.calling g mk a) (Vm.Alike.refl U.vm) q.2.2⟩, va_recv hK hPc (ci := 4) (q0 := 0) rfl rfl, fun U hU hW => ⟨rfl, by rw [hU]; exact hPc, va_K.moved hW.alike hK⟩⟩ rfl rfl hl.1 rfl (lv_room (Nat.le_of_ble_eq_true rfl)) dX9_isTaught_72 ⟨Nat.le_of_ble_eq_true rfl, Nat.le_of_ble_eq_true rfl⟩) (fun r hw => ?_)
        have hr72 := hw
        subst hr72
        have hs1 := sm_le (v := fun p => num (row p)) (a := 0) (c := 99) (n := z / 2 - 0) (fun i hi => by show num (row (0 + i)) ≤ 99; exact hv _ (by omega))
        have hs2 := sm_le (v := fun p => num (row p)) (a := z / 2) (c := 99) (n := z - z / 2) (fun i hi => by show num (row (z / 2 + i)) ≤ 99; exact hv _ (by omega))
        refine lv_icmp_ne (tgt := 82) gx gb dX9_isTaught_75 (by decide) (fun c75 => ?_) (fun c75 => ?_)
        · skip
          rw [nI_eq (by omega) (by omega)] at c75
          refine lv_iconst (v := nI 0) gx gb dX9_isTaught_82 (by decide) ?_
          exact W.zret (v := nI 0) gx gb gr (by decide) (fun t ht hW => ⟨nI 0, rfl, (by first | (dsimp only; done) | ((try dsimp only); obtain rfl : k = 6 := (by omega); first | exact bI_t (decide_eq_true c75) | exact bI_f (decide_eq_false c75))), ht⟩) (fun q h => by cases h) dX9_isTaught_83
        · skip
          rw [nI_eq (by omega) (by omega)] at c75
          refine lv_iconst (v := nI 1) gx gb dX9_isTaught_78 (by decide) ?_
          refine lv_goto (tgt := 83) gx gb dX9_isTaught_79 (by decide) ?_
          exact W.zret (v := nI 1) gx gb gr (by decide) (fun t ht hW => ⟨nI 1, rfl, (by first | (dsimp only; done) | ((try dsimp only); obtain rfl : k = 6 := (by omega); first | exact bI_t (decide_eq_true c75) | exact bI_f (decide_eq_false c75))), ht⟩) (fun q h => by cases h) dX9_isTaught_83
    · skip
      rw [nI_eq (by omega) (by omega)] at c16
      have L37 : ∀ (x : Nat) (hxx : x = min 3 z), ∀ ls : Array Slot, lv_has ls 7 [(0, .ref mo), (1, .int (nI k))] → W Gp Gl Ge (headSpec wsX9_isTaught ({ frames := 2, cells := 0, slots := 0, locals := 45 } : Room)).room Gs Gm ([.ref mo, .int (nI k)] : List Value).toArray Gw Gt Gc Gs.heap [] 0 0 (MQ Gw (vp_Si (fun r : Int32 => r = bI (tau k (fun p => num (row p)) z))) ([.ref mo, .int (nI k)] : List Value).toArray Gs 0 0 (fun _ => False)) (F0 Gm 37 ls [.int (nI x), .int (nI 0), .ref mo]) := by
        intro x hxx ls hl
        subst hxx
        have hl : lv_has ls 7 [(0, .ref mo), (1, .int (nI k))] := hl
        have hPc := hP.sub (ws' := wM mo ma mb mc md me mf mg mh mi mj mk ml mn cI cZ n q c w z ev num plc sig pad row dig far cfr cby que has img kep) [0, 1, 2, 3, 4, 5, 6, 7, 8, 9, 10, 11, 12, 13] rfl
        refine vp_callSi (W.runV (As := [.int (nI 0), .int (nI (min 3 z))]) (rest := []) ⟨gx, gb, gml, gown, gts⟩ (kX9_sumOf Gl D cI cJ cZ mo ma mb mc md me mf mg mh mi mj mk ml mn n q c w z ev num plc sig pad row dig far cfr cby que has img kep 0 (min 3 z) (by omega) (by omega) (by intro p hp; exact hr p (by omega))) (cwV 2 gts gX9_isTaught_X9_sumOf rfl rfl rfl (by decide +kernel) ⟨Nat.le_of_ble_eq_true rfl, Nat.le_of_ble_eq_true rfl⟩) ⟨fun a U g mk q => ⟨q.1, q.2.1, va_K.moved (u := U) (U := U.calling g mk a) (Vm.Alike.refl U.vm) q.2.2⟩, va_recv hK hPc (ci := 4) (q0 := 0) rfl rfl, fun U hU hW => ⟨rfl, by rw [hU]; exact hPc, va_K.moved hW.alike hK⟩⟩ rfl rfl hl.1 rfl (lv_room (Nat.le_of_ble_eq_true rfl)) dX9_isTaught_37 ⟨Nat.le_of_ble_eq_true rfl, Nat.le_of_ble_eq_true rfl⟩) (fun r hw => ?_)
        have hr37 := hw
        subst hr37
        have hsm := sm_le (v := fun p => num (row p)) (a := 0) (c := 99) (n := min 3 z - 0) (fun i hi => by show num (row (0 + i)) ≤ 99; exact hv _ (by omega))
        refine vp_callSi (W.runS (As := [.int (nI (sm (fun p => num (row p)) 0 ((min 3 z) - 0)))]) (rest := []) ⟨gx, gb, gml, gown, gts⟩ (kX9_isSquare Gl (sm (fun p => num (row p)) 0 ((min 3 z) - 0)) (by omega)) (va_cwS 1 gts gX9_isTaught_X9_isSquare rfl rfl rfl (by decide +kernel) ⟨Nat.le_of_ble_eq_true rfl, Nat.le_of_ble_eq_true rfl⟩) ⟨fun _ _ _ _ h => h, fun U hU hW => ⟨rfl, trivial⟩⟩ rfl rfl hl.1 rfl (lv_room (Nat.le_of_ble_eq_true rfl)) dX9_isTaught_40 ⟨Nat.le_of_ble_eq_true rfl, Nat.le_of_ble_eq_true rfl⟩) (fun r hw => ?_)
        have hr40 := hw
        subst hr40
        exact W.zret (v := bI (sqr (sm (fun p => num (row p)) 0 ((min 3 z) - 0)))) gx gb gr (bI_nar _) (fun t ht hW => ⟨bI (sqr (sm (fun p => num (row p)) 0 ((min 3 z) - 0))), rfl, (by first | (dsimp only; done) | ((try dsimp only); obtain rfl : k = 3 := (by omega); rfl)), ht⟩) (fun q h => by cases h) dX9_isTaught_43
      refine lv_aload_n gx gb dX9_isTaught_19 rfl (lv_at hl 0 rfl) ?_
      refine lv_iconst (v := nI 0) gx gb dX9_isTaught_20 (by decide) ?_
      refine lv_aload_n gx gb dX9_isTaught_21 rfl (lv_at hl 0 rfl) ?_
      refine va_get (D := D) (ci := 4) (v := .int (nI z)) (C := RX9) (T := TX9) (N := 19) gx gb gts i9 gown hK hP 0 rfl rfl 9 (by decide) (gts (.fieldLink RX9 81 "SwanSumsModel" "size" "I") (by decide +kernel)) (fun _ h9 => h9) rfl dX9_isTaught_22 ?_
      refine lv_iconst (v := nI 3) gx gb dX9_isTaught_25 (by decide) ?_
      refine lv_icmp_ge (tgt := 36) gx gb dX9_isTaught_26 (by decide) (fun c26 => ?_) (fun c26 => ?_)
      · skip
        rw [nI_leI (by omega) (by omega)] at c26
        refine lv_iconst (v := nI 3) gx gb dX9_isTaught_36 (by decide) ?_
        exact L37 3 (by omega) ls (lv_sub hl [0, 1] rfl)
      · skip
        rw [nI_leI (by omega) (by omega)] at c26
        refine lv_aload_n gx gb dX9_isTaught_29 rfl (lv_at hl 0 rfl) ?_
        refine va_get (D := D) (ci := 4) (v := .int (nI z)) (C := RX9) (T := TX9) (N := 19) gx gb gts i9 gown hK hP 0 rfl rfl 9 (by decide) (gts (.fieldLink RX9 81 "SwanSumsModel" "size" "I") (by decide +kernel)) (fun _ h9 => h9) rfl dX9_isTaught_30 ?_
        refine lv_goto (tgt := 37) gx gb dX9_isTaught_33 (by decide) ?_
        exact L37 z (by omega) ls (lv_sub hl [0, 1] rfl)
  · skip
    rw [nI_eq (by omega) (by omega)] at c2
    refine lv_aload_n gx gb dX9_isTaught_5 rfl (lv_at hl 0 rfl) ?_
    refine lv_iconst (v := nI 0) gx gb dX9_isTaught_6 (by decide) ?_
    have hv0 := hv 0 (by omega)
    have hr0 := hr 0 (by omega)
    have hPc := hP.sub (ws' := wM mo ma mb mc md me mf mg mh mi mj mk ml mn cI cZ n q c w z ev num plc sig pad row dig far cfr cby que has img kep) [0, 1, 2, 3, 4, 5, 6, 7, 8, 9, 10, 11, 12, 13] rfl
    refine vp_callSi (W.runV (As := [.int (nI 0)]) (rest := []) ⟨gx, gb, gml, gown, gts⟩ (kX9_valueAt Gl D cI cJ cZ mo ma mb mc md me mf mg mh mi mj mk ml mn n q c w z ev num plc sig pad row dig far cfr cby que has img kep 0 (by omega) (by omega)) (cwV 1 gts gX9_isTaught_X9_valueAt rfl rfl rfl (by decide +kernel) ⟨Nat.le_of_ble_eq_true rfl, Nat.le_of_ble_eq_true rfl⟩) ⟨fun a U g mk q => ⟨q.1, q.2.1, va_K.moved (u := U) (U := U.calling g mk a) (Vm.Alike.refl U.vm) q.2.2⟩, va_recv hK hPc (ci := 4) (q0 := 0) rfl rfl, fun U hU hW => ⟨rfl, by rw [hU]; exact hPc, va_K.moved hW.alike hK⟩⟩ rfl rfl hl.1 rfl (lv_room (Nat.le_of_ble_eq_true rfl)) dX9_isTaught_7 ⟨Nat.le_of_ble_eq_true rfl, Nat.le_of_ble_eq_true rfl⟩) (fun r hw => ?_)
    have hr7 := hw
    subst hr7
    refine vp_callSi (W.runS (As := [.int (nI (num (row 0)))]) (rest := []) ⟨gx, gb, gml, gown, gts⟩ (kX9_isPrime Gl (num (row 0)) (by omega)) (va_cwS 1 gts gX9_isTaught_X9_isPrime rfl rfl rfl (by decide +kernel) ⟨Nat.le_of_ble_eq_true rfl, Nat.le_of_ble_eq_true rfl⟩) ⟨fun _ _ _ _ h => h, fun U hU hW => ⟨rfl, trivial⟩⟩ rfl rfl hl.1 rfl (lv_room (Nat.le_of_ble_eq_true rfl)) dX9_isTaught_10 ⟨Nat.le_of_ble_eq_true rfl, Nat.le_of_ble_eq_true rfl⟩) (fun r hw => ?_)
    have hr10 := hw
    subst hr10
    exact W.zret (v := bI (prm (num (row 0)))) gx gb gr (bI_nar _) (fun t ht hW => ⟨bI (prm (num (row 0))), rfl, (by first | (dsimp only; done) | ((try dsimp only); obtain rfl : k = 2 := (by omega); rfl)), ht⟩) (fun q h => by cases h) dX9_isTaught_13

