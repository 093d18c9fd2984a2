
set_option maxHeartbeats 4000000 in
set_option maxRecDepth 100000 in
theorem kX0_commonDivisor (Gl : Launch) (a b : Nat) (hab : a ≤ b) (hb : b ≤ 343) : Met Gl yX0_commonDivisor wsX0_commonDivisor ({ frames := 0, cells := 0, slots := 0, locals := 0 } : Room) (va_Pc [.int (nI a), .int (nI b)] (fun _ => True)) (vp_Si (fun r : Int32 => r = nI (Nat.gcd a b))) 0 0 (fun _ => False) := by
  refine Met.ofW (cc := cX0_commonDivisor) (maxL := 6) (ret := (some .int)) (by decide +kernel) rfl ?_
  intro Gp Ge Gs Gm Ga Gw Gt Gc G1 Bd gml gv
  obtain ⟨rfl, -⟩ := gv
  have gx := Bd.exec
  have gb := Bd.bytes
  have gr := Bd.returns
  have gts := atoms_spec (ws := wsX0_commonDivisor) Bd.pre
  have gown : Gs.vm.findClass RX0 = some Gm.cls := findClass_of_methodNamed Bd.named
  have glk := Bd.notSynchronized
  have hl := lv_entry ([.int (nI a), .int (nI b)]) (n := 6) (Nat.le_of_ble_eq_true rfl)
  rw [lg_entry_eq]
  generalize (lg_sl ([.int (nI a), .int (nI b)]) ++ List.replicate (6 - (lg_sl ([.int (nI a), .int (nI b)])).length) Slot.unset).toArray = ls at hl ⊢
  have hl : lv_has ls 6 [(0, .int (nI a)), (1, .int (nI b))] := hl
  refine lv_iload_n gx gb dX0_commonDivisor_0 rfl (lv_at hl 1 rfl) ?_
  refine lv_istore_n (lv' := [(2, .int (nI b)), (0, .int (nI a)), (1, .int (nI b))]) gx gb dX0_commonDivisor_1 rfl hl (by decide) rfl (fun ls hl => ?_)
  refine lv_iload_n gx gb dX0_commonDivisor_2 rfl (lv_at hl 1 rfl) ?_
  refine lv_istore_n (lv' := [(3, .int (nI a)), (2, .int (nI b)), (0, .int (nI a)), (1, .int (nI b))]) gx gb dX0_commonDivisor_3 rfl hl (by decide) rfl (fun ls hl => ?_)
  refine lv_iconst (v := nI 0) gx gb dX0_commonDivisor_4 (by decide) ?_
  refine lv_istore (lv' := [(4, .int (nI 0)), (3, .int (nI a)), (2, .int (nI b)), (0, .int (nI a)), (1, .int (nI b))]) gx gb dX0_commonDivisor_5 hl (by decide) rfl (fun ls hl => ?_)
  have L7 : ∀ fu : Nat, ∀ (G l k : Nat) (hg : Nat.gcd G l = Nat.gcd a b) (hle : l ≤ G) (hm : G * l * 2 ^ k ≤ 117649) (hk : k ≤ 64) (hG : G ≤ 343), (64 - k) < fu → ∀ ls : Array Slot, lv_has ls 6 [(2, .int (nI G)), (3, .int (nI l)), (4, .int (nI k)), (0, .int (nI a)), (1, .int (nI b))] → W Gp Gl Ge (headSpec wsX0_commonDivisor ({ frames := 0, cells := 0, slots := 0, locals := 0 } : Room)).room Gs Gm ([.int (nI a), .int (nI b)] : List Value).toArray Gw Gt Gc Gs.heap [] 0 0 (MQ Gw (vp_Si (fun r : Int32 => r = nI (Nat.gcd a b))) ([.int (nI a), .int (nI b)] : List Value).toArray Gs 0 0 (fun _ => False)) (F0 Gm 7 ls []) := by
    intro fu
    induction fu with
    | zero => intro G l k hg hle hm hk hG hfu; exact absurd hfu (Nat.not_lt_zero _)
    | succ fu ih7 =>
      intro G l k hg hle hm hk hG hfu ls hl
      refine lv_iload gx gb dX0_commonDivisor_7 (lv_at hl 2 rfl) ?_
      refine lv_bipush (v := nI 64) gx gb dX0_commonDivisor_9 (by decide) ?_
      refine lv_icmp_ge (tgt := 34) gx gb dX0_commonDivisor_11 (by decide) (fun c11 => ?_) (fun c11 => ?_)
      · skip
        rw [nI_leI (by omega) (by omega)] at c11
        refine lv_iload_n gx gb dX0_commonDivisor_34 rfl (lv_at hl 0 rfl) ?_
        exact W.iret (v := nI G) gx gb gr (fun t ht hW => ⟨nI G, rfl, (by first | (dsimp only; done) | ((try dsimp only); have h0 : l = 0 := (Nat.eq_zero_or_pos l).elim id (fun hp => absurd (show k = 64 by omega) (fun h9 => cd_e (h9 ▸ hm) hp hle)); rw [h0] at hg; exact congrArg nI (gcd_z hg))), ht⟩) (fun q h => by cases h) dX0_commonDivisor_35
      · skip
        rw [nI_leI (by omega) (by omega)] at c11
        refine lv_iload_n gx gb dX0_commonDivisor_14 rfl (lv_at hl 1 rfl) ?_
        refine lv_if_le (tgt := 34) gx gb dX0_commonDivisor_15 (by decide) (fun c15 => ?_) (fun c15 => ?_)
        · skip
          rw [n0_le (by omega)] at c15
          refine lv_iload_n gx gb dX0_commonDivisor_34 rfl (lv_at hl 0 rfl) ?_
          exact W.iret (v := nI G) gx gb gr (fun t ht hW => ⟨nI G, rfl, (by first | (dsimp only; done) | ((try dsimp only); have h0 : l = 0 := (Nat.eq_zero_or_pos l).elim id (fun hp => absurd (show k = 64 by omega) (fun h9 => cd_e (h9 ▸ hm) hp hle)); rw [h0] at hg; exact congrArg nI (gcd_z hg))), ht⟩) (fun q h => by cases h) dX0_commonDivisor_35
        · skip
          rw [n0_le (by omega)] at c15
          refine lv_iload_n gx gb dX0_commonDivisor_18 rfl (lv_at hl 0 rfl) ?_
          refine lv_iload_n gx gb dX0_commonDivisor_19 rfl (lv_at hl 1 rfl) ?_
          refine lv_irem gx gb dX0_commonDivisor_20 (nI_ne0 (by omega) (by omega)) ?_
          refine lv_evi (nI (G % l)) (e_rem (by omega) (by omega) (by omega)) ?_
          refine lv_istore (lv' := [(5, .int (nI (G % l))), (2, .int (nI G)), (3, .int (nI l)), (4, .int (nI k)), (0, .int (nI a)), (1, .int (nI b))]) gx gb dX0_commonDivisor_21 hl (by decide) rfl (fun ls hl => ?_)
          refine lv_iload_n gx gb dX0_commonDivisor_23 rfl (lv_at hl 2 rfl) ?_
          refine lv_istore_n (lv' := [(2, .int (nI l)), (5, .int (nI (G % l))), (3, .int (nI l)), (4, .int (nI k)), (0, .int (nI a)), (1, .int (nI b))]) gx gb dX0_commonDivisor_24 rfl hl (by decide) rfl (fun ls hl => ?_)
          refine lv_iload gx gb dX0_commonDivisor_25 (lv_at hl 1 rfl) ?_
          refine lv_istore_n (lv' := [(3, .int (nI (G % l))), (2, .int (nI l)), (5, .int (nI (G % l))), (4, .int (nI k)), (0, .int (nI a)), (1, .int (nI b))]) gx gb dX0_commonDivisor_27 rfl hl (by decide) rfl (fun ls hl => ?_)
          refine lv_iinc (v := nI (k + 1)) (lv' := [(4, .int (nI (k + 1))), (3, .int (nI (G % l))), (2, .int (nI l)), (5, .int (nI (G % l))), (0, .int (nI a)), (1, .int (nI b))]) gx gb dX0_commonDivisor_28 hl (k := 3) rfl (nI_add k 1) (by decide) rfl (fun ls hl => ?_)
          refine lv_goto (tgt := 7) gx gb dX0_commonDivisor_31 (by decide) ?_
          exact ih7 l (G % l) (k + 1) (by exact gcd_s hg) (by have := Nat.mod_lt G (show 0 < l by omega); omega) (by exact cd_s hm (by omega) hle) (by omega) (by omega) (by omega) ls (lv_sub hl [2, 1, 0, 4, 5] rfl)
  exact L7 _ b a 0 (by exact Nat.gcd_comm b a) (by have := Nat.mod_lt G (show 0 < l by omega); omega) (by exact cd_0 (by omega) hb) (by omega) (by omega) (Nat.lt_succ_self _) ls (lv_sub hl [2, 1, 0, 3, 4] rfl)

set_option maxHeartbeats 4000000 in
set_option maxRecDepth 100000 in
theorem kX8_rowBehindPikes (Gl : Launch) (D : va_G) (cI cJ cZ : ClassId) (h : Nat) (fl : Nat) (e1 : Nat) (e2 : Nat) (pd : Nat) (sg : Nat) (k1 : Nat) (k2 : Nat) (rv : Value) (n : Nat) (N : Nat) (q : Nat) (S : Nat) (c : Nat) (na : Nat) (Na : Nat) (Ra : Nat) (qa : Nat) (Sa : Nat) (ca : Nat) (nb : Nat) (Nb : Nat) (Rb : Nat) (qb : Nat) (Sb : Nat) (cb : Nat) (cnt : Nat) (rb : Nat) (sb : Nat) (g : Nat → Nat) (plc : Nat → Nat) (fill m : Nat) (hn1 : 1 ≤ n) (hn7 : n ≤ 7) (hq1 : 1 ≤ q) (hqn : q ≤ n) (hp : ∀ k, k < q → plc k < n) (hf : fill < 2147483648) (hm : m ≤ 3) : Met Gl yX8_rowBehindPikes wsX8_rowBehindPikes ({ frames := 2, cells := 0, slots := 0, locals := 45 } : Room) (va_Pc [.ref h, .int (nI fill), .int (nI m)] (fun U => va_P D vwCl (wX h fl e1 e2 pd sg cI k1 k2 rv n N (pk 8 plc q) q S c na Na Ra qa Sa ca nb Nb Rb qb Sb cb cnt rb sb g) U.heap ∧ va_K D vwCl [(cI, .int), (cJ, .long), (cZ, .boolean)] U)) (vp_Si (fun r : Int32 => r = nI (pk 8 (pkR q plc fill m) q))) 0 0 (fun _ => False) := by
  refine Met.ofW (cc := cX8_rowBehindPikes) (maxL := 5) (ret := (some .int)) (by decide +kernel) rfl ?_
  intro Gp Ge Gs Gm Ga Gw Gt Gc G1 Bd gml gv
  obtain ⟨rfl, hP, hK⟩ := gv
  have gx := Bd.exec
  have gb := Bd.bytes
  have gr := Bd.returns
  have gts := atoms_spec (ws := wsX8_rowBehindPikes) Bd.pre
  have gown : Gs.vm.findClass RX8 = some Gm.cls := findClass_of_methodNamed Bd.named
  have glk := Bd.notSynchronized
  have hl := lv_entry ([.ref h, .int (nI fill), .int (nI m)]) (n := 5) (Nat.le_of_ble_eq_true rfl)
  rw [lg_entry_eq]
  generalize (lg_sl ([.ref h, .int (nI fill), .int (nI m)]) ++ List.replicate (5 - (lg_sl ([.ref h, .int (nI fill), .int (nI m)])).length) Slot.unset).toArray = ls at hl ⊢
  have hl : lv_has ls 5 [(0, .ref h), (1, .int (nI fill)), (2, .int (nI m))] := hl
  have i1 : ∀ w ∈ wsX10, w ∈ wsX8_rowBehindPikes := by decide +kernel
  have i8 : ∀ w ∈ wsX80, w ∈ wsX8_rowBehindPikes := by decide +kernel
  have hp8 : ∀ k, k < q → plc k < 8 := fun k hk => by have := hp k hk; omega
  have hR8 := pk8_lt hp8 (by omega)
  refine lv_aload_n gx gb dX8_rowBehindPikes_0 rfl (lv_at hl 0 rfl) ?_
  refine va_get (D := D) (ci := 3) (v := .ref fl) (C := RX8) (T := TX8) (N := 7) gx gb gts i8 gown hK hP 0 rfl rfl 0 (by decide) (gts (.fieldLink RX8 12 "SwanSums" "flock" "LSwanSums$Flock;") (by decide +kernel)) (fun _ h9 => h9) rfl dX8_rowBehindPikes_1 ?_
  refine va_get (D := D) (ci := 0) (v := .int (nI (pk 8 plc q))) (C := RX1) (T := TX1) (N := 6) gx gb gts i1 gown hK hP 1 rfl rfl 2 (by decide) (gts (.fieldLink RX8 79 "SwanSums$Flock" "row" "I") (by decide +kernel)) (fun _ h9 => h9) rfl dX8_rowBehindPikes_4 ?_
  refine lv_istore_n (lv' := [(3, .int (nI (pk 8 plc q))), (0, .ref h), (1, .int (nI fill)), (2, .int (nI m))]) gx gb dX8_rowBehindPikes_7 rfl hl (by decide) rfl (fun ls hl => ?_)
  refine lv_iconst (v := nI 0) gx gb dX8_rowBehindPikes_8 (by decide) ?_
  refine lv_istore (lv' := [(4, .int (nI 0)), (3, .int (nI (pk 8 plc q))), (0, .ref h), (1, .int (nI fill)), (2, .int (nI m))]) gx gb dX8_rowBehindPikes_9 hl (by decide) rfl (fun ls hl => ?_)
  have L11 : ∀ fu : Nat, ∀ (i : Nat) (hi : i ≤ m), (m - i) < fu → ∀ ls : Array Slot, lv_has ls 5 [(3, .int (nI (pk 8 (pkR q plc fill i) q))), (4, .int (nI i)), (0, .ref h), (1, .int (nI fill)), (2, .int (nI m))] → W Gp Gl Ge (headSpec wsX8_rowBehindPikes ({ frames := 2, cells := 0, slots := 0, locals := 45 } : Room)).room Gs Gm ([.ref h, .int (nI fill), .int (nI m)] : List Value).toArray Gw Gt Gc Gs.heap [] 0 0 (MQ Gw (vp_Si (fun r : Int32 => r = nI (pk 8 (pkR q plc fill m) q))) ([.ref h, .int (nI fill), .int (nI m)] : List Value).toArray Gs 0 0 (fun _ => False)) (F0 Gm 11 ls []) := by
    intro fu
    induction fu with
    | zero => intro i hi hfu; exact absurd hfu (Nat.not_lt_zero _)
    | succ fu ih11 =>
      intro i hi hfu ls hl
      refine lv_iload gx gb dX8_rowBehindPikes_11 (lv_at hl 1 rfl) ?_
      refine lv_iload_n gx gb dX8_rowBehindPikes_13 rfl (lv_at hl 4 rfl) ?_
      refine lv_icmp_ge (tgt := 48) gx gb dX8_rowBehindPikes_14 (by decide) (fun c14 => ?_) (fun c14 => ?_)
      · skip
        rw [nI_leI (by omega) (by omega)] at c14
        refine lv_iload_n gx gb dX8_rowBehindPikes_48 rfl (lv_at hl 0 rfl) ?_
        exact W.iret (v := nI (pk 8 (pkR q plc fill i) q)) gx gb gr (fun t ht hW => ⟨nI (pk 8 (pkR q plc fill i) q), rfl, (by first | (dsimp only; done) | ((try dsimp only); rw [show i = m by omega])), ht⟩) (fun q h => by cases h) dX8_rowBehindPikes_49
      · skip
        rw [nI_leI (by omega) (by omega)] at c14
        have h8 := pkR_in (q := q) (plc := plc) (fill := fill) (P := fun x => x < 8) hq1 hp8 i
        have h8l := pk8_lt h8 (by omega)
        have hdl := dg_lt (b := q) (by omega) fill i
        refine lv_iload_n gx gb dX8_rowBehindPikes_17 rfl (lv_at hl 0 rfl) ?_
        refine lv_iload_n gx gb dX8_rowBehindPikes_18 rfl (lv_at hl 3 rfl) ?_
        refine lv_aload_n gx gb dX8_rowBehindPikes_19 rfl (lv_at hl 2 rfl) ?_
        refine va_get (D := D) (ci := 3) (v := .ref fl) (C := RX8) (T := TX8) (N := 7) gx gb gts i8 gown hK hP 0 rfl rfl 0 (by decide) (gts (.fieldLink RX8 12 "SwanSums" "flock" "LSwanSums$Flock;") (by decide +kernel)) (fun _ h9 => h9) rfl dX8_rowBehindPikes_20 ?_
        refine va_get (D := D) (ci := 0) (v := .int (nI q)) (C := RX1) (T := TX1) (N := 6) gx gb gts i1 gown hK hP 1 rfl rfl 3 (by decide) (gts (.fieldLink RX8 82 "SwanSums$Flock" "size" "I") (by decide +kernel)) (fun _ h9 => h9) rfl dX8_rowBehindPikes_23 ?_
        refine lv_iload gx gb dX8_rowBehindPikes_26 (lv_at hl 1 rfl) ?_
        refine vp_callSi (W.runS (As := [.int (nI fill), .int (nI q), .int (nI i)]) (rest := [.int (nI (pk 8 (pkR q plc fill i) q))]) ⟨gx, gb, gml, gown, gts⟩ (kX0_digit Gl fill q i (by omega) (by omega) (by omega) (by omega)) (va_cwS 3 gts gX8_rowBehindPikes_X0_digit rfl rfl rfl (by decide +kernel) ⟨Nat.le_of_ble_eq_true rfl, Nat.le_of_ble_eq_true rfl⟩) ⟨fun _ _ _ _ h => h, fun U hU hW => ⟨rfl, trivial⟩⟩ rfl rfl hl.1 rfl (lv_room (Nat.le_of_ble_eq_true rfl)) dX8_rowBehindPikes_28 ⟨Nat.le_of_ble_eq_true rfl, Nat.le_of_ble_eq_true rfl⟩) (fun r hw => ?_)
        have hr28 := hw
        subst hr28
        refine lv_aload_n gx gb dX8_rowBehindPikes_31 rfl (lv_at hl 2 rfl) ?_
        refine va_get (D := D) (ci := 3) (v := .ref fl) (C := RX8) (T := TX8) (N := 7) gx gb gts i8 gown hK hP 0 rfl rfl 0 (by decide) (gts (.fieldLink RX8 12 "SwanSums" "flock" "LSwanSums$Flock;") (by decide +kernel)) (fun _ h9 => h9) rfl dX8_rowBehindPikes_32 ?_
        refine va_get (D := D) (ci := 0) (v := .int (nI q)) (C := RX1) (T := TX1) (N := 6) gx gb gts i1 gown hK hP 1 rfl rfl 3 (by decide) (gts (.fieldLink RX8 82 "SwanSums$Flock" "size" "I") (by decide +kernel)) (fun _ h9 => h9) rfl dX8_rowBehindPikes_35 ?_
        refine vp_callSi (W.runS (As := [.int (nI (pk 8 (pkR q plc fill i) q)), .int (nI (dg q fill i)), .int (nI q)]) (rest := []) ⟨gx, gb, gml, gown, gts⟩ (kX6_pike Gl (pk 8 (pkR q plc fill i) q) (dg q fill i) q (by omega) (by omega) (by omega) (by omega)) (va_cwS 3 gts gX8_rowBehindPikes_X6_pike rfl rfl rfl (by decide +kernel) ⟨Nat.le_of_ble_eq_true rfl, Nat.le_of_ble_eq_true rfl⟩) ⟨fun _ _ _ _ h => h, fun U hU hW => ⟨rfl, trivial⟩⟩ rfl rfl hl.1 rfl (lv_room (Nat.le_of_ble_eq_true rfl)) dX8_rowBehindPikes_38 ⟨Nat.le_of_ble_eq_true rfl, Nat.le_of_ble_eq_true rfl⟩) (fun r hw => ?_)
        have hr38 := hw
        subst hr38
        refine lv_evi (nI (pk 8 (pkR q plc fill (i + 1)) q)) (congrArg nI (pikeC_pk h8 hdl)) ?_
        refine lv_istore_n (lv' := [(3, .int (nI (pk 8 (pkR q plc fill (i + 1)) q))), (4, .int (nI i)), (0, .ref h), (1, .int (nI fill)), (2, .int (nI m))]) gx gb dX8_rowBehindPikes_41 rfl hl (by decide) rfl (fun ls hl => ?_)
        refine lv_iinc (v := nI (i + 1)) (lv' := [(4, .int (nI (i + 1))), (3, .int (nI (pk 8 (pkR q plc fill (i + 1)) q))), (0, .ref h), (1, .int (nI fill)), (2, .int (nI m))]) gx gb dX8_rowBehindPikes_42 hl (k := 1) rfl (nI_add i 1) (by decide) rfl (fun ls hl => ?_)
        refine lv_goto (tgt := 11) gx gb dX8_rowBehindPikes_45 (by decide) ?_
        exact ih11 (i + 1) (by omega) (by omega) ls (lv_sub hl [1, 0, 2, 3, 4] rfl)
  exact L11 _ 0 (by omega) (Nat.lt_succ_self _) ls (lv_sub hl [1, 0, 2, 3, 4] rfl)

