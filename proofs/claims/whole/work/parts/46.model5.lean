
set_option maxHeartbeats 4000000 in
set_option maxRecDepth 100000 in
theorem kX9_rank (Gl : Launch) (D : va_G) (cI cJ cZ : ClassId) (mo : Nat) (ma : Nat) (mb : Nat) (mc : Nat) (md : Nat) (me : Nat) (mf : Nat) (mg : Nat) (mh : Nat) (mi : Nat) (mj : Nat) (mk : Nat) (ml : Nat) (mn : Nat) (n : Nat) (q : Nat) (c : Nat) (w : Nat) (z : Nat) (ev : Nat) (num : Nat → Nat) (plc : Nat → Nat) (sig : Nat → Nat) (pad : Nat → Nat) (row : Nat → Nat) (dig : Nat → Nat) (far : Nat → Int32) (cfr : Nat → Nat) (cby : Nat → Nat) (que : Nat → Nat) (has : Nat → Nat) (img : Nat → Nat) (kep : Nat → Nat) (hz : z ≤ 7) (hr : ∀ x, x < z → row x ≤ 6) : Met Gl yX9_rank wsX9_rank ({ frames := 0, cells := 0, slots := 0, locals := 0 } : Room) (va_Pc [.ref mo] (fun U => va_P D vwCl (wM mo ma mb mc md me mf mg mh mi mj mk ml mn cI cZ n q c w z ev num plc sig pad row dig far cfr cby que has img kep) U.heap ∧ va_K D vwCl [(cI, .int), (cJ, .long), (cZ, .boolean)] U)) (vp_Si (fun r : Int32 => r = nI (rkF row z))) 0 0 (fun _ => False) := by
  refine Met.ofW (cc := cX9_rank) (maxL := 5) (ret := (some .int)) (by decide +kernel) rfl ?_
  intro Gp Ge Gs Gm Ga Gw Gt Gc G1 Bd gml gv
  obtain ⟨rfl, hP, hK⟩ := gv
  have gx := Bd.exec
  have gb := Bd.bytes
  have gr := Bd.returns
  have gts := atoms_spec (ws := wsX9_rank) Bd.pre
  have gown : Gs.vm.findClass RX9 = some Gm.cls := findClass_of_methodNamed Bd.named
  have glk := Bd.notSynchronized
  have hl := lv_entry ([.ref mo]) (n := 5) (Nat.le_of_ble_eq_true rfl)
  rw [lg_entry_eq]
  generalize (lg_sl ([.ref mo]) ++ List.replicate (5 - (lg_sl ([.ref mo])).length) Slot.unset).toArray = ls at hl ⊢
  have hl : lv_has ls 5 [(0, .ref mo)] := hl
  have i9 : ∀ w ∈ wsX90, w ∈ wsX9_rank := by decide +kernel
  refine lv_iconst (v := nI 0) gx gb dX9_rank_0 (by decide) ?_
  refine lv_istore_n (lv' := [(1, .int (nI 0)), (0, .ref mo)]) gx gb dX9_rank_1 rfl hl (by decide) rfl (fun ls hl => ?_)
  refine lv_iconst (v := nI 0) gx gb dX9_rank_2 (by decide) ?_
  refine lv_istore_n (lv' := [(2, .int (nI 0)), (1, .int (nI 0)), (0, .ref mo)]) gx gb dX9_rank_3 rfl hl (by decide) rfl (fun ls hl => ?_)
  have L4 : ∀ fu : Nat, ∀ (p : Nat) (hp : p ≤ z), (z - p) < fu → ∀ ls : Array Slot, lv_has ls 5 [(1, .int (nI (rkV row z p))), (2, .int (nI p)), (0, .ref mo)] → W Gp Gl Ge (headSpec wsX9_rank ({ frames := 0, cells := 0, slots := 0, locals := 0 } : Room)).room Gs Gm ([.ref mo] : List Value).toArray Gw Gt Gc Gs.heap [] 0 0 (MQ Gw (vp_Si (fun r : Int32 => r = nI (rkF row z))) ([.ref mo] : List Value).toArray Gs 0 0 (fun _ => False)) (F0 Gm 4 ls []) := by
    intro fu
    induction fu with
    | zero => intro p hp hfu; exact absurd hfu (Nat.not_lt_zero _)
    | succ fu ih4 =>
      intro p hp hfu ls hl
      refine lv_iload_n gx gb dX9_rank_4 rfl (lv_at hl 1 rfl) ?_
      refine lv_aload_n gx gb dX9_rank_5 rfl (lv_at hl 2 rfl) ?_
      refine va_get (D := D) (ci := 4) (v := .int (nI z)) (C := RX9) (T := TX9) (N := 19) gx gb gts i9 gown hK hP 0 rfl rfl 9 (by decide) (gts (.fieldLink RX9 81 "SwanSumsModel" "size" "I") (by decide +kernel)) (fun _ h9 => h9) rfl dX9_rank_6 ?_
      refine lv_icmp_ge (tgt := 75) gx gb dX9_rank_9 (by decide) (fun c9 => ?_) (fun c9 => ?_)
      · skip
        rw [nI_leI (by omega) (by omega)] at c9
        refine lv_iload_n gx gb dX9_rank_75 rfl (lv_at hl 0 rfl) ?_
        exact W.iret (v := nI (rkV row z p)) gx gb gr (fun t ht hW => ⟨nI (rkV row z p), rfl, (by first | (dsimp only; done) | ((try dsimp only); rw [show p = z by omega]; rfl)), ht⟩) (fun q h => by cases h) dX9_rank_76
      · skip
        rw [nI_leI (by omega) (by omega)] at c9
        refine lv_iconst (v := nI 0) gx gb dX9_rank_12 (by decide) ?_
        refine lv_istore_n (lv' := [(3, .int (nI 0)), (1, .int (nI (rkV row z p))), (2, .int (nI p)), (0, .ref mo)]) gx gb dX9_rank_13 rfl hl (by decide) rfl (fun ls hl => ?_)
        refine lv_iload_n gx gb dX9_rank_14 rfl (lv_at hl 2 rfl) ?_
        refine lv_iconst (v := nI 1) gx gb dX9_rank_15 (by decide) ?_
        refine lv_iadd gx gb dX9_rank_16 ?_
        refine lv_evi (nI (p + 1)) (nI_add p 1) ?_
        refine lv_istore (lv' := [(4, .int (nI (p + 1))), (3, .int (nI 0)), (1, .int (nI (rkV row z p))), (2, .int (nI p)), (0, .ref mo)]) gx gb dX9_rank_17 hl (by decide) rfl (fun ls hl => ?_)
        have L19 : ∀ fu : Nat, ∀ (j : Nat) (hj : p + 1 + j ≤ z), (z - (p + 1 + j)) < fu → ∀ ls : Array Slot, lv_has ls 5 [(3, .int (nI (cnT (fun i_ => decide (row (p + 1 + i_) < row p)) j))), (4, .int (nI (p + 1 + j))), (1, .int (nI (rkV row z p))), (2, .int (nI p)), (0, .ref mo)] → W Gp Gl Ge (headSpec wsX9_rank ({ frames := 0, cells := 0, slots := 0, locals := 0 } : Room)).room Gs Gm ([.ref mo] : List Value).toArray Gw Gt Gc Gs.heap [] 0 0 (MQ Gw (vp_Si (fun r : Int32 => r = nI (rkF row z))) ([.ref mo] : List Value).toArray Gs 0 0 (fun _ => False)) (F0 Gm 19 ls []) := by
          intro fu
          induction fu with
          | zero => intro j hj hfu; exact absurd hfu (Nat.not_lt_zero _)
          | succ fu ih19 =>
            intro j hj hfu ls hl
            refine lv_iload gx gb dX9_rank_19 (lv_at hl 1 rfl) ?_
            refine lv_aload_n gx gb dX9_rank_21 rfl (lv_at hl 4 rfl) ?_
            refine va_get (D := D) (ci := 4) (v := .int (nI z)) (C := RX9) (T := TX9) (N := 19) gx gb gts i9 gown hK hP 0 rfl rfl 9 (by decide) (gts (.fieldLink RX9 81 "SwanSumsModel" "size" "I") (by decide +kernel)) (fun _ h9 => h9) rfl dX9_rank_22 ?_
            refine lv_icmp_ge (tgt := 58) gx gb dX9_rank_25 (by decide) (fun c25 => ?_) (fun c25 => ?_)
            · skip
              rw [nI_leI (by omega) (by omega)] at c25
              refine lv_iload_n gx gb dX9_rank_58 rfl (lv_at hl 2 rfl) ?_
              refine lv_aload_n gx gb dX9_rank_59 rfl (lv_at hl 4 rfl) ?_
              refine va_get (D := D) (ci := 4) (v := .int (nI z)) (C := RX9) (T := TX9) (N := 19) gx gb gts i9 gown hK hP 0 rfl rfl 9 (by decide) (gts (.fieldLink RX9 81 "SwanSumsModel" "size" "I") (by decide +kernel)) (fun _ h9 => h9) rfl dX9_rank_60 ?_
              refine lv_iload_n gx gb dX9_rank_63 rfl (lv_at hl 3 rfl) ?_
              refine lv_isub gx gb dX9_rank_64 ?_
              refine lv_evi (nI (z - p)) (e_sub (by omega)) ?_
              refine lv_imul gx gb dX9_rank_65 ?_
              refine lv_evi (nI ((rkV row z p) * (z - p))) (pk_mul (rkV row z p) (z - p)) ?_
              refine lv_iload_n gx gb dX9_rank_66 rfl (lv_at hl 0 rfl) ?_
              refine lv_iadd gx gb dX9_rank_67 ?_
              refine lv_evi (nI (((rkV row z p) * (z - p)) + (cnT (fun i_ => decide (row (p + 1 + i_) < row p)) j))) (nI_add ((rkV row z p) * (z - p)) (cnT (fun i_ => decide (row (p + 1 + i_) < row p)) j)) ?_
              refine lv_evi (nI (rkV row z (p + 1))) (congrArg nI (by rw [rkV, smr, show z - (p + 1) = j by omega])) ?_
              refine lv_istore_n (lv' := [(1, .int (nI (rkV row z (p + 1)))), (3, .int (nI (cnT (fun i_ => decide (row (p + 1 + i_) < row p)) j))), (4, .int (nI (p + 1 + j))), (2, .int (nI p)), (0, .ref mo)]) gx gb dX9_rank_68 rfl hl (by decide) rfl (fun ls hl => ?_)
              refine lv_iinc (v := nI (p + 1)) (lv' := [(2, .int (nI (p + 1))), (1, .int (nI (rkV row z (p + 1)))), (3, .int (nI (cnT (fun i_ => decide (row (p + 1 + i_) < row p)) j))), (4, .int (nI (p + 1 + j))), (0, .ref mo)]) gx gb dX9_rank_69 hl (k := 3) rfl (nI_add p 1) (by decide) rfl (fun ls hl => ?_)
              refine lv_goto (tgt := 4) gx gb dX9_rank_72 (by decide) ?_
              exact ih4 (p + 1) (by omega) (by omega) ls (lv_sub hl [1, 0, 4] rfl)
            · skip
              rw [nI_leI (by omega) (by omega)] at c25
              have L50 : ∀ (x : Nat) (hxx : x = if decide (row (p + 1 + j) < row p) = true then 1 else 0), ∀ ls : Array Slot, lv_has ls 5 [(3, .int (nI (cnT (fun i_ => decide (row (p + 1 + i_) < row p)) j))), (4, .int (nI (p + 1 + j))), (1, .int (nI (rkV row z p))), (2, .int (nI p)), (0, .ref mo)] → W Gp Gl Ge (headSpec wsX9_rank ({ frames := 0, cells := 0, slots := 0, locals := 0 } : Room)).room Gs Gm ([.ref mo] : List Value).toArray Gw Gt Gc Gs.heap [] 0 0 (MQ Gw (vp_Si (fun r : Int32 => r = nI (rkF row z))) ([.ref mo] : List Value).toArray Gs 0 0 (fun _ => False)) (F0 Gm 50 ls [.int (nI x), .int (nI (cnT (fun i_ => decide (row (p + 1 + i_) < row p)) j))]) := by
                intro x hxx ls hl
                subst hxx
                have hl : lv_has ls 5 [(3, .int (nI (cnT (fun i_ => decide (row (p + 1 + i_) < row p)) j))), (4, .int (nI (p + 1 + j))), (1, .int (nI (rkV row z p))), (2, .int (nI p)), (0, .ref mo)] := hl
                refine lv_iadd gx gb dX9_rank_50 ?_
                refine lv_evi (nI ((cnT (fun i_ => decide (row (p + 1 + i_) < row p)) j) + (if decide (row (p + 1 + j) < row p) = true then 1 else 0))) (nI_add (cnT (fun i_ => decide (row (p + 1 + i_) < row p)) j) (if decide (row (p + 1 + j) < row p) = true then 1 else 0)) ?_
                refine lv_istore_n (lv' := [(3, .int (nI ((cnT (fun i_ => decide (row (p + 1 + i_) < row p)) j) + (if decide (row (p + 1 + j) < row p) = true then 1 else 0)))), (4, .int (nI (p + 1 + j))), (1, .int (nI (rkV row z p))), (2, .int (nI p)), (0, .ref mo)]) gx gb dX9_rank_51 rfl hl (by decide) rfl (fun ls hl => ?_)
                refine lv_iinc (v := nI (p + 1 + j + 1)) (lv' := [(4, .int (nI (p + 1 + j + 1))), (3, .int (nI ((cnT (fun i_ => decide (row (p + 1 + i_) < row p)) j) + (if decide (row (p + 1 + j) < row p) = true then 1 else 0)))), (1, .int (nI (rkV row z p))), (2, .int (nI p)), (0, .ref mo)]) gx gb dX9_rank_52 hl (k := 1) rfl (nI_add (p + 1 + j) 1) (by decide) rfl (fun ls hl => ?_)
                refine lv_goto (tgt := 19) gx gb dX9_rank_55 (by decide) ?_
                exact ih19 (j + 1) (by omega) (by omega) ls (lv_sub hl [1, 0, 2, 3, 4] rfl)
              have hr1 := hr (p + 1 + j) (by omega)
              have hr2 := hr p (by omega)
              refine lv_iload_n gx gb dX9_rank_28 rfl (lv_at hl 0 rfl) ?_
              refine lv_aload_n gx gb dX9_rank_29 rfl (lv_at hl 4 rfl) ?_
              refine va_get (D := D) (ci := 4) (v := .ref me) (C := RX9) (T := TX9) (N := 19) gx gb gts i9 gown hK hP 0 rfl rfl 8 (by decide) (gts (.fieldLink RX9 29 "SwanSumsModel" "row" "[I") (by decide +kernel)) (fun _ h9 => h9) rfl dX9_rank_30 ?_
              refine lv_iload gx gb dX9_rank_33 (lv_at hl 1 rfl) ?_
              refine va_iald gx gb hK hP 5 0 rfl rfl (vp_in_nI (n := p + 1 + j) (by omega) (by decide)) dX9_rank_35 ?_
              refine lv_evi (nI (row (p + 1 + j))) (aN_rd row (by omega)) ?_
              refine lv_aload_n gx gb dX9_rank_36 rfl (lv_at hl 4 rfl) ?_
              refine va_get (D := D) (ci := 4) (v := .ref me) (C := RX9) (T := TX9) (N := 19) gx gb gts i9 gown hK hP 0 rfl rfl 8 (by decide) (gts (.fieldLink RX9 29 "SwanSumsModel" "row" "[I") (by decide +kernel)) (fun _ h9 => h9) rfl dX9_rank_37 ?_
              refine lv_iload_n gx gb dX9_rank_40 rfl (lv_at hl 3 rfl) ?_
              refine va_iald gx gb hK hP 5 0 rfl rfl (vp_in_nI (n := p) (by omega) (by decide)) dX9_rank_41 ?_
              refine lv_evi (nI (row p)) (aN_rd row (by omega)) ?_
              refine lv_icmp_ge (tgt := 49) gx gb dX9_rank_42 (by decide) (fun c42 => ?_) (fun c42 => ?_)
              · skip
                rw [nI_leI (by omega) (by omega)] at c42
                refine lv_iconst (v := nI 0) gx gb dX9_rank_49 (by decide) ?_
                exact L50 0 (by first | (rw [if_pos (decide_eq_true (by omega))]) | (rw [if_neg (by rw [decide_eq_false (by omega)]; decide)])) ls (lv_sub hl [0, 1, 2, 3, 4] rfl)
              · skip
                rw [nI_leI (by omega) (by omega)] at c42
                refine lv_iconst (v := nI 1) gx gb dX9_rank_45 (by decide) ?_
                refine lv_goto (tgt := 50) gx gb dX9_rank_46 (by decide) ?_
                exact L50 1 (by first | (rw [if_pos (decide_eq_true (by omega))]) | (rw [if_neg (by rw [decide_eq_false (by omega)]; decide)])) ls (lv_sub hl [0, 1, 2, 3, 4] rfl)
        exact L19 _ 0 (by omega) (Nat.lt_succ_self _) ls (lv_sub hl [1, 0, 2, 3, 4] rfl)
  exact L4 _ 0 (by omega) (Nat.lt_succ_self _) ls (lv_sub hl [1, 0, 2] rfl)

set_option maxHeartbeats 4000000 in
set_option maxRecDepth 100000 in
theorem kX9_kinds (Gl : Launch) (D : va_G) (cI cJ cZ : ClassId) (mo : Nat) (ma : Nat) (mb : Nat) (mc : Nat) (md : Nat) (me : Nat) (mf : Nat) (mg : Nat) (mh : Nat) (mi : Nat) (mj : Nat) (mk : Nat) (ml : Nat) (mn : Nat) (n : Nat) (q : Nat) (c : Nat) (w : Nat) (z : Nat) (ev : Nat) (num : Nat → Nat) (plc : Nat → Nat) (sig : Nat → Nat) (pad : Nat → Nat) (row : Nat → Nat) (dig : Nat → Nat) (far : Nat → Int32) (cfr : Nat → Nat) (cby : Nat → Nat) (que : Nat → Nat) (has : Nat → Nat) (img : Nat → Nat) (kep : Nat → Nat) : Met Gl yX9_kinds wsX9_kinds ({ frames := 0, cells := 0, slots := 0, locals := 0 } : Room) (va_Pc [.ref mo] (fun U => va_P D vwCl (wM mo ma mb mc md me mf mg mh mi mj mk ml mn cI cZ n q c w z ev num plc sig pad row dig far cfr cby que has img kep) U.heap ∧ va_K D vwCl [(cI, .int), (cJ, .long), (cZ, .boolean)] U)) (vp_Si (fun r : Int32 => r = nI (3 * q))) 0 0 (fun _ => False) := by
  refine Met.ofW (cc := cX9_kinds) (maxL := 1) (ret := (some .int)) (by decide +kernel) rfl ?_
  intro Gp Ge Gs Gm Ga Gw Gt Gc G1 Bd gml gv
  obtain ⟨rfl, hP, hK⟩ := gv
  have gx := Bd.exec
  have gb := Bd.bytes
  have gr := Bd.returns
  have gts := atoms_spec (ws := wsX9_kinds) Bd.pre
  have gown : Gs.vm.findClass RX9 = some Gm.cls := findClass_of_methodNamed Bd.named
  have glk := Bd.notSynchronized
  have hl := lv_entry ([.ref mo]) (n := 1) (Nat.le_of_ble_eq_true rfl)
  rw [lg_entry_eq]
  generalize (lg_sl ([.ref mo]) ++ List.replicate (1 - (lg_sl ([.ref mo])).length) Slot.unset).toArray = ls at hl ⊢
  have hl : lv_has ls 1 [(0, .ref mo)] := hl
  have i9 : ∀ w ∈ wsX90, w ∈ wsX9_kinds := by decide +kernel
  refine lv_iconst (v := nI 3) gx gb dX9_kinds_0 (by decide) ?_
  refine lv_aload_n gx gb dX9_kinds_1 rfl (lv_at hl 0 rfl) ?_
  refine va_get (D := D) (ci := 4) (v := .int (nI q)) (C := RX9) (T := TX9) (N := 19) gx gb gts i9 gown hK hP 0 rfl rfl 1 (by decide) (gts (.fieldLink RX9 13 "SwanSumsModel" "many" "I") (by decide +kernel)) (fun _ h9 => h9) rfl dX9_kinds_2 ?_
  refine lv_imul gx gb dX9_kinds_5 ?_
  refine lv_evi (nI (3 * q)) (pk_mul 3 q) ?_
  exact W.iret (v := nI (3 * q)) gx gb gr (fun t ht hW => ⟨nI (3 * q), rfl, (by first | (dsimp only; done) | ((try dsimp only); rfl)), ht⟩) (fun q h => by cases h) dX9_kinds_6

set_option maxHeartbeats 4000000 in
set_option maxRecDepth 100000 in
theorem kX9_rowsOf (Gl : Launch) (D : va_G) (cI cJ cZ : ClassId) (mo : Nat) (ma : Nat) (mb : Nat) (mc : Nat) (md : Nat) (me : Nat) (mf : Nat) (mg : Nat) (mh : Nat) (mi : Nat) (mj : Nat) (mk : Nat) (ml : Nat) (mn : Nat) (n : Nat) (q : Nat) (c : Nat) (w : Nat) (z : Nat) (ev : Nat) (num : Nat → Nat) (plc : Nat → Nat) (sig : Nat → Nat) (pad : Nat → Nat) (row : Nat → Nat) (dig : Nat → Nat) (far : Nat → Int32) (cfr : Nat → Nat) (cby : Nat → Nat) (que : Nat → Nat) (has : Nat → Nat) (img : Nat → Nat) (kep : Nat → Nat) (hq1 : 1 ≤ q) (hq7 : q ≤ 7) : Met Gl yX9_rowsOf wsX9_rowsOf ({ frames := 0, cells := 0, slots := 0, locals := 0 } : Room) (va_Pc [.ref mo] (fun U => va_P D vwCl (wM mo ma mb mc md me mf mg mh mi mj mk ml mn cI cZ n q c w z ev num plc sig pad row dig far cfr cby que has img kep) U.heap ∧ va_K D vwCl [(cI, .int), (cJ, .long), (cZ, .boolean)] U)) (vp_Si (fun r : Int32 => r = nI (fac q))) 0 0 (fun _ => False) := by
  refine Met.ofW (cc := cX9_rowsOf) (maxL := 3) (ret := (some .int)) (by decide +kernel) rfl ?_
  intro Gp Ge Gs Gm Ga Gw Gt Gc G1 Bd gml gv
  obtain ⟨rfl, hP, hK⟩ := gv
  have gx := Bd.exec
  have gb := Bd.bytes
  have gr := Bd.returns
  have gts := atoms_spec (ws := wsX9_rowsOf) Bd.pre
  have gown : Gs.vm.findClass RX9 = some Gm.cls := findClass_of_methodNamed Bd.named
  have glk := Bd.notSynchronized
  have hl := lv_entry ([.ref mo]) (n := 3) (Nat.le_of_ble_eq_true rfl)
  rw [lg_entry_eq]
  generalize (lg_sl ([.ref mo]) ++ List.replicate (3 - (lg_sl ([.ref mo])).length) Slot.unset).toArray = ls at hl ⊢
  have hl : lv_has ls 3 [(0, .ref mo)] := hl
  have i9 : ∀ w ∈ wsX90, w ∈ wsX9_rowsOf := by decide +kernel
  refine lv_iconst (v := nI 1) gx gb dX9_rowsOf_0 (by decide) ?_
  refine lv_istore_n (lv' := [(1, .int (nI 1)), (0, .ref mo)]) gx gb dX9_rowsOf_1 rfl hl (by decide) rfl (fun ls hl => ?_)
  refine lv_iconst (v := nI 2) gx gb dX9_rowsOf_2 (by decide) ?_
  refine lv_istore_n (lv' := [(2, .int (nI 2)), (1, .int (nI 1)), (0, .ref mo)]) gx gb dX9_rowsOf_3 rfl hl (by decide) rfl (fun ls hl => ?_)
  have L4 : ∀ fu : Nat, ∀ (i : Nat) (hi1 : 1 ≤ i) (hi : i ≤ q), (q - i) < fu → ∀ ls : Array Slot, lv_has ls 3 [(1, .int (nI (fac i))), (2, .int (nI (i + 1))), (0, .ref mo)] → W Gp Gl Ge (headSpec wsX9_rowsOf ({ frames := 0, cells := 0, slots := 0, locals := 0 } : Room)).room Gs Gm ([.ref mo] : List Value).toArray Gw Gt Gc Gs.heap [] 0 0 (MQ Gw (vp_Si (fun r : Int32 => r = nI (fac q))) ([.ref mo] : List Value).toArray Gs 0 0 (fun _ => False)) (F0 Gm 4 ls []) := by
    intro fu
    induction fu with
    | zero => intro i hi1 hi hfu; exact absurd hfu (Nat.not_lt_zero _)
    | succ fu ih4 =>
      intro i hi1 hi hfu ls hl
      refine lv_iload_n gx gb dX9_rowsOf_4 rfl (lv_at hl 1 rfl) ?_
      refine lv_aload_n gx gb dX9_rowsOf_5 rfl (lv_at hl 2 rfl) ?_
      refine va_get (D := D) (ci := 4) (v := .int (nI q)) (C := RX9) (T := TX9) (N := 19) gx gb gts i9 gown hK hP 0 rfl rfl 1 (by decide) (gts (.fieldLink RX9 13 "SwanSumsModel" "many" "I") (by decide +kernel)) (fun _ h9 => h9) rfl dX9_rowsOf_6 ?_
      refine lv_icmp_gt (tgt := 22) gx gb dX9_rowsOf_9 (by decide) (fun c9 => ?_) (fun c9 => ?_)
      · skip
        rw [nI_ltI (by omega) (by omega)] at c9
        refine lv_iload_n gx gb dX9_rowsOf_22 rfl (lv_at hl 0 rfl) ?_
        exact W.iret (v := nI (fac i)) gx gb gr (fun t ht hW => ⟨nI (fac i), rfl, (by first | (dsimp only; done) | ((try dsimp only); rw [show i = q by omega])), ht⟩) (fun q h => by cases h) dX9_rowsOf_23
      · skip
        rw [nI_ltI (by omega) (by omega)] at c9
        refine lv_iload_n gx gb dX9_rowsOf_12 rfl (lv_at hl 0 rfl) ?_
        refine lv_iload_n gx gb dX9_rowsOf_13 rfl (lv_at hl 1 rfl) ?_
        refine lv_imul gx gb dX9_rowsOf_14 ?_
        refine lv_evi (nI ((fac i) * (i + 1))) (pk_mul (fac i) (i + 1)) ?_
        refine lv_istore_n (lv' := [(1, .int (nI ((fac i) * (i + 1)))), (2, .int (nI (i + 1))), (0, .ref mo)]) gx gb dX9_rowsOf_15 rfl hl (by decide) rfl (fun ls hl => ?_)
        refine lv_iinc (v := nI (i + 1 + 1)) (lv' := [(2, .int (nI (i + 1 + 1))), (1, .int (nI ((fac i) * (i + 1)))), (0, .ref mo)]) gx gb dX9_rowsOf_16 hl (k := 1) rfl (nI_add (i + 1) 1) (by decide) rfl (fun ls hl => ?_)
        refine lv_goto (tgt := 4) gx gb dX9_rowsOf_19 (by decide) ?_
        exact ih4 (i + 1) (by omega) (by omega) (by omega) ls (lv_sub hl [1, 0, 2] rfl)
  exact L4 _ 1 (by omega) (by omega) (Nat.lt_succ_self _) ls (lv_sub hl [1, 0, 2] rfl)

set_option maxHeartbeats 4000000 in
set_option maxRecDepth 100000 in
theorem kX9_goEvent (Gl : Launch) (D : va_G) (cI cJ cZ : ClassId) (mo : Nat) (ma : Nat) (mb : Nat) (mc : Nat) (md : Nat) (me : Nat) (mf : Nat) (mg : Nat) (mh : Nat) (mi : Nat) (mj : Nat) (mk : Nat) (ml : Nat) (mn : Nat) (n : Nat) (q : Nat) (c : Nat) (w : Nat) (ev : Nat) (num : Nat → Nat) (plc : Nat → Nat) (sig : Nat → Nat) (pad : Nat → Nat) (row : Nat → Nat) (dig : Nat → Nat) (far : Nat → Int32) (cfr : Nat → Nat) (cby : Nat → Nat) (que : Nat → Nat) (has : Nat → Nat) (img : Nat → Nat) (kep : Nat → Nat) (sz : Nat) (e : Nat) (hq1 : 1 ≤ q) (hq7 : q ≤ 7) (he : e < 3 * q) : Met Gl yX9_goEvent wsX9_goEvent ({ frames := 2, cells := 0, slots := 0, locals := 45 } : Room) (va_Pc [.ref mo, .int (nI e)] (fun U => U.heap.size = sz ∧ va_P D vwCl (wM mo ma mb mc md me mf mg mh mi mj mk ml mn cI cZ n q c w q ev num plc sig pad row dig far cfr cby que has img kep) U.heap ∧ va_K D vwCl [(cI, .int), (cJ, .long), (cZ, .boolean)] U ∧ va_D (fun _ => True) (wM mo ma mb mc md me mf mg mh mi mj mk ml mn cI cZ n q c w q ev num plc sig pad row dig far cfr cby que has img kep))) (va_Qv (fun u : Unit => True) (fun (u : Unit) t => va_P D vwCl (wM mo ma mb mc md me mf mg mh mi mj mk ml mn cI cZ n q c w q ev num plc sig pad (evF q e row) dig far cfr cby que has img kep) t.heap ∧ va_K D vwCl [(cI, .int), (cJ, .long), (cZ, .boolean)] t ∧ va_D (va_A (wM mo ma mb mc md me mf mg mh mi mj mk ml mn cI cZ n q c w q ev num plc sig pad row dig far cfr cby que has img kep) sz) (wM mo ma mb mc md me mf mg mh mi mj mk ml mn cI cZ n q c w q ev num plc sig pad (evF q e row) dig far cfr cby que has img kep)) (va_A (wM mo ma mb mc md me mf mg mh mi mj mk ml mn cI cZ n q c w q ev num plc sig pad row dig far cfr cby que has img kep) sz)) 0 0 (va_A (wM mo ma mb mc md me mf mg mh mi mj mk ml mn cI cZ n q c w q ev num plc sig pad row dig far cfr cby que has img kep) sz) := by
  refine Met.ofW (cc := cX9_goEvent) (maxL := 2) (ret := none) (by decide +kernel) rfl ?_
  intro Gp Ge Gs Gm Ga Gw Gt Gc G1 Bd gml gv
  obtain ⟨rfl, hsz, hP, hK, hD0⟩ := gv
  have gx := Bd.exec
  have gb := Bd.bytes
  have gr := Bd.returns
  have gts := atoms_spec (ws := wsX9_goEvent) Bd.pre
  have gown : Gs.vm.findClass RX9 = some Gm.cls := findClass_of_methodNamed Bd.named
  have glk := Bd.notSynchronized
  subst hsz
  have hD := hD0.self (sz := Gs.heap.size)
  generalize hAe : va_A (wM mo ma mb mc md me mf mg mh mi mj mk ml mn cI cZ n q c w q ev num plc sig pad row dig far cfr cby que has img kep) Gs.heap.size = A at hD ⊢
  have hA : ∀ q : Nat, Gs.heap.size ≤ q → A q := fun q h => by rw [← hAe]; exact Or.inr h
  have hS : va_S A Gs.heap Gs.heap [] := va_S.rf
  have hP : va_P D vwCl (wM mo ma mb mc md me mf mg mh mi mj mk ml mn cI cZ n q c w q ev num plc sig pad row dig far cfr cby que has img kep) Gs.heap := hP
  have hl := lv_entry ([.ref mo, .int (nI e)]) (n := 2) (Nat.le_of_ble_eq_true rfl)
  rw [lg_entry_eq]
  generalize (lg_sl ([.ref mo, .int (nI e)]) ++ List.replicate (2 - (lg_sl ([.ref mo, .int (nI e)])).length) Slot.unset).toArray = ls at hl ⊢
  have hl : lv_has ls 2 [(0, .ref mo), (1, .int (nI e))] := hl
  have i9 : ∀ w ∈ wsX90, w ∈ wsX9_goEvent := by decide +kernel
  refine lv_iload_n gx gb dX9_goEvent_0 rfl (lv_at hl 1 rfl) ?_
  refine lv_aload_n gx gb dX9_goEvent_1 rfl (lv_at hl 0 rfl) ?_
  refine va_get (D := D) (ci := 4) (v := .int (nI q)) (C := RX9) (T := TX9) (N := 19) gx gb gts i9 gown hK hP 0 rfl rfl 1 (by decide) (gts (.fieldLink RX9 13 "SwanSumsModel" "many" "I") (by decide +kernel)) (fun _ h9 => h9) rfl dX9_goEvent_2 ?_
  refine lv_icmp_ge (tgt := 16) gx gb dX9_goEvent_5 (by decide) (fun c5 => ?_) (fun c5 => ?_)
  · skip
    rw [nI_leI (by omega) (by omega)] at c5
    refine lv_iload_n gx gb dX9_goEvent_16 rfl (lv_at hl 1 rfl) ?_
    refine lv_iconst (v := nI 2) gx gb dX9_goEvent_17 (by decide) ?_
    refine lv_aload_n gx gb dX9_goEvent_18 rfl (lv_at hl 0 rfl) ?_
    refine va_get (D := D) (ci := 4) (v := .int (nI q)) (C := RX9) (T := TX9) (N := 19) gx gb gts i9 gown hK hP 0 rfl rfl 1 (by decide) (gts (.fieldLink RX9 13 "SwanSumsModel" "many" "I") (by decide +kernel)) (fun _ h9 => h9) rfl dX9_goEvent_19 ?_
    refine lv_imul gx gb dX9_goEvent_22 ?_
    refine lv_evi (nI (2 * q)) (pk_mul 2 q) ?_
    refine lv_icmp_ge (tgt := 39) gx gb dX9_goEvent_23 (by decide) (fun c23 => ?_) (fun c23 => ?_)
    · skip
      rw [nI_leI (by omega) (by omega)] at c23
      refine lv_iload_n gx gb dX9_goEvent_39 rfl (lv_at hl 1 rfl) ?_
      refine lv_iconst (v := nI 2) gx gb dX9_goEvent_40 (by decide) ?_
      refine lv_aload_n gx gb dX9_goEvent_41 rfl (lv_at hl 0 rfl) ?_
      refine va_get (D := D) (ci := 4) (v := .int (nI q)) (C := RX9) (T := TX9) (N := 19) gx gb gts i9 gown hK hP 0 rfl rfl 1 (by decide) (gts (.fieldLink RX9 13 "SwanSumsModel" "many" "I") (by decide +kernel)) (fun _ h9 => h9) rfl dX9_goEvent_42 ?_
      refine lv_imul gx gb dX9_goEvent_45 ?_
      refine lv_evi (nI (2 * q)) (pk_mul 2 q) ?_
      refine lv_icmp_ne (tgt := 56) gx gb dX9_goEvent_46 (by decide) (fun c46 => ?_) (fun c46 => ?_)
      · skip
        rw [nI_eq (by omega) (by omega)] at c46
        refine lv_aload_n gx gb dX9_goEvent_56 rfl (lv_at hl 0 rfl) ?_
        refine lv_iload_n gx gb dX9_goEvent_57 rfl (lv_at hl 1 rfl) ?_
        refine lv_iconst (v := nI 2) gx gb dX9_goEvent_58 (by decide) ?_
        refine lv_aload_n gx gb dX9_goEvent_59 rfl (lv_at hl 0 rfl) ?_
        refine va_get (D := D) (ci := 4) (v := .int (nI q)) (C := RX9) (T := TX9) (N := 19) gx gb gts i9 gown hK hP 0 rfl rfl 1 (by decide) (gts (.fieldLink RX9 13 "SwanSumsModel" "many" "I") (by decide +kernel)) (fun _ h9 => h9) rfl dX9_goEvent_60 ?_
        refine lv_imul gx gb dX9_goEvent_63 ?_
        refine lv_evi (nI (2 * q)) (pk_mul 2 q) ?_
        refine lv_isub gx gb dX9_goEvent_64 ?_
        refine lv_evi (nI (e - (2 * q))) (e_sub (by omega)) ?_
        refine lv_iconst (v := nI 1) gx gb dX9_goEvent_65 (by decide) ?_
        refine lv_isub gx gb dX9_goEvent_66 ?_
        refine lv_evi (nI ((e - (2 * q)) - 1)) (e_sub (by omega)) ?_
        refine lv_iload_n gx gb dX9_goEvent_67 rfl (lv_at hl 1 rfl) ?_
        refine lv_iconst (v := nI 2) gx gb dX9_goEvent_68 (by decide) ?_
        refine lv_aload_n gx gb dX9_goEvent_69 rfl (lv_at hl 0 rfl) ?_
        refine va_get (D := D) (ci := 4) (v := .int (nI q)) (C := RX9) (T := TX9) (N := 19) gx gb gts i9 gown hK hP 0 rfl rfl 1 (by decide) (gts (.fieldLink RX9 13 "SwanSumsModel" "many" "I") (by decide +kernel)) (fun _ h9 => h9) rfl dX9_goEvent_70 ?_
        refine lv_imul gx gb dX9_goEvent_73 ?_
        refine lv_evi (nI (2 * q)) (pk_mul 2 q) ?_
        refine lv_isub gx gb dX9_goEvent_74 ?_
        refine lv_evi (nI (e - (2 * q))) (e_sub (by omega)) ?_
        have hPc := hP.sub (ws' := wM mo ma mb mc md me mf mg mh mi mj mk ml mn cI cZ n q c w q ev num plc sig pad row dig far cfr cby que has img kep) [0, 1, 2, 3, 4, 5, 6, 7, 8, 9, 10, 11, 12, 13] rfl
        have hDc := hD.sub (ws' := wM mo ma mb mc md me mf mg mh mi mj mk ml mn cI cZ n q c w q ev num plc sig pad row dig far cfr cby que has img kep) [0, 1, 2, 3, 4, 5, 6, 7, 8, 9, 10, 11, 12, 13] (by decide) rfl
        have hFc := va_free (wc := wM mo ma mb mc md me mf mg mh mi mj mk ml mn cI cZ n q c w q ev num plc sig pad row dig far cfr cby que has img kep) hD hS hA [0, 1, 2, 3, 4, 5, 6, 7, 8, 9, 10, 11, 12, 13] rfl
        refine va_callv (va_runV (As := [.int (nI ((e - (2 * q)) - 1)), .int (nI (e - (2 * q)))]) (rest := []) ⟨gx, gb, gml, gown, gts⟩ (kX9_change Gl D cI cJ cZ mo ma mb mc md me mf mg mh mi mj mk ml mn n q c w q ev num plc sig pad row dig far cfr cby que has img kep _ ((e - (2 * q)) - 1) (e - (2 * q)) (by omega) (by omega)) (cwV 2 gts gX9_goEvent_X9_change rfl rfl rfl (by decide +kernel) ⟨Nat.le_of_ble_eq_true rfl, Nat.le_of_ble_eq_true rfl⟩) ⟨fun a U g mk q => by obtain ⟨q0, q1, qP, qK, qD⟩ := q; exact ⟨q0, q1, qP, va_K.moved (u := U) (U := U.calling g mk a) (Vm.Alike.refl U.vm) qK, qD⟩, va_recv hK hPc (ci := 4) (q0 := 0) rfl rfl, fun U hU hW => ⟨rfl, by rw [hU], by rw [hU]; exact hPc, va_K.moved hW.alike hK, hDc.weaken (fun _ _ _ _ => trivial)⟩⟩ rfl rfl hl.1 rfl (lv_room (Nat.le_of_ble_eq_true rfl)) dX9_goEvent_75 ⟨Nat.le_of_ble_eq_true rfl, Nat.le_of_ble_eq_true rfl⟩) hS (fun q _ h => hFc q h) hFc (fun u t H1 locs ht hvm hw hB hz1 hk1 hS => ?_)
        obtain ⟨hP1, hK1, hD1⟩ := hB
        rw [ht] at hP1
        try dsimp only at hw
        try dsimp only at hP1
        try dsimp only at hD1
        have hK := va_K.moved hvm.symm hK1
        obtain ⟨hP, hD⟩ := va_join (wr := []) (w1 := wM mo ma mb mc md me mf mg mh mi mj mk ml mn cI cZ n q c w q ev num plc sig pad (swp ((e - (2 * q)) - 1) (e - (2 * q)) row) dig far cfr cby que has img kep) hP hD [0, 1, 2, 3, 4, 5, 6, 7, 8, 9, 10, 11, 12, 13] [] rfl rfl (by decide) (by decide) hk1 hFc hP1 hD1
        have hP := hP.sub (ws' := wM mo ma mb mc md me mf mg mh mi mj mk ml mn cI cZ n q c w q ev num plc sig pad (swp ((e - (2 * q)) - 1) (e - (2 * q)) row) dig far cfr cby que has img kep) [0, 1, 2, 3, 4, 5, 6, 7, 8, 9, 10, 11, 12, 13] rfl
        have hD := hD.sub (ws' := wM mo ma mb mc md me mf mg mh mi mj mk ml mn cI cZ n q c w q ev num plc sig pad (swp ((e - (2 * q)) - 1) (e - (2 * q)) row) dig far cfr cby que has img kep) [0, 1, 2, 3, 4, 5, 6, 7, 8, 9, 10, 11, 12, 13] (by decide) rfl
        have hK := va_K.moved (Vm.Alike.refl Gs.vm) hK
        generalize H1 = H at hP hS ⊢
        have e_row : (swp ((e - (2 * q)) - 1) (e - (2 * q)) row) = (evF q e row) := by first | (rw [evF, if_pos (by omega)]; done) | (rw [evF, if_neg (by omega), if_pos (by omega)]; done) | (rw [evF, if_neg (by omega), if_neg (by omega), if_pos (by omega)]; done) | (rw [evF, if_neg (by omega), if_neg (by omega), if_neg (by omega)])
        have hP : va_P D vwCl (wM mo ma mb mc md me mf mg mh mi mj mk ml mn cI cZ n q c w q ev num plc sig pad (evF q e row) dig far cfr cby que has img kep) H := by rw [← e_row]; exact hP
        have hD : va_D A (wM mo ma mb mc md me mf mg mh mi mj mk ml mn cI cZ n q c w q ev num plc sig pad (evF q e row) dig far cfr cby que has img kep) := by rw [← e_row]; exact hD
        exact W.vret gx gb gr (fun t ht hW => ⟨⟨(), rfl, (by first | (dsimp only; done) | ((try dsimp only); trivial)), by rw [ht]; exact hP, va_K.moved hW.alike hK, hD⟩, hS.F ht⟩) hS.2.2 dX9_goEvent_78
      · skip
        rw [nI_eq (by omega) (by omega)] at c46
        refine lv_aload_n gx gb dX9_goEvent_49 rfl (lv_at hl 0 rfl) ?_
        have hPc := hP.sub (ws' := wM mo ma mb mc md me mf mg mh mi mj mk ml mn cI cZ n q c w q ev num plc sig pad row dig far cfr cby que has img kep) [0, 1, 2, 3, 4, 5, 6, 7, 8, 9, 10, 11, 12, 13] rfl
        have hDc := hD.sub (ws' := wM mo ma mb mc md me mf mg mh mi mj mk ml mn cI cZ n q c w q ev num plc sig pad row dig far cfr cby que has img kep) [0, 1, 2, 3, 4, 5, 6, 7, 8, 9, 10, 11, 12, 13] (by decide) rfl
        have hFc := va_free (wc := wM mo ma mb mc md me mf mg mh mi mj mk ml mn cI cZ n q c w q ev num plc sig pad row dig far cfr cby que has img kep) hD hS hA [0, 1, 2, 3, 4, 5, 6, 7, 8, 9, 10, 11, 12, 13] rfl
        refine va_callv (va_runV (As := []) (rest := []) ⟨gx, gb, gml, gown, gts⟩ (kX9_rain Gl D cI cJ cZ mo ma mb mc md me mf mg mh mi mj mk ml mn n q c w q ev num plc sig pad row dig far cfr cby que has img kep _  (by omega)) (cwV 0 gts gX9_goEvent_X9_rain rfl rfl rfl (by decide +kernel) ⟨Nat.le_of_ble_eq_true rfl, Nat.le_of_ble_eq_true rfl⟩) ⟨fun a U g mk q => by obtain ⟨q0, q1, qP, qK, qD⟩ := q; exact ⟨q0, q1, qP, va_K.moved (u := U) (U := U.calling g mk a) (Vm.Alike.refl U.vm) qK, qD⟩, va_recv hK hPc (ci := 4) (q0 := 0) rfl rfl, fun U hU hW => ⟨rfl, by rw [hU], by rw [hU]; exact hPc, va_K.moved hW.alike hK, hDc.weaken (fun _ _ _ _ => trivial)⟩⟩ rfl rfl hl.1 rfl (lv_room (Nat.le_of_ble_eq_true rfl)) dX9_goEvent_50 ⟨Nat.le_of_ble_eq_true rfl, Nat.le_of_ble_eq_true rfl⟩) hS (fun q _ h => hFc q h) hFc (fun u t H1 locs ht hvm hw hB hz1 hk1 hS => ?_)
        obtain ⟨hP1, hK1, hD1⟩ := hB
        rw [ht] at hP1
        try dsimp only at hw
        try dsimp only at hP1
        try dsimp only at hD1
        have hK := va_K.moved hvm.symm hK1
        obtain ⟨hP, hD⟩ := va_join (wr := []) (w1 := wM mo ma mb mc md me mf mg mh mi mj mk ml mn cI cZ n q c w q ev num plc sig pad (rainF q row) dig far cfr cby que has img kep) hP hD [0, 1, 2, 3, 4, 5, 6, 7, 8, 9, 10, 11, 12, 13] [] rfl rfl (by decide) (by decide) hk1 hFc hP1 hD1
        have hP := hP.sub (ws' := wM mo ma mb mc md me mf mg mh mi mj mk ml mn cI cZ n q c w q ev num plc sig pad (rainF q row) dig far cfr cby que has img kep) [0, 1, 2, 3, 4, 5, 6, 7, 8, 9, 10, 11, 12, 13] rfl
        have hD := hD.sub (ws' := wM mo ma mb mc md me mf mg mh mi mj mk ml mn cI cZ n q c w q ev num plc sig pad (rainF q row) dig far cfr cby que has img kep) [0, 1, 2, 3, 4, 5, 6, 7, 8, 9, 10, 11, 12, 13] (by decide) rfl
        have hK := va_K.moved (Vm.Alike.refl Gs.vm) hK
        generalize H1 = H at hP hS ⊢
        refine lv_goto (tgt := 78) gx gb dX9_goEvent_53 (by decide) ?_
        have e_row : (rainF q row) = (evF q e row) := by first | (rw [evF, if_pos (by omega)]; done) | (rw [evF, if_neg (by omega), if_pos (by omega)]; done) | (rw [evF, if_neg (by omega), if_neg (by omega), if_pos (by omega)]; done) | (rw [evF, if_neg (by omega), if_neg (by omega), if_neg (by omega)])
        have hP : va_P D vwCl (wM mo ma mb mc md me mf mg mh mi mj mk ml mn cI cZ n q c w q ev num plc sig pad (evF q e row) dig far cfr cby que has img kep) H := by rw [← e_row]; exact hP
        have hD : va_D A (wM mo ma mb mc md me mf mg mh mi mj mk ml mn cI cZ n q c w q ev num plc sig pad (evF q e row) dig far cfr cby que has img kep) := by rw [← e_row]; exact hD
        exact W.vret gx gb gr (fun t ht hW => ⟨⟨(), rfl, (by first | (dsimp only; done) | ((try dsimp only); trivial)), by rw [ht]; exact hP, va_K.moved hW.alike hK, hD⟩, hS.F ht⟩) hS.2.2 dX9_goEvent_78
    · skip
      rw [nI_leI (by omega) (by omega)] at c23
      refine lv_aload_n gx gb dX9_goEvent_26 rfl (lv_at hl 0 rfl) ?_
      refine lv_iload_n gx gb dX9_goEvent_27 rfl (lv_at hl 1 rfl) ?_
      refine lv_aload_n gx gb dX9_goEvent_28 rfl (lv_at hl 0 rfl) ?_
      refine va_get (D := D) (ci := 4) (v := .int (nI q)) (C := RX9) (T := TX9) (N := 19) gx gb gts i9 gown hK hP 0 rfl rfl 1 (by decide) (gts (.fieldLink RX9 13 "SwanSumsModel" "many" "I") (by decide +kernel)) (fun _ h9 => h9) rfl dX9_goEvent_29 ?_
      refine lv_isub gx gb dX9_goEvent_32 ?_
      refine lv_evi (nI (e - q)) (e_sub (by omega)) ?_
      have hPc := hP.sub (ws' := wM mo ma mb mc md me mf mg mh mi mj mk ml mn cI cZ n q c w q ev num plc sig pad row dig far cfr cby que has img kep) [0, 1, 2, 3, 4, 5, 6, 7, 8, 9, 10, 11, 12, 13] rfl
      have hDc := hD.sub (ws' := wM mo ma mb mc md me mf mg mh mi mj mk ml mn cI cZ n q c w q ev num plc sig pad row dig far cfr cby que has img kep) [0, 1, 2, 3, 4, 5, 6, 7, 8, 9, 10, 11, 12, 13] (by decide) rfl
      have hFc := va_free (wc := wM mo ma mb mc md me mf mg mh mi mj mk ml mn cI cZ n q c w q ev num plc sig pad row dig far cfr cby que has img kep) hD hS hA [0, 1, 2, 3, 4, 5, 6, 7, 8, 9, 10, 11, 12, 13] rfl
      refine va_callv (va_runV (As := [.int (nI (e - q))]) (rest := []) ⟨gx, gb, gml, gown, gts⟩ (kX9_pike Gl D cI cJ cZ mo ma mb mc md me mf mg mh mi mj mk ml mn n q c w q ev num plc sig pad row dig far cfr cby que has img kep _ (e - q) (by omega) (by omega)) (cwV 1 gts gX9_goEvent_X9_pike rfl rfl rfl (by decide +kernel) ⟨Nat.le_of_ble_eq_true rfl, Nat.le_of_ble_eq_true rfl⟩) ⟨fun a U g mk q => by obtain ⟨q0, q1, qP, qK, qD⟩ := q; exact ⟨q0, q1, qP, va_K.moved (u := U) (U := U.calling g mk a) (Vm.Alike.refl U.vm) qK, qD⟩, va_recv hK hPc (ci := 4) (q0 := 0) rfl rfl, fun U hU hW => ⟨rfl, by rw [hU], by rw [hU]; exact hPc, va_K.moved hW.alike hK, hDc.weaken (fun _ _ _ _ => trivial)⟩⟩ rfl rfl hl.1 rfl (lv_room (Nat.le_of_ble_eq_true rfl)) dX9_goEvent_33 ⟨Nat.le_of_ble_eq_true rfl, Nat.le_of_ble_eq_true rfl⟩) hS (fun q _ h => hFc q h) hFc (fun u t H1 locs ht hvm hw hB hz1 hk1 hS => ?_)
      obtain ⟨hP1, hK1, hD1⟩ := hB
      rw [ht] at hP1
      try dsimp only at hw
      try dsimp only at hP1
      try dsimp only at hD1
      have hK := va_K.moved hvm.symm hK1
      obtain ⟨hP, hD⟩ := va_join (wr := []) (w1 := wM mo ma mb mc md me mf mg mh mi mj mk ml mn cI cZ n q c w q ev num plc sig pad (pikeF (e - q) (q - 1) row) dig far cfr cby que has img kep) hP hD [0, 1, 2, 3, 4, 5, 6, 7, 8, 9, 10, 11, 12, 13] [] rfl rfl (by decide) (by decide) hk1 hFc hP1 hD1
      have hP := hP.sub (ws' := wM mo ma mb mc md me mf mg mh mi mj mk ml mn cI cZ n q c w q ev num plc sig pad (pikeF (e - q) (q - 1) row) dig far cfr cby que has img kep) [0, 1, 2, 3, 4, 5, 6, 7, 8, 9, 10, 11, 12, 13] rfl
      have hD := hD.sub (ws' := wM mo ma mb mc md me mf mg mh mi mj mk ml mn cI cZ n q c w q ev num plc sig pad (pikeF (e - q) (q - 1) row) dig far cfr cby que has img kep) [0, 1, 2, 3, 4, 5, 6, 7, 8, 9, 10, 11, 12, 13] (by decide) rfl
      have hK := va_K.moved (Vm.Alike.refl Gs.vm) hK
      generalize H1 = H at hP hS ⊢
      refine lv_goto (tgt := 78) gx gb dX9_goEvent_36 (by decide) ?_
      have e_row : (pikeF (e - q) (q - 1) row) = (evF q e row) := by first | (rw [evF, if_pos (by omega)]; done) | (rw [evF, if_neg (by omega), if_pos (by omega)]; done) | (rw [evF, if_neg (by omega), if_neg (by omega), if_pos (by omega)]; done) | (rw [evF, if_neg (by omega), if_neg (by omega), if_neg (by omega)])
      have hP : va_P D vwCl (wM mo ma mb mc md me mf mg mh mi mj mk ml mn cI cZ n q c w q ev num plc sig pad (evF q e row) dig far cfr cby que has img kep) H := by rw [← e_row]; exact hP
      have hD : va_D A (wM mo ma mb mc md me mf mg mh mi mj mk ml mn cI cZ n q c w q ev num plc sig pad (evF q e row) dig far cfr cby que has img kep) := by rw [← e_row]; exact hD
      exact W.vret gx gb gr (fun t ht hW => ⟨⟨(), rfl, (by first | (dsimp only; done) | ((try dsimp only); trivial)), by rw [ht]; exact hP, va_K.moved hW.alike hK, hD⟩, hS.F ht⟩) hS.2.2 dX9_goEvent_78
  · skip
    rw [nI_leI (by omega) (by omega)] at c5
    refine lv_aload_n gx gb dX9_goEvent_8 rfl (lv_at hl 0 rfl) ?_
    refine lv_iload_n gx gb dX9_goEvent_9 rfl (lv_at hl 1 rfl) ?_
    have hPc := hP.sub (ws' := wM mo ma mb mc md me mf mg mh mi mj mk ml mn cI cZ n q c w q ev num plc sig pad row dig far cfr cby que has img kep) [0, 1, 2, 3, 4, 5, 6, 7, 8, 9, 10, 11, 12, 13] rfl
    have hDc := hD.sub (ws' := wM mo ma mb mc md me mf mg mh mi mj mk ml mn cI cZ n q c w q ev num plc sig pad row dig far cfr cby que has img kep) [0, 1, 2, 3, 4, 5, 6, 7, 8, 9, 10, 11, 12, 13] (by decide) rfl
    have hFc := va_free (wc := wM mo ma mb mc md me mf mg mh mi mj mk ml mn cI cZ n q c w q ev num plc sig pad row dig far cfr cby que has img kep) hD hS hA [0, 1, 2, 3, 4, 5, 6, 7, 8, 9, 10, 11, 12, 13] rfl
    refine va_callv (va_runV (As := [.int (nI e)]) (rest := []) ⟨gx, gb, gml, gown, gts⟩ (kX9_bread Gl D cI cJ cZ mo ma mb mc md me mf mg mh mi mj mk ml mn n q c w q ev num plc sig pad row dig far cfr cby que has img kep _ e (by omega)) (cwV 1 gts gX9_goEvent_X9_bread rfl rfl rfl (by decide +kernel) ⟨Nat.le_of_ble_eq_true rfl, Nat.le_of_ble_eq_true rfl⟩) ⟨fun a U g mk q => by obtain ⟨q0, q1, qP, qK, qD⟩ := q; exact ⟨q0, q1, qP, va_K.moved (u := U) (U := U.calling g mk a) (Vm.Alike.refl U.vm) qK, qD⟩, va_recv hK hPc (ci := 4) (q0 := 0) rfl rfl, fun U hU hW => ⟨rfl, by rw [hU], by rw [hU]; exact hPc, va_K.moved hW.alike hK, hDc.weaken (fun _ _ _ _ => trivial)⟩⟩ rfl rfl hl.1 rfl (lv_room (Nat.le_of_ble_eq_true rfl)) dX9_goEvent_10 ⟨Nat.le_of_ble_eq_true rfl, Nat.le_of_ble_eq_true rfl⟩) hS (fun q _ h => hFc q h) hFc (fun u t H1 locs ht hvm hw hB hz1 hk1 hS => ?_)
    obtain ⟨hP1, hK1, hD1⟩ := hB
    rw [ht] at hP1
    try dsimp only at hw
    try dsimp only at hP1
    try dsimp only at hD1
    have hK := va_K.moved hvm.symm hK1
    obtain ⟨hP, hD⟩ := va_join (wr := []) (w1 := wM mo ma mb mc md me mf mg mh mi mj mk ml mn cI cZ n q c w q ev num plc sig pad (breadF e row) dig far cfr cby que has img kep) hP hD [0, 1, 2, 3, 4, 5, 6, 7, 8, 9, 10, 11, 12, 13] [] rfl rfl (by decide) (by decide) hk1 hFc hP1 hD1
    have hP := hP.sub (ws' := wM mo ma mb mc md me mf mg mh mi mj mk ml mn cI cZ n q c w q ev num plc sig pad (breadF e row) dig far cfr cby que has img kep) [0, 1, 2, 3, 4, 5, 6, 7, 8, 9, 10, 11, 12, 13] rfl
    have hD := hD.sub (ws' := wM mo ma mb mc md me mf mg mh mi mj mk ml mn cI cZ n q c w q ev num plc sig pad (breadF e row) dig far cfr cby que has img kep) [0, 1, 2, 3, 4, 5, 6, 7, 8, 9, 10, 11, 12, 13] (by decide) rfl
    have hK := va_K.moved (Vm.Alike.refl Gs.vm) hK
    generalize H1 = H at hP hS ⊢
    refine lv_goto (tgt := 78) gx gb dX9_goEvent_13 (by decide) ?_
    have e_row : (breadF e row) = (evF q e row) := by first | (rw [evF, if_pos (by omega)]; done) | (rw [evF, if_neg (by omega), if_pos (by omega)]; done) | (rw [evF, if_neg (by omega), if_neg (by omega), if_pos (by omega)]; done) | (rw [evF, if_neg (by omega), if_neg (by omega), if_neg (by omega)])
    have hP : va_P D vwCl (wM mo ma mb mc md me mf mg mh mi mj mk ml mn cI cZ n q c w q ev num plc sig pad (evF q e row) dig far cfr cby que has img kep) H := by rw [← e_row]; exact hP
    have hD : va_D A (wM mo ma mb mc md me mf mg mh mi mj mk ml mn cI cZ n q c w q ev num plc sig pad (evF q e row) dig far cfr cby que has img kep) := by rw [← e_row]; exact hD
    exact W.vret gx gb gr (fun t ht hW => ⟨⟨(), rfl, (by first | (dsimp only; done) | ((try dsimp only); trivial)), by rw [ht]; exact hP, va_K.moved hW.alike hK, hD⟩, hS.F ht⟩) hS.2.2 dX9_goEvent_78

