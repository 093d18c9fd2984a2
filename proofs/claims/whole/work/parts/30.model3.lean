
set_option maxHeartbeats 4000000 in
set_option maxRecDepth 100000 in
theorem kX9_plain (Gl : Launch) (D : va_G) (cI cJ cZ : ClassId) (mo : Nat) (ma : Nat) (mb : Nat) (mc : Nat) (md : Nat) (me : Nat) (mf : Nat) (mg : Nat) (mh : Nat) (mi : Nat) (mj : Nat) (mk : Nat) (ml : Nat) (mn : Nat) (n : Nat) (q : Nat) (c : Nat) (w : Nat) (z : Nat) (ev : Nat) (num : Nat → Nat) (plc : Nat → Nat) (sig : Nat → Nat) (pad : Nat → Nat) (row : Nat → Nat) (dig : Nat → Nat) (far : Nat → Int32) (cfr : Nat → Nat) (cby : Nat → Nat) (que : Nat → Nat) (has : Nat → Nat) (img : Nat → Nat) (kep : Nat → Nat) (sz : Nat) : Met Gl yX9_plain wsX9_plain ({ frames := 0, cells := 0, slots := 0, locals := 0 } : Room) (va_Pc [.ref mo] (fun U => U.heap.size = sz ∧ va_P D vwCl (wM mo ma mb mc md me mf mg mh mi mj mk ml mn cI cZ n q c w z ev num plc sig pad row dig far cfr cby que has img kep) U.heap ∧ va_K D vwCl [(cI, .int), (cJ, .long), (cZ, .boolean)] U ∧ va_D (fun _ => True) (wM mo ma mb mc md me mf mg mh mi mj mk ml mn cI cZ n q c w z ev num plc sig pad row dig far cfr cby que has img kep))) (va_Qv (fun u : Unit => True) (fun (u : Unit) t => va_P D vwCl (wM mo ma mb mc md me mf mg mh mi mj mk ml mn cI cZ n n 0 w z ev (cpy (fun k => k + 1) num 7) (cpy (fun k => k) plc 7) sig pad row dig far cfr cby que has img kep) t.heap ∧ va_K D vwCl [(cI, .int), (cJ, .long), (cZ, .boolean)] t ∧ va_D (va_A (wM mo ma mb mc md me mf mg mh mi mj mk ml mn cI cZ n q c w z ev num plc sig pad row dig far cfr cby que has img kep) sz) (wM mo ma mb mc md me mf mg mh mi mj mk ml mn cI cZ n n 0 w z ev (cpy (fun k => k + 1) num 7) (cpy (fun k => k) plc 7) sig pad row dig far cfr cby que has img kep)) (va_A (wM mo ma mb mc md me mf mg mh mi mj mk ml mn cI cZ n q c w z ev num plc sig pad row dig far cfr cby que has img kep) sz)) 0 0 (va_A (wM mo ma mb mc md me mf mg mh mi mj mk ml mn cI cZ n q c w z ev num plc sig pad row dig far cfr cby que has img kep) sz) := by
  refine Met.ofW (cc := cX9_plain) (maxL := 2) (ret := none) (by decide +kernel) rfl ?_
  intro Gp Ge Gs Gm Ga Gw Gt Gc G1 Bd gml gv
  obtain ⟨rfl, hsz, hP, hK, hD0⟩ := gv
  have gx := Bd.exec
  have gb := Bd.bytes
  have gr := Bd.returns
  have gts := atoms_spec (ws := wsX9_plain) Bd.pre
  have gown : Gs.vm.findClass RX9 = some Gm.cls := findClass_of_methodNamed Bd.named
  have glk := Bd.notSynchronized
  subst hsz
  have hD := hD0.self (sz := Gs.heap.size)
  generalize hAe : va_A (wM mo ma mb mc md me mf mg mh mi mj mk ml mn cI cZ n q c w z ev num plc sig pad row dig far cfr cby que has img kep) Gs.heap.size = A at hD ⊢
  have hA : ∀ q : Nat, Gs.heap.size ≤ q → A q := fun q h => by rw [← hAe]; exact Or.inr h
  have hS : va_S A Gs.heap Gs.heap [] := va_S.rf
  have hP : va_P D vwCl (wM mo ma mb mc md me mf mg mh mi mj mk ml mn cI cZ n q c w z ev num plc sig pad row dig far cfr cby que has img kep) Gs.heap := hP
  have hl := lv_entry ([.ref mo]) (n := 2) (Nat.le_of_ble_eq_true rfl)
  rw [lg_entry_eq]
  generalize (lg_sl ([.ref mo]) ++ List.replicate (2 - (lg_sl ([.ref mo])).length) Slot.unset).toArray = ls at hl ⊢
  have hl : lv_has ls 2 [(0, .ref mo)] := hl
  have i9 : ∀ w ∈ wsX90, w ∈ wsX9_plain := by decide +kernel
  refine lv_aload_n gx gb dX9_plain_0 rfl (lv_at hl 0 rfl) ?_
  refine lv_aload_n gx gb dX9_plain_1 rfl (lv_at hl 0 rfl) ?_
  refine va_get (D := D) (ci := 4) (v := .int (nI n)) (C := RX9) (T := TX9) (N := 19) gx gb gts i9 gown hK hP 0 rfl rfl 0 (by decide) (gts (.fieldLink RX9 7 "SwanSumsModel" "all" "I") (by decide +kernel)) (fun _ h9 => h9) rfl dX9_plain_2 ?_
  refine va_put (D := D) (ci := 4) (v := .int (nI n)) (ty := .int) (C := RX9) (T := TX9) (N := 19) gx gb gts i9 tyX9 tyX9_ok nmX9 gown hK hP hD hS 0 rfl rfl 1 (by decide) (gts (.fieldLink RX9 13 "SwanSumsModel" "many" "I") (by decide +kernel)) (fun _ h9 => h9) rfl (by decide +kernel) rfl rfl (Nat.le_of_ble_eq_true rfl) dX9_plain_5 (fun H locs hP hD hS => ?_)
  have hP : va_P D vwCl (wM mo ma mb mc md me mf mg mh mi mj mk ml mn cI cZ n n c w z ev num plc sig pad row dig far cfr cby que has img kep) H := hP
  have hD : va_D A (wM mo ma mb mc md me mf mg mh mi mj mk ml mn cI cZ n n c w z ev num plc sig pad row dig far cfr cby que has img kep) := hD
  refine lv_aload_n gx gb dX9_plain_8 rfl (lv_at hl 0 rfl) ?_
  refine lv_iconst (v := nI 0) gx gb dX9_plain_9 (by decide) ?_
  refine va_put (D := D) (ci := 4) (v := .int (nI 0)) (ty := .int) (C := RX9) (T := TX9) (N := 19) gx gb gts i9 tyX9 tyX9_ok nmX9 gown hK hP hD hS 0 rfl rfl 4 (by decide) (gts (.fieldLink RX9 60 "SwanSumsModel" "sights" "I") (by decide +kernel)) (fun _ h9 => h9) rfl (by decide +kernel) rfl rfl (Nat.le_of_ble_eq_true rfl) dX9_plain_10 (fun H locs hP hD hS => ?_)
  have hP : va_P D vwCl (wM mo ma mb mc md me mf mg mh mi mj mk ml mn cI cZ n n 0 w z ev num plc sig pad row dig far cfr cby que has img kep) H := hP
  have hD : va_D A (wM mo ma mb mc md me mf mg mh mi mj mk ml mn cI cZ n n 0 w z ev num plc sig pad row dig far cfr cby que has img kep) := hD
  refine lv_iconst (v := nI 0) gx gb dX9_plain_13 (by decide) ?_
  refine lv_istore_n (lv' := [(1, .int (nI 0)), (0, .ref mo)]) gx gb dX9_plain_14 rfl hl (by decide) rfl (fun ls hl => ?_)
  have L15 : ∀ fu : Nat, ∀ (i : Nat) (hi : i ≤ 7), (7 - i) < fu → ∀ (H : Heap) (locs : List Loc), va_P D vwCl (wM mo ma mb mc md me mf mg mh mi mj mk ml mn cI cZ n n 0 w z ev (cpy (fun k => k + 1) num i) (cpy (fun k => k) plc i) sig pad row dig far cfr cby que has img kep) H → va_D A (wM mo ma mb mc md me mf mg mh mi mj mk ml mn cI cZ n n 0 w z ev (cpy (fun k => k + 1) num i) (cpy (fun k => k) plc i) sig pad row dig far cfr cby que has img kep) → va_S A Gs.heap H locs → ∀ ls : Array Slot, lv_has ls 2 [(1, .int (nI i)), (0, .ref mo)] → W Gp Gl Ge (headSpec wsX9_plain ({ frames := 0, cells := 0, slots := 0, locals := 0 } : Room)).room Gs Gm ([.ref mo] : List Value).toArray Gw Gt Gc H locs 0 0 (MQ Gw (va_Qv (fun u : Unit => True) (fun (u : Unit) t => va_P D vwCl (wM mo ma mb mc md me mf mg mh mi mj mk ml mn cI cZ n n 0 w z ev (cpy (fun k => k + 1) num 7) (cpy (fun k => k) plc 7) sig pad row dig far cfr cby que has img kep) t.heap ∧ va_K D vwCl [(cI, .int), (cJ, .long), (cZ, .boolean)] t ∧ va_D A (wM mo ma mb mc md me mf mg mh mi mj mk ml mn cI cZ n n 0 w z ev (cpy (fun k => k + 1) num 7) (cpy (fun k => k) plc 7) sig pad row dig far cfr cby que has img kep)) A) ([.ref mo] : List Value).toArray Gs 0 0 A) (F0 Gm 15 ls []) := by
    intro fu
    induction fu with
    | zero => intro i hi hfu; exact absurd hfu (Nat.not_lt_zero _)
    | succ fu ih15 =>
      intro i hi hfu H locs hP hD hS ls hl
      refine lv_iload_n gx gb dX9_plain_15 rfl (lv_at hl 0 rfl) ?_
      refine lv_bipush (v := nI 7) gx gb dX9_plain_16 (by decide) ?_
      refine lv_icmp_ge (tgt := 43) gx gb dX9_plain_18 (by decide) (fun c18 => ?_) (fun c18 => ?_)
      · skip
        rw [nI_leI (by omega) (by omega)] at c18
        have e_num : (cpy (fun k => k + 1) num i) = (cpy (fun k => k + 1) num 7) := by rw [show i = 7 by omega]
        have e_plc : (cpy (fun k => k) plc i) = (cpy (fun k => k) plc 7) := by rw [show i = 7 by omega]
        have hP : va_P D vwCl (wM mo ma mb mc md me mf mg mh mi mj mk ml mn cI cZ n n 0 w z ev (cpy (fun k => k + 1) num 7) (cpy (fun k => k) plc 7) sig pad row dig far cfr cby que has img kep) H := by rw [← e_num, ← e_plc]; exact hP
        have hD : va_D A (wM mo ma mb mc md me mf mg mh mi mj mk ml mn cI cZ n n 0 w z ev (cpy (fun k => k + 1) num 7) (cpy (fun k => k) plc 7) sig pad row dig far cfr cby que has img kep) := by rw [← e_num, ← e_plc]; exact hD
        exact W.vret gx gb gr (fun t ht hW => ⟨⟨(), rfl, (by first | (dsimp only; done) | ((try dsimp only); trivial)), by rw [ht]; exact hP, va_K.moved hW.alike hK, hD⟩, hS.F ht⟩) hS.2.2 dX9_plain_43
      · skip
        rw [nI_leI (by omega) (by omega)] at c18
        refine lv_aload_n gx gb dX9_plain_21 rfl (lv_at hl 1 rfl) ?_
        refine va_get (D := D) (ci := 4) (v := .ref ma) (C := RX9) (T := TX9) (N := 19) gx gb gts i9 gown hK hP 0 rfl rfl 2 (by decide) (gts (.fieldLink RX9 16 "SwanSumsModel" "numbers" "[I") (by decide +kernel)) (fun _ h9 => h9) rfl dX9_plain_22 ?_
        refine lv_iload_n gx gb dX9_plain_25 rfl (lv_at hl 0 rfl) ?_
        refine lv_iload_n gx gb dX9_plain_26 rfl (lv_at hl 0 rfl) ?_
        refine lv_iconst (v := nI 1) gx gb dX9_plain_27 (by decide) ?_
        refine lv_iadd gx gb dX9_plain_28 ?_
        refine lv_evi (nI (i + 1)) (nI_add i 1) ?_
        refine va_iast gx gb hK hP hD hS 1 0 rfl rfl (vp_in_nI (n := i) (by omega) (by decide)) dX9_plain_29 (fun H locs hP hD hS => ?_)
        rw [aN_st (cpy (fun k => k + 1) num i) (i + 1) (by omega)] at hP hD
        have hP : va_P D vwCl (wM mo ma mb mc md me mf mg mh mi mj mk ml mn cI cZ n n 0 w z ev (up (cpy (fun k => k + 1) num i) i (i + 1)) (cpy (fun k => k) plc i) sig pad row dig far cfr cby que has img kep) H := hP
        have hD : va_D A (wM mo ma mb mc md me mf mg mh mi mj mk ml mn cI cZ n n 0 w z ev (up (cpy (fun k => k + 1) num i) i (i + 1)) (cpy (fun k => k) plc i) sig pad row dig far cfr cby que has img kep) := hD
        refine lv_aload_n gx gb dX9_plain_30 rfl (lv_at hl 1 rfl) ?_
        refine va_get (D := D) (ci := 4) (v := .ref mb) (C := RX9) (T := TX9) (N := 19) gx gb gts i9 gown hK hP 0 rfl rfl 3 (by decide) (gts (.fieldLink RX9 20 "SwanSumsModel" "place" "[I") (by decide +kernel)) (fun _ h9 => h9) rfl dX9_plain_31 ?_
        refine lv_iload_n gx gb dX9_plain_34 rfl (lv_at hl 0 rfl) ?_
        refine lv_iload_n gx gb dX9_plain_35 rfl (lv_at hl 0 rfl) ?_
        refine va_iast gx gb hK hP hD hS 2 0 rfl rfl (vp_in_nI (n := i) (by omega) (by decide)) dX9_plain_36 (fun H locs hP hD hS => ?_)
        rw [aN_st (cpy (fun k => k) plc i) i (by omega)] at hP hD
        have hP : va_P D vwCl (wM mo ma mb mc md me mf mg mh mi mj mk ml mn cI cZ n n 0 w z ev (up (cpy (fun k => k + 1) num i) i (i + 1)) (up (cpy (fun k => k) plc i) i i) sig pad row dig far cfr cby que has img kep) H := hP
        have hD : va_D A (wM mo ma mb mc md me mf mg mh mi mj mk ml mn cI cZ n n 0 w z ev (up (cpy (fun k => k + 1) num i) i (i + 1)) (up (cpy (fun k => k) plc i) i i) sig pad row dig far cfr cby que has img kep) := hD
        refine lv_iinc (v := nI (i + 1)) (lv' := [(1, .int (nI (i + 1))), (0, .ref mo)]) gx gb dX9_plain_37 hl (k := 0) rfl (nI_add i 1) (by decide) rfl (fun ls hl => ?_)
        refine lv_goto (tgt := 15) gx gb dX9_plain_40 (by decide) ?_
        rw [cpy_s (fun k => k + 1) num i, cpy_s (fun k => k) plc i] at hP hD
        exact ih15 (i + 1) (by omega) (by omega) _ _ hP hD hS ls (lv_sub hl [0, 1] rfl)
  rw [← cpy_0 (fun k => k + 1) num, ← cpy_0 (fun k => k) plc] at hP hD
  exact L15 _ 0 (by omega) (Nat.lt_succ_self _) _ _ hP hD hS ls (lv_sub hl [0, 1] rfl)

set_option maxHeartbeats 4000000 in
set_option maxRecDepth 100000 in
theorem kX9_swans (Gl : Launch) (D : va_G) (cI cJ cZ : ClassId) (mo : Nat) (ma : Nat) (mb : Nat) (mc : Nat) (md : Nat) (me : Nat) (mf : Nat) (mg : Nat) (mh : Nat) (mi : Nat) (mj : Nat) (mk : Nat) (ml : Nat) (mn : Nat) (n : Nat) (q : Nat) (c : Nat) (w : Nat) (z : Nat) (ev : Nat) (num : Nat → Nat) (plc : Nat → Nat) (sig : Nat → Nat) (pad : Nat → Nat) (row : Nat → Nat) (dig : Nat → Nat) (far : Nat → Int32) (cfr : Nat → Nat) (cby : Nat → Nat) (que : Nat → Nat) (has : Nat → Nat) (img : Nat → Nat) (kep : Nat → Nat) (sz : Nat) (a : Int) (hl_a : -2147483648 ≤ a) (hu_a : a < 2147483648) : Met Gl yX9_swans wsX9_swans ({ frames := 1, cells := 0, slots := 0, locals := 22 } : Room) (va_Pc [.ref mo, .int (zI a)] (fun U => U.heap.size = sz ∧ va_P D vwCl (wM mo ma mb mc md me mf mg mh mi mj mk ml mn cI cZ n q c w z ev num plc sig pad row dig far cfr cby que has img kep) U.heap ∧ va_K D vwCl [(cI, .int), (cJ, .long), (cZ, .boolean)] U ∧ va_D (fun _ => True) (wM mo ma mb mc md me mf mg mh mi mj mk ml mn cI cZ n q c w z ev num plc sig pad row dig far cfr cby que has img kep))) (va_Qi (fun (r : Int32) (u : Unit) => r = zI (if 1 ≤ a ∧ a ≤ 7 then (n : Int) else -2)) (fun (u : Unit) t => va_P D vwCl (wM mo ma mb mc md me mf mg mh mi mj mk ml mn cI cZ (if 1 ≤ a ∧ a ≤ 7 then a.toNat else n) (if 1 ≤ a ∧ a ≤ 7 then a.toNat else q) (if 1 ≤ a ∧ a ≤ 7 then 0 else c) w z ev (if 1 ≤ a ∧ a ≤ 7 then cpy (fun k => k + 1) num 7 else num) (if 1 ≤ a ∧ a ≤ 7 then cpy (fun k => k) plc 7 else plc) sig pad row dig far cfr cby que has img kep) t.heap ∧ va_K D vwCl [(cI, .int), (cJ, .long), (cZ, .boolean)] t ∧ va_D (va_A (wM mo ma mb mc md me mf mg mh mi mj mk ml mn cI cZ n q c w z ev num plc sig pad row dig far cfr cby que has img kep) sz) (wM mo ma mb mc md me mf mg mh mi mj mk ml mn cI cZ (if 1 ≤ a ∧ a ≤ 7 then a.toNat else n) (if 1 ≤ a ∧ a ≤ 7 then a.toNat else q) (if 1 ≤ a ∧ a ≤ 7 then 0 else c) w z ev (if 1 ≤ a ∧ a ≤ 7 then cpy (fun k => k + 1) num 7 else num) (if 1 ≤ a ∧ a ≤ 7 then cpy (fun k => k) plc 7 else plc) sig pad row dig far cfr cby que has img kep)) (va_A (wM mo ma mb mc md me mf mg mh mi mj mk ml mn cI cZ n q c w z ev num plc sig pad row dig far cfr cby que has img kep) sz)) 0 0 (va_A (wM mo ma mb mc md me mf mg mh mi mj mk ml mn cI cZ n q c w z ev num plc sig pad row dig far cfr cby que has img kep) sz) := by
  refine Met.ofW (cc := cX9_swans) (maxL := 3) (ret := (some .int)) (by decide +kernel) rfl ?_
  intro Gp Ge Gs Gm Ga Gw Gt Gc G1 Bd gml gv
  obtain ⟨rfl, hsz, hP, hK, hD0⟩ := gv
  have gx := Bd.exec
  have gb := Bd.bytes
  have gr := Bd.returns
  have gts := atoms_spec (ws := wsX9_swans) Bd.pre
  have gown : Gs.vm.findClass RX9 = some Gm.cls := findClass_of_methodNamed Bd.named
  have glk := Bd.notSynchronized
  subst hsz
  have hD := hD0.self (sz := Gs.heap.size)
  generalize hAe : va_A (wM mo ma mb mc md me mf mg mh mi mj mk ml mn cI cZ n q c w z ev num plc sig pad row dig far cfr cby que has img kep) Gs.heap.size = A at hD ⊢
  have hA : ∀ q : Nat, Gs.heap.size ≤ q → A q := fun q h => by rw [← hAe]; exact Or.inr h
  have hS : va_S A Gs.heap Gs.heap [] := va_S.rf
  have hP : va_P D vwCl (wM mo ma mb mc md me mf mg mh mi mj mk ml mn cI cZ n q c w z ev num plc sig pad row dig far cfr cby que has img kep) Gs.heap := hP
  have hl := lv_entry ([.ref mo, .int (zI a)]) (n := 3) (Nat.le_of_ble_eq_true rfl)
  rw [lg_entry_eq]
  generalize (lg_sl ([.ref mo, .int (zI a)]) ++ List.replicate (3 - (lg_sl ([.ref mo, .int (zI a)])).length) Slot.unset).toArray = ls at hl ⊢
  have hl : lv_has ls 3 [(0, .ref mo), (1, .int (zI a))] := hl
  have i9 : ∀ w ∈ wsX90, w ∈ wsX9_swans := by decide +kernel
  refine lv_iload_n gx gb dX9_swans_0 rfl (lv_at hl 1 rfl) ?_
  refine lv_iconst (v := nI 1) gx gb dX9_swans_1 (by decide) ?_
  refine lv_bipush (v := nI 7) gx gb dX9_swans_2 (by decide) ?_
  refine lv_evs [.int (zI ((7 : Nat) : Int)), .int (zI ((1 : Nat) : Int)), .int (zI a)] (by simp only [nI_zc]) ?_
  refine vp_callSi (W.runS (As := [.int (zI a), .int (zI ((1 : Nat) : Int)), .int (zI ((7 : Nat) : Int))]) (rest := []) ⟨gx, gb, gml, gown, gts⟩ (kX9_in Gl a ((1 : Nat) : Int) ((7 : Nat) : Int) (by omega) (by omega) (by omega) (by omega) (by omega) (by omega)) (va_cwS 3 gts gX9_swans_X9_in rfl rfl rfl (by decide +kernel) ⟨Nat.le_of_ble_eq_true rfl, Nat.le_of_ble_eq_true rfl⟩) ⟨fun _ _ _ _ h => h, fun U hU hW => ⟨rfl, trivial⟩⟩ rfl rfl hl.1 rfl (lv_room (Nat.le_of_ble_eq_true rfl)) dX9_swans_4 ⟨Nat.le_of_ble_eq_true rfl, Nat.le_of_ble_eq_true rfl⟩) (fun r hw => ?_)
  have hr4 := hw
  subst hr4
  refine lv_if_ne (tgt := 13) gx gb dX9_swans_7 (by decide) (fun c7 => ?_) (fun c7 => ?_)
  · skip
    rw [b0_eq] at c7
    simp only [decide_eq_false_iff_not, Decidable.not_not] at c7
    obtain ⟨i, hi⟩ : ∃ i : Nat, a = (i : Int) := ⟨a.toNat, by omega⟩
    rw [show zI a = nI i from by rw [hi, zI_nat]] at hl
    have hl : lv_has ls 3 [(0, .ref mo), (1, .int (nI i))] := hl
    refine lv_aload_n gx gb dX9_swans_13 rfl (lv_at hl 0 rfl) ?_
    refine va_get (D := D) (ci := 4) (v := .int (nI n)) (C := RX9) (T := TX9) (N := 19) gx gb gts i9 gown hK hP 0 rfl rfl 0 (by decide) (gts (.fieldLink RX9 7 "SwanSumsModel" "all" "I") (by decide +kernel)) (fun _ h9 => h9) rfl dX9_swans_14 ?_
    refine lv_istore_n (lv' := [(2, .int (nI n)), (0, .ref mo), (1, .int (nI i))]) gx gb dX9_swans_17 rfl hl (by decide) rfl (fun ls hl => ?_)
    refine lv_aload_n gx gb dX9_swans_18 rfl (lv_at hl 1 rfl) ?_
    refine lv_iload_n gx gb dX9_swans_19 rfl (lv_at hl 2 rfl) ?_
    refine va_put (D := D) (ci := 4) (v := .int (nI i)) (ty := .int) (C := RX9) (T := TX9) (N := 19) gx gb gts i9 tyX9 tyX9_ok nmX9 gown hK hP hD hS 0 rfl rfl 0 (by decide) (gts (.fieldLink RX9 7 "SwanSumsModel" "all" "I") (by decide +kernel)) (fun _ h9 => h9) rfl (by decide +kernel) rfl rfl (Nat.le_of_ble_eq_true rfl) dX9_swans_20 (fun H locs hP hD hS => ?_)
    have hP : va_P D vwCl (wM mo ma mb mc md me mf mg mh mi mj mk ml mn cI cZ i q c w z ev num plc sig pad row dig far cfr cby que has img kep) H := hP
    have hD : va_D A (wM mo ma mb mc md me mf mg mh mi mj mk ml mn cI cZ i q c w z ev num plc sig pad row dig far cfr cby que has img kep) := hD
    refine lv_aload_n gx gb dX9_swans_23 rfl (lv_at hl 1 rfl) ?_
    have hPc := hP.sub (ws' := wM mo ma mb mc md me mf mg mh mi mj mk ml mn cI cZ i q c w z ev num plc sig pad row dig far cfr cby que has img kep) [0, 1, 2, 3, 4, 5, 6, 7, 8, 9, 10, 11, 12, 13] rfl
    have hDc := hD.sub (ws' := wM mo ma mb mc md me mf mg mh mi mj mk ml mn cI cZ i q c w z ev num plc sig pad row dig far cfr cby que has img kep) [0, 1, 2, 3, 4, 5, 6, 7, 8, 9, 10, 11, 12, 13] (by decide) rfl
    have hFc := va_free (wc := wM mo ma mb mc md me mf mg mh mi mj mk ml mn cI cZ i q c w z ev num plc sig pad row dig far cfr cby que has img kep) hD hS hA [0, 1, 2, 3, 4, 5, 6, 7, 8, 9, 10, 11, 12, 13] rfl
    refine va_callv (va_runV (As := []) (rest := []) ⟨gx, gb, gml, gown, gts⟩ (kX9_plain Gl D cI cJ cZ mo ma mb mc md me mf mg mh mi mj mk ml mn i q c w z ev num plc sig pad row dig far cfr cby que has img kep _  ) (cwV 0 gts gX9_swans_X9_plain rfl rfl rfl (by decide +kernel) ⟨Nat.le_of_ble_eq_true rfl, Nat.le_of_ble_eq_true rfl⟩) ⟨fun a U g mk q => by obtain ⟨q0, q1, qP, qK, qD⟩ := q; exact ⟨q0, q1, qP, va_K.moved (u := U) (U := U.calling g mk a) (Vm.Alike.refl U.vm) qK, qD⟩, va_recv hK hPc (ci := 4) (q0 := 0) rfl rfl, fun U hU hW => ⟨rfl, by rw [hU], by rw [hU]; exact hPc, va_K.moved hW.alike hK, hDc.weaken (fun _ _ _ _ => trivial)⟩⟩ rfl rfl hl.1 rfl (lv_room (Nat.le_of_ble_eq_true rfl)) dX9_swans_24 ⟨Nat.le_of_ble_eq_true rfl, Nat.le_of_ble_eq_true rfl⟩) hS (fun q _ h => hFc q h) hFc (fun u t H1 locs ht hvm hw hB hz1 hk1 hS => ?_)
    obtain ⟨hP1, hK1, hD1⟩ := hB
    rw [ht] at hP1
    try dsimp only at hw
    try dsimp only at hP1
    try dsimp only at hD1
    have hK := va_K.moved hvm.symm hK1
    obtain ⟨hP, hD⟩ := va_join (wr := []) (w1 := wM mo ma mb mc md me mf mg mh mi mj mk ml mn cI cZ i i 0 w z ev (cpy (fun k => k + 1) num 7) (cpy (fun k => k) plc 7) sig pad row dig far cfr cby que has img kep) hP hD [0, 1, 2, 3, 4, 5, 6, 7, 8, 9, 10, 11, 12, 13] [] rfl rfl (by decide) (by decide) hk1 hFc hP1 hD1
    have hP := hP.sub (ws' := wM mo ma mb mc md me mf mg mh mi mj mk ml mn cI cZ i i 0 w z ev (cpy (fun k => k + 1) num 7) (cpy (fun k => k) plc 7) sig pad row dig far cfr cby que has img kep) [0, 1, 2, 3, 4, 5, 6, 7, 8, 9, 10, 11, 12, 13] rfl
    have hD := hD.sub (ws' := wM mo ma mb mc md me mf mg mh mi mj mk ml mn cI cZ i i 0 w z ev (cpy (fun k => k + 1) num 7) (cpy (fun k => k) plc 7) sig pad row dig far cfr cby que has img kep) [0, 1, 2, 3, 4, 5, 6, 7, 8, 9, 10, 11, 12, 13] (by decide) rfl
    have hK := va_K.moved (Vm.Alike.refl Gs.vm) hK
    generalize H1 = H at hP hS ⊢
    refine lv_iload_n gx gb dX9_swans_27 rfl (lv_at hl 0 rfl) ?_
    have e_n : i = (if 1 ≤ a ∧ a ≤ 7 then a.toNat else n) := by rw [if_pos (by omega), hi]; rfl
    have e_q : i = (if 1 ≤ a ∧ a ≤ 7 then a.toNat else q) := by rw [if_pos (by omega), hi]; rfl
    have e_c : 0 = (if 1 ≤ a ∧ a ≤ 7 then 0 else c) := by rw [if_pos (by omega)]
    have e_num : (cpy (fun k => k + 1) num 7) = (if 1 ≤ a ∧ a ≤ 7 then cpy (fun k => k + 1) num 7 else num) := by rw [if_pos (by omega)]
    have e_plc : (cpy (fun k => k) plc 7) = (if 1 ≤ a ∧ a ≤ 7 then cpy (fun k => k) plc 7 else plc) := by rw [if_pos (by omega)]
    have hP : va_P D vwCl (wM mo ma mb mc md me mf mg mh mi mj mk ml mn cI cZ (if 1 ≤ a ∧ a ≤ 7 then a.toNat else n) (if 1 ≤ a ∧ a ≤ 7 then a.toNat else q) (if 1 ≤ a ∧ a ≤ 7 then 0 else c) w z ev (if 1 ≤ a ∧ a ≤ 7 then cpy (fun k => k + 1) num 7 else num) (if 1 ≤ a ∧ a ≤ 7 then cpy (fun k => k) plc 7 else plc) sig pad row dig far cfr cby que has img kep) H := by rw [← e_n, ← e_q, ← e_c, ← e_num, ← e_plc]; exact hP
    have hD : va_D A (wM mo ma mb mc md me mf mg mh mi mj mk ml mn cI cZ (if 1 ≤ a ∧ a ≤ 7 then a.toNat else n) (if 1 ≤ a ∧ a ≤ 7 then a.toNat else q) (if 1 ≤ a ∧ a ≤ 7 then 0 else c) w z ev (if 1 ≤ a ∧ a ≤ 7 then cpy (fun k => k + 1) num 7 else num) (if 1 ≤ a ∧ a ≤ 7 then cpy (fun k => k) plc 7 else plc) sig pad row dig far cfr cby que has img kep) := by rw [← e_n, ← e_q, ← e_c, ← e_num, ← e_plc]; exact hD
    exact W.iret (v := nI n) gx gb gr (fun t ht hW => ⟨⟨nI n, (), rfl, (by first | (dsimp only; done) | ((try dsimp only); rw [if_pos (by omega), zI_nat])), by rw [ht]; exact hP, va_K.moved hW.alike hK, hD⟩, hS.F ht⟩) hS.2.2 dX9_swans_28
  · skip
    rw [b0_eq] at c7
    simp only [decide_eq_false_iff_not, Decidable.not_not] at c7
    refine lv_bipush (v := zI (-2)) gx gb dX9_swans_10 (by decide) ?_
    have e_n : n = (if 1 ≤ a ∧ a ≤ 7 then a.toNat else n) := by rw [if_neg (by omega)]
    have e_q : q = (if 1 ≤ a ∧ a ≤ 7 then a.toNat else q) := by rw [if_neg (by omega)]
    have e_c : c = (if 1 ≤ a ∧ a ≤ 7 then 0 else c) := by rw [if_neg (by omega)]
    have e_num : num = (if 1 ≤ a ∧ a ≤ 7 then cpy (fun k => k + 1) num 7 else num) := by rw [if_neg (by omega)]
    have e_plc : plc = (if 1 ≤ a ∧ a ≤ 7 then cpy (fun k => k) plc 7 else plc) := by rw [if_neg (by omega)]
    have hP : va_P D vwCl (wM mo ma mb mc md me mf mg mh mi mj mk ml mn cI cZ (if 1 ≤ a ∧ a ≤ 7 then a.toNat else n) (if 1 ≤ a ∧ a ≤ 7 then a.toNat else q) (if 1 ≤ a ∧ a ≤ 7 then 0 else c) w z ev (if 1 ≤ a ∧ a ≤ 7 then cpy (fun k => k + 1) num 7 else num) (if 1 ≤ a ∧ a ≤ 7 then cpy (fun k => k) plc 7 else plc) sig pad row dig far cfr cby que has img kep) Gs.heap := by rw [← e_n, ← e_q, ← e_c, ← e_num, ← e_plc]; exact hP
    have hD : va_D A (wM mo ma mb mc md me mf mg mh mi mj mk ml mn cI cZ (if 1 ≤ a ∧ a ≤ 7 then a.toNat else n) (if 1 ≤ a ∧ a ≤ 7 then a.toNat else q) (if 1 ≤ a ∧ a ≤ 7 then 0 else c) w z ev (if 1 ≤ a ∧ a ≤ 7 then cpy (fun k => k + 1) num 7 else num) (if 1 ≤ a ∧ a ≤ 7 then cpy (fun k => k) plc 7 else plc) sig pad row dig far cfr cby que has img kep) := by rw [← e_n, ← e_q, ← e_c, ← e_num, ← e_plc]; exact hD
    exact W.iret (v := zI (-2)) gx gb gr (fun t ht hW => ⟨⟨zI (-2), (), rfl, (by first | (dsimp only; done) | ((try dsimp only); rw [if_neg (by omega)])), by rw [ht]; exact hP, va_K.moved hW.alike hK, hD⟩, hS.F ht⟩) hS.2.2 dX9_swans_12

set_option maxHeartbeats 4000000 in
set_option maxRecDepth 100000 in
theorem kX9_number (Gl : Launch) (D : va_G) (cI cJ cZ : ClassId) (mo : Nat) (ma : Nat) (mb : Nat) (mc : Nat) (md : Nat) (me : Nat) (mf : Nat) (mg : Nat) (mh : Nat) (mi : Nat) (mj : Nat) (mk : Nat) (ml : Nat) (mn : Nat) (n : Nat) (q : Nat) (c : Nat) (w : Nat) (z : Nat) (ev : Nat) (num : Nat → Nat) (plc : Nat → Nat) (sig : Nat → Nat) (pad : Nat → Nat) (row : Nat → Nat) (dig : Nat → Nat) (far : Nat → Int32) (cfr : Nat → Nat) (cby : Nat → Nat) (que : Nat → Nat) (has : Nat → Nat) (img : Nat → Nat) (kep : Nat → Nat) (sz : Nat) (a b : Int) (hl_a : -2147483648 ≤ a) (hu_a : a < 2147483648) (hl_b : -2147483648 ≤ b) (hu_b : b < 2147483648) (hn1 : 1 ≤ n) (hn7 : n ≤ 7) (hq1 : 1 ≤ q) (hqn : q ≤ n) : Met Gl yX9_number wsX9_number ({ frames := 2, cells := 0, slots := 0, locals := 43 } : Room) (va_Pc [.ref mo, .int (zI a), .int (zI b)] (fun U => U.heap.size = sz ∧ va_P D vwCl (wM mo ma mb mc md me mf mg mh mi mj mk ml mn cI cZ n q c w z ev num plc sig pad row dig far cfr cby que has img kep) U.heap ∧ va_K D vwCl [(cI, .int), (cJ, .long), (cZ, .boolean)] U ∧ va_D (fun _ => True) (wM mo ma mb mc md me mf mg mh mi mj mk ml mn cI cZ n q c w z ev num plc sig pad row dig far cfr cby que has img kep))) (va_Qi (fun (r : Int32) (u : Unit) => r = zI (numZ n num a b)) (fun (u : Unit) t => va_P D vwCl (wM mo ma mb mc md me mf mg mh mi mj mk ml mn cI cZ n q c w z ev (if (0 ≤ a ∧ a < n) ∧ (0 ≤ b ∧ b ≤ 99) then up num a.toNat b.toNat else num) plc sig pad row dig far cfr cby que has img kep) t.heap ∧ va_K D vwCl [(cI, .int), (cJ, .long), (cZ, .boolean)] t ∧ va_D (va_A (wM mo ma mb mc md me mf mg mh mi mj mk ml mn cI cZ n q c w z ev num plc sig pad row dig far cfr cby que has img kep) sz) (wM mo ma mb mc md me mf mg mh mi mj mk ml mn cI cZ n q c w z ev (if (0 ≤ a ∧ a < n) ∧ (0 ≤ b ∧ b ≤ 99) then up num a.toNat b.toNat else num) plc sig pad row dig far cfr cby que has img kep)) (va_A (wM mo ma mb mc md me mf mg mh mi mj mk ml mn cI cZ n q c w z ev num plc sig pad row dig far cfr cby que has img kep) sz)) 0 0 (va_A (wM mo ma mb mc md me mf mg mh mi mj mk ml mn cI cZ n q c w z ev num plc sig pad row dig far cfr cby que has img kep) sz) := by
  refine Met.ofW (cc := cX9_number) (maxL := 4) (ret := (some .int)) (by decide +kernel) rfl ?_
  intro Gp Ge Gs Gm Ga Gw Gt Gc G1 Bd gml gv
  obtain ⟨rfl, hsz, hP, hK, hD0⟩ := gv
  have gx := Bd.exec
  have gb := Bd.bytes
  have gr := Bd.returns
  have gts := atoms_spec (ws := wsX9_number) Bd.pre
  have gown : Gs.vm.findClass RX9 = some Gm.cls := findClass_of_methodNamed Bd.named
  have glk := Bd.notSynchronized
  subst hsz
  have hD := hD0.self (sz := Gs.heap.size)
  generalize hAe : va_A (wM mo ma mb mc md me mf mg mh mi mj mk ml mn cI cZ n q c w z ev num plc sig pad row dig far cfr cby que has img kep) Gs.heap.size = A at hD ⊢
  have hA : ∀ q : Nat, Gs.heap.size ≤ q → A q := fun q h => by rw [← hAe]; exact Or.inr h
  have hS : va_S A Gs.heap Gs.heap [] := va_S.rf
  have hP : va_P D vwCl (wM mo ma mb mc md me mf mg mh mi mj mk ml mn cI cZ n q c w z ev num plc sig pad row dig far cfr cby que has img kep) Gs.heap := hP
  have hl := lv_entry ([.ref mo, .int (zI a), .int (zI b)]) (n := 4) (Nat.le_of_ble_eq_true rfl)
  rw [lg_entry_eq]
  generalize (lg_sl ([.ref mo, .int (zI a), .int (zI b)]) ++ List.replicate (4 - (lg_sl ([.ref mo, .int (zI a), .int (zI b)])).length) Slot.unset).toArray = ls at hl ⊢
  have hl : lv_has ls 4 [(0, .ref mo), (1, .int (zI a)), (2, .int (zI b))] := hl
  have i9 : ∀ w ∈ wsX90, w ∈ wsX9_number := by decide +kernel
  refine lv_aload_n gx gb dX9_number_0 rfl (lv_at hl 0 rfl) ?_
  refine lv_iload_n gx gb dX9_number_1 rfl (lv_at hl 1 rfl) ?_
  have hPc := hP.sub (ws' := wM mo ma mb mc md me mf mg mh mi mj mk ml mn cI cZ n q c w z ev num plc sig pad row dig far cfr cby que has img kep) [0, 1, 2, 3, 4, 5, 6, 7, 8, 9, 10, 11, 12, 13] rfl
  refine vp_callSi (W.runV (As := [.int (zI a)]) (rest := []) ⟨gx, gb, gml, gown, gts⟩ (kX9_isSwan Gl D cI cJ cZ mo ma mb mc md me mf mg mh mi mj mk ml mn n q c w z ev num plc sig pad row dig far cfr cby que has img kep a (by omega) (by omega) (by omega) (by omega)) (cwV 1 gts gX9_number_X9_isSwan rfl rfl rfl (by decide +kernel) ⟨Nat.le_of_ble_eq_true rfl, Nat.le_of_ble_eq_true rfl⟩) ⟨fun a U g mk q => ⟨q.1, q.2.1, va_K.moved (u := U) (U := U.calling g mk a) (Vm.Alike.refl U.vm) q.2.2⟩, va_recv hK hPc (ci := 4) (q0 := 0) rfl rfl, fun U hU hW => ⟨rfl, by rw [hU]; exact hPc, va_K.moved hW.alike hK⟩⟩ rfl rfl hl.1 rfl (lv_room (Nat.le_of_ble_eq_true rfl)) dX9_number_2 ⟨Nat.le_of_ble_eq_true rfl, Nat.le_of_ble_eq_true rfl⟩) (fun r hw => ?_)
  have hr2 := hw
  subst hr2
  refine lv_if_ne (tgt := 10) gx gb dX9_number_5 (by decide) (fun c5 => ?_) (fun c5 => ?_)
  · skip
    rw [b0_eq] at c5
    simp only [decide_eq_false_iff_not, Decidable.not_not] at c5
    refine lv_iload_n gx gb dX9_number_10 rfl (lv_at hl 2 rfl) ?_
    refine lv_iconst (v := nI 0) gx gb dX9_number_11 (by decide) ?_
    refine lv_bipush (v := nI 99) gx gb dX9_number_12 (by decide) ?_
    refine lv_evs [.int (zI ((99 : Nat) : Int)), .int (zI ((0 : Nat) : Int)), .int (zI b)] (by simp only [nI_zc]) ?_
    refine vp_callSi (W.runS (As := [.int (zI b), .int (zI ((0 : Nat) : Int)), .int (zI ((99 : Nat) : Int))]) (rest := []) ⟨gx, gb, gml, gown, gts⟩ (kX9_in Gl b ((0 : Nat) : Int) ((99 : Nat) : Int) (by omega) (by omega) (by omega) (by omega) (by omega) (by omega)) (va_cwS 3 gts gX9_number_X9_in rfl rfl rfl (by decide +kernel) ⟨Nat.le_of_ble_eq_true rfl, Nat.le_of_ble_eq_true rfl⟩) ⟨fun _ _ _ _ h => h, fun U hU hW => ⟨rfl, trivial⟩⟩ rfl rfl hl.1 rfl (lv_room (Nat.le_of_ble_eq_true rfl)) dX9_number_14 ⟨Nat.le_of_ble_eq_true rfl, Nat.le_of_ble_eq_true rfl⟩) (fun r hw => ?_)
    have hr14 := hw
    subst hr14
    refine lv_if_ne (tgt := 23) gx gb dX9_number_17 (by decide) (fun c17 => ?_) (fun c17 => ?_)
    · skip
      rw [b0_eq] at c17
      simp only [decide_eq_false_iff_not, Decidable.not_not] at c17
      obtain ⟨i, hi⟩ : ∃ i : Nat, a = (i : Int) := ⟨a.toNat, by omega⟩
      rw [show zI a = nI i from by rw [hi, zI_nat]] at hl
      obtain ⟨j, hj⟩ : ∃ j : Nat, b = (j : Int) := ⟨b.toNat, by omega⟩
      rw [show zI b = nI j from by rw [hj, zI_nat]] at hl
      have hl : lv_has ls 4 [(0, .ref mo), (1, .int (nI i)), (2, .int (nI j))] := hl
      refine lv_aload_n gx gb dX9_number_23 rfl (lv_at hl 0 rfl) ?_
      refine va_get (D := D) (ci := 4) (v := .ref ma) (C := RX9) (T := TX9) (N := 19) gx gb gts i9 gown hK hP 0 rfl rfl 2 (by decide) (gts (.fieldLink RX9 16 "SwanSumsModel" "numbers" "[I") (by decide +kernel)) (fun _ h9 => h9) rfl dX9_number_24 ?_
      refine lv_iload_n gx gb dX9_number_27 rfl (lv_at hl 1 rfl) ?_
      refine va_iald gx gb hK hP 1 0 rfl rfl (vp_in_nI (n := i) (by omega) (by decide)) dX9_number_28 ?_
      refine lv_evi (nI (num i)) (aN_rd num (by omega)) ?_
      refine lv_istore_n (lv' := [(3, .int (nI (num i))), (0, .ref mo), (1, .int (nI i)), (2, .int (nI j))]) gx gb dX9_number_29 rfl hl (by decide) rfl (fun ls hl => ?_)
      refine lv_aload_n gx gb dX9_number_30 rfl (lv_at hl 1 rfl) ?_
      refine va_get (D := D) (ci := 4) (v := .ref ma) (C := RX9) (T := TX9) (N := 19) gx gb gts i9 gown hK hP 0 rfl rfl 2 (by decide) (gts (.fieldLink RX9 16 "SwanSumsModel" "numbers" "[I") (by decide +kernel)) (fun _ h9 => h9) rfl dX9_number_31 ?_
      refine lv_iload_n gx gb dX9_number_34 rfl (lv_at hl 2 rfl) ?_
      refine lv_iload_n gx gb dX9_number_35 rfl (lv_at hl 3 rfl) ?_
      refine va_iast gx gb hK hP hD hS 1 0 rfl rfl (vp_in_nI (n := i) (by omega) (by decide)) dX9_number_36 (fun H locs hP hD hS => ?_)
      rw [aN_st num j (by omega)] at hP hD
      have hP : va_P D vwCl (wM mo ma mb mc md me mf mg mh mi mj mk ml mn cI cZ n q c w z ev (up num i j) plc sig pad row dig far cfr cby que has img kep) H := hP
      have hD : va_D A (wM mo ma mb mc md me mf mg mh mi mj mk ml mn cI cZ n q c w z ev (up num i j) plc sig pad row dig far cfr cby que has img kep) := hD
      refine lv_iload_n gx gb dX9_number_37 rfl (lv_at hl 0 rfl) ?_
      have e_num : (up num i j) = (if (0 ≤ a ∧ a < n) ∧ (0 ≤ b ∧ b ≤ 99) then up num a.toNat b.toNat else num) := by rw [if_pos (by omega), hi, hj]; rfl
      have hP : va_P D vwCl (wM mo ma mb mc md me mf mg mh mi mj mk ml mn cI cZ n q c w z ev (if (0 ≤ a ∧ a < n) ∧ (0 ≤ b ∧ b ≤ 99) then up num a.toNat b.toNat else num) plc sig pad row dig far cfr cby que has img kep) H := by rw [← e_num]; exact hP
      have hD : va_D A (wM mo ma mb mc md me mf mg mh mi mj mk ml mn cI cZ n q c w z ev (if (0 ≤ a ∧ a < n) ∧ (0 ≤ b ∧ b ≤ 99) then up num a.toNat b.toNat else num) plc sig pad row dig far cfr cby que has img kep) := by rw [← e_num]; exact hD
      exact W.iret (v := nI (num i)) gx gb gr (fun t ht hW => ⟨⟨nI (num i), (), rfl, (by first | (dsimp only; done) | ((try dsimp only); rw [numZ, if_pos (by omega), if_pos (by omega), hi]; exact (zI_nat _).symm)), by rw [ht]; exact hP, va_K.moved hW.alike hK, hD⟩, hS.F ht⟩) hS.2.2 dX9_number_38
    · skip
      rw [b0_eq] at c17
      simp only [decide_eq_false_iff_not, Decidable.not_not] at c17
      refine lv_bipush (v := zI (-2)) gx gb dX9_number_20 (by decide) ?_
      have e_num : num = (if (0 ≤ a ∧ a < n) ∧ (0 ≤ b ∧ b ≤ 99) then up num a.toNat b.toNat else num) := by rw [if_neg (by omega)]
      have hP : va_P D vwCl (wM mo ma mb mc md me mf mg mh mi mj mk ml mn cI cZ n q c w z ev (if (0 ≤ a ∧ a < n) ∧ (0 ≤ b ∧ b ≤ 99) then up num a.toNat b.toNat else num) plc sig pad row dig far cfr cby que has img kep) Gs.heap := by rw [← e_num]; exact hP
      have hD : va_D A (wM mo ma mb mc md me mf mg mh mi mj mk ml mn cI cZ n q c w z ev (if (0 ≤ a ∧ a < n) ∧ (0 ≤ b ∧ b ≤ 99) then up num a.toNat b.toNat else num) plc sig pad row dig far cfr cby que has img kep) := by rw [← e_num]; exact hD
      exact W.iret (v := zI (-2)) gx gb gr (fun t ht hW => ⟨⟨zI (-2), (), rfl, (by first | (dsimp only; done) | ((try dsimp only); rw [numZ, if_pos (by omega), if_neg (by omega)])), by rw [ht]; exact hP, va_K.moved hW.alike hK, hD⟩, hS.F ht⟩) hS.2.2 dX9_number_22
  · skip
    rw [b0_eq] at c5
    simp only [decide_eq_false_iff_not, Decidable.not_not] at c5
    refine lv_iconst (v := zI (-1)) gx gb dX9_number_8 (by decide) ?_
    have e_num : num = (if (0 ≤ a ∧ a < n) ∧ (0 ≤ b ∧ b ≤ 99) then up num a.toNat b.toNat else num) := by rw [if_neg (by omega)]
    have hP : va_P D vwCl (wM mo ma mb mc md me mf mg mh mi mj mk ml mn cI cZ n q c w z ev (if (0 ≤ a ∧ a < n) ∧ (0 ≤ b ∧ b ≤ 99) then up num a.toNat b.toNat else num) plc sig pad row dig far cfr cby que has img kep) Gs.heap := by rw [← e_num]; exact hP
    have hD : va_D A (wM mo ma mb mc md me mf mg mh mi mj mk ml mn cI cZ n q c w z ev (if (0 ≤ a ∧ a < n) ∧ (0 ≤ b ∧ b ≤ 99) then up num a.toNat b.toNat else num) plc sig pad row dig far cfr cby que has img kep) := by rw [← e_num]; exact hD
    exact W.iret (v := zI (-1)) gx gb gr (fun t ht hW => ⟨⟨zI (-1), (), rfl, (by first | (dsimp only; done) | ((try dsimp only); rw [numZ, if_neg (by omega)])), by rw [ht]; exact hP, va_K.moved hW.alike hK, hD⟩, hS.F ht⟩) hS.2.2 dX9_number_9

set_option maxHeartbeats 4000000 in
set_option maxRecDepth 100000 in
theorem kX9_say (Gl : Launch) (D : va_G) (cI cJ cZ : ClassId) (mo : Nat) (ma : Nat) (mb : Nat) (mc : Nat) (md : Nat) (me : Nat) (mf : Nat) (mg : Nat) (mh : Nat) (mi : Nat) (mj : Nat) (mk : Nat) (ml : Nat) (mn : Nat) (n : Nat) (q : Nat) (c : Nat) (w : Nat) (z : Nat) (ev : Nat) (num : Nat → Nat) (plc : Nat → Nat) (sig : Nat → Nat) (pad : Nat → Nat) (row : Nat → Nat) (dig : Nat → Nat) (far : Nat → Int32) (cfr : Nat → Nat) (cby : Nat → Nat) (que : Nat → Nat) (has : Nat → Nat) (img : Nat → Nat) (kep : Nat → Nat) (sz : Nat) (a : Int) (hl_a : -2147483648 ≤ a) (hu_a : a < 2147483648) (hw : w ≤ 60) : Met Gl yX9_say wsX9_say ({ frames := 1, cells := 0, slots := 0, locals := 22 } : Room) (va_Pc [.ref mo, .int (zI a)] (fun U => U.heap.size = sz ∧ va_P D vwCl (wM mo ma mb mc md me mf mg mh mi mj mk ml mn cI cZ n q c w z ev num plc sig pad row dig far cfr cby que has img kep) U.heap ∧ va_K D vwCl [(cI, .int), (cJ, .long), (cZ, .boolean)] U ∧ va_D (fun _ => True) (wM mo ma mb mc md me mf mg mh mi mj mk ml mn cI cZ n q c w z ev num plc sig pad row dig far cfr cby que has img kep))) (va_Qi (fun (r : Int32) (u : Unit) => r = zI (sayZ w a)) (fun (u : Unit) t => va_P D vwCl (wM mo ma mb mc md me mf mg mh mi mj mk ml mn cI cZ n q c (if (33 ≤ a ∧ a ≤ 126) ∧ w < 60 then w + 1 else w) z ev num plc sig (if (33 ≤ a ∧ a ≤ 126) ∧ w < 60 then up pad w a.toNat else pad) row dig far cfr cby que has img kep) t.heap ∧ va_K D vwCl [(cI, .int), (cJ, .long), (cZ, .boolean)] t ∧ va_D (va_A (wM mo ma mb mc md me mf mg mh mi mj mk ml mn cI cZ n q c w z ev num plc sig pad row dig far cfr cby que has img kep) sz) (wM mo ma mb mc md me mf mg mh mi mj mk ml mn cI cZ n q c (if (33 ≤ a ∧ a ≤ 126) ∧ w < 60 then w + 1 else w) z ev num plc sig (if (33 ≤ a ∧ a ≤ 126) ∧ w < 60 then up pad w a.toNat else pad) row dig far cfr cby que has img kep)) (va_A (wM mo ma mb mc md me mf mg mh mi mj mk ml mn cI cZ n q c w z ev num plc sig pad row dig far cfr cby que has img kep) sz)) 0 0 (va_A (wM mo ma mb mc md me mf mg mh mi mj mk ml mn cI cZ n q c w z ev num plc sig pad row dig far cfr cby que has img kep) sz) := by
  refine Met.ofW (cc := cX9_say) (maxL := 2) (ret := (some .int)) (by decide +kernel) rfl ?_
  intro Gp Ge Gs Gm Ga Gw Gt Gc G1 Bd gml gv
  obtain ⟨rfl, hsz, hP, hK, hD0⟩ := gv
  have gx := Bd.exec
  have gb := Bd.bytes
  have gr := Bd.returns
  have gts := atoms_spec (ws := wsX9_say) Bd.pre
  have gown : Gs.vm.findClass RX9 = some Gm.cls := findClass_of_methodNamed Bd.named
  have glk := Bd.notSynchronized
  subst hsz
  have hD := hD0.self (sz := Gs.heap.size)
  generalize hAe : va_A (wM mo ma mb mc md me mf mg mh mi mj mk ml mn cI cZ n q c w z ev num plc sig pad row dig far cfr cby que has img kep) Gs.heap.size = A at hD ⊢
  have hA : ∀ q : Nat, Gs.heap.size ≤ q → A q := fun q h => by rw [← hAe]; exact Or.inr h
  have hS : va_S A Gs.heap Gs.heap [] := va_S.rf
  have hP : va_P D vwCl (wM mo ma mb mc md me mf mg mh mi mj mk ml mn cI cZ n q c w z ev num plc sig pad row dig far cfr cby que has img kep) Gs.heap := hP
  have hl := lv_entry ([.ref mo, .int (zI a)]) (n := 2) (Nat.le_of_ble_eq_true rfl)
  rw [lg_entry_eq]
  generalize (lg_sl ([.ref mo, .int (zI a)]) ++ List.replicate (2 - (lg_sl ([.ref mo, .int (zI a)])).length) Slot.unset).toArray = ls at hl ⊢
  have hl : lv_has ls 2 [(0, .ref mo), (1, .int (zI a))] := hl
  have i9 : ∀ w ∈ wsX90, w ∈ wsX9_say := by decide +kernel
  refine lv_iload_n gx gb dX9_say_0 rfl (lv_at hl 1 rfl) ?_
  refine lv_bipush (v := nI 33) gx gb dX9_say_1 (by decide) ?_
  refine lv_bipush (v := nI 126) gx gb dX9_say_3 (by decide) ?_
  refine lv_evs [.int (zI ((126 : Nat) : Int)), .int (zI ((33 : Nat) : Int)), .int (zI a)] (by simp only [nI_zc]) ?_
  refine vp_callSi (W.runS (As := [.int (zI a), .int (zI ((33 : Nat) : Int)), .int (zI ((126 : Nat) : Int))]) (rest := []) ⟨gx, gb, gml, gown, gts⟩ (kX9_in Gl a ((33 : Nat) : Int) ((126 : Nat) : Int) (by omega) (by omega) (by omega) (by omega) (by omega) (by omega)) (va_cwS 3 gts gX9_say_X9_in rfl rfl rfl (by decide +kernel) ⟨Nat.le_of_ble_eq_true rfl, Nat.le_of_ble_eq_true rfl⟩) ⟨fun _ _ _ _ h => h, fun U hU hW => ⟨rfl, trivial⟩⟩ rfl rfl hl.1 rfl (lv_room (Nat.le_of_ble_eq_true rfl)) dX9_say_5 ⟨Nat.le_of_ble_eq_true rfl, Nat.le_of_ble_eq_true rfl⟩) (fun r hw => ?_)
  have hr5 := hw
  subst hr5
  refine lv_if_ne (tgt := 14) gx gb dX9_say_8 (by decide) (fun c8 => ?_) (fun c8 => ?_)
  · skip
    rw [b0_eq] at c8
    simp only [decide_eq_false_iff_not, Decidable.not_not] at c8
    refine lv_aload_n gx gb dX9_say_14 rfl (lv_at hl 0 rfl) ?_
    refine va_get (D := D) (ci := 4) (v := .int (nI w)) (C := RX9) (T := TX9) (N := 19) gx gb gts i9 gown hK hP 0 rfl rfl 6 (by decide) (gts (.fieldLink RX9 71 "SwanSumsModel" "signs" "I") (by decide +kernel)) (fun _ h9 => h9) rfl dX9_say_15 ?_
    refine lv_bipush (v := nI 60) gx gb dX9_say_18 (by decide) ?_
    refine lv_icmp_ne (tgt := 26) gx gb dX9_say_20 (by decide) (fun c20 => ?_) (fun c20 => ?_)
    · skip
      rw [nI_eq (by omega) (by omega)] at c20
      obtain ⟨i, hi⟩ : ∃ i : Nat, a = (i : Int) := ⟨a.toNat, by omega⟩
      rw [show zI a = nI i from by rw [hi, zI_nat]] at hl
      have hl : lv_has ls 2 [(0, .ref mo), (1, .int (nI i))] := hl
      refine lv_aload_n gx gb dX9_say_26 rfl (lv_at hl 0 rfl) ?_
      refine va_get (D := D) (ci := 4) (v := .ref md) (C := RX9) (T := TX9) (N := 19) gx gb gts i9 gown hK hP 0 rfl rfl 7 (by decide) (gts (.fieldLink RX9 26 "SwanSumsModel" "pad" "[I") (by decide +kernel)) (fun _ h9 => h9) rfl dX9_say_27 ?_
      refine lv_aload_n gx gb dX9_say_30 rfl (lv_at hl 0 rfl) ?_
      refine va_get (D := D) (ci := 4) (v := .int (nI w)) (C := RX9) (T := TX9) (N := 19) gx gb gts i9 gown hK hP 0 rfl rfl 6 (by decide) (gts (.fieldLink RX9 71 "SwanSumsModel" "signs" "I") (by decide +kernel)) (fun _ h9 => h9) rfl dX9_say_31 ?_
      refine lv_iload_n gx gb dX9_say_34 rfl (lv_at hl 1 rfl) ?_
      refine va_iast gx gb hK hP hD hS 4 0 rfl rfl (vp_in_nI (n := w) (by omega) (by decide)) dX9_say_35 (fun H locs hP hD hS => ?_)
      rw [aN_st pad i (by omega)] at hP hD
      have hP : va_P D vwCl (wM mo ma mb mc md me mf mg mh mi mj mk ml mn cI cZ n q c w z ev num plc sig (up pad w i) row dig far cfr cby que has img kep) H := hP
      have hD : va_D A (wM mo ma mb mc md me mf mg mh mi mj mk ml mn cI cZ n q c w z ev num plc sig (up pad w i) row dig far cfr cby que has img kep) := hD
      refine lv_aload_n gx gb dX9_say_36 rfl (lv_at hl 0 rfl) ?_
      refine lv_dup gx gb dX9_say_37 rfl ?_
      refine va_get (D := D) (ci := 4) (v := .int (nI w)) (C := RX9) (T := TX9) (N := 19) gx gb gts i9 gown hK hP 0 rfl rfl 6 (by decide) (gts (.fieldLink RX9 71 "SwanSumsModel" "signs" "I") (by decide +kernel)) (fun _ h9 => h9) rfl dX9_say_38 ?_
      refine lv_iconst (v := nI 1) gx gb dX9_say_41 (by decide) ?_
      refine lv_iadd gx gb dX9_say_42 ?_
      refine lv_evi (nI (w + 1)) (nI_add w 1) ?_
      refine va_put (D := D) (ci := 4) (v := .int (nI (w + 1))) (ty := .int) (C := RX9) (T := TX9) (N := 19) gx gb gts i9 tyX9 tyX9_ok nmX9 gown hK hP hD hS 0 rfl rfl 6 (by decide) (gts (.fieldLink RX9 71 "SwanSumsModel" "signs" "I") (by decide +kernel)) (fun _ h9 => h9) rfl (by decide +kernel) rfl rfl (Nat.le_of_ble_eq_true rfl) dX9_say_43 (fun H locs hP hD hS => ?_)
      have hP : va_P D vwCl (wM mo ma mb mc md me mf mg mh mi mj mk ml mn cI cZ n q c (w + 1) z ev num plc sig (up pad w i) row dig far cfr cby que has img kep) H := hP
      have hD : va_D A (wM mo ma mb mc md me mf mg mh mi mj mk ml mn cI cZ n q c (w + 1) z ev num plc sig (up pad w i) row dig far cfr cby que has img kep) := hD
      refine lv_aload_n gx gb dX9_say_46 rfl (lv_at hl 0 rfl) ?_
      refine va_get (D := D) (ci := 4) (v := .int (nI (w + 1))) (C := RX9) (T := TX9) (N := 19) gx gb gts i9 gown hK hP 0 rfl rfl 6 (by decide) (gts (.fieldLink RX9 71 "SwanSumsModel" "signs" "I") (by decide +kernel)) (fun _ h9 => h9) rfl dX9_say_47 ?_
      have e_w : (w + 1) = (if (33 ≤ a ∧ a ≤ 126) ∧ w < 60 then w + 1 else w) := by rw [if_pos (by omega)]
      have e_pad : (up pad w i) = (if (33 ≤ a ∧ a ≤ 126) ∧ w < 60 then up pad w a.toNat else pad) := by rw [if_pos (by omega), hi]; rfl
      have hP : va_P D vwCl (wM mo ma mb mc md me mf mg mh mi mj mk ml mn cI cZ n q c (if (33 ≤ a ∧ a ≤ 126) ∧ w < 60 then w + 1 else w) z ev num plc sig (if (33 ≤ a ∧ a ≤ 126) ∧ w < 60 then up pad w a.toNat else pad) row dig far cfr cby que has img kep) H := by rw [← e_w, ← e_pad]; exact hP
      have hD : va_D A (wM mo ma mb mc md me mf mg mh mi mj mk ml mn cI cZ n q c (if (33 ≤ a ∧ a ≤ 126) ∧ w < 60 then w + 1 else w) z ev num plc sig (if (33 ≤ a ∧ a ≤ 126) ∧ w < 60 then up pad w a.toNat else pad) row dig far cfr cby que has img kep) := by rw [← e_w, ← e_pad]; exact hD
      exact W.iret (v := nI (w + 1)) gx gb gr (fun t ht hW => ⟨⟨nI (w + 1), (), rfl, (by first | (dsimp only; done) | ((try dsimp only); rw [sayZ, if_pos (by omega), if_pos (by omega)]; exact (zI_nat (w + 1)).symm)), by rw [ht]; exact hP, va_K.moved hW.alike hK, hD⟩, hS.F ht⟩) hS.2.2 dX9_say_50
    · skip
      rw [nI_eq (by omega) (by omega)] at c20
      refine lv_bipush (v := zI (-4)) gx gb dX9_say_23 (by decide) ?_
      have e_w : w = (if (33 ≤ a ∧ a ≤ 126) ∧ w < 60 then w + 1 else w) := by rw [if_neg (by omega)]
      have e_pad : pad = (if (33 ≤ a ∧ a ≤ 126) ∧ w < 60 then up pad w a.toNat else pad) := by rw [if_neg (by omega)]
      have hP : va_P D vwCl (wM mo ma mb mc md me mf mg mh mi mj mk ml mn cI cZ n q c (if (33 ≤ a ∧ a ≤ 126) ∧ w < 60 then w + 1 else w) z ev num plc sig (if (33 ≤ a ∧ a ≤ 126) ∧ w < 60 then up pad w a.toNat else pad) row dig far cfr cby que has img kep) Gs.heap := by rw [← e_w, ← e_pad]; exact hP
      have hD : va_D A (wM mo ma mb mc md me mf mg mh mi mj mk ml mn cI cZ n q c (if (33 ≤ a ∧ a ≤ 126) ∧ w < 60 then w + 1 else w) z ev num plc sig (if (33 ≤ a ∧ a ≤ 126) ∧ w < 60 then up pad w a.toNat else pad) row dig far cfr cby que has img kep) := by rw [← e_w, ← e_pad]; exact hD
      exact W.iret (v := zI (-4)) gx gb gr (fun t ht hW => ⟨⟨zI (-4), (), rfl, (by first | (dsimp only; done) | ((try dsimp only); rw [sayZ, if_pos (by omega), if_neg (by omega)])), by rw [ht]; exact hP, va_K.moved hW.alike hK, hD⟩, hS.F ht⟩) hS.2.2 dX9_say_25
  · skip
    rw [b0_eq] at c8
    simp only [decide_eq_false_iff_not, Decidable.not_not] at c8
    refine lv_bipush (v := zI (-2)) gx gb dX9_say_11 (by decide) ?_
    have e_w : w = (if (33 ≤ a ∧ a ≤ 126) ∧ w < 60 then w + 1 else w) := by rw [if_neg (by omega)]
    have e_pad : pad = (if (33 ≤ a ∧ a ≤ 126) ∧ w < 60 then up pad w a.toNat else pad) := by rw [if_neg (by omega)]
    have hP : va_P D vwCl (wM mo ma mb mc md me mf mg mh mi mj mk ml mn cI cZ n q c (if (33 ≤ a ∧ a ≤ 126) ∧ w < 60 then w + 1 else w) z ev num plc sig (if (33 ≤ a ∧ a ≤ 126) ∧ w < 60 then up pad w a.toNat else pad) row dig far cfr cby que has img kep) Gs.heap := by rw [← e_w, ← e_pad]; exact hP
    have hD : va_D A (wM mo ma mb mc md me mf mg mh mi mj mk ml mn cI cZ n q c (if (33 ≤ a ∧ a ≤ 126) ∧ w < 60 then w + 1 else w) z ev num plc sig (if (33 ≤ a ∧ a ≤ 126) ∧ w < 60 then up pad w a.toNat else pad) row dig far cfr cby que has img kep) := by rw [← e_w, ← e_pad]; exact hD
    exact W.iret (v := zI (-2)) gx gb gr (fun t ht hW => ⟨⟨zI (-2), (), rfl, (by first | (dsimp only; done) | ((try dsimp only); rw [sayZ, if_neg (by omega)])), by rw [ht]; exact hP, va_K.moved hW.alike hK, hD⟩, hS.F ht⟩) hS.2.2 dX9_say_13

set_option maxHeartbeats 4000000 in
set_option maxRecDepth 100000 in
theorem kX9_wipe (Gl : Launch) (D : va_G) (cI cJ cZ : ClassId) (mo : Nat) (ma : Nat) (mb : Nat) (mc : Nat) (md : Nat) (me : Nat) (mf : Nat) (mg : Nat) (mh : Nat) (mi : Nat) (mj : Nat) (mk : Nat) (ml : Nat) (mn : Nat) (n : Nat) (q : Nat) (c : Nat) (w : Nat) (z : Nat) (ev : Nat) (num : Nat → Nat) (plc : Nat → Nat) (sig : Nat → Nat) (pad : Nat → Nat) (row : Nat → Nat) (dig : Nat → Nat) (far : Nat → Int32) (cfr : Nat → Nat) (cby : Nat → Nat) (que : Nat → Nat) (has : Nat → Nat) (img : Nat → Nat) (kep : Nat → Nat) (sz : Nat) : Met Gl yX9_wipe wsX9_wipe ({ frames := 0, cells := 0, slots := 0, locals := 0 } : Room) (va_Pc [.ref mo] (fun U => U.heap.size = sz ∧ va_P D vwCl (wM mo ma mb mc md me mf mg mh mi mj mk ml mn cI cZ n q c w z ev num plc sig pad row dig far cfr cby que has img kep) U.heap ∧ va_K D vwCl [(cI, .int), (cJ, .long), (cZ, .boolean)] U ∧ va_D (fun _ => True) (wM mo ma mb mc md me mf mg mh mi mj mk ml mn cI cZ n q c w z ev num plc sig pad row dig far cfr cby que has img kep))) (va_Qi (fun (r : Int32) (u : Unit) => r = nI w) (fun (u : Unit) t => va_P D vwCl (wM mo ma mb mc md me mf mg mh mi mj mk ml mn cI cZ n q c 0 z ev num plc sig pad row dig far cfr cby que has img kep) t.heap ∧ va_K D vwCl [(cI, .int), (cJ, .long), (cZ, .boolean)] t ∧ va_D (va_A (wM mo ma mb mc md me mf mg mh mi mj mk ml mn cI cZ n q c w z ev num plc sig pad row dig far cfr cby que has img kep) sz) (wM mo ma mb mc md me mf mg mh mi mj mk ml mn cI cZ n q c 0 z ev num plc sig pad row dig far cfr cby que has img kep)) (va_A (wM mo ma mb mc md me mf mg mh mi mj mk ml mn cI cZ n q c w z ev num plc sig pad row dig far cfr cby que has img kep) sz)) 0 0 (va_A (wM mo ma mb mc md me mf mg mh mi mj mk ml mn cI cZ n q c w z ev num plc sig pad row dig far cfr cby que has img kep) sz) := by
  refine Met.ofW (cc := cX9_wipe) (maxL := 2) (ret := (some .int)) (by decide +kernel) rfl ?_
  intro Gp Ge Gs Gm Ga Gw Gt Gc G1 Bd gml gv
  obtain ⟨rfl, hsz, hP, hK, hD0⟩ := gv
  have gx := Bd.exec
  have gb := Bd.bytes
  have gr := Bd.returns
  have gts := atoms_spec (ws := wsX9_wipe) Bd.pre
  have gown : Gs.vm.findClass RX9 = some Gm.cls := findClass_of_methodNamed Bd.named
  have glk := Bd.notSynchronized
  subst hsz
  have hD := hD0.self (sz := Gs.heap.size)
  generalize hAe : va_A (wM mo ma mb mc md me mf mg mh mi mj mk ml mn cI cZ n q c w z ev num plc sig pad row dig far cfr cby que has img kep) Gs.heap.size = A at hD ⊢
  have hA : ∀ q : Nat, Gs.heap.size ≤ q → A q := fun q h => by rw [← hAe]; exact Or.inr h
  have hS : va_S A Gs.heap Gs.heap [] := va_S.rf
  have hP : va_P D vwCl (wM mo ma mb mc md me mf mg mh mi mj mk ml mn cI cZ n q c w z ev num plc sig pad row dig far cfr cby que has img kep) Gs.heap := hP
  have hl := lv_entry ([.ref mo]) (n := 2) (Nat.le_of_ble_eq_true rfl)
  rw [lg_entry_eq]
  generalize (lg_sl ([.ref mo]) ++ List.replicate (2 - (lg_sl ([.ref mo])).length) Slot.unset).toArray = ls at hl ⊢
  have hl : lv_has ls 2 [(0, .ref mo)] := hl
  have i9 : ∀ w ∈ wsX90, w ∈ wsX9_wipe := by decide +kernel
  refine lv_aload_n gx gb dX9_wipe_0 rfl (lv_at hl 0 rfl) ?_
  refine va_get (D := D) (ci := 4) (v := .int (nI w)) (C := RX9) (T := TX9) (N := 19) gx gb gts i9 gown hK hP 0 rfl rfl 6 (by decide) (gts (.fieldLink RX9 71 "SwanSumsModel" "signs" "I") (by decide +kernel)) (fun _ h9 => h9) rfl dX9_wipe_1 ?_
  refine lv_istore_n (lv' := [(1, .int (nI w)), (0, .ref mo)]) gx gb dX9_wipe_4 rfl hl (by decide) rfl (fun ls hl => ?_)
  refine lv_aload_n gx gb dX9_wipe_5 rfl (lv_at hl 1 rfl) ?_
  refine lv_iconst (v := nI 0) gx gb dX9_wipe_6 (by decide) ?_
  refine va_put (D := D) (ci := 4) (v := .int (nI 0)) (ty := .int) (C := RX9) (T := TX9) (N := 19) gx gb gts i9 tyX9 tyX9_ok nmX9 gown hK hP hD hS 0 rfl rfl 6 (by decide) (gts (.fieldLink RX9 71 "SwanSumsModel" "signs" "I") (by decide +kernel)) (fun _ h9 => h9) rfl (by decide +kernel) rfl rfl (Nat.le_of_ble_eq_true rfl) dX9_wipe_7 (fun H locs hP hD hS => ?_)
  have hP : va_P D vwCl (wM mo ma mb mc md me mf mg mh mi mj mk ml mn cI cZ n q c 0 z ev num plc sig pad row dig far cfr cby que has img kep) H := hP
  have hD : va_D A (wM mo ma mb mc md me mf mg mh mi mj mk ml mn cI cZ n q c 0 z ev num plc sig pad row dig far cfr cby que has img kep) := hD
  refine lv_iload_n gx gb dX9_wipe_10 rfl (lv_at hl 0 rfl) ?_
  exact W.iret (v := nI w) gx gb gr (fun t ht hW => ⟨⟨nI w, (), rfl, (by first | (dsimp only; done) | ((try dsimp only); rfl)), by rw [ht]; exact hP, va_K.moved hW.alike hK, hD⟩, hS.F ht⟩) hS.2.2 dX9_wipe_11

set_option maxHeartbeats 4000000 in
set_option maxRecDepth 100000 in
theorem kX9_judge (Gl : Launch) (D : va_G) (cI cJ cZ : ClassId) (mo : Nat) (ma : Nat) (mb : Nat) (mc : Nat) (md : Nat) (me : Nat) (mf : Nat) (mg : Nat) (mh : Nat) (mi : Nat) (mj : Nat) (mk : Nat) (ml : Nat) (mn : Nat) (n : Nat) (q : Nat) (c : Nat) (w : Nat) (z : Nat) (ev : Nat) (num : Nat → Nat) (plc : Nat → Nat) (sig : Nat → Nat) (pad : Nat → Nat) (row : Nat → Nat) (dig : Nat → Nat) (far : Nat → Int32) (cfr : Nat → Nat) (cby : Nat → Nat) (que : Nat → Nat) (has : Nat → Nat) (img : Nat → Nat) (kep : Nat → Nat) (sz : Nat) (hw : w ≤ 60) (hg : ∀ k, k < w → pad k < 127) (hn1 : 1 ≤ n) (hn7 : n ≤ 7) (hq1 : 1 ≤ q) (hqn : q ≤ n) : Met Gl yX9_judge wsX9_judge ({ frames := 4, cells := 0, slots := 0, locals := 93 } : Room) (va_Pc [.ref mo] (fun U => U.heap.size = sz ∧ va_P D vwCl (wM mo ma mb mc md me mf mg mh mi mj mk ml mn cI cZ n q c w z ev num plc sig pad row dig far cfr cby que has img kep) U.heap ∧ va_K D vwCl [(cI, .int), (cJ, .long), (cZ, .boolean)] U ∧ va_D (fun _ => True) (wM mo ma mb mc md me mf mg mh mi mj mk ml mn cI cZ n q c w z ev num plc sig pad row dig far cfr cby que has img kep))) (va_Qi (fun (r : Int32) (u : (Nat → Nat) × (Nat) × (Nat)) => r = zI (judZ pad w plc q)) (fun (u : (Nat → Nat) × (Nat) × (Nat)) t => va_P D vwCl (wM mo ma mb mc md me mf mg mh mi mj mk ml mn cI cZ n q c w u.2.1 u.2.2 num plc sig pad u.1 dig far cfr cby que has img kep) t.heap ∧ va_K D vwCl [(cI, .int), (cJ, .long), (cZ, .boolean)] t ∧ va_D (va_A (wM mo ma mb mc md me mf mg mh mi mj mk ml mn cI cZ n q c w z ev num plc sig pad row dig far cfr cby que has img kep) sz) (wM mo ma mb mc md me mf mg mh mi mj mk ml mn cI cZ n q c w u.2.1 u.2.2 num plc sig pad u.1 dig far cfr cby que has img kep)) (va_A (wM mo ma mb mc md me mf mg mh mi mj mk ml mn cI cZ n q c w z ev num plc sig pad row dig far cfr cby que has img kep) sz)) 0 0 (va_A (wM mo ma mb mc md me mf mg mh mi mj mk ml mn cI cZ n q c w z ev num plc sig pad row dig far cfr cby que has img kep) sz) := by
  refine Met.ofW (cc := cX9_judge) (maxL := 1) (ret := (some .int)) (by decide +kernel) rfl ?_
  intro Gp Ge Gs Gm Ga Gw Gt Gc G1 Bd gml gv
  obtain ⟨rfl, hsz, hP, hK, hD0⟩ := gv
  have gx := Bd.exec
  have gb := Bd.bytes
  have gr := Bd.returns
  have gts := atoms_spec (ws := wsX9_judge) Bd.pre
  have gown : Gs.vm.findClass RX9 = some Gm.cls := findClass_of_methodNamed Bd.named
  have glk := Bd.notSynchronized
  subst hsz
  have hD := hD0.self (sz := Gs.heap.size)
  generalize hAe : va_A (wM mo ma mb mc md me mf mg mh mi mj mk ml mn cI cZ n q c w z ev num plc sig pad row dig far cfr cby que has img kep) Gs.heap.size = A at hD ⊢
  have hA : ∀ q : Nat, Gs.heap.size ≤ q → A q := fun q h => by rw [← hAe]; exact Or.inr h
  have hS : va_S A Gs.heap Gs.heap [] := va_S.rf
  have hP : va_P D vwCl (wM mo ma mb mc md me mf mg mh mi mj mk ml mn cI cZ n q c w z ev num plc sig pad row dig far cfr cby que has img kep) Gs.heap := hP
  have hl := lv_entry ([.ref mo]) (n := 1) (Nat.le_of_ble_eq_true rfl)
  rw [lg_entry_eq]
  generalize (lg_sl ([.ref mo]) ++ List.replicate (1 - (lg_sl ([.ref mo])).length) Slot.unset).toArray = ls at hl ⊢
  have hl : lv_has ls 1 [(0, .ref mo)] := hl
  refine lv_aload_n gx gb dX9_judge_0 rfl (lv_at hl 0 rfl) ?_
  have hfb := fltZ_bd pad w
  have hPc := hP.sub (ws' := wM mo ma mb mc md me mf mg mh mi mj mk ml mn cI cZ n q c w z ev num plc sig pad row dig far cfr cby que has img kep) [0, 1, 2, 3, 4, 5, 6, 7, 8, 9, 10, 11, 12, 13] rfl
  refine vp_callSi (W.runV (As := []) (rest := []) ⟨gx, gb, gml, gown, gts⟩ (kX9_faultOf Gl D cI cJ cZ mo ma mb mc md me mf mg mh mi mj mk ml mn n q c w z ev num plc sig pad row dig far cfr cby que has img kep  (by omega) (by omega)) (cwV 0 gts gX9_judge_X9_faultOf rfl rfl rfl (by decide +kernel) ⟨Nat.le_of_ble_eq_true rfl, Nat.le_of_ble_eq_true rfl⟩) ⟨fun a U g mk q => ⟨q.1, q.2.1, va_K.moved (u := U) (U := U.calling g mk a) (Vm.Alike.refl U.vm) q.2.2⟩, va_recv hK hPc (ci := 4) (q0 := 0) rfl rfl, fun U hU hW => ⟨rfl, by rw [hU]; exact hPc, va_K.moved hW.alike hK⟩⟩ rfl rfl hl.1 rfl (lv_room (Nat.le_of_ble_eq_true rfl)) dX9_judge_1 ⟨Nat.le_of_ble_eq_true rfl, Nat.le_of_ble_eq_true rfl⟩) (fun r hw => ?_)
  have hr1 := hw
  subst hr1
  refine lv_if_lt (tgt := 10) gx gb dX9_judge_4 (by decide) (fun c4 => ?_) (fun c4 => ?_)
  · skip
    rw [z0_lt (by omega) (by omega)] at c4
    have hf6 : fltZ pad w = -6 := by have := fltZ_bd pad w; omega
    have hc3 := cq_3 (fltZ_m6 hf6).1
    have hfb := fltZ_bd pad w
    refine lv_aload_n gx gb dX9_judge_10 rfl (lv_at hl 0 rfl) ?_
    have hPc := hP.sub (ws' := wM mo ma mb mc md me mf mg mh mi mj mk ml mn cI cZ n q c w z ev num plc sig pad row dig far cfr cby que has img kep) [0, 1, 2, 3, 4, 5, 6, 7, 8, 9, 10, 11, 12, 13] rfl
    refine vp_callSi (W.runV (As := []) (rest := []) ⟨gx, gb, gml, gown, gts⟩ (kX9_opens Gl D cI cJ cZ mo ma mb mc md me mf mg mh mi mj mk ml mn n q c w z ev num plc sig pad row dig far cfr cby que has img kep  (by omega) (by omega)) (cwV 0 gts gX9_judge_X9_opens rfl rfl rfl (by decide +kernel) ⟨Nat.le_of_ble_eq_true rfl, Nat.le_of_ble_eq_true rfl⟩) ⟨fun a U g mk q => ⟨q.1, q.2.1, va_K.moved (u := U) (U := U.calling g mk a) (Vm.Alike.refl U.vm) q.2.2⟩, va_recv hK hPc (ci := 4) (q0 := 0) rfl rfl, fun U hU hW => ⟨rfl, by rw [hU]; exact hPc, va_K.moved hW.alike hK⟩⟩ rfl rfl hl.1 rfl (lv_room (Nat.le_of_ble_eq_true rfl)) dX9_judge_11 ⟨Nat.le_of_ble_eq_true rfl, Nat.le_of_ble_eq_true rfl⟩) (fun r hw => ?_)
    have hr11 := hw
    subst hr11
    refine lv_if_le (tgt := 22) gx gb dX9_judge_14 (by decide) (fun c14 => ?_) (fun c14 => ?_)
    · skip
      rw [n0_le (by omega)] at c14
      refine lv_aload_n gx gb dX9_judge_22 rfl (lv_at hl 0 rfl) ?_
      refine lv_iconst (v := nI 0) gx gb dX9_judge_23 (by decide) ?_
      have hPc := hP.sub (ws' := wM mo ma mb mc md me mf mg mh mi mj mk ml mn cI cZ n q c w z ev num plc sig pad row dig far cfr cby que has img kep) [0, 1, 2, 3, 4, 5, 6, 7, 8, 9, 10, 11, 12, 13] rfl
      have hDc := hD.sub (ws' := wM mo ma mb mc md me mf mg mh mi mj mk ml mn cI cZ n q c w z ev num plc sig pad row dig far cfr cby que has img kep) [0, 1, 2, 3, 4, 5, 6, 7, 8, 9, 10, 11, 12, 13] (by decide) rfl
      have hFc := va_free (wc := wM mo ma mb mc md me mf mg mh mi mj mk ml mn cI cZ n q c w z ev num plc sig pad row dig far cfr cby que has img kep) hD hS hA [0, 1, 2, 3, 4, 5, 6, 7, 8, 9, 10, 11, 12, 13] rfl
      refine va_calli (va_runV (As := [.int (nI 0)]) (rest := []) ⟨gx, gb, gml, gown, gts⟩ (kX9_goDay Gl D cI cJ cZ mo ma mb mc md me mf mg mh mi mj mk ml mn n q c w z ev num plc sig pad row dig far cfr cby que has img kep _ 0 (evn pad w) (by omega) (by omega) (by exact wf_evn hf6) (by omega) (by omega) (by omega) (by omega)) (cwV 1 gts gX9_judge_X9_goDay rfl rfl rfl (by decide +kernel) ⟨Nat.le_of_ble_eq_true rfl, Nat.le_of_ble_eq_true rfl⟩) ⟨fun a U g mk q => by obtain ⟨q0, q1, qP, qK, qD⟩ := q; exact ⟨q0, q1, qP, va_K.moved (u := U) (U := U.calling g mk a) (Vm.Alike.refl U.vm) qK, qD⟩, va_recv hK hPc (ci := 4) (q0 := 0) rfl rfl, fun U hU hW => ⟨rfl, by rw [hU], by rw [hU]; exact hPc, va_K.moved hW.alike hK, hDc.weaken (fun _ _ _ _ => trivial)⟩⟩ rfl rfl hl.1 rfl (lv_room (Nat.le_of_ble_eq_true rfl)) dX9_judge_24 ⟨Nat.le_of_ble_eq_true rfl, Nat.le_of_ble_eq_true rfl⟩) hS (fun q _ h => hFc q h) hFc (fun r u t H1 locs ht hvm hw hB hz1 hk1 hS => ?_)
      obtain ⟨hP1, hK1, hD1⟩ := hB
      rw [ht] at hP1
      try dsimp only at hw
      try dsimp only at hP1
      try dsimp only at hD1
      have hK := va_K.moved hvm.symm hK1
      obtain ⟨hP, hD⟩ := va_join (wr := []) (w1 := wM mo ma mb mc md me mf mg mh mi mj mk ml mn cI cZ n q c w ((dst (fun j => 0 / 10 ^ (cq pad w - 1 - j) % 10) pad (cpy plc row 7) q (dayN (fun j => 0 / 10 ^ (cq pad w - 1 - j) % 10) pad (cpy plc row 7) q (evn pad w))).2) (dayN (fun j => 0 / 10 ^ (cq pad w - 1 - j) % 10) pad (cpy plc row 7) q (evn pad w)) num plc sig pad ((dst (fun j => 0 / 10 ^ (cq pad w - 1 - j) % 10) pad (cpy plc row 7) q (dayN (fun j => 0 / 10 ^ (cq pad w - 1 - j) % 10) pad (cpy plc row 7) q (evn pad w))).1) dig far cfr cby que has img kep) hP hD [0, 1, 2, 3, 4, 5, 6, 7, 8, 9, 10, 11, 12, 13] [] rfl rfl (by decide) (by decide) hk1 hFc hP1 hD1
      have hP := hP.sub (ws' := wM mo ma mb mc md me mf mg mh mi mj mk ml mn cI cZ n q c w ((dst (fun j => 0 / 10 ^ (cq pad w - 1 - j) % 10) pad (cpy plc row 7) q (dayN (fun j => 0 / 10 ^ (cq pad w - 1 - j) % 10) pad (cpy plc row 7) q (evn pad w))).2) (dayN (fun j => 0 / 10 ^ (cq pad w - 1 - j) % 10) pad (cpy plc row 7) q (evn pad w)) num plc sig pad ((dst (fun j => 0 / 10 ^ (cq pad w - 1 - j) % 10) pad (cpy plc row 7) q (dayN (fun j => 0 / 10 ^ (cq pad w - 1 - j) % 10) pad (cpy plc row 7) q (evn pad w))).1) dig far cfr cby que has img kep) [0, 1, 2, 3, 4, 5, 6, 7, 8, 9, 10, 11, 12, 13] rfl
      have hD := hD.sub (ws' := wM mo ma mb mc md me mf mg mh mi mj mk ml mn cI cZ n q c w ((dst (fun j => 0 / 10 ^ (cq pad w - 1 - j) % 10) pad (cpy plc row 7) q (dayN (fun j => 0 / 10 ^ (cq pad w - 1 - j) % 10) pad (cpy plc row 7) q (evn pad w))).2) (dayN (fun j => 0 / 10 ^ (cq pad w - 1 - j) % 10) pad (cpy plc row 7) q (evn pad w)) num plc sig pad ((dst (fun j => 0 / 10 ^ (cq pad w - 1 - j) % 10) pad (cpy plc row 7) q (dayN (fun j => 0 / 10 ^ (cq pad w - 1 - j) % 10) pad (cpy plc row 7) q (evn pad w))).1) dig far cfr cby que has img kep) [0, 1, 2, 3, 4, 5, 6, 7, 8, 9, 10, 11, 12, 13] (by decide) rfl
      have hK := va_K.moved (Vm.Alike.refl Gs.vm) hK
      generalize H1 = H at hP hS ⊢
      have hr24 := hw
      subst hr24
      exact W.iret (v := zI (dayZ (fun j => 0 / 10 ^ (cq pad w - 1 - j) % 10) pad (cpy plc row 7) q (evn pad w))) gx gb gr (fun t ht hW => ⟨⟨zI (dayZ (fun j => 0 / 10 ^ (cq pad w - 1 - j) % 10) pad (cpy plc row 7) q (evn pad w)), ((dst (fun j => 0 / 10 ^ (cq pad w - 1 - j) % 10) pad (cpy plc row 7) q (dayN (fun j => 0 / 10 ^ (cq pad w - 1 - j) % 10) pad (cpy plc row 7) q (evn pad w))).1, (dst (fun j => 0 / 10 ^ (cq pad w - 1 - j) % 10) pad (cpy plc row 7) q (dayN (fun j => 0 / 10 ^ (cq pad w - 1 - j) % 10) pad (cpy plc row 7) q (evn pad w))).2, dayN (fun j => 0 / 10 ^ (cq pad w - 1 - j) % 10) pad (cpy plc row 7) q (evn pad w)), rfl, (by first | (dsimp only; done) | ((try dsimp only); first | (rw [judZ, if_pos hf6, if_neg (by omega)]) | (rw [judZ, if_pos hf6, if_pos (by omega), D0_ref, dayZ_f D0 pad _ plc]))), by rw [ht]; exact hP, va_K.moved hW.alike hK, hD⟩, hS.F ht⟩) hS.2.2 dX9_judge_27
    · skip
      rw [n0_le (by omega)] at c14
      refine lv_bipush (v := zI (-3)) gx gb dX9_judge_17 (by decide) ?_
      refine lv_goto (tgt := 27) gx gb dX9_judge_19 (by decide) ?_
      exact W.iret (v := zI (-3)) gx gb gr (fun t ht hW => ⟨⟨zI (-3), (row, z, ev), rfl, (by first | (dsimp only; done) | ((try dsimp only); first | (rw [judZ, if_pos hf6, if_neg (by omega)]) | (rw [judZ, if_pos hf6, if_pos (by omega), D0_ref, dayZ_f D0 pad _ plc]))), by rw [ht]; exact hP, va_K.moved hW.alike hK, hD⟩, hS.F ht⟩) hS.2.2 dX9_judge_27
  · skip
    rw [z0_lt (by omega) (by omega)] at c4
    have hn6 : ¬ fltZ pad w = -6 := by omega
    refine lv_bipush (v := zI (-5)) gx gb dX9_judge_7 (by decide) ?_
    exact W.iret (v := zI (-5)) gx gb gr (fun t ht hW => ⟨⟨zI (-5), (row, z, ev), rfl, (by first | (dsimp only; done) | ((try dsimp only); rw [judZ, if_neg hn6])), by rw [ht]; exact hP, va_K.moved hW.alike hK, hD⟩, hS.F ht⟩) hS.2.2 dX9_judge_9

set_option maxHeartbeats 4000000 in
set_option maxRecDepth 100000 in
theorem kX9_barOfDay (Gl : Launch) (D : va_G) (cI cJ cZ : ClassId) (mo : Nat) (ma : Nat) (mb : Nat) (mc : Nat) (md : Nat) (me : Nat) (mf : Nat) (mg : Nat) (mh : Nat) (mi : Nat) (mj : Nat) (mk : Nat) (ml : Nat) (mn : Nat) (n : Nat) (q : Nat) (c : Nat) (w : Nat) (z : Nat) (ev : Nat) (num : Nat → Nat) (plc : Nat → Nat) (sig : Nat → Nat) (pad : Nat → Nat) (row : Nat → Nat) (dig : Nat → Nat) (far : Nat → Int32) (cfr : Nat → Nat) (cby : Nat → Nat) (que : Nat → Nat) (has : Nat → Nat) (img : Nat → Nat) (kep : Nat → Nat) (sz : Nat) (hw : w ≤ 60) (hg : ∀ k, k < w → pad k < 127) (hn1 : 1 ≤ n) (hn7 : n ≤ 7) (hq1 : 1 ≤ q) (hqn : q ≤ n) : Met Gl yX9_barOfDay wsX9_barOfDay ({ frames := 4, cells := 0, slots := 0, locals := 93 } : Room) (va_Pc [.ref mo] (fun U => U.heap.size = sz ∧ va_P D vwCl (wM mo ma mb mc md me mf mg mh mi mj mk ml mn cI cZ n q c w z ev num plc sig pad row dig far cfr cby que has img kep) U.heap ∧ va_K D vwCl [(cI, .int), (cJ, .long), (cZ, .boolean)] U ∧ va_D (fun _ => True) (wM mo ma mb mc md me mf mg mh mi mj mk ml mn cI cZ n q c w z ev num plc sig pad row dig far cfr cby que has img kep))) (va_Qi (fun (r : Int32) (u : (Nat → Nat) × (Nat) × (Nat)) => r = zI (barZ pad w plc q) ∧ (barZ pad w plc q = 0 → u.2.1 = sizB pad w plc q ∧ u.2.2 = evn pad w ∧ ∀ k, k < u.2.1 → u.1 k = rowB pad w plc q k)) (fun (u : (Nat → Nat) × (Nat) × (Nat)) t => va_P D vwCl (wM mo ma mb mc md me mf mg mh mi mj mk ml mn cI cZ n q c w u.2.1 u.2.2 num plc sig pad u.1 dig far cfr cby que has img kep) t.heap ∧ va_K D vwCl [(cI, .int), (cJ, .long), (cZ, .boolean)] t ∧ va_D (va_A (wM mo ma mb mc md me mf mg mh mi mj mk ml mn cI cZ n q c w z ev num plc sig pad row dig far cfr cby que has img kep) sz) (wM mo ma mb mc md me mf mg mh mi mj mk ml mn cI cZ n q c w u.2.1 u.2.2 num plc sig pad u.1 dig far cfr cby que has img kep)) (va_A (wM mo ma mb mc md me mf mg mh mi mj mk ml mn cI cZ n q c w z ev num plc sig pad row dig far cfr cby que has img kep) sz)) 0 0 (va_A (wM mo ma mb mc md me mf mg mh mi mj mk ml mn cI cZ n q c w z ev num plc sig pad row dig far cfr cby que has img kep) sz) := by
  refine Met.ofW (cc := cX9_barOfDay) (maxL := 1) (ret := (some .int)) (by decide +kernel) rfl ?_
  intro Gp Ge Gs Gm Ga Gw Gt Gc G1 Bd gml gv
  obtain ⟨rfl, hsz, hP, hK, hD0⟩ := gv
  have gx := Bd.exec
  have gb := Bd.bytes
  have gr := Bd.returns
  have gts := atoms_spec (ws := wsX9_barOfDay) Bd.pre
  have gown : Gs.vm.findClass RX9 = some Gm.cls := findClass_of_methodNamed Bd.named
  have glk := Bd.notSynchronized
  subst hsz
  have hD := hD0.self (sz := Gs.heap.size)
  generalize hAe : va_A (wM mo ma mb mc md me mf mg mh mi mj mk ml mn cI cZ n q c w z ev num plc sig pad row dig far cfr cby que has img kep) Gs.heap.size = A at hD ⊢
  have hA : ∀ q : Nat, Gs.heap.size ≤ q → A q := fun q h => by rw [← hAe]; exact Or.inr h
  have hS : va_S A Gs.heap Gs.heap [] := va_S.rf
  have hP : va_P D vwCl (wM mo ma mb mc md me mf mg mh mi mj mk ml mn cI cZ n q c w z ev num plc sig pad row dig far cfr cby que has img kep) Gs.heap := hP
  have hl := lv_entry ([.ref mo]) (n := 1) (Nat.le_of_ble_eq_true rfl)
  rw [lg_entry_eq]
  generalize (lg_sl ([.ref mo]) ++ List.replicate (1 - (lg_sl ([.ref mo])).length) Slot.unset).toArray = ls at hl ⊢
  have hl : lv_has ls 1 [(0, .ref mo)] := hl
  refine lv_aload_n gx gb dX9_barOfDay_0 rfl (lv_at hl 0 rfl) ?_
  have hfb := fltZ_bd pad w
  have hPc := hP.sub (ws' := wM mo ma mb mc md me mf mg mh mi mj mk ml mn cI cZ n q c w z ev num plc sig pad row dig far cfr cby que has img kep) [0, 1, 2, 3, 4, 5, 6, 7, 8, 9, 10, 11, 12, 13] rfl
  refine vp_callSi (W.runV (As := []) (rest := []) ⟨gx, gb, gml, gown, gts⟩ (kX9_faultOf Gl D cI cJ cZ mo ma mb mc md me mf mg mh mi mj mk ml mn n q c w z ev num plc sig pad row dig far cfr cby que has img kep  (by omega) (by omega)) (cwV 0 gts gX9_barOfDay_X9_faultOf rfl rfl rfl (by decide +kernel) ⟨Nat.le_of_ble_eq_true rfl, Nat.le_of_ble_eq_true rfl⟩) ⟨fun a U g mk q => ⟨q.1, q.2.1, va_K.moved (u := U) (U := U.calling g mk a) (Vm.Alike.refl U.vm) q.2.2⟩, va_recv hK hPc (ci := 4) (q0 := 0) rfl rfl, fun U hU hW => ⟨rfl, by rw [hU]; exact hPc, va_K.moved hW.alike hK⟩⟩ rfl rfl hl.1 rfl (lv_room (Nat.le_of_ble_eq_true rfl)) dX9_barOfDay_1 ⟨Nat.le_of_ble_eq_true rfl, Nat.le_of_ble_eq_true rfl⟩) (fun r hw => ?_)
  have hr1 := hw
  subst hr1
  refine lv_if_lt (tgt := 12) gx gb dX9_barOfDay_4 (by decide) (fun c4 => ?_) (fun c4 => ?_)
  · skip
    rw [z0_lt (by omega) (by omega)] at c4
    have hf6 : fltZ pad w = -6 := by have := fltZ_bd pad w; omega
    have hc3 := cq_3 (fltZ_m6 hf6).1
    refine lv_aload_n gx gb dX9_barOfDay_12 rfl (lv_at hl 0 rfl) ?_
    have hPc := hP.sub (ws' := wM mo ma mb mc md me mf mg mh mi mj mk ml mn cI cZ n q c w z ev num plc sig pad row dig far cfr cby que has img kep) [0, 1, 2, 3, 4, 5, 6, 7, 8, 9, 10, 11, 12, 13] rfl
    refine vp_callSi (W.runV (As := []) (rest := []) ⟨gx, gb, gml, gown, gts⟩ (kX9_opens Gl D cI cJ cZ mo ma mb mc md me mf mg mh mi mj mk ml mn n q c w z ev num plc sig pad row dig far cfr cby que has img kep  (by omega) (by omega)) (cwV 0 gts gX9_barOfDay_X9_opens rfl rfl rfl (by decide +kernel) ⟨Nat.le_of_ble_eq_true rfl, Nat.le_of_ble_eq_true rfl⟩) ⟨fun a U g mk q => ⟨q.1, q.2.1, va_K.moved (u := U) (U := U.calling g mk a) (Vm.Alike.refl U.vm) q.2.2⟩, va_recv hK hPc (ci := 4) (q0 := 0) rfl rfl, fun U hU hW => ⟨rfl, by rw [hU]; exact hPc, va_K.moved hW.alike hK⟩⟩ rfl rfl hl.1 rfl (lv_room (Nat.le_of_ble_eq_true rfl)) dX9_barOfDay_13 ⟨Nat.le_of_ble_eq_true rfl, Nat.le_of_ble_eq_true rfl⟩) (fun r hw => ?_)
    have hr13 := hw
    subst hr13
    refine lv_if_le (tgt := 24) gx gb dX9_barOfDay_16 (by decide) (fun c16 => ?_) (fun c16 => ?_)
    · skip
      rw [n0_le (by omega)] at c16
      have hc0 : cq pad w = 0 := by omega
      refine lv_aload_n gx gb dX9_barOfDay_24 rfl (lv_at hl 0 rfl) ?_
      refine lv_iconst (v := nI 0) gx gb dX9_barOfDay_25 (by decide) ?_
      have hPc := hP.sub (ws' := wM mo ma mb mc md me mf mg mh mi mj mk ml mn cI cZ n q c w z ev num plc sig pad row dig far cfr cby que has img kep) [0, 1, 2, 3, 4, 5, 6, 7, 8, 9, 10, 11, 12, 13] rfl
      have hDc := hD.sub (ws' := wM mo ma mb mc md me mf mg mh mi mj mk ml mn cI cZ n q c w z ev num plc sig pad row dig far cfr cby que has img kep) [0, 1, 2, 3, 4, 5, 6, 7, 8, 9, 10, 11, 12, 13] (by decide) rfl
      have hFc := va_free (wc := wM mo ma mb mc md me mf mg mh mi mj mk ml mn cI cZ n q c w z ev num plc sig pad row dig far cfr cby que has img kep) hD hS hA [0, 1, 2, 3, 4, 5, 6, 7, 8, 9, 10, 11, 12, 13] rfl
      refine va_calli (va_runV (As := [.int (nI 0)]) (rest := []) ⟨gx, gb, gml, gown, gts⟩ (kX9_goDay Gl D cI cJ cZ mo ma mb mc md me mf mg mh mi mj mk ml mn n q c w z ev num plc sig pad row dig far cfr cby que has img kep _ 0 (evn pad w) (by omega) (by omega) (by exact wf_evn hf6) (by omega) (by omega) (by omega) (by omega)) (cwV 1 gts gX9_barOfDay_X9_goDay rfl rfl rfl (by decide +kernel) ⟨Nat.le_of_ble_eq_true rfl, Nat.le_of_ble_eq_true rfl⟩) ⟨fun a U g mk q => by obtain ⟨q0, q1, qP, qK, qD⟩ := q; exact ⟨q0, q1, qP, va_K.moved (u := U) (U := U.calling g mk a) (Vm.Alike.refl U.vm) qK, qD⟩, va_recv hK hPc (ci := 4) (q0 := 0) rfl rfl, fun U hU hW => ⟨rfl, by rw [hU], by rw [hU]; exact hPc, va_K.moved hW.alike hK, hDc.weaken (fun _ _ _ _ => trivial)⟩⟩ rfl rfl hl.1 rfl (lv_room (Nat.le_of_ble_eq_true rfl)) dX9_barOfDay_26 ⟨Nat.le_of_ble_eq_true rfl, Nat.le_of_ble_eq_true rfl⟩) hS (fun q _ h => hFc q h) hFc (fun r u t H1 locs ht hvm hw hB hz1 hk1 hS => ?_)
      obtain ⟨hP1, hK1, hD1⟩ := hB
      rw [ht] at hP1
      try dsimp only at hw
      try dsimp only at hP1
      try dsimp only at hD1
      have hK := va_K.moved hvm.symm hK1
      obtain ⟨hP, hD⟩ := va_join (wr := []) (w1 := wM mo ma mb mc md me mf mg mh mi mj mk ml mn cI cZ n q c w ((dst (fun j => 0 / 10 ^ (cq pad w - 1 - j) % 10) pad (cpy plc row 7) q (dayN (fun j => 0 / 10 ^ (cq pad w - 1 - j) % 10) pad (cpy plc row 7) q (evn pad w))).2) (dayN (fun j => 0 / 10 ^ (cq pad w - 1 - j) % 10) pad (cpy plc row 7) q (evn pad w)) num plc sig pad ((dst (fun j => 0 / 10 ^ (cq pad w - 1 - j) % 10) pad (cpy plc row 7) q (dayN (fun j => 0 / 10 ^ (cq pad w - 1 - j) % 10) pad (cpy plc row 7) q (evn pad w))).1) dig far cfr cby que has img kep) hP hD [0, 1, 2, 3, 4, 5, 6, 7, 8, 9, 10, 11, 12, 13] [] rfl rfl (by decide) (by decide) hk1 hFc hP1 hD1
      have hP := hP.sub (ws' := wM mo ma mb mc md me mf mg mh mi mj mk ml mn cI cZ n q c w ((dst (fun j => 0 / 10 ^ (cq pad w - 1 - j) % 10) pad (cpy plc row 7) q (dayN (fun j => 0 / 10 ^ (cq pad w - 1 - j) % 10) pad (cpy plc row 7) q (evn pad w))).2) (dayN (fun j => 0 / 10 ^ (cq pad w - 1 - j) % 10) pad (cpy plc row 7) q (evn pad w)) num plc sig pad ((dst (fun j => 0 / 10 ^ (cq pad w - 1 - j) % 10) pad (cpy plc row 7) q (dayN (fun j => 0 / 10 ^ (cq pad w - 1 - j) % 10) pad (cpy plc row 7) q (evn pad w))).1) dig far cfr cby que has img kep) [0, 1, 2, 3, 4, 5, 6, 7, 8, 9, 10, 11, 12, 13] rfl
      have hD := hD.sub (ws' := wM mo ma mb mc md me mf mg mh mi mj mk ml mn cI cZ n q c w ((dst (fun j => 0 / 10 ^ (cq pad w - 1 - j) % 10) pad (cpy plc row 7) q (dayN (fun j => 0 / 10 ^ (cq pad w - 1 - j) % 10) pad (cpy plc row 7) q (evn pad w))).2) (dayN (fun j => 0 / 10 ^ (cq pad w - 1 - j) % 10) pad (cpy plc row 7) q (evn pad w)) num plc sig pad ((dst (fun j => 0 / 10 ^ (cq pad w - 1 - j) % 10) pad (cpy plc row 7) q (dayN (fun j => 0 / 10 ^ (cq pad w - 1 - j) % 10) pad (cpy plc row 7) q (evn pad w))).1) dig far cfr cby que has img kep) [0, 1, 2, 3, 4, 5, 6, 7, 8, 9, 10, 11, 12, 13] (by decide) rfl
      have hK := va_K.moved (Vm.Alike.refl Gs.vm) hK
      generalize H1 = H at hP hS ⊢
      have hr26 := hw
      subst hr26
      refine lv_evi (zI (dayZ D0 pad plc q (evn pad w))) (congrArg zI (by rw [D0_ref, dayZ_f D0 pad _ plc])) ?_
      have hdb := dayZ_bd D0 pad plc q (evn pad w)
      have hcw := evn_le pad w
      refine lv_if_lt (tgt := 37) gx gb dX9_barOfDay_29 (by decide) (fun c29 => ?_) (fun c29 => ?_)
      · skip
        rw [z0_lt (by omega) (by omega)] at c29
        have hd6 : dayZ D0 pad plc q (evn pad w) = -6 := by omega
        refine lv_iconst (v := nI 0) gx gb dX9_barOfDay_37 (by decide) ?_
        exact W.iret (v := nI 0) gx gb gr (fun t ht hW => ⟨⟨nI 0, ((dst (fun j => 0 / 10 ^ (cq pad w - 1 - j) % 10) pad (cpy plc row 7) q (dayN (fun j => 0 / 10 ^ (cq pad w - 1 - j) % 10) pad (cpy plc row 7) q (evn pad w))).1, (dst (fun j => 0 / 10 ^ (cq pad w - 1 - j) % 10) pad (cpy plc row 7) q (dayN (fun j => 0 / 10 ^ (cq pad w - 1 - j) % 10) pad (cpy plc row 7) q (evn pad w))).2, dayN (fun j => 0 / 10 ^ (cq pad w - 1 - j) % 10) pad (cpy plc row 7) q (evn pad w)), rfl, (by first | (dsimp only; done) | ((try dsimp only); first | exact ⟨by rw [barZ, if_neg hn6], fun h => by rw [barZ, if_neg hn6] at h; omega⟩ | exact ⟨by rw [barZ, if_pos hf6, if_neg (by omega)], fun h => by rw [barZ, if_pos hf6, if_neg (by omega)] at h; omega⟩ | exact ⟨by rw [barZ, if_pos hf6, if_pos hc0, if_neg hd6], fun h => by rw [barZ, if_pos hf6, if_pos hc0, if_neg hd6] at h; omega⟩ | exact ⟨by rw [barZ, if_pos hf6, if_pos hc0, if_pos hd6]; rfl, fun _ => bar_ok (D0_ref _) (fun k hk => cpy7 _ _ (by omega)) hd6⟩)), by rw [ht]; exact hP, va_K.moved hW.alike hK, hD⟩, hS.F ht⟩) hS.2.2 dX9_barOfDay_38
      · skip
        rw [z0_lt (by omega) (by omega)] at c29
        have hd6 : ¬ dayZ D0 pad plc q (evn pad w) = -6 := by omega
        refine lv_bipush (v := zI (-5)) gx gb dX9_barOfDay_32 (by decide) ?_
        refine lv_goto (tgt := 38) gx gb dX9_barOfDay_34 (by decide) ?_
        exact W.iret (v := zI (-5)) gx gb gr (fun t ht hW => ⟨⟨zI (-5), ((dst (fun j => 0 / 10 ^ (cq pad w - 1 - j) % 10) pad (cpy plc row 7) q (dayN (fun j => 0 / 10 ^ (cq pad w - 1 - j) % 10) pad (cpy plc row 7) q (evn pad w))).1, (dst (fun j => 0 / 10 ^ (cq pad w - 1 - j) % 10) pad (cpy plc row 7) q (dayN (fun j => 0 / 10 ^ (cq pad w - 1 - j) % 10) pad (cpy plc row 7) q (evn pad w))).2, dayN (fun j => 0 / 10 ^ (cq pad w - 1 - j) % 10) pad (cpy plc row 7) q (evn pad w)), rfl, (by first | (dsimp only; done) | ((try dsimp only); first | exact ⟨by rw [barZ, if_neg hn6], fun h => by rw [barZ, if_neg hn6] at h; omega⟩ | exact ⟨by rw [barZ, if_pos hf6, if_neg (by omega)], fun h => by rw [barZ, if_pos hf6, if_neg (by omega)] at h; omega⟩ | exact ⟨by rw [barZ, if_pos hf6, if_pos hc0, if_neg hd6], fun h => by rw [barZ, if_pos hf6, if_pos hc0, if_neg hd6] at h; omega⟩ | exact ⟨by rw [barZ, if_pos hf6, if_pos hc0, if_pos hd6]; rfl, fun _ => bar_ok (D0_ref _) (fun k hk => cpy7 _ _ (by omega)) hd6⟩)), by rw [ht]; exact hP, va_K.moved hW.alike hK, hD⟩, hS.F ht⟩) hS.2.2 dX9_barOfDay_38
    · skip
      rw [n0_le (by omega)] at c16
      refine lv_bipush (v := zI (-3)) gx gb dX9_barOfDay_19 (by decide) ?_
      refine lv_goto (tgt := 38) gx gb dX9_barOfDay_21 (by decide) ?_
      exact W.iret (v := zI (-3)) gx gb gr (fun t ht hW => ⟨⟨zI (-3), (row, z, ev), rfl, (by first | (dsimp only; done) | ((try dsimp only); first | exact ⟨by rw [barZ, if_neg hn6], fun h => by rw [barZ, if_neg hn6] at h; omega⟩ | exact ⟨by rw [barZ, if_pos hf6, if_neg (by omega)], fun h => by rw [barZ, if_pos hf6, if_neg (by omega)] at h; omega⟩ | exact ⟨by rw [barZ, if_pos hf6, if_pos hc0, if_neg hd6], fun h => by rw [barZ, if_pos hf6, if_pos hc0, if_neg hd6] at h; omega⟩ | exact ⟨by rw [barZ, if_pos hf6, if_pos hc0, if_pos hd6]; rfl, fun _ => bar_ok (D0_ref _) (fun k hk => cpy7 _ _ (by omega)) hd6⟩)), by rw [ht]; exact hP, va_K.moved hW.alike hK, hD⟩, hS.F ht⟩) hS.2.2 dX9_barOfDay_38
  · skip
    rw [z0_lt (by omega) (by omega)] at c4
    have hn6 : ¬ fltZ pad w = -6 := by omega
    refine lv_bipush (v := zI (-5)) gx gb dX9_barOfDay_7 (by decide) ?_
    refine lv_goto (tgt := 38) gx gb dX9_barOfDay_9 (by decide) ?_
    exact W.iret (v := zI (-5)) gx gb gr (fun t ht hW => ⟨⟨zI (-5), (row, z, ev), rfl, (by first | (dsimp only; done) | ((try dsimp only); first | exact ⟨by rw [barZ, if_neg hn6], fun h => by rw [barZ, if_neg hn6] at h; omega⟩ | exact ⟨by rw [barZ, if_pos hf6, if_neg (by omega)], fun h => by rw [barZ, if_pos hf6, if_neg (by omega)] at h; omega⟩ | exact ⟨by rw [barZ, if_pos hf6, if_pos hc0, if_neg hd6], fun h => by rw [barZ, if_pos hf6, if_pos hc0, if_neg hd6] at h; omega⟩ | exact ⟨by rw [barZ, if_pos hf6, if_pos hc0, if_pos hd6]; rfl, fun _ => bar_ok (D0_ref _) (fun k hk => cpy7 _ _ (by omega)) hd6⟩)), by rw [ht]; exact hP, va_K.moved hW.alike hK, hD⟩, hS.F ht⟩) hS.2.2 dX9_barOfDay_38

set_option maxHeartbeats 4000000 in
set_option maxRecDepth 100000 in
theorem kX9_done (Gl : Launch) (D : va_G) (cI cJ cZ : ClassId) (mo : Nat) (ma : Nat) (mb : Nat) (mc : Nat) (md : Nat) (me : Nat) (mf : Nat) (mg : Nat) (mh : Nat) (mi : Nat) (mj : Nat) (mk : Nat) (ml : Nat) (mn : Nat) (n : Nat) (q : Nat) (c : Nat) (w : Nat) (z : Nat) (ev : Nat) (num : Nat → Nat) (plc : Nat → Nat) (sig : Nat → Nat) (pad : Nat → Nat) (row : Nat → Nat) (dig : Nat → Nat) (far : Nat → Int32) (cfr : Nat → Nat) (cby : Nat → Nat) (que : Nat → Nat) (has : Nat → Nat) (img : Nat → Nat) (kep : Nat → Nat) (sz : Nat) (hw : w ≤ 60) (hg : ∀ k, k < w → pad k < 127) (hn1 : 1 ≤ n) (hn7 : n ≤ 7) (hq1 : 1 ≤ q) (hqn : q ≤ n) : Met Gl yX9_done wsX9_done ({ frames := 5, cells := 0, slots := 0, locals := 113 } : Room) (va_Pc [.ref mo] (fun U => U.heap.size = sz ∧ va_P D vwCl (wM mo ma mb mc md me mf mg mh mi mj mk ml mn cI cZ n q c w z ev num plc sig pad row dig far cfr cby que has img kep) U.heap ∧ va_K D vwCl [(cI, .int), (cJ, .long), (cZ, .boolean)] U ∧ va_D (fun _ => True) (wM mo ma mb mc md me mf mg mh mi mj mk ml mn cI cZ n q c w z ev num plc sig pad row dig far cfr cby que has img kep))) (va_Qi (fun (r : Int32) (u : (Nat → Nat) × (Nat → Nat) × (Nat) × (Nat)) => r = zI (donZ pad w plc q) ∧ ((barZ pad w plc q = 0 → ∀ k, k < sizB pad w plc q → u.1 k = rowB pad w plc q k) ∧ (¬ barZ pad w plc q = 0 → u.1 = plc))) (fun (u : (Nat → Nat) × (Nat → Nat) × (Nat) × (Nat)) t => va_P D vwCl (wM mo ma mb mc md me mf mg mh mi mj mk ml mn cI cZ n (if barZ pad w plc q = 0 then sizB pad w plc q else q) c (if barZ pad w plc q = 0 then 0 else w) u.2.2.1 u.2.2.2 num u.1 sig pad u.2.1 dig far cfr cby que has img kep) t.heap ∧ va_K D vwCl [(cI, .int), (cJ, .long), (cZ, .boolean)] t ∧ va_D (va_A (wM mo ma mb mc md me mf mg mh mi mj mk ml mn cI cZ n q c w z ev num plc sig pad row dig far cfr cby que has img kep) sz) (wM mo ma mb mc md me mf mg mh mi mj mk ml mn cI cZ n (if barZ pad w plc q = 0 then sizB pad w plc q else q) c (if barZ pad w plc q = 0 then 0 else w) u.2.2.1 u.2.2.2 num u.1 sig pad u.2.1 dig far cfr cby que has img kep)) (va_A (wM mo ma mb mc md me mf mg mh mi mj mk ml mn cI cZ n q c w z ev num plc sig pad row dig far cfr cby que has img kep) sz)) 0 0 (va_A (wM mo ma mb mc md me mf mg mh mi mj mk ml mn cI cZ n q c w z ev num plc sig pad row dig far cfr cby que has img kep) sz) := by
  refine Met.ofW (cc := cX9_done) (maxL := 3) (ret := (some .int)) (by decide +kernel) rfl ?_
  intro Gp Ge Gs Gm Ga Gw Gt Gc G1 Bd gml gv
  obtain ⟨rfl, hsz, hP, hK, hD0⟩ := gv
  have gx := Bd.exec
  have gb := Bd.bytes
  have gr := Bd.returns
  have gts := atoms_spec (ws := wsX9_done) Bd.pre
  have gown : Gs.vm.findClass RX9 = some Gm.cls := findClass_of_methodNamed Bd.named
  have glk := Bd.notSynchronized
  subst hsz
  have hD := hD0.self (sz := Gs.heap.size)
  generalize hAe : va_A (wM mo ma mb mc md me mf mg mh mi mj mk ml mn cI cZ n q c w z ev num plc sig pad row dig far cfr cby que has img kep) Gs.heap.size = A at hD ⊢
  have hA : ∀ q : Nat, Gs.heap.size ≤ q → A q := fun q h => by rw [← hAe]; exact Or.inr h
  have hS : va_S A Gs.heap Gs.heap [] := va_S.rf
  have hP : va_P D vwCl (wM mo ma mb mc md me mf mg mh mi mj mk ml mn cI cZ n q c w z ev num plc sig pad row dig far cfr cby que has img kep) Gs.heap := hP
  have hl := lv_entry ([.ref mo]) (n := 3) (Nat.le_of_ble_eq_true rfl)
  rw [lg_entry_eq]
  generalize (lg_sl ([.ref mo]) ++ List.replicate (3 - (lg_sl ([.ref mo])).length) Slot.unset).toArray = ls at hl ⊢
  have hl : lv_has ls 3 [(0, .ref mo)] := hl
  have i9 : ∀ w ∈ wsX90, w ∈ wsX9_done := by decide +kernel
  refine lv_aload_n gx gb dX9_done_0 rfl (lv_at hl 0 rfl) ?_
  have hPc := hP.sub (ws' := wM mo ma mb mc md me mf mg mh mi mj mk ml mn cI cZ n q c w z ev num plc sig pad row dig far cfr cby que has img kep) [0, 1, 2, 3, 4, 5, 6, 7, 8, 9, 10, 11, 12, 13] rfl
  have hDc := hD.sub (ws' := wM mo ma mb mc md me mf mg mh mi mj mk ml mn cI cZ n q c w z ev num plc sig pad row dig far cfr cby que has img kep) [0, 1, 2, 3, 4, 5, 6, 7, 8, 9, 10, 11, 12, 13] (by decide) rfl
  have hFc := va_free (wc := wM mo ma mb mc md me mf mg mh mi mj mk ml mn cI cZ n q c w z ev num plc sig pad row dig far cfr cby que has img kep) hD hS hA [0, 1, 2, 3, 4, 5, 6, 7, 8, 9, 10, 11, 12, 13] rfl
  refine va_calli (va_runV (As := []) (rest := []) ⟨gx, gb, gml, gown, gts⟩ (kX9_barOfDay Gl D cI cJ cZ mo ma mb mc md me mf mg mh mi mj mk ml mn n q c w z ev num plc sig pad row dig far cfr cby que has img kep _  (by omega) (by omega) (by omega) (by omega) (by omega) (by omega)) (cwV 0 gts gX9_done_X9_barOfDay rfl rfl rfl (by decide +kernel) ⟨Nat.le_of_ble_eq_true rfl, Nat.le_of_ble_eq_true rfl⟩) ⟨fun a U g mk q => by obtain ⟨q0, q1, qP, qK, qD⟩ := q; exact ⟨q0, q1, qP, va_K.moved (u := U) (U := U.calling g mk a) (Vm.Alike.refl U.vm) qK, qD⟩, va_recv hK hPc (ci := 4) (q0 := 0) rfl rfl, fun U hU hW => ⟨rfl, by rw [hU], by rw [hU]; exact hPc, va_K.moved hW.alike hK, hDc.weaken (fun _ _ _ _ => trivial)⟩⟩ rfl rfl hl.1 rfl (lv_room (Nat.le_of_ble_eq_true rfl)) dX9_done_1 ⟨Nat.le_of_ble_eq_true rfl, Nat.le_of_ble_eq_true rfl⟩) hS (fun q _ h => hFc q h) hFc (fun r u t H1 locs ht hvm hw hB hz1 hk1 hS => ?_)
  obtain ⟨row_1, z_1, ev_1⟩ := u
  obtain ⟨hP1, hK1, hD1⟩ := hB
  rw [ht] at hP1
  try dsimp only at hw
  try dsimp only at hP1
  try dsimp only at hD1
  have hK := va_K.moved hvm.symm hK1
  obtain ⟨hP, hD⟩ := va_join (wr := []) (w1 := wM mo ma mb mc md me mf mg mh mi mj mk ml mn cI cZ n q c w z_1 ev_1 num plc sig pad row_1 dig far cfr cby que has img kep) hP hD [0, 1, 2, 3, 4, 5, 6, 7, 8, 9, 10, 11, 12, 13] [] rfl rfl (by decide) (by decide) hk1 hFc hP1 hD1
  have hP := hP.sub (ws' := wM mo ma mb mc md me mf mg mh mi mj mk ml mn cI cZ n q c w z_1 ev_1 num plc sig pad row_1 dig far cfr cby que has img kep) [0, 1, 2, 3, 4, 5, 6, 7, 8, 9, 10, 11, 12, 13] rfl
  have hD := hD.sub (ws' := wM mo ma mb mc md me mf mg mh mi mj mk ml mn cI cZ n q c w z_1 ev_1 num plc sig pad row_1 dig far cfr cby que has img kep) [0, 1, 2, 3, 4, 5, 6, 7, 8, 9, 10, 11, 12, 13] (by decide) rfl
  have hK := va_K.moved (Vm.Alike.refl Gs.vm) hK
  generalize H1 = H at hP hS ⊢
  obtain ⟨hr1, hw⟩ := hw
  subst hr1
  have hw4 := hw
  have hbb := barZ_bd pad w plc q
  refine lv_istore_n (lv' := [(1, .int (zI (barZ pad w plc q))), (0, .ref mo)]) gx gb dX9_done_4 rfl hl (by decide) rfl (fun ls hl => ?_)
  refine lv_iload_n gx gb dX9_done_5 rfl (lv_at hl 0 rfl) ?_
  refine lv_if_ge (tgt := 11) gx gb dX9_done_6 (by decide) (fun c6 => ?_) (fun c6 => ?_)
  · skip
    rw [z0_ge (by omega) (by omega)] at c6
    have hb0 : barZ pad w plc q = 0 := by omega
    obtain ⟨hz1, hev, hrw⟩ := hw4 hb0
    have hsb := sizB_bd pad w plc hq1
    refine lv_aload_n gx gb dX9_done_11 rfl (lv_at hl 1 rfl) ?_
    refine lv_aload_n gx gb dX9_done_12 rfl (lv_at hl 1 rfl) ?_
    refine va_get (D := D) (ci := 4) (v := .int (nI z_1)) (C := RX9) (T := TX9) (N := 19) gx gb gts i9 gown hK hP 0 rfl rfl 9 (by decide) (gts (.fieldLink RX9 81 "SwanSumsModel" "size" "I") (by decide +kernel)) (fun _ h9 => h9) rfl dX9_done_13 ?_
    refine va_put (D := D) (ci := 4) (v := .int (nI z_1)) (ty := .int) (C := RX9) (T := TX9) (N := 19) gx gb gts i9 tyX9 tyX9_ok nmX9 gown hK hP hD hS 0 rfl rfl 1 (by decide) (gts (.fieldLink RX9 13 "SwanSumsModel" "many" "I") (by decide +kernel)) (fun _ h9 => h9) rfl (by decide +kernel) rfl rfl (Nat.le_of_ble_eq_true rfl) dX9_done_16 (fun H locs hP hD hS => ?_)
    have hP : va_P D vwCl (wM mo ma mb mc md me mf mg mh mi mj mk ml mn cI cZ n z_1 c w z_1 ev_1 num plc sig pad row_1 dig far cfr cby que has img kep) H := hP
    have hD : va_D A (wM mo ma mb mc md me mf mg mh mi mj mk ml mn cI cZ n z_1 c w z_1 ev_1 num plc sig pad row_1 dig far cfr cby que has img kep) := hD
    refine lv_iconst (v := nI 0) gx gb dX9_done_19 (by decide) ?_
    refine lv_istore_n (lv' := [(2, .int (nI 0)), (1, .int (zI (barZ pad w plc q))), (0, .ref mo)]) gx gb dX9_done_20 rfl hl (by decide) rfl (fun ls hl => ?_)
    have L21 : ∀ fu : Nat, ∀ (i : Nat) (hi : i ≤ 7), (7 - i) < fu → ∀ (H : Heap) (locs : List Loc), va_P D vwCl (wM mo ma mb mc md me mf mg mh mi mj mk ml mn cI cZ n z_1 c w z_1 ev_1 num (cpy row_1 plc i) sig pad row_1 dig far cfr cby que has img kep) H → va_D A (wM mo ma mb mc md me mf mg mh mi mj mk ml mn cI cZ n z_1 c w z_1 ev_1 num (cpy row_1 plc i) sig pad row_1 dig far cfr cby que has img kep) → va_S A Gs.heap H locs → ∀ ls : Array Slot, lv_has ls 3 [(2, .int (nI i)), (1, .int (zI (barZ pad w plc q))), (0, .ref mo)] → W Gp Gl Ge (headSpec wsX9_done ({ frames := 5, cells := 0, slots := 0, locals := 113 } : Room)).room Gs Gm ([.ref mo] : List Value).toArray Gw Gt Gc H locs 0 0 (MQ Gw (va_Qi (fun (r : Int32) (u : (Nat → Nat) × (Nat → Nat) × (Nat) × (Nat)) => r = zI (donZ pad w plc q) ∧ ((barZ pad w plc q = 0 → ∀ k, k < sizB pad w plc q → u.1 k = rowB pad w plc q k) ∧ (¬ barZ pad w plc q = 0 → u.1 = plc))) (fun (u : (Nat → Nat) × (Nat → Nat) × (Nat) × (Nat)) t => va_P D vwCl (wM mo ma mb mc md me mf mg mh mi mj mk ml mn cI cZ n (if barZ pad w plc q = 0 then sizB pad w plc q else q) c (if barZ pad w plc q = 0 then 0 else w) u.2.2.1 u.2.2.2 num u.1 sig pad u.2.1 dig far cfr cby que has img kep) t.heap ∧ va_K D vwCl [(cI, .int), (cJ, .long), (cZ, .boolean)] t ∧ va_D A (wM mo ma mb mc md me mf mg mh mi mj mk ml mn cI cZ n (if barZ pad w plc q = 0 then sizB pad w plc q else q) c (if barZ pad w plc q = 0 then 0 else w) u.2.2.1 u.2.2.2 num u.1 sig pad u.2.1 dig far cfr cby que has img kep)) A) ([.ref mo] : List Value).toArray Gs 0 0 A) (F0 Gm 21 ls []) := by
      intro fu
      induction fu with
      | zero => intro i hi hfu; exact absurd hfu (Nat.not_lt_zero _)
      | succ fu ih21 =>
        intro i hi hfu H locs hP hD hS ls hl
        refine lv_iload_n gx gb dX9_done_21 rfl (lv_at hl 0 rfl) ?_
        refine lv_bipush (v := nI 7) gx gb dX9_done_22 (by decide) ?_
        refine lv_icmp_ge (tgt := 45) gx gb dX9_done_24 (by decide) (fun c24 => ?_) (fun c24 => ?_)
        · skip
          rw [nI_leI (by omega) (by omega)] at c24
          refine lv_aload_n gx gb dX9_done_45 rfl (lv_at hl 2 rfl) ?_
          refine lv_iconst (v := nI 0) gx gb dX9_done_46 (by decide) ?_
          refine va_put (D := D) (ci := 4) (v := .int (nI 0)) (ty := .int) (C := RX9) (T := TX9) (N := 19) gx gb gts i9 tyX9 tyX9_ok nmX9 gown hK hP hD hS 0 rfl rfl 6 (by decide) (gts (.fieldLink RX9 71 "SwanSumsModel" "signs" "I") (by decide +kernel)) (fun _ h9 => h9) rfl (by decide +kernel) rfl rfl (Nat.le_of_ble_eq_true rfl) dX9_done_47 (fun H locs hP hD hS => ?_)
          have hP : va_P D vwCl (wM mo ma mb mc md me mf mg mh mi mj mk ml mn cI cZ n z_1 c 0 z_1 ev_1 num (cpy row_1 plc i) sig pad row_1 dig far cfr cby que has img kep) H := hP
          have hD : va_D A (wM mo ma mb mc md me mf mg mh mi mj mk ml mn cI cZ n z_1 c 0 z_1 ev_1 num (cpy row_1 plc i) sig pad row_1 dig far cfr cby que has img kep) := hD
          refine lv_aload_n gx gb dX9_done_50 rfl (lv_at hl 2 rfl) ?_
          refine va_get (D := D) (ci := 4) (v := .int (nI ev_1)) (C := RX9) (T := TX9) (N := 19) gx gb gts i9 gown hK hP 0 rfl rfl 10 (by decide) (gts (.fieldLink RX9 101 "SwanSumsModel" "events" "I") (by decide +kernel)) (fun _ h9 => h9) rfl dX9_done_51 ?_
          have e_q : z_1 = (if barZ pad w plc q = 0 then sizB pad w plc q else q) := by rw [if_pos hb0]; exact hz1
          have e_w : 0 = (if barZ pad w plc q = 0 then 0 else w) := by rw [if_pos hb0]
          have hP : va_P D vwCl (wM mo ma mb mc md me mf mg mh mi mj mk ml mn cI cZ n (if barZ pad w plc q = 0 then sizB pad w plc q else q) c (if barZ pad w plc q = 0 then 0 else w) z_1 ev_1 num (cpy row_1 plc i) sig pad row_1 dig far cfr cby que has img kep) H := by rw [← e_q, ← e_w]; exact hP
          have hD : va_D A (wM mo ma mb mc md me mf mg mh mi mj mk ml mn cI cZ n (if barZ pad w plc q = 0 then sizB pad w plc q else q) c (if barZ pad w plc q = 0 then 0 else w) z_1 ev_1 num (cpy row_1 plc i) sig pad row_1 dig far cfr cby que has img kep) := by rw [← e_q, ← e_w]; exact hD
          exact W.iret (v := nI ev_1) gx gb gr (fun t ht hW => ⟨⟨nI ev_1, (cpy row_1 plc i, row_1, z_1, ev_1), rfl, (by first | (dsimp only; done) | ((try dsimp only); exact ⟨by rw [donZ, if_pos hb0, hev, zI_nat], fun _ k hk => by rw [show i = 7 by omega, cpy7 _ _ (by omega)]; exact hrw k (by omega), fun h => absurd hb0 h⟩)), by rw [ht]; exact hP, va_K.moved hW.alike hK, hD⟩, hS.F ht⟩) hS.2.2 dX9_done_54
        · skip
          rw [nI_leI (by omega) (by omega)] at c24
          refine lv_aload_n gx gb dX9_done_27 rfl (lv_at hl 2 rfl) ?_
          refine va_get (D := D) (ci := 4) (v := .ref mb) (C := RX9) (T := TX9) (N := 19) gx gb gts i9 gown hK hP 0 rfl rfl 3 (by decide) (gts (.fieldLink RX9 20 "SwanSumsModel" "place" "[I") (by decide +kernel)) (fun _ h9 => h9) rfl dX9_done_28 ?_
          refine lv_iload_n gx gb dX9_done_31 rfl (lv_at hl 0 rfl) ?_
          refine lv_aload_n gx gb dX9_done_32 rfl (lv_at hl 2 rfl) ?_
          refine va_get (D := D) (ci := 4) (v := .ref me) (C := RX9) (T := TX9) (N := 19) gx gb gts i9 gown hK hP 0 rfl rfl 8 (by decide) (gts (.fieldLink RX9 29 "SwanSumsModel" "row" "[I") (by decide +kernel)) (fun _ h9 => h9) rfl dX9_done_33 ?_
          refine lv_iload_n gx gb dX9_done_36 rfl (lv_at hl 0 rfl) ?_
          refine va_iald gx gb hK hP 5 0 rfl rfl (vp_in_nI (n := i) (by omega) (by decide)) dX9_done_37 ?_
          refine lv_evi (nI (row_1 i)) (aN_rd row_1 (by omega)) ?_
          refine va_iast gx gb hK hP hD hS 2 0 rfl rfl (vp_in_nI (n := i) (by omega) (by decide)) dX9_done_38 (fun H locs hP hD hS => ?_)
          rw [aN_st (cpy row_1 plc i) (row_1 i) (by omega)] at hP hD
          have hP : va_P D vwCl (wM mo ma mb mc md me mf mg mh mi mj mk ml mn cI cZ n z_1 c w z_1 ev_1 num (up (cpy row_1 plc i) i (row_1 i)) sig pad row_1 dig far cfr cby que has img kep) H := hP
          have hD : va_D A (wM mo ma mb mc md me mf mg mh mi mj mk ml mn cI cZ n z_1 c w z_1 ev_1 num (up (cpy row_1 plc i) i (row_1 i)) sig pad row_1 dig far cfr cby que has img kep) := hD
          refine lv_iinc (v := nI (i + 1)) (lv' := [(2, .int (nI (i + 1))), (1, .int (zI (barZ pad w plc q))), (0, .ref mo)]) gx gb dX9_done_39 hl (k := 0) rfl (nI_add i 1) (by decide) rfl (fun ls hl => ?_)
          refine lv_goto (tgt := 21) gx gb dX9_done_42 (by decide) ?_
          rw [cpy_s] at hP hD
          exact ih21 (i + 1) (by omega) (by omega) _ _ hP hD hS ls (lv_sub hl [0, 1, 2] rfl)
    rw [← cpy_0 row_1 plc] at hP hD
    exact L21 _ 0 (by omega) (Nat.lt_succ_self _) _ _ hP hD hS ls (lv_sub hl [0, 1, 2] rfl)
  · skip
    rw [z0_ge (by omega) (by omega)] at c6
    refine lv_iload_n gx gb dX9_done_9 rfl (lv_at hl 0 rfl) ?_
    have e_q : q = (if barZ pad w plc q = 0 then sizB pad w plc q else q) := by rw [if_neg (by omega)]
    have e_w : w = (if barZ pad w plc q = 0 then 0 else w) := by rw [if_neg (by omega)]
    have hP : va_P D vwCl (wM mo ma mb mc md me mf mg mh mi mj mk ml mn cI cZ n (if barZ pad w plc q = 0 then sizB pad w plc q else q) c (if barZ pad w plc q = 0 then 0 else w) z_1 ev_1 num plc sig pad row_1 dig far cfr cby que has img kep) H := by rw [← e_q, ← e_w]; exact hP
    have hD : va_D A (wM mo ma mb mc md me mf mg mh mi mj mk ml mn cI cZ n (if barZ pad w plc q = 0 then sizB pad w plc q else q) c (if barZ pad w plc q = 0 then 0 else w) z_1 ev_1 num plc sig pad row_1 dig far cfr cby que has img kep) := by rw [← e_q, ← e_w]; exact hD
    exact W.iret (v := zI (barZ pad w plc q)) gx gb gr (fun t ht hW => ⟨⟨zI (barZ pad w plc q), (plc, row_1, z_1, ev_1), rfl, (by first | (dsimp only; done) | ((try dsimp only); exact ⟨by rw [donZ, if_neg (by omega)], fun h => absurd h (by omega), fun _ => rfl⟩)), by rw [ht]; exact hP, va_K.moved hW.alike hK, hD⟩, hS.F ht⟩) hS.2.2 dX9_done_10

set_option maxHeartbeats 4000000 in
set_option maxRecDepth 100000 in
theorem kX9_at (Gl : Launch) (D : va_G) (cI cJ cZ : ClassId) (mo : Nat) (ma : Nat) (mb : Nat) (mc : Nat) (md : Nat) (me : Nat) (mf : Nat) (mg : Nat) (mh : Nat) (mi : Nat) (mj : Nat) (mk : Nat) (ml : Nat) (mn : Nat) (n : Nat) (q : Nat) (c : Nat) (w : Nat) (z : Nat) (ev : Nat) (num : Nat → Nat) (plc : Nat → Nat) (sig : Nat → Nat) (pad : Nat → Nat) (row : Nat → Nat) (dig : Nat → Nat) (far : Nat → Int32) (cfr : Nat → Nat) (cby : Nat → Nat) (que : Nat → Nat) (has : Nat → Nat) (img : Nat → Nat) (kep : Nat → Nat) (a : Int) (hl_a : -2147483648 ≤ a) (hu_a : a < 2147483648) (hn1 : 1 ≤ n) (hn7 : n ≤ 7) (hq1 : 1 ≤ q) (hqn : q ≤ n) : Met Gl yX9_at wsX9_at ({ frames := 1, cells := 0, slots := 0, locals := 22 } : Room) (va_Pc [.ref mo, .int (zI a)] (fun U => va_P D vwCl (wM mo ma mb mc md me mf mg mh mi mj mk ml mn cI cZ n q c w z ev num plc sig pad row dig far cfr cby que has img kep) U.heap ∧ va_K D vwCl [(cI, .int), (cJ, .long), (cZ, .boolean)] U)) (vp_Si (fun r : Int32 => r = zI (atZ plc q a))) 0 0 (fun _ => False) := by
  refine Met.ofW (cc := cX9_at) (maxL := 2) (ret := (some .int)) (by decide +kernel) rfl ?_
  intro Gp Ge Gs Gm Ga Gw Gt Gc G1 Bd gml gv
  obtain ⟨rfl, hP, hK⟩ := gv
  have gx := Bd.exec
  have gb := Bd.bytes
  have gr := Bd.returns
  have gts := atoms_spec (ws := wsX9_at) Bd.pre
  have gown : Gs.vm.findClass RX9 = some Gm.cls := findClass_of_methodNamed Bd.named
  have glk := Bd.notSynchronized
  have hl := lv_entry ([.ref mo, .int (zI a)]) (n := 2) (Nat.le_of_ble_eq_true rfl)
  rw [lg_entry_eq]
  generalize (lg_sl ([.ref mo, .int (zI a)]) ++ List.replicate (2 - (lg_sl ([.ref mo, .int (zI a)])).length) Slot.unset).toArray = ls at hl ⊢
  have hl : lv_has ls 2 [(0, .ref mo), (1, .int (zI a))] := hl
  have i9 : ∀ w ∈ wsX90, w ∈ wsX9_at := by decide +kernel
  refine lv_iload_n gx gb dX9_at_0 rfl (lv_at hl 1 rfl) ?_
  refine lv_iconst (v := nI 0) gx gb dX9_at_1 (by decide) ?_
  refine lv_aload_n gx gb dX9_at_2 rfl (lv_at hl 0 rfl) ?_
  refine va_get (D := D) (ci := 4) (v := .int (nI q)) (C := RX9) (T := TX9) (N := 19) gx gb gts i9 gown hK hP 0 rfl rfl 1 (by decide) (gts (.fieldLink RX9 13 "SwanSumsModel" "many" "I") (by decide +kernel)) (fun _ h9 => h9) rfl dX9_at_3 ?_
  refine lv_iconst (v := nI 1) gx gb dX9_at_6 (by decide) ?_
  refine lv_isub gx gb dX9_at_7 ?_
  refine lv_evi (nI (q - 1)) (e_sub (by omega)) ?_
  refine lv_evs [.int (zI ((q - 1 : Nat) : Int)), .int (zI ((0 : Nat) : Int)), .int (zI a)] (by simp only [nI_zc]) ?_
  refine vp_callSi (W.runS (As := [.int (zI a), .int (zI ((0 : Nat) : Int)), .int (zI ((q - 1 : Nat) : Int))]) (rest := []) ⟨gx, gb, gml, gown, gts⟩ (kX9_in Gl a ((0 : Nat) : Int) ((q - 1 : Nat) : Int) (by omega) (by omega) (by omega) (by omega) (by omega) (by omega)) (va_cwS 3 gts gX9_at_X9_in rfl rfl rfl (by decide +kernel) ⟨Nat.le_of_ble_eq_true rfl, Nat.le_of_ble_eq_true rfl⟩) ⟨fun _ _ _ _ h => h, fun U hU hW => ⟨rfl, trivial⟩⟩ rfl rfl hl.1 rfl (lv_room (Nat.le_of_ble_eq_true rfl)) dX9_at_8 ⟨Nat.le_of_ble_eq_true rfl, Nat.le_of_ble_eq_true rfl⟩) (fun r hw => ?_)
  have hr8 := hw
  subst hr8
  refine lv_if_eq (tgt := 23) gx gb dX9_at_11 (by decide) (fun c11 => ?_) (fun c11 => ?_)
  · skip
    rw [b0_eq] at c11
    simp only [decide_eq_false_iff_not, Decidable.not_not] at c11
    refine lv_iconst (v := zI (-1)) gx gb dX9_at_23 (by decide) ?_
    exact W.iret (v := zI (-1)) gx gb gr (fun t ht hW => ⟨zI (-1), rfl, (by first | (dsimp only; done) | ((try dsimp only); first | (rw [atZ, if_pos (by omega), hi]; exact (zI_nat _).symm) | (rw [atZ, if_neg (by omega)]))), ht⟩) (fun q h => by cases h) dX9_at_24
  · skip
    rw [b0_eq] at c11
    simp only [decide_eq_false_iff_not, Decidable.not_not] at c11
    obtain ⟨i, hi⟩ : ∃ i : Nat, a = (i : Int) := ⟨a.toNat, by omega⟩
    rw [show zI a = nI i from by rw [hi, zI_nat]] at hl
    have hl : lv_has ls 2 [(0, .ref mo), (1, .int (nI i))] := hl
    refine lv_aload_n gx gb dX9_at_14 rfl (lv_at hl 0 rfl) ?_
    refine va_get (D := D) (ci := 4) (v := .ref mb) (C := RX9) (T := TX9) (N := 19) gx gb gts i9 gown hK hP 0 rfl rfl 3 (by decide) (gts (.fieldLink RX9 20 "SwanSumsModel" "place" "[I") (by decide +kernel)) (fun _ h9 => h9) rfl dX9_at_15 ?_
    refine lv_iload_n gx gb dX9_at_18 rfl (lv_at hl 1 rfl) ?_
    refine va_iald gx gb hK hP 2 0 rfl rfl (vp_in_nI (n := i) (by omega) (by decide)) dX9_at_19 ?_
    refine lv_evi (nI (plc i)) (aN_rd plc (by omega)) ?_
    refine lv_goto (tgt := 24) gx gb dX9_at_20 (by decide) ?_
    exact W.iret (v := nI (plc i)) gx gb gr (fun t ht hW => ⟨nI (plc i), rfl, (by first | (dsimp only; done) | ((try dsimp only); first | (rw [atZ, if_pos (by omega), hi]; exact (zI_nat _).symm) | (rw [atZ, if_neg (by omega)]))), ht⟩) (fun q h => by cases h) dX9_at_24

set_option maxHeartbeats 4000000 in
set_option maxRecDepth 100000 in
theorem kX9_behind (Gl : Launch) (D : va_G) (cI cJ cZ : ClassId) (mo : Nat) (ma : Nat) (mb : Nat) (mc : Nat) (md : Nat) (me : Nat) (mf : Nat) (mg : Nat) (mh : Nat) (mi : Nat) (mj : Nat) (mk : Nat) (ml : Nat) (mn : Nat) (n : Nat) (q : Nat) (c : Nat) (w : Nat) (z : Nat) (ev : Nat) (num : Nat → Nat) (plc : Nat → Nat) (sig : Nat → Nat) (pad : Nat → Nat) (row : Nat → Nat) (dig : Nat → Nat) (far : Nat → Int32) (cfr : Nat → Nat) (cby : Nat → Nat) (que : Nat → Nat) (has : Nat → Nat) (img : Nat → Nat) (kep : Nat → Nat) (sz : Nat) (a : Int) (hl_a : -2147483648 ≤ a) (hu_a : a < 2147483648) (hw : w ≤ 60) (hg : ∀ k, k < w → pad k < 127) (hn1 : 1 ≤ n) (hn7 : n ≤ 7) (hq1 : 1 ≤ q) (hqn : q ≤ n) : Met Gl yX9_behind wsX9_behind ({ frames := 5, cells := 0, slots := 0, locals := 113 } : Room) (va_Pc [.ref mo, .int (zI a)] (fun U => U.heap.size = sz ∧ va_P D vwCl (wM mo ma mb mc md me mf mg mh mi mj mk ml mn cI cZ n q c w z ev num plc sig pad row dig far cfr cby que has img kep) U.heap ∧ va_K D vwCl [(cI, .int), (cJ, .long), (cZ, .boolean)] U ∧ va_D (fun _ => True) (wM mo ma mb mc md me mf mg mh mi mj mk ml mn cI cZ n q c w z ev num plc sig pad row dig far cfr cby que has img kep))) (va_Qi (fun (r : Int32) (u : (Nat → Nat) × (Nat) × (Nat)) => r = zI (behZ pad w plc q a)) (fun (u : (Nat → Nat) × (Nat) × (Nat)) t => va_P D vwCl (wM mo ma mb mc md me mf mg mh mi mj mk ml mn cI cZ n q c w u.2.1 u.2.2 num plc sig pad u.1 dig far cfr cby que has img kep) t.heap ∧ va_K D vwCl [(cI, .int), (cJ, .long), (cZ, .boolean)] t ∧ va_D (va_A (wM mo ma mb mc md me mf mg mh mi mj mk ml mn cI cZ n q c w z ev num plc sig pad row dig far cfr cby que has img kep) sz) (wM mo ma mb mc md me mf mg mh mi mj mk ml mn cI cZ n q c w u.2.1 u.2.2 num plc sig pad u.1 dig far cfr cby que has img kep)) (va_A (wM mo ma mb mc md me mf mg mh mi mj mk ml mn cI cZ n q c w z ev num plc sig pad row dig far cfr cby que has img kep) sz)) 0 0 (va_A (wM mo ma mb mc md me mf mg mh mi mj mk ml mn cI cZ n q c w z ev num plc sig pad row dig far cfr cby que has img kep) sz) := by
  refine Met.ofW (cc := cX9_behind) (maxL := 3) (ret := (some .int)) (by decide +kernel) rfl ?_
  intro Gp Ge Gs Gm Ga Gw Gt Gc G1 Bd gml gv
  obtain ⟨rfl, hsz, hP, hK, hD0⟩ := gv
  have gx := Bd.exec
  have gb := Bd.bytes
  have gr := Bd.returns
  have gts := atoms_spec (ws := wsX9_behind) Bd.pre
  have gown : Gs.vm.findClass RX9 = some Gm.cls := findClass_of_methodNamed Bd.named
  have glk := Bd.notSynchronized
  subst hsz
  have hD := hD0.self (sz := Gs.heap.size)
  generalize hAe : va_A (wM mo ma mb mc md me mf mg mh mi mj mk ml mn cI cZ n q c w z ev num plc sig pad row dig far cfr cby que has img kep) Gs.heap.size = A at hD ⊢
  have hA : ∀ q : Nat, Gs.heap.size ≤ q → A q := fun q h => by rw [← hAe]; exact Or.inr h
  have hS : va_S A Gs.heap Gs.heap [] := va_S.rf
  have hP : va_P D vwCl (wM mo ma mb mc md me mf mg mh mi mj mk ml mn cI cZ n q c w z ev num plc sig pad row dig far cfr cby que has img kep) Gs.heap := hP
  have hl := lv_entry ([.ref mo, .int (zI a)]) (n := 3) (Nat.le_of_ble_eq_true rfl)
  rw [lg_entry_eq]
  generalize (lg_sl ([.ref mo, .int (zI a)]) ++ List.replicate (3 - (lg_sl ([.ref mo, .int (zI a)])).length) Slot.unset).toArray = ls at hl ⊢
  have hl : lv_has ls 3 [(0, .ref mo), (1, .int (zI a))] := hl
  have i9 : ∀ w ∈ wsX90, w ∈ wsX9_behind := by decide +kernel
  refine lv_aload_n gx gb dX9_behind_0 rfl (lv_at hl 0 rfl) ?_
  have hPc := hP.sub (ws' := wM mo ma mb mc md me mf mg mh mi mj mk ml mn cI cZ n q c w z ev num plc sig pad row dig far cfr cby que has img kep) [0, 1, 2, 3, 4, 5, 6, 7, 8, 9, 10, 11, 12, 13] rfl
  have hDc := hD.sub (ws' := wM mo ma mb mc md me mf mg mh mi mj mk ml mn cI cZ n q c w z ev num plc sig pad row dig far cfr cby que has img kep) [0, 1, 2, 3, 4, 5, 6, 7, 8, 9, 10, 11, 12, 13] (by decide) rfl
  have hFc := va_free (wc := wM mo ma mb mc md me mf mg mh mi mj mk ml mn cI cZ n q c w z ev num plc sig pad row dig far cfr cby que has img kep) hD hS hA [0, 1, 2, 3, 4, 5, 6, 7, 8, 9, 10, 11, 12, 13] rfl
  refine va_calli (va_runV (As := []) (rest := []) ⟨gx, gb, gml, gown, gts⟩ (kX9_barOfDay Gl D cI cJ cZ mo ma mb mc md me mf mg mh mi mj mk ml mn n q c w z ev num plc sig pad row dig far cfr cby que has img kep _  (by omega) (by omega) (by omega) (by omega) (by omega) (by omega)) (cwV 0 gts gX9_behind_X9_barOfDay rfl rfl rfl (by decide +kernel) ⟨Nat.le_of_ble_eq_true rfl, Nat.le_of_ble_eq_true rfl⟩) ⟨fun a U g mk q => by obtain ⟨q0, q1, qP, qK, qD⟩ := q; exact ⟨q0, q1, qP, va_K.moved (u := U) (U := U.calling g mk a) (Vm.Alike.refl U.vm) qK, qD⟩, va_recv hK hPc (ci := 4) (q0 := 0) rfl rfl, fun U hU hW => ⟨rfl, by rw [hU], by rw [hU]; exact hPc, va_K.moved hW.alike hK, hDc.weaken (fun _ _ _ _ => trivial)⟩⟩ rfl rfl hl.1 rfl (lv_room (Nat.le_of_ble_eq_true rfl)) dX9_behind_1 ⟨Nat.le_of_ble_eq_true rfl, Nat.le_of_ble_eq_true rfl⟩) hS (fun q _ h => hFc q h) hFc (fun r u t H1 locs ht hvm hw hB hz1 hk1 hS => ?_)
  obtain ⟨row_1, z_1, ev_1⟩ := u
  obtain ⟨hP1, hK1, hD1⟩ := hB
  rw [ht] at hP1
  try dsimp only at hw
  try dsimp only at hP1
  try dsimp only at hD1
  have hK := va_K.moved hvm.symm hK1
  obtain ⟨hP, hD⟩ := va_join (wr := []) (w1 := wM mo ma mb mc md me mf mg mh mi mj mk ml mn cI cZ n q c w z_1 ev_1 num plc sig pad row_1 dig far cfr cby que has img kep) hP hD [0, 1, 2, 3, 4, 5, 6, 7, 8, 9, 10, 11, 12, 13] [] rfl rfl (by decide) (by decide) hk1 hFc hP1 hD1
  have hP := hP.sub (ws' := wM mo ma mb mc md me mf mg mh mi mj mk ml mn cI cZ n q c w z_1 ev_1 num plc sig pad row_1 dig far cfr cby que has img kep) [0, 1, 2, 3, 4, 5, 6, 7, 8, 9, 10, 11, 12, 13] rfl
  have hD := hD.sub (ws' := wM mo ma mb mc md me mf mg mh mi mj mk ml mn cI cZ n q c w z_1 ev_1 num plc sig pad row_1 dig far cfr cby que has img kep) [0, 1, 2, 3, 4, 5, 6, 7, 8, 9, 10, 11, 12, 13] (by decide) rfl
  have hK := va_K.moved (Vm.Alike.refl Gs.vm) hK
  generalize H1 = H at hP hS ⊢
  obtain ⟨hr1, hw⟩ := hw
  subst hr1
  have hw4 := hw
  have hbb := barZ_bd pad w plc q
  have hsb := sizB_bd pad w plc hq1
  refine lv_istore_n (lv' := [(2, .int (zI (barZ pad w plc q))), (0, .ref mo), (1, .int (zI a))]) gx gb dX9_behind_4 rfl hl (by decide) rfl (fun ls hl => ?_)
  refine lv_iload_n gx gb dX9_behind_5 rfl (lv_at hl 0 rfl) ?_
  refine lv_if_ge (tgt := 13) gx gb dX9_behind_6 (by decide) (fun c6 => ?_) (fun c6 => ?_)
  · skip
    rw [z0_ge (by omega) (by omega)] at c6
    have hb0 : barZ pad w plc q = 0 := by omega
    obtain ⟨hz1, hev, hrw⟩ := hw4 hb0
    refine lv_iload_n gx gb dX9_behind_13 rfl (lv_at hl 2 rfl) ?_
    refine lv_iconst (v := zI (-1)) gx gb dX9_behind_14 (by decide) ?_
    refine lv_icmp_ne (tgt := 25) gx gb dX9_behind_15 (by decide) (fun c15 => ?_) (fun c15 => ?_)
    · skip
      rw [zI_eq (by omega) (by omega) (by omega) (by omega)] at c15
      refine lv_iload_n gx gb dX9_behind_25 rfl (lv_at hl 2 rfl) ?_
      refine lv_iconst (v := nI 0) gx gb dX9_behind_26 (by decide) ?_
      refine lv_aload_n gx gb dX9_behind_27 rfl (lv_at hl 1 rfl) ?_
      refine va_get (D := D) (ci := 4) (v := .int (nI z_1)) (C := RX9) (T := TX9) (N := 19) gx gb gts i9 gown hK hP 0 rfl rfl 9 (by decide) (gts (.fieldLink RX9 81 "SwanSumsModel" "size" "I") (by decide +kernel)) (fun _ h9 => h9) rfl dX9_behind_28 ?_
      refine lv_iconst (v := nI 1) gx gb dX9_behind_31 (by decide) ?_
      refine lv_isub gx gb dX9_behind_32 ?_
      refine lv_evi (nI (z_1 - 1)) (e_sub (by omega)) ?_
      refine lv_evs [.int (zI ((z_1 - 1 : Nat) : Int)), .int (zI ((0 : Nat) : Int)), .int (zI a)] (by simp only [nI_zc]) ?_
      refine vp_callSi (W.runS (As := [.int (zI a), .int (zI ((0 : Nat) : Int)), .int (zI ((z_1 - 1 : Nat) : Int))]) (rest := []) ⟨gx, gb, gml, gown, gts⟩ (kX9_in Gl a ((0 : Nat) : Int) ((z_1 - 1 : Nat) : Int) (by omega) (by omega) (by omega) (by omega) (by omega) (by omega)) (va_cwS 3 gts gX9_behind_X9_in rfl rfl rfl (by decide +kernel) ⟨Nat.le_of_ble_eq_true rfl, Nat.le_of_ble_eq_true rfl⟩) ⟨fun _ _ _ _ h => h, fun U hU hW => ⟨rfl, trivial⟩⟩ rfl rfl hl.1 rfl (lv_room (Nat.le_of_ble_eq_true rfl)) dX9_behind_33 ⟨Nat.le_of_ble_eq_true rfl, Nat.le_of_ble_eq_true rfl⟩) (fun r hw => ?_)
      have hr33 := hw
      subst hr33
      refine lv_if_eq (tgt := 48) gx gb dX9_behind_36 (by decide) (fun c36 => ?_) (fun c36 => ?_)
      · skip
        rw [b0_eq] at c36
        simp only [decide_eq_false_iff_not, Decidable.not_not] at c36
        refine lv_bipush (v := zI (-6)) gx gb dX9_behind_48 (by decide) ?_
        exact W.iret (v := zI (-6)) gx gb gr (fun t ht hW => ⟨⟨zI (-6), (row_1, z_1, ev_1), rfl, (by first | (dsimp only; done) | ((try dsimp only); first | (rw [behZ, if_neg (by omega)]; done) | (rw [behZ, if_pos hb0, if_pos (by omega), hz1, zI_nat]; done) | (rw [behZ, if_pos hb0, if_neg (by omega), if_pos (by omega), hrw _ (by omega), hi]; exact (zI_nat _).symm) | (rw [behZ, if_pos hb0, if_neg (by omega), if_neg (by omega)]))), by rw [ht]; exact hP, va_K.moved hW.alike hK, hD⟩, hS.F ht⟩) hS.2.2 dX9_behind_50
      · skip
        rw [b0_eq] at c36
        simp only [decide_eq_false_iff_not, Decidable.not_not] at c36
        obtain ⟨i, hi⟩ : ∃ i : Nat, a = (i : Int) := ⟨a.toNat, by omega⟩
        rw [show zI a = nI i from by rw [hi, zI_nat]] at hl
        have hl : lv_has ls 3 [(2, .int (zI (barZ pad w plc q))), (0, .ref mo), (1, .int (nI i))] := hl
        refine lv_aload_n gx gb dX9_behind_39 rfl (lv_at hl 1 rfl) ?_
        refine va_get (D := D) (ci := 4) (v := .ref me) (C := RX9) (T := TX9) (N := 19) gx gb gts i9 gown hK hP 0 rfl rfl 8 (by decide) (gts (.fieldLink RX9 29 "SwanSumsModel" "row" "[I") (by decide +kernel)) (fun _ h9 => h9) rfl dX9_behind_40 ?_
        refine lv_iload_n gx gb dX9_behind_43 rfl (lv_at hl 2 rfl) ?_
        refine va_iald gx gb hK hP 5 0 rfl rfl (vp_in_nI (n := i) (by omega) (by decide)) dX9_behind_44 ?_
        refine lv_evi (nI (row_1 i)) (aN_rd row_1 (by omega)) ?_
        refine lv_goto (tgt := 50) gx gb dX9_behind_45 (by decide) ?_
        exact W.iret (v := nI (row_1 i)) gx gb gr (fun t ht hW => ⟨⟨nI (row_1 i), (row_1, z_1, ev_1), rfl, (by first | (dsimp only; done) | ((try dsimp only); first | (rw [behZ, if_neg (by omega)]; done) | (rw [behZ, if_pos hb0, if_pos (by omega), hz1, zI_nat]; done) | (rw [behZ, if_pos hb0, if_neg (by omega), if_pos (by omega), hrw _ (by omega), hi]; exact (zI_nat _).symm) | (rw [behZ, if_pos hb0, if_neg (by omega), if_neg (by omega)]))), by rw [ht]; exact hP, va_K.moved hW.alike hK, hD⟩, hS.F ht⟩) hS.2.2 dX9_behind_50
    · skip
      rw [zI_eq (by omega) (by omega) (by omega) (by omega)] at c15
      refine lv_aload_n gx gb dX9_behind_18 rfl (lv_at hl 1 rfl) ?_
      refine va_get (D := D) (ci := 4) (v := .int (nI z_1)) (C := RX9) (T := TX9) (N := 19) gx gb gts i9 gown hK hP 0 rfl rfl 9 (by decide) (gts (.fieldLink RX9 81 "SwanSumsModel" "size" "I") (by decide +kernel)) (fun _ h9 => h9) rfl dX9_behind_19 ?_
      refine lv_goto (tgt := 50) gx gb dX9_behind_22 (by decide) ?_
      exact W.iret (v := nI z_1) gx gb gr (fun t ht hW => ⟨⟨nI z_1, (row_1, z_1, ev_1), rfl, (by first | (dsimp only; done) | ((try dsimp only); first | (rw [behZ, if_neg (by omega)]; done) | (rw [behZ, if_pos hb0, if_pos (by omega), hz1, zI_nat]; done) | (rw [behZ, if_pos hb0, if_neg (by omega), if_pos (by omega), hrw _ (by omega), hi]; exact (zI_nat _).symm) | (rw [behZ, if_pos hb0, if_neg (by omega), if_neg (by omega)]))), by rw [ht]; exact hP, va_K.moved hW.alike hK, hD⟩, hS.F ht⟩) hS.2.2 dX9_behind_50
  · skip
    rw [z0_ge (by omega) (by omega)] at c6
    refine lv_iload_n gx gb dX9_behind_9 rfl (lv_at hl 0 rfl) ?_
    refine lv_goto (tgt := 50) gx gb dX9_behind_10 (by decide) ?_
    exact W.iret (v := zI (barZ pad w plc q)) gx gb gr (fun t ht hW => ⟨⟨zI (barZ pad w plc q), (row_1, z_1, ev_1), rfl, (by first | (dsimp only; done) | ((try dsimp only); first | (rw [behZ, if_neg (by omega)]; done) | (rw [behZ, if_pos hb0, if_pos (by omega), hz1, zI_nat]; done) | (rw [behZ, if_pos hb0, if_neg (by omega), if_pos (by omega), hrw _ (by omega), hi]; exact (zI_nat _).symm) | (rw [behZ, if_pos hb0, if_neg (by omega), if_neg (by omega)]))), by rw [ht]; exact hP, va_K.moved hW.alike hK, hD⟩, hS.F ht⟩) hS.2.2 dX9_behind_50

set_option maxHeartbeats 4000000 in
set_option maxRecDepth 100000 in
theorem kX9_taught (Gl : Launch) (D : va_G) (cI cJ cZ : ClassId) (mo : Nat) (ma : Nat) (mb : Nat) (mc : Nat) (md : Nat) (me : Nat) (mf : Nat) (mg : Nat) (mh : Nat) (mi : Nat) (mj : Nat) (mk : Nat) (ml : Nat) (mn : Nat) (n : Nat) (q : Nat) (c : Nat) (w : Nat) (z : Nat) (ev : Nat) (num : Nat → Nat) (plc : Nat → Nat) (sig : Nat → Nat) (pad : Nat → Nat) (row : Nat → Nat) (dig : Nat → Nat) (far : Nat → Int32) (cfr : Nat → Nat) (cby : Nat → Nat) (que : Nat → Nat) (has : Nat → Nat) (img : Nat → Nat) (kep : Nat → Nat) (sz : Nat) (a : Int) (hl_a : -2147483648 ≤ a) (hu_a : a < 2147483648) (hw : w ≤ 60) (hg : ∀ k, k < w → pad k < 127) (hn1 : 1 ≤ n) (hn7 : n ≤ 7) (hq1 : 1 ≤ q) (hqn : q ≤ n) (hp_ : ∀ k, k < q → plc k < n) (hnum : ∀ k, k < n → num k ≤ 99) : Met Gl yX9_taught wsX9_taught ({ frames := 5, cells := 0, slots := 0, locals := 113 } : Room) (va_Pc [.ref mo, .int (zI a)] (fun U => U.heap.size = sz ∧ va_P D vwCl (wM mo ma mb mc md me mf mg mh mi mj mk ml mn cI cZ n q c w z ev num plc sig pad row dig far cfr cby que has img kep) U.heap ∧ va_K D vwCl [(cI, .int), (cJ, .long), (cZ, .boolean)] U ∧ va_D (fun _ => True) (wM mo ma mb mc md me mf mg mh mi mj mk ml mn cI cZ n q c w z ev num plc sig pad row dig far cfr cby que has img kep))) (va_Qi (fun (r : Int32) (u : (Nat → Nat) × (Nat) × (Nat)) => r = zI (tghZ num pad w plc q a)) (fun (u : (Nat → Nat) × (Nat) × (Nat)) t => va_P D vwCl (wM mo ma mb mc md me mf mg mh mi mj mk ml mn cI cZ n q c w u.2.1 u.2.2 num plc sig pad u.1 dig far cfr cby que has img kep) t.heap ∧ va_K D vwCl [(cI, .int), (cJ, .long), (cZ, .boolean)] t ∧ va_D (va_A (wM mo ma mb mc md me mf mg mh mi mj mk ml mn cI cZ n q c w z ev num plc sig pad row dig far cfr cby que has img kep) sz) (wM mo ma mb mc md me mf mg mh mi mj mk ml mn cI cZ n q c w u.2.1 u.2.2 num plc sig pad u.1 dig far cfr cby que has img kep)) (va_A (wM mo ma mb mc md me mf mg mh mi mj mk ml mn cI cZ n q c w z ev num plc sig pad row dig far cfr cby que has img kep) sz)) 0 0 (va_A (wM mo ma mb mc md me mf mg mh mi mj mk ml mn cI cZ n q c w z ev num plc sig pad row dig far cfr cby que has img kep) sz) := by
  refine Met.ofW (cc := cX9_taught) (maxL := 5) (ret := (some .int)) (by decide +kernel) rfl ?_
  intro Gp Ge Gs Gm Ga Gw Gt Gc G1 Bd gml gv
  obtain ⟨rfl, hsz, hP, hK, hD0⟩ := gv
  have gx := Bd.exec
  have gb := Bd.bytes
  have gr := Bd.returns
  have gts := atoms_spec (ws := wsX9_taught) Bd.pre
  have gown : Gs.vm.findClass RX9 = some Gm.cls := findClass_of_methodNamed Bd.named
  have glk := Bd.notSynchronized
  subst hsz
  have hD := hD0.self (sz := Gs.heap.size)
  generalize hAe : va_A (wM mo ma mb mc md me mf mg mh mi mj mk ml mn cI cZ n q c w z ev num plc sig pad row dig far cfr cby que has img kep) Gs.heap.size = A at hD ⊢
  have hA : ∀ q : Nat, Gs.heap.size ≤ q → A q := fun q h => by rw [← hAe]; exact Or.inr h
  have hS : va_S A Gs.heap Gs.heap [] := va_S.rf
  have hP : va_P D vwCl (wM mo ma mb mc md me mf mg mh mi mj mk ml mn cI cZ n q c w z ev num plc sig pad row dig far cfr cby que has img kep) Gs.heap := hP
  have hl := lv_entry ([.ref mo, .int (zI a)]) (n := 5) (Nat.le_of_ble_eq_true rfl)
  rw [lg_entry_eq]
  generalize (lg_sl ([.ref mo, .int (zI a)]) ++ List.replicate (5 - (lg_sl ([.ref mo, .int (zI a)])).length) Slot.unset).toArray = ls at hl ⊢
  have hl : lv_has ls 5 [(0, .ref mo), (1, .int (zI a))] := hl
  refine lv_iload_n gx gb dX9_taught_0 rfl (lv_at hl 1 rfl) ?_
  refine lv_iconst (v := nI 0) gx gb dX9_taught_1 (by decide) ?_
  refine lv_iconst (v := nI 1) gx gb dX9_taught_2 (by decide) ?_
  refine lv_evs [.int (zI ((1 : Nat) : Int)), .int (zI ((0 : Nat) : Int)), .int (zI a)] (by simp only [nI_zc]) ?_
  refine vp_callSi (W.runS (As := [.int (zI a), .int (zI ((0 : Nat) : Int)), .int (zI ((1 : Nat) : Int))]) (rest := []) ⟨gx, gb, gml, gown, gts⟩ (kX9_in Gl a ((0 : Nat) : Int) ((1 : Nat) : Int) (by omega) (by omega) (by omega) (by omega) (by omega) (by omega)) (va_cwS 3 gts gX9_taught_X9_in rfl rfl rfl (by decide +kernel) ⟨Nat.le_of_ble_eq_true rfl, Nat.le_of_ble_eq_true rfl⟩) ⟨fun _ _ _ _ h => h, fun U hU hW => ⟨rfl, trivial⟩⟩ rfl rfl hl.1 rfl (lv_room (Nat.le_of_ble_eq_true rfl)) dX9_taught_3 ⟨Nat.le_of_ble_eq_true rfl, Nat.le_of_ble_eq_true rfl⟩) (fun r hw => ?_)
  have hr3 := hw
  subst hr3
  refine lv_if_ne (tgt := 12) gx gb dX9_taught_6 (by decide) (fun c6 => ?_) (fun c6 => ?_)
  · skip
    rw [b0_eq] at c6
    simp only [decide_eq_false_iff_not, Decidable.not_not] at c6
    refine lv_iload_n gx gb dX9_taught_12 rfl (lv_at hl 1 rfl) ?_
    refine lv_iconst (v := nI 1) gx gb dX9_taught_13 (by decide) ?_
    refine lv_icmp_ne (tgt := 24) gx gb dX9_taught_14 (by decide) (fun c14 => ?_) (fun c14 => ?_)
    · skip
      rw [zn_eq (by omega) (by omega) (by omega)] at c14
      refine lv_iconst (v := nI 0) gx gb dX9_taught_24 (by decide) ?_
      refine lv_istore_n (lv' := [(2, .int (nI 0)), (0, .ref mo), (1, .int (zI a))]) gx gb dX9_taught_25 rfl hl (by decide) rfl (fun ls hl => ?_)
      refine lv_iload_n gx gb dX9_taught_26 rfl (lv_at hl 0 rfl) ?_
      refine lv_if_ge (tgt := 32) gx gb dX9_taught_27 (by decide) (fun c27 => ?_) (fun c27 => ?_)
      · skip
        rw [n0_ge (by omega)] at c27
        first | (have hb0 : barZ pad w plc q = 0 := by omega) | skip
        first | (obtain ⟨hz1, hev, hrw⟩ := hw4 hb0) | skip
        refine lv_iload_n gx gb dX9_taught_32 rfl (lv_at hl 2 rfl) ?_
        refine lv_if_ne (tgt := 40) gx gb dX9_taught_33 (by decide) (fun c33 => ?_) (fun c33 => ?_)
        · skip
          rw [z0_eq (by omega) (by omega)] at c33
          refine lv_iconst (v := nI 0) gx gb dX9_taught_40 (by decide) ?_
          refine lv_istore_n (lv' := [(3, .int (nI 0)), (2, .int (nI 0)), (0, .ref mo), (1, .int (zI a))]) gx gb dX9_taught_41 rfl hl (by decide) rfl (fun ls hl => ?_)
          refine lv_iconst (v := nI 0) gx gb dX9_taught_42 (by decide) ?_
          refine lv_istore (lv' := [(4, .int (nI 0)), (3, .int (nI 0)), (2, .int (nI 0)), (0, .ref mo), (1, .int (zI a))]) gx gb dX9_taught_43 hl (by decide) rfl (fun ls hl => ?_)
          have L45 : ∀ fu : Nat, ∀ (rw_ : Nat → Nat) (zz ee : Nat) (i : Nat) (hi : i ≤ 7) (hzz : 1 ≤ zz ∧ zz ≤ 7) (hrr : ∀ p, p < zz → rw_ p < n) (hsp : (tbits (fun p => num (rw_ p)) zz 7 : Int) = tghZ num pad w plc q a), (7 - i) < fu → ∀ (H : Heap) (locs : List Loc), va_P D vwCl (wM mo ma mb mc md me mf mg mh mi mj mk ml mn cI cZ n q c w zz ee num plc sig pad rw_ dig far cfr cby que has img kep) H → va_D A (wM mo ma mb mc md me mf mg mh mi mj mk ml mn cI cZ n q c w zz ee num plc sig pad rw_ dig far cfr cby que has img kep) → va_S A Gs.heap H locs → ∀ ls : Array Slot, lv_has ls 5 [(3, .int (nI (tbits (fun p => num (rw_ p)) zz i))), (4, .int (nI i)), (2, .int (nI 0)), (0, .ref mo), (1, .int (zI a))] → W Gp Gl Ge (headSpec wsX9_taught ({ frames := 5, cells := 0, slots := 0, locals := 113 } : Room)).room Gs Gm ([.ref mo, .int (zI a)] : List Value).toArray Gw Gt Gc H locs 0 0 (MQ Gw (va_Qi (fun (r : Int32) (u : (Nat → Nat) × (Nat) × (Nat)) => r = zI (tghZ num pad w plc q a)) (fun (u : (Nat → Nat) × (Nat) × (Nat)) t => va_P D vwCl (wM mo ma mb mc md me mf mg mh mi mj mk ml mn cI cZ n q c w u.2.1 u.2.2 num plc sig pad u.1 dig far cfr cby que has img kep) t.heap ∧ va_K D vwCl [(cI, .int), (cJ, .long), (cZ, .boolean)] t ∧ va_D A (wM mo ma mb mc md me mf mg mh mi mj mk ml mn cI cZ n q c w u.2.1 u.2.2 num plc sig pad u.1 dig far cfr cby que has img kep)) A) ([.ref mo, .int (zI a)] : List Value).toArray Gs 0 0 A) (F0 Gm 45 ls []) := by
            intro fu
            induction fu with
            | zero => intro rw_ zz ee i hi hzz hrr hsp hfu; exact absurd hfu (Nat.not_lt_zero _)
            | succ fu ih45 =>
              intro rw_ zz ee i hi hzz hrr hsp hfu H locs hP hD hS ls hl
              refine lv_iload gx gb dX9_taught_45 (lv_at hl 1 rfl) ?_
              refine lv_bipush (v := nI 7) gx gb dX9_taught_47 (by decide) ?_
              refine lv_icmp_ge (tgt := 78) gx gb dX9_taught_49 (by decide) (fun c49 => ?_) (fun c49 => ?_)
              · skip
                rw [nI_leI (by omega) (by omega)] at c49
                refine lv_iload_n gx gb dX9_taught_78 rfl (lv_at hl 0 rfl) ?_
                exact W.iret (v := nI (tbits (fun p => num (rw_ p)) zz i)) gx gb gr (fun t ht hW => ⟨⟨nI (tbits (fun p => num (rw_ p)) zz i), (rw_, zz, ee), rfl, (by first | (dsimp only; done) | ((try dsimp only); obtain rfl : i = 7 := (by omega); rw [← hsp, zI_nat])), by rw [ht]; exact hP, va_K.moved hW.alike hK, hD⟩, hS.F ht⟩) hS.2.2 dX9_taught_79
              · skip
                rw [nI_leI (by omega) (by omega)] at c49
                have L70 : ∀ (x : Nat) (hxx : x = if tau i (fun p => num (rw_ p)) zz then 1 * 2 ^ i else 0), ∀ (H : Heap) (locs : List Loc), va_P D vwCl (wM mo ma mb mc md me mf mg mh mi mj mk ml mn cI cZ n q c w zz ee num plc sig pad rw_ dig far cfr cby que has img kep) H → va_D A (wM mo ma mb mc md me mf mg mh mi mj mk ml mn cI cZ n q c w zz ee num plc sig pad rw_ dig far cfr cby que has img kep) → va_S A Gs.heap H locs → ∀ ls : Array Slot, lv_has ls 5 [(3, .int (nI (tbits (fun p => num (rw_ p)) zz i))), (4, .int (nI i)), (2, .int (nI 0)), (0, .ref mo), (1, .int (zI a))] → W Gp Gl Ge (headSpec wsX9_taught ({ frames := 5, cells := 0, slots := 0, locals := 113 } : Room)).room Gs Gm ([.ref mo, .int (zI a)] : List Value).toArray Gw Gt Gc H locs 0 0 (MQ Gw (va_Qi (fun (r : Int32) (u : (Nat → Nat) × (Nat) × (Nat)) => r = zI (tghZ num pad w plc q a)) (fun (u : (Nat → Nat) × (Nat) × (Nat)) t => va_P D vwCl (wM mo ma mb mc md me mf mg mh mi mj mk ml mn cI cZ n q c w u.2.1 u.2.2 num plc sig pad u.1 dig far cfr cby que has img kep) t.heap ∧ va_K D vwCl [(cI, .int), (cJ, .long), (cZ, .boolean)] t ∧ va_D A (wM mo ma mb mc md me mf mg mh mi mj mk ml mn cI cZ n q c w u.2.1 u.2.2 num plc sig pad u.1 dig far cfr cby que has img kep)) A) ([.ref mo, .int (zI a)] : List Value).toArray Gs 0 0 A) (F0 Gm 70 ls [.int (nI x), .int (nI (tbits (fun p => num (rw_ p)) zz i))]) := by
                  intro x hxx H locs hP hD hS ls hl
                  subst hxx
                  have hl : lv_has ls 5 [(3, .int (nI (tbits (fun p => num (rw_ p)) zz i))), (4, .int (nI i)), (2, .int (nI 0)), (0, .ref mo), (1, .int (zI a))] := hl
                  refine lv_ior gx gb dX9_taught_70 ?_
                  refine lv_evi (nI ((tbits (fun p => num (rw_ p)) zz i) ||| (if tau i (fun p => num (rw_ p)) zz then 1 * 2 ^ i else 0))) (e_or (tbits (fun p => num (rw_ p)) zz i) (if tau i (fun p => num (rw_ p)) zz then 1 * 2 ^ i else 0)) ?_
                  refine lv_istore_n (lv' := [(3, .int (nI ((tbits (fun p => num (rw_ p)) zz i) ||| (if tau i (fun p => num (rw_ p)) zz then 1 * 2 ^ i else 0)))), (4, .int (nI i)), (2, .int (nI 0)), (0, .ref mo), (1, .int (zI a))]) gx gb dX9_taught_71 rfl hl (by decide) rfl (fun ls hl => ?_)
                  refine lv_iinc (v := nI (i + 1)) (lv' := [(4, .int (nI (i + 1))), (3, .int (nI ((tbits (fun p => num (rw_ p)) zz i) ||| (if tau i (fun p => num (rw_ p)) zz then 1 * 2 ^ i else 0)))), (2, .int (nI 0)), (0, .ref mo), (1, .int (zI a))]) gx gb dX9_taught_72 hl (k := 1) rfl (nI_add i 1) (by decide) rfl (fun ls hl => ?_)
                  refine lv_goto (tgt := 45) gx gb dX9_taught_75 (by decide) ?_
                  exact ih45 rw_ zz ee (i + 1) (by omega) (by omega) (by exact hrr) (by exact hsp) (by omega) _ _ hP hD hS ls (lv_sub hl [1, 0, 2, 3, 4] rfl)
                refine lv_iload_n gx gb dX9_taught_52 rfl (lv_at hl 0 rfl) ?_
                refine lv_aload_n gx gb dX9_taught_53 rfl (lv_at hl 3 rfl) ?_
                refine lv_iload gx gb dX9_taught_54 (lv_at hl 1 rfl) ?_
                have hPc := hP.sub (ws' := wM mo ma mb mc md me mf mg mh mi mj mk ml mn cI cZ n q c w zz ee num plc sig pad rw_ dig far cfr cby que has img kep) [0, 1, 2, 3, 4, 5, 6, 7, 8, 9, 10, 11, 12, 13] rfl
                refine vp_callSi (W.runV (As := [.int (nI i)]) (rest := [.int (nI (tbits (fun p => num (rw_ p)) zz i))]) ⟨gx, gb, gml, gown, gts⟩ (kX9_isTaught Gl D cI cJ cZ mo ma mb mc md me mf mg mh mi mj mk ml mn n q c w zz ee num plc sig pad rw_ dig far cfr cby que has img kep i (by omega) (by omega) (by omega) (by intro p hp; have := hrr p hp; omega) (by intro p hp; exact hnum _ (hrr p hp))) (cwV 1 gts gX9_taught_X9_isTaught rfl rfl rfl (by decide +kernel) ⟨Nat.le_of_ble_eq_true rfl, Nat.le_of_ble_eq_true rfl⟩) ⟨fun a U g mk q => ⟨q.1, q.2.1, va_K.moved (u := U) (U := U.calling g mk a) (Vm.Alike.refl U.vm) q.2.2⟩, va_recv hK hPc (ci := 4) (q0 := 0) rfl rfl, fun U hU hW => ⟨rfl, by rw [hU]; exact hPc, va_K.moved hW.alike hK⟩⟩ rfl rfl hl.1 rfl (lv_room (Nat.le_of_ble_eq_true rfl)) dX9_taught_56 ⟨Nat.le_of_ble_eq_true rfl, Nat.le_of_ble_eq_true rfl⟩) (fun r hw => ?_)
                have hr56 := hw
                subst hr56
                refine lv_if_eq (tgt := 69) gx gb dX9_taught_59 (by decide) (fun c59 => ?_) (fun c59 => ?_)
                · skip
                  rw [b0_eq] at c59
                  refine lv_iconst (v := nI 0) gx gb dX9_taught_69 (by decide) ?_
                  exact L70 0 (by first | (rw [c59]; rfl)) _ _ hP hD hS ls (lv_sub hl [0, 1, 2, 3, 4] rfl)
                · skip
                  rw [b0_eq] at c59
                  have c59 := nf_t c59
                  refine lv_iconst (v := nI 1) gx gb dX9_taught_62 (by decide) ?_
                  refine lv_iload gx gb dX9_taught_63 (lv_at hl 1 rfl) ?_
                  refine lv_ishl gx gb dX9_taught_65 ?_
                  refine lv_evi (nI (1 * 2 ^ i)) (e_shl _ (by omega)) ?_
                  refine lv_goto (tgt := 70) gx gb dX9_taught_66 (by decide) ?_
                  exact L70 (1 * 2 ^ i) (by first | (rw [c59]; rfl)) _ _ hP hD hS ls (lv_sub hl [0, 1, 2, 3, 4] rfl)
          exact L45 _ row z ev 0 (by omega) (by omega) (by first | (exfalso; omega) | (intro p hp; rw [cpy7 _ _ (by omega)]; exact hp_ p hp) | (intro p hp; rw [hrw p hp]; exact rowB_in (pad := pad) (w := w) (q := q) (P := fun x => x < n) hp_ p (by omega))) (by first | (exfalso; omega) | (rw [tghZ, if_pos (by omega), tbits_cong hq1 (fun p hp => by rw [cpy7 _ _ (by omega)])]) | (rw [tghZ, if_neg (by omega), if_pos (by omega), if_pos hb0, ← hz1, tbits_cong (by omega) (fun p hp => by rw [hrw p hp])])) (Nat.lt_succ_self _) _ _ hP hD hS ls (lv_sub hl [1, 0, 2, 3, 4] rfl)
        · skip
          rw [z0_eq (by omega) (by omega)] at c33
          refine lv_aload_n gx gb dX9_taught_36 rfl (lv_at hl 1 rfl) ?_
          have hPc := hP.sub (ws' := wM mo ma mb mc md me mf mg mh mi mj mk ml mn cI cZ n q c w z ev num plc sig pad row dig far cfr cby que has img kep) [0, 1, 2, 3, 4, 5, 6, 7, 8, 9, 10, 11, 12, 13] rfl
          have hDc := hD.sub (ws' := wM mo ma mb mc md me mf mg mh mi mj mk ml mn cI cZ n q c w z ev num plc sig pad row dig far cfr cby que has img kep) [0, 1, 2, 3, 4, 5, 6, 7, 8, 9, 10, 11, 12, 13] (by decide) rfl
          have hFc := va_free (wc := wM mo ma mb mc md me mf mg mh mi mj mk ml mn cI cZ n q c w z ev num plc sig pad row dig far cfr cby que has img kep) hD hS hA [0, 1, 2, 3, 4, 5, 6, 7, 8, 9, 10, 11, 12, 13] rfl
          refine va_callv (va_runV (As := []) (rest := []) ⟨gx, gb, gml, gown, gts⟩ (kX9_asNow Gl D cI cJ cZ mo ma mb mc md me mf mg mh mi mj mk ml mn n q c w z ev num plc sig pad row dig far cfr cby que has img kep _  ) (cwV 0 gts gX9_taught_X9_asNow rfl rfl rfl (by decide +kernel) ⟨Nat.le_of_ble_eq_true rfl, Nat.le_of_ble_eq_true rfl⟩) ⟨fun a U g mk q => by obtain ⟨q0, q1, qP, qK, qD⟩ := q; exact ⟨q0, q1, qP, va_K.moved (u := U) (U := U.calling g mk a) (Vm.Alike.refl U.vm) qK, qD⟩, va_recv hK hPc (ci := 4) (q0 := 0) rfl rfl, fun U hU hW => ⟨rfl, by rw [hU], by rw [hU]; exact hPc, va_K.moved hW.alike hK, hDc.weaken (fun _ _ _ _ => trivial)⟩⟩ rfl rfl hl.1 rfl (lv_room (Nat.le_of_ble_eq_true rfl)) dX9_taught_37 ⟨Nat.le_of_ble_eq_true rfl, Nat.le_of_ble_eq_true rfl⟩) hS (fun q _ h => hFc q h) hFc (fun u t H1 locs ht hvm hw hB hz1 hk1 hS => ?_)
          obtain ⟨hP1, hK1, hD1⟩ := hB
          rw [ht] at hP1
          try dsimp only at hw
          try dsimp only at hP1
          try dsimp only at hD1
          have hK := va_K.moved hvm.symm hK1
          obtain ⟨hP, hD⟩ := va_join (wr := []) (w1 := wM mo ma mb mc md me mf mg mh mi mj mk ml mn cI cZ n q c w q ev num plc sig pad (cpy plc row 7) dig far cfr cby que has img kep) hP hD [0, 1, 2, 3, 4, 5, 6, 7, 8, 9, 10, 11, 12, 13] [] rfl rfl (by decide) (by decide) hk1 hFc hP1 hD1
          have hP := hP.sub (ws' := wM mo ma mb mc md me mf mg mh mi mj mk ml mn cI cZ n q c w q ev num plc sig pad (cpy plc row 7) dig far cfr cby que has img kep) [0, 1, 2, 3, 4, 5, 6, 7, 8, 9, 10, 11, 12, 13] rfl
          have hD := hD.sub (ws' := wM mo ma mb mc md me mf mg mh mi mj mk ml mn cI cZ n q c w q ev num plc sig pad (cpy plc row 7) dig far cfr cby que has img kep) [0, 1, 2, 3, 4, 5, 6, 7, 8, 9, 10, 11, 12, 13] (by decide) rfl
          have hK := va_K.moved (Vm.Alike.refl Gs.vm) hK
          generalize H1 = H at hP hS ⊢
          refine lv_iconst (v := nI 0) gx gb dX9_taught_40 (by decide) ?_
          refine lv_istore_n (lv' := [(3, .int (nI 0)), (2, .int (nI 0)), (0, .ref mo), (1, .int (zI a))]) gx gb dX9_taught_41 rfl hl (by decide) rfl (fun ls hl => ?_)
          refine lv_iconst (v := nI 0) gx gb dX9_taught_42 (by decide) ?_
          refine lv_istore (lv' := [(4, .int (nI 0)), (3, .int (nI 0)), (2, .int (nI 0)), (0, .ref mo), (1, .int (zI a))]) gx gb dX9_taught_43 hl (by decide) rfl (fun ls hl => ?_)
          have L45 : ∀ fu : Nat, ∀ (rw_ : Nat → Nat) (zz ee : Nat) (i : Nat) (hi : i ≤ 7) (hzz : 1 ≤ zz ∧ zz ≤ 7) (hrr : ∀ p, p < zz → rw_ p < n) (hsp : (tbits (fun p => num (rw_ p)) zz 7 : Int) = tghZ num pad w plc q a), (7 - i) < fu → ∀ (H : Heap) (locs : List Loc), va_P D vwCl (wM mo ma mb mc md me mf mg mh mi mj mk ml mn cI cZ n q c w zz ee num plc sig pad rw_ dig far cfr cby que has img kep) H → va_D A (wM mo ma mb mc md me mf mg mh mi mj mk ml mn cI cZ n q c w zz ee num plc sig pad rw_ dig far cfr cby que has img kep) → va_S A Gs.heap H locs → ∀ ls : Array Slot, lv_has ls 5 [(3, .int (nI (tbits (fun p => num (rw_ p)) zz i))), (4, .int (nI i)), (2, .int (nI 0)), (0, .ref mo), (1, .int (zI a))] → W Gp Gl Ge (headSpec wsX9_taught ({ frames := 5, cells := 0, slots := 0, locals := 113 } : Room)).room Gs Gm ([.ref mo, .int (zI a)] : List Value).toArray Gw Gt Gc H locs 0 0 (MQ Gw (va_Qi (fun (r : Int32) (u : (Nat → Nat) × (Nat) × (Nat)) => r = zI (tghZ num pad w plc q a)) (fun (u : (Nat → Nat) × (Nat) × (Nat)) t => va_P D vwCl (wM mo ma mb mc md me mf mg mh mi mj mk ml mn cI cZ n q c w u.2.1 u.2.2 num plc sig pad u.1 dig far cfr cby que has img kep) t.heap ∧ va_K D vwCl [(cI, .int), (cJ, .long), (cZ, .boolean)] t ∧ va_D A (wM mo ma mb mc md me mf mg mh mi mj mk ml mn cI cZ n q c w u.2.1 u.2.2 num plc sig pad u.1 dig far cfr cby que has img kep)) A) ([.ref mo, .int (zI a)] : List Value).toArray Gs 0 0 A) (F0 Gm 45 ls []) := by
            intro fu
            induction fu with
            | zero => intro rw_ zz ee i hi hzz hrr hsp hfu; exact absurd hfu (Nat.not_lt_zero _)
            | succ fu ih45 =>
              intro rw_ zz ee i hi hzz hrr hsp hfu H locs hP hD hS ls hl
              refine lv_iload gx gb dX9_taught_45 (lv_at hl 1 rfl) ?_
              refine lv_bipush (v := nI 7) gx gb dX9_taught_47 (by decide) ?_
              refine lv_icmp_ge (tgt := 78) gx gb dX9_taught_49 (by decide) (fun c49 => ?_) (fun c49 => ?_)
              · skip
                rw [nI_leI (by omega) (by omega)] at c49
                refine lv_iload_n gx gb dX9_taught_78 rfl (lv_at hl 0 rfl) ?_
                exact W.iret (v := nI (tbits (fun p => num (rw_ p)) zz i)) gx gb gr (fun t ht hW => ⟨⟨nI (tbits (fun p => num (rw_ p)) zz i), (rw_, zz, ee), rfl, (by first | (dsimp only; done) | ((try dsimp only); obtain rfl : i = 7 := (by omega); rw [← hsp, zI_nat])), by rw [ht]; exact hP, va_K.moved hW.alike hK, hD⟩, hS.F ht⟩) hS.2.2 dX9_taught_79
              · skip
                rw [nI_leI (by omega) (by omega)] at c49
                have L70 : ∀ (x : Nat) (hxx : x = if tau i (fun p => num (rw_ p)) zz then 1 * 2 ^ i else 0), ∀ (H : Heap) (locs : List Loc), va_P D vwCl (wM mo ma mb mc md me mf mg mh mi mj mk ml mn cI cZ n q c w zz ee num plc sig pad rw_ dig far cfr cby que has img kep) H → va_D A (wM mo ma mb mc md me mf mg mh mi mj mk ml mn cI cZ n q c w zz ee num plc sig pad rw_ dig far cfr cby que has img kep) → va_S A Gs.heap H locs → ∀ ls : Array Slot, lv_has ls 5 [(3, .int (nI (tbits (fun p => num (rw_ p)) zz i))), (4, .int (nI i)), (2, .int (nI 0)), (0, .ref mo), (1, .int (zI a))] → W Gp Gl Ge (headSpec wsX9_taught ({ frames := 5, cells := 0, slots := 0, locals := 113 } : Room)).room Gs Gm ([.ref mo, .int (zI a)] : List Value).toArray Gw Gt Gc H locs 0 0 (MQ Gw (va_Qi (fun (r : Int32) (u : (Nat → Nat) × (Nat) × (Nat)) => r = zI (tghZ num pad w plc q a)) (fun (u : (Nat → Nat) × (Nat) × (Nat)) t => va_P D vwCl (wM mo ma mb mc md me mf mg mh mi mj mk ml mn cI cZ n q c w u.2.1 u.2.2 num plc sig pad u.1 dig far cfr cby que has img kep) t.heap ∧ va_K D vwCl [(cI, .int), (cJ, .long), (cZ, .boolean)] t ∧ va_D A (wM mo ma mb mc md me mf mg mh mi mj mk ml mn cI cZ n q c w u.2.1 u.2.2 num plc sig pad u.1 dig far cfr cby que has img kep)) A) ([.ref mo, .int (zI a)] : List Value).toArray Gs 0 0 A) (F0 Gm 70 ls [.int (nI x), .int (nI (tbits (fun p => num (rw_ p)) zz i))]) := by
                  intro x hxx H locs hP hD hS ls hl
                  subst hxx
                  have hl : lv_has ls 5 [(3, .int (nI (tbits (fun p => num (rw_ p)) zz i))), (4, .int (nI i)), (2, .int (nI 0)), (0, .ref mo), (1, .int (zI a))] := hl
                  refine lv_ior gx gb dX9_taught_70 ?_
                  refine lv_evi (nI ((tbits (fun p => num (rw_ p)) zz i) ||| (if tau i (fun p => num (rw_ p)) zz then 1 * 2 ^ i else 0))) (e_or (tbits (fun p => num (rw_ p)) zz i) (if tau i (fun p => num (rw_ p)) zz then 1 * 2 ^ i else 0)) ?_
                  refine lv_istore_n (lv' := [(3, .int (nI ((tbits (fun p => num (rw_ p)) zz i) ||| (if tau i (fun p => num (rw_ p)) zz then 1 * 2 ^ i else 0)))), (4, .int (nI i)), (2, .int (nI 0)), (0, .ref mo), (1, .int (zI a))]) gx gb dX9_taught_71 rfl hl (by decide) rfl (fun ls hl => ?_)
                  refine lv_iinc (v := nI (i + 1)) (lv' := [(4, .int (nI (i + 1))), (3, .int (nI ((tbits (fun p => num (rw_ p)) zz i) ||| (if tau i (fun p => num (rw_ p)) zz then 1 * 2 ^ i else 0)))), (2, .int (nI 0)), (0, .ref mo), (1, .int (zI a))]) gx gb dX9_taught_72 hl (k := 1) rfl (nI_add i 1) (by decide) rfl (fun ls hl => ?_)
                  refine lv_goto (tgt := 45) gx gb dX9_taught_75 (by decide) ?_
                  exact ih45 rw_ zz ee (i + 1) (by omega) (by omega) (by exact hrr) (by exact hsp) (by omega) _ _ hP hD hS ls (lv_sub hl [1, 0, 2, 3, 4] rfl)
                refine lv_iload_n gx gb dX9_taught_52 rfl (lv_at hl 0 rfl) ?_
                refine lv_aload_n gx gb dX9_taught_53 rfl (lv_at hl 3 rfl) ?_
                refine lv_iload gx gb dX9_taught_54 (lv_at hl 1 rfl) ?_
                have hPc := hP.sub (ws' := wM mo ma mb mc md me mf mg mh mi mj mk ml mn cI cZ n q c w zz ee num plc sig pad rw_ dig far cfr cby que has img kep) [0, 1, 2, 3, 4, 5, 6, 7, 8, 9, 10, 11, 12, 13] rfl
                refine vp_callSi (W.runV (As := [.int (nI i)]) (rest := [.int (nI (tbits (fun p => num (rw_ p)) zz i))]) ⟨gx, gb, gml, gown, gts⟩ (kX9_isTaught Gl D cI cJ cZ mo ma mb mc md me mf mg mh mi mj mk ml mn n q c w zz ee num plc sig pad rw_ dig far cfr cby que has img kep i (by omega) (by omega) (by omega) (by intro p hp; have := hrr p hp; omega) (by intro p hp; exact hnum _ (hrr p hp))) (cwV 1 gts gX9_taught_X9_isTaught rfl rfl rfl (by decide +kernel) ⟨Nat.le_of_ble_eq_true rfl, Nat.le_of_ble_eq_true rfl⟩) ⟨fun a U g mk q => ⟨q.1, q.2.1, va_K.moved (u := U) (U := U.calling g mk a) (Vm.Alike.refl U.vm) q.2.2⟩, va_recv hK hPc (ci := 4) (q0 := 0) rfl rfl, fun U hU hW => ⟨rfl, by rw [hU]; exact hPc, va_K.moved hW.alike hK⟩⟩ rfl rfl hl.1 rfl (lv_room (Nat.le_of_ble_eq_true rfl)) dX9_taught_56 ⟨Nat.le_of_ble_eq_true rfl, Nat.le_of_ble_eq_true rfl⟩) (fun r hw => ?_)
                have hr56 := hw
                subst hr56
                refine lv_if_eq (tgt := 69) gx gb dX9_taught_59 (by decide) (fun c59 => ?_) (fun c59 => ?_)
                · skip
                  rw [b0_eq] at c59
                  refine lv_iconst (v := nI 0) gx gb dX9_taught_69 (by decide) ?_
                  exact L70 0 (by first | (rw [c59]; rfl)) _ _ hP hD hS ls (lv_sub hl [0, 1, 2, 3, 4] rfl)
                · skip
                  rw [b0_eq] at c59
                  have c59 := nf_t c59
                  refine lv_iconst (v := nI 1) gx gb dX9_taught_62 (by decide) ?_
                  refine lv_iload gx gb dX9_taught_63 (lv_at hl 1 rfl) ?_
                  refine lv_ishl gx gb dX9_taught_65 ?_
                  refine lv_evi (nI (1 * 2 ^ i)) (e_shl _ (by omega)) ?_
                  refine lv_goto (tgt := 70) gx gb dX9_taught_66 (by decide) ?_
                  exact L70 (1 * 2 ^ i) (by first | (rw [c59]; rfl)) _ _ hP hD hS ls (lv_sub hl [0, 1, 2, 3, 4] rfl)
          exact L45 _ (cpy plc row 7) q ev 0 (by omega) (by omega) (by first | (exfalso; omega) | (intro p hp; rw [cpy7 _ _ (by omega)]; exact hp_ p hp) | (intro p hp; rw [hrw p hp]; exact rowB_in (pad := pad) (w := w) (q := q) (P := fun x => x < n) hp_ p (by omega))) (by first | (exfalso; omega) | (rw [tghZ, if_pos (by omega), tbits_cong hq1 (fun p hp => by rw [cpy7 _ _ (by omega)])]) | (rw [tghZ, if_neg (by omega), if_pos (by omega), if_pos hb0, ← hz1, tbits_cong (by omega) (fun p hp => by rw [hrw p hp])])) (Nat.lt_succ_self _) _ _ hP hD hS ls (lv_sub hl [1, 0, 2, 3, 4] rfl)
      · skip
        rw [n0_ge (by omega)] at c27
        refine lv_iload_n gx gb dX9_taught_30 rfl (lv_at hl 0 rfl) ?_
        exact W.iret (v := nI 0) gx gb gr (fun t ht hW => ⟨⟨nI 0, (row, z, ev), rfl, (by first | (dsimp only; done) | ((try dsimp only); first | (exfalso; omega) | (rw [tghZ, if_neg (by omega), if_pos (by omega), if_neg (by omega)]))), by rw [ht]; exact hP, va_K.moved hW.alike hK, hD⟩, hS.F ht⟩) hS.2.2 dX9_taught_31
    · skip
      rw [zn_eq (by omega) (by omega) (by omega)] at c14
      refine lv_aload_n gx gb dX9_taught_17 rfl (lv_at hl 0 rfl) ?_
      have hPc := hP.sub (ws' := wM mo ma mb mc md me mf mg mh mi mj mk ml mn cI cZ n q c w z ev num plc sig pad row dig far cfr cby que has img kep) [0, 1, 2, 3, 4, 5, 6, 7, 8, 9, 10, 11, 12, 13] rfl
      have hDc := hD.sub (ws' := wM mo ma mb mc md me mf mg mh mi mj mk ml mn cI cZ n q c w z ev num plc sig pad row dig far cfr cby que has img kep) [0, 1, 2, 3, 4, 5, 6, 7, 8, 9, 10, 11, 12, 13] (by decide) rfl
      have hFc := va_free (wc := wM mo ma mb mc md me mf mg mh mi mj mk ml mn cI cZ n q c w z ev num plc sig pad row dig far cfr cby que has img kep) hD hS hA [0, 1, 2, 3, 4, 5, 6, 7, 8, 9, 10, 11, 12, 13] rfl
      refine va_calli (va_runV (As := []) (rest := []) ⟨gx, gb, gml, gown, gts⟩ (kX9_barOfDay Gl D cI cJ cZ mo ma mb mc md me mf mg mh mi mj mk ml mn n q c w z ev num plc sig pad row dig far cfr cby que has img kep _  (by omega) (by omega) (by omega) (by omega) (by omega) (by omega)) (cwV 0 gts gX9_taught_X9_barOfDay rfl rfl rfl (by decide +kernel) ⟨Nat.le_of_ble_eq_true rfl, Nat.le_of_ble_eq_true rfl⟩) ⟨fun a U g mk q => by obtain ⟨q0, q1, qP, qK, qD⟩ := q; exact ⟨q0, q1, qP, va_K.moved (u := U) (U := U.calling g mk a) (Vm.Alike.refl U.vm) qK, qD⟩, va_recv hK hPc (ci := 4) (q0 := 0) rfl rfl, fun U hU hW => ⟨rfl, by rw [hU], by rw [hU]; exact hPc, va_K.moved hW.alike hK, hDc.weaken (fun _ _ _ _ => trivial)⟩⟩ rfl rfl hl.1 rfl (lv_room (Nat.le_of_ble_eq_true rfl)) dX9_taught_18 ⟨Nat.le_of_ble_eq_true rfl, Nat.le_of_ble_eq_true rfl⟩) hS (fun q _ h => hFc q h) hFc (fun r u t H1 locs ht hvm hw hB hz1 hk1 hS => ?_)
      obtain ⟨row_18, z_18, ev_18⟩ := u
      obtain ⟨hP1, hK1, hD1⟩ := hB
      rw [ht] at hP1
      try dsimp only at hw
      try dsimp only at hP1
      try dsimp only at hD1
      have hK := va_K.moved hvm.symm hK1
      obtain ⟨hP, hD⟩ := va_join (wr := []) (w1 := wM mo ma mb mc md me mf mg mh mi mj mk ml mn cI cZ n q c w z_18 ev_18 num plc sig pad row_18 dig far cfr cby que has img kep) hP hD [0, 1, 2, 3, 4, 5, 6, 7, 8, 9, 10, 11, 12, 13] [] rfl rfl (by decide) (by decide) hk1 hFc hP1 hD1
      have hP := hP.sub (ws' := wM mo ma mb mc md me mf mg mh mi mj mk ml mn cI cZ n q c w z_18 ev_18 num plc sig pad row_18 dig far cfr cby que has img kep) [0, 1, 2, 3, 4, 5, 6, 7, 8, 9, 10, 11, 12, 13] rfl
      have hD := hD.sub (ws' := wM mo ma mb mc md me mf mg mh mi mj mk ml mn cI cZ n q c w z_18 ev_18 num plc sig pad row_18 dig far cfr cby que has img kep) [0, 1, 2, 3, 4, 5, 6, 7, 8, 9, 10, 11, 12, 13] (by decide) rfl
      have hK := va_K.moved (Vm.Alike.refl Gs.vm) hK
      generalize H1 = H at hP hS ⊢
      obtain ⟨hr18, hw⟩ := hw
      subst hr18
      have hw4 := hw
      have hbb := barZ_bd pad w plc q
      have hsb := sizB_bd pad w plc hq1
      refine lv_goto (tgt := 25) gx gb dX9_taught_21 (by decide) ?_
      refine lv_istore_n (lv' := [(2, .int (zI (barZ pad w plc q))), (0, .ref mo), (1, .int (zI a))]) gx gb dX9_taught_25 rfl hl (by decide) rfl (fun ls hl => ?_)
      refine lv_iload_n gx gb dX9_taught_26 rfl (lv_at hl 0 rfl) ?_
      refine lv_if_ge (tgt := 32) gx gb dX9_taught_27 (by decide) (fun c27 => ?_) (fun c27 => ?_)
      · skip
        rw [z0_ge (by omega) (by omega)] at c27
        first | (have hb0 : barZ pad w plc q = 0 := by omega) | skip
        first | (obtain ⟨hz1, hev, hrw⟩ := hw4 hb0) | skip
        refine lv_iload_n gx gb dX9_taught_32 rfl (lv_at hl 2 rfl) ?_
        refine lv_if_ne (tgt := 40) gx gb dX9_taught_33 (by decide) (fun c33 => ?_) (fun c33 => ?_)
        · skip
          rw [z0_eq (by omega) (by omega)] at c33
          refine lv_iconst (v := nI 0) gx gb dX9_taught_40 (by decide) ?_
          refine lv_istore_n (lv' := [(3, .int (nI 0)), (2, .int (zI (barZ pad w plc q))), (0, .ref mo), (1, .int (zI a))]) gx gb dX9_taught_41 rfl hl (by decide) rfl (fun ls hl => ?_)
          refine lv_iconst (v := nI 0) gx gb dX9_taught_42 (by decide) ?_
          refine lv_istore (lv' := [(4, .int (nI 0)), (3, .int (nI 0)), (2, .int (zI (barZ pad w plc q))), (0, .ref mo), (1, .int (zI a))]) gx gb dX9_taught_43 hl (by decide) rfl (fun ls hl => ?_)
          have L45 : ∀ fu : Nat, ∀ (rw_ : Nat → Nat) (zz ee : Nat) (i : Nat) (hi : i ≤ 7) (hzz : 1 ≤ zz ∧ zz ≤ 7) (hrr : ∀ p, p < zz → rw_ p < n) (hsp : (tbits (fun p => num (rw_ p)) zz 7 : Int) = tghZ num pad w plc q a), (7 - i) < fu → ∀ (H : Heap) (locs : List Loc), va_P D vwCl (wM mo ma mb mc md me mf mg mh mi mj mk ml mn cI cZ n q c w zz ee num plc sig pad rw_ dig far cfr cby que has img kep) H → va_D A (wM mo ma mb mc md me mf mg mh mi mj mk ml mn cI cZ n q c w zz ee num plc sig pad rw_ dig far cfr cby que has img kep) → va_S A Gs.heap H locs → ∀ ls : Array Slot, lv_has ls 5 [(3, .int (nI (tbits (fun p => num (rw_ p)) zz i))), (4, .int (nI i)), (2, .int (zI (barZ pad w plc q))), (0, .ref mo), (1, .int (zI a))] → W Gp Gl Ge (headSpec wsX9_taught ({ frames := 5, cells := 0, slots := 0, locals := 113 } : Room)).room Gs Gm ([.ref mo, .int (zI a)] : List Value).toArray Gw Gt Gc H locs 0 0 (MQ Gw (va_Qi (fun (r : Int32) (u : (Nat → Nat) × (Nat) × (Nat)) => r = zI (tghZ num pad w plc q a)) (fun (u : (Nat → Nat) × (Nat) × (Nat)) t => va_P D vwCl (wM mo ma mb mc md me mf mg mh mi mj mk ml mn cI cZ n q c w u.2.1 u.2.2 num plc sig pad u.1 dig far cfr cby que has img kep) t.heap ∧ va_K D vwCl [(cI, .int), (cJ, .long), (cZ, .boolean)] t ∧ va_D A (wM mo ma mb mc md me mf mg mh mi mj mk ml mn cI cZ n q c w u.2.1 u.2.2 num plc sig pad u.1 dig far cfr cby que has img kep)) A) ([.ref mo, .int (zI a)] : List Value).toArray Gs 0 0 A) (F0 Gm 45 ls []) := by
            intro fu
            induction fu with
            | zero => intro rw_ zz ee i hi hzz hrr hsp hfu; exact absurd hfu (Nat.not_lt_zero _)
            | succ fu ih45 =>
              intro rw_ zz ee i hi hzz hrr hsp hfu H locs hP hD hS ls hl
              refine lv_iload gx gb dX9_taught_45 (lv_at hl 1 rfl) ?_
              refine lv_bipush (v := nI 7) gx gb dX9_taught_47 (by decide) ?_
              refine lv_icmp_ge (tgt := 78) gx gb dX9_taught_49 (by decide) (fun c49 => ?_) (fun c49 => ?_)
              · skip
                rw [nI_leI (by omega) (by omega)] at c49
                refine lv_iload_n gx gb dX9_taught_78 rfl (lv_at hl 0 rfl) ?_
                exact W.iret (v := nI (tbits (fun p => num (rw_ p)) zz i)) gx gb gr (fun t ht hW => ⟨⟨nI (tbits (fun p => num (rw_ p)) zz i), (rw_, zz, ee), rfl, (by first | (dsimp only; done) | ((try dsimp only); obtain rfl : i = 7 := (by omega); rw [← hsp, zI_nat])), by rw [ht]; exact hP, va_K.moved hW.alike hK, hD⟩, hS.F ht⟩) hS.2.2 dX9_taught_79
              · skip
                rw [nI_leI (by omega) (by omega)] at c49
                have L70 : ∀ (x : Nat) (hxx : x = if tau i (fun p => num (rw_ p)) zz then 1 * 2 ^ i else 0), ∀ (H : Heap) (locs : List Loc), va_P D vwCl (wM mo ma mb mc md me mf mg mh mi mj mk ml mn cI cZ n q c w zz ee num plc sig pad rw_ dig far cfr cby que has img kep) H → va_D A (wM mo ma mb mc md me mf mg mh mi mj mk ml mn cI cZ n q c w zz ee num plc sig pad rw_ dig far cfr cby que has img kep) → va_S A Gs.heap H locs → ∀ ls : Array Slot, lv_has ls 5 [(3, .int (nI (tbits (fun p => num (rw_ p)) zz i))), (4, .int (nI i)), (2, .int (zI (barZ pad w plc q))), (0, .ref mo), (1, .int (zI a))] → W Gp Gl Ge (headSpec wsX9_taught ({ frames := 5, cells := 0, slots := 0, locals := 113 } : Room)).room Gs Gm ([.ref mo, .int (zI a)] : List Value).toArray Gw Gt Gc H locs 0 0 (MQ Gw (va_Qi (fun (r : Int32) (u : (Nat → Nat) × (Nat) × (Nat)) => r = zI (tghZ num pad w plc q a)) (fun (u : (Nat → Nat) × (Nat) × (Nat)) t => va_P D vwCl (wM mo ma mb mc md me mf mg mh mi mj mk ml mn cI cZ n q c w u.2.1 u.2.2 num plc sig pad u.1 dig far cfr cby que has img kep) t.heap ∧ va_K D vwCl [(cI, .int), (cJ, .long), (cZ, .boolean)] t ∧ va_D A (wM mo ma mb mc md me mf mg mh mi mj mk ml mn cI cZ n q c w u.2.1 u.2.2 num plc sig pad u.1 dig far cfr cby que has img kep)) A) ([.ref mo, .int (zI a)] : List Value).toArray Gs 0 0 A) (F0 Gm 70 ls [.int (nI x), .int (nI (tbits (fun p => num (rw_ p)) zz i))]) := by
                  intro x hxx H locs hP hD hS ls hl
                  subst hxx
                  have hl : lv_has ls 5 [(3, .int (nI (tbits (fun p => num (rw_ p)) zz i))), (4, .int (nI i)), (2, .int (zI (barZ pad w plc q))), (0, .ref mo), (1, .int (zI a))] := hl
                  refine lv_ior gx gb dX9_taught_70 ?_
                  refine lv_evi (nI ((tbits (fun p => num (rw_ p)) zz i) ||| (if tau i (fun p => num (rw_ p)) zz then 1 * 2 ^ i else 0))) (e_or (tbits (fun p => num (rw_ p)) zz i) (if tau i (fun p => num (rw_ p)) zz then 1 * 2 ^ i else 0)) ?_
                  refine lv_istore_n (lv' := [(3, .int (nI ((tbits (fun p => num (rw_ p)) zz i) ||| (if tau i (fun p => num (rw_ p)) zz then 1 * 2 ^ i else 0)))), (4, .int (nI i)), (2, .int (zI (barZ pad w plc q))), (0, .ref mo), (1, .int (zI a))]) gx gb dX9_taught_71 rfl hl (by decide) rfl (fun ls hl => ?_)
                  refine lv_iinc (v := nI (i + 1)) (lv' := [(4, .int (nI (i + 1))), (3, .int (nI ((tbits (fun p => num (rw_ p)) zz i) ||| (if tau i (fun p => num (rw_ p)) zz then 1 * 2 ^ i else 0)))), (2, .int (zI (barZ pad w plc q))), (0, .ref mo), (1, .int (zI a))]) gx gb dX9_taught_72 hl (k := 1) rfl (nI_add i 1) (by decide) rfl (fun ls hl => ?_)
                  refine lv_goto (tgt := 45) gx gb dX9_taught_75 (by decide) ?_
                  exact ih45 rw_ zz ee (i + 1) (by omega) (by omega) (by exact hrr) (by exact hsp) (by omega) _ _ hP hD hS ls (lv_sub hl [1, 0, 2, 3, 4] rfl)
                refine lv_iload_n gx gb dX9_taught_52 rfl (lv_at hl 0 rfl) ?_
                refine lv_aload_n gx gb dX9_taught_53 rfl (lv_at hl 3 rfl) ?_
                refine lv_iload gx gb dX9_taught_54 (lv_at hl 1 rfl) ?_
                have hPc := hP.sub (ws' := wM mo ma mb mc md me mf mg mh mi mj mk ml mn cI cZ n q c w zz ee num plc sig pad rw_ dig far cfr cby que has img kep) [0, 1, 2, 3, 4, 5, 6, 7, 8, 9, 10, 11, 12, 13] rfl
                refine vp_callSi (W.runV (As := [.int (nI i)]) (rest := [.int (nI (tbits (fun p => num (rw_ p)) zz i))]) ⟨gx, gb, gml, gown, gts⟩ (kX9_isTaught Gl D cI cJ cZ mo ma mb mc md me mf mg mh mi mj mk ml mn n q c w zz ee num plc sig pad rw_ dig far cfr cby que has img kep i (by omega) (by omega) (by omega) (by intro p hp; have := hrr p hp; omega) (by intro p hp; exact hnum _ (hrr p hp))) (cwV 1 gts gX9_taught_X9_isTaught rfl rfl rfl (by decide +kernel) ⟨Nat.le_of_ble_eq_true rfl, Nat.le_of_ble_eq_true rfl⟩) ⟨fun a U g mk q => ⟨q.1, q.2.1, va_K.moved (u := U) (U := U.calling g mk a) (Vm.Alike.refl U.vm) q.2.2⟩, va_recv hK hPc (ci := 4) (q0 := 0) rfl rfl, fun U hU hW => ⟨rfl, by rw [hU]; exact hPc, va_K.moved hW.alike hK⟩⟩ rfl rfl hl.1 rfl (lv_room (Nat.le_of_ble_eq_true rfl)) dX9_taught_56 ⟨Nat.le_of_ble_eq_true rfl, Nat.le_of_ble_eq_true rfl⟩) (fun r hw => ?_)
                have hr56 := hw
                subst hr56
                refine lv_if_eq (tgt := 69) gx gb dX9_taught_59 (by decide) (fun c59 => ?_) (fun c59 => ?_)
                · skip
                  rw [b0_eq] at c59
                  refine lv_iconst (v := nI 0) gx gb dX9_taught_69 (by decide) ?_
                  exact L70 0 (by first | (rw [c59]; rfl)) _ _ hP hD hS ls (lv_sub hl [0, 1, 2, 3, 4] rfl)
                · skip
                  rw [b0_eq] at c59
                  have c59 := nf_t c59
                  refine lv_iconst (v := nI 1) gx gb dX9_taught_62 (by decide) ?_
                  refine lv_iload gx gb dX9_taught_63 (lv_at hl 1 rfl) ?_
                  refine lv_ishl gx gb dX9_taught_65 ?_
                  refine lv_evi (nI (1 * 2 ^ i)) (e_shl _ (by omega)) ?_
                  refine lv_goto (tgt := 70) gx gb dX9_taught_66 (by decide) ?_
                  exact L70 (1 * 2 ^ i) (by first | (rw [c59]; rfl)) _ _ hP hD hS ls (lv_sub hl [0, 1, 2, 3, 4] rfl)
          exact L45 _ row_18 z_18 ev_18 0 (by omega) (by omega) (by first | (exfalso; omega) | (intro p hp; rw [cpy7 _ _ (by omega)]; exact hp_ p hp) | (intro p hp; rw [hrw p hp]; exact rowB_in (pad := pad) (w := w) (q := q) (P := fun x => x < n) hp_ p (by omega))) (by first | (exfalso; omega) | (rw [tghZ, if_pos (by omega), tbits_cong hq1 (fun p hp => by rw [cpy7 _ _ (by omega)])]) | (rw [tghZ, if_neg (by omega), if_pos (by omega), if_pos hb0, ← hz1, tbits_cong (by omega) (fun p hp => by rw [hrw p hp])])) (Nat.lt_succ_self _) _ _ hP hD hS ls (lv_sub hl [1, 0, 2, 3, 4] rfl)
        · skip
          rw [z0_eq (by omega) (by omega)] at c33
          refine lv_aload_n gx gb dX9_taught_36 rfl (lv_at hl 1 rfl) ?_
          have hPc := hP.sub (ws' := wM mo ma mb mc md me mf mg mh mi mj mk ml mn cI cZ n q c w z_18 ev_18 num plc sig pad row_18 dig far cfr cby que has img kep) [0, 1, 2, 3, 4, 5, 6, 7, 8, 9, 10, 11, 12, 13] rfl
          have hDc := hD.sub (ws' := wM mo ma mb mc md me mf mg mh mi mj mk ml mn cI cZ n q c w z_18 ev_18 num plc sig pad row_18 dig far cfr cby que has img kep) [0, 1, 2, 3, 4, 5, 6, 7, 8, 9, 10, 11, 12, 13] (by decide) rfl
          have hFc := va_free (wc := wM mo ma mb mc md me mf mg mh mi mj mk ml mn cI cZ n q c w z_18 ev_18 num plc sig pad row_18 dig far cfr cby que has img kep) hD hS hA [0, 1, 2, 3, 4, 5, 6, 7, 8, 9, 10, 11, 12, 13] rfl
          refine va_callv (va_runV (As := []) (rest := []) ⟨gx, gb, gml, gown, gts⟩ (kX9_asNow Gl D cI cJ cZ mo ma mb mc md me mf mg mh mi mj mk ml mn n q c w z_18 ev_18 num plc sig pad row_18 dig far cfr cby que has img kep _  ) (cwV 0 gts gX9_taught_X9_asNow rfl rfl rfl (by decide +kernel) ⟨Nat.le_of_ble_eq_true rfl, Nat.le_of_ble_eq_true rfl⟩) ⟨fun a U g mk q => by obtain ⟨q0, q1, qP, qK, qD⟩ := q; exact ⟨q0, q1, qP, va_K.moved (u := U) (U := U.calling g mk a) (Vm.Alike.refl U.vm) qK, qD⟩, va_recv hK hPc (ci := 4) (q0 := 0) rfl rfl, fun U hU hW => ⟨rfl, by rw [hU], by rw [hU]; exact hPc, va_K.moved hW.alike hK, hDc.weaken (fun _ _ _ _ => trivial)⟩⟩ rfl rfl hl.1 rfl (lv_room (Nat.le_of_ble_eq_true rfl)) dX9_taught_37 ⟨Nat.le_of_ble_eq_true rfl, Nat.le_of_ble_eq_true rfl⟩) hS (fun q _ h => hFc q h) hFc (fun u t H1 locs ht hvm hw hB hz1 hk1 hS => ?_)
          obtain ⟨hP1, hK1, hD1⟩ := hB
          rw [ht] at hP1
          try dsimp only at hw
          try dsimp only at hP1
          try dsimp only at hD1
          have hK := va_K.moved hvm.symm hK1
          obtain ⟨hP, hD⟩ := va_join (wr := []) (w1 := wM mo ma mb mc md me mf mg mh mi mj mk ml mn cI cZ n q c w q ev_18 num plc sig pad (cpy plc row_18 7) dig far cfr cby que has img kep) hP hD [0, 1, 2, 3, 4, 5, 6, 7, 8, 9, 10, 11, 12, 13] [] rfl rfl (by decide) (by decide) hk1 hFc hP1 hD1
          have hP := hP.sub (ws' := wM mo ma mb mc md me mf mg mh mi mj mk ml mn cI cZ n q c w q ev_18 num plc sig pad (cpy plc row_18 7) dig far cfr cby que has img kep) [0, 1, 2, 3, 4, 5, 6, 7, 8, 9, 10, 11, 12, 13] rfl
          have hD := hD.sub (ws' := wM mo ma mb mc md me mf mg mh mi mj mk ml mn cI cZ n q c w q ev_18 num plc sig pad (cpy plc row_18 7) dig far cfr cby que has img kep) [0, 1, 2, 3, 4, 5, 6, 7, 8, 9, 10, 11, 12, 13] (by decide) rfl
          have hK := va_K.moved (Vm.Alike.refl Gs.vm) hK
          generalize H1 = H at hP hS ⊢
          refine lv_iconst (v := nI 0) gx gb dX9_taught_40 (by decide) ?_
          refine lv_istore_n (lv' := [(3, .int (nI 0)), (2, .int (zI (barZ pad w plc q))), (0, .ref mo), (1, .int (zI a))]) gx gb dX9_taught_41 rfl hl (by decide) rfl (fun ls hl => ?_)
          refine lv_iconst (v := nI 0) gx gb dX9_taught_42 (by decide) ?_
          refine lv_istore (lv' := [(4, .int (nI 0)), (3, .int (nI 0)), (2, .int (zI (barZ pad w plc q))), (0, .ref mo), (1, .int (zI a))]) gx gb dX9_taught_43 hl (by decide) rfl (fun ls hl => ?_)
          have L45 : ∀ fu : Nat, ∀ (rw_ : Nat → Nat) (zz ee : Nat) (i : Nat) (hi : i ≤ 7) (hzz : 1 ≤ zz ∧ zz ≤ 7) (hrr : ∀ p, p < zz → rw_ p < n) (hsp : (tbits (fun p => num (rw_ p)) zz 7 : Int) = tghZ num pad w plc q a), (7 - i) < fu → ∀ (H : Heap) (locs : List Loc), va_P D vwCl (wM mo ma mb mc md me mf mg mh mi mj mk ml mn cI cZ n q c w zz ee num plc sig pad rw_ dig far cfr cby que has img kep) H → va_D A (wM mo ma mb mc md me mf mg mh mi mj mk ml mn cI cZ n q c w zz ee num plc sig pad rw_ dig far cfr cby que has img kep) → va_S A Gs.heap H locs → ∀ ls : Array Slot, lv_has ls 5 [(3, .int (nI (tbits (fun p => num (rw_ p)) zz i))), (4, .int (nI i)), (2, .int (zI (barZ pad w plc q))), (0, .ref mo), (1, .int (zI a))] → W Gp Gl Ge (headSpec wsX9_taught ({ frames := 5, cells := 0, slots := 0, locals := 113 } : Room)).room Gs Gm ([.ref mo, .int (zI a)] : List Value).toArray Gw Gt Gc H locs 0 0 (MQ Gw (va_Qi (fun (r : Int32) (u : (Nat → Nat) × (Nat) × (Nat)) => r = zI (tghZ num pad w plc q a)) (fun (u : (Nat → Nat) × (Nat) × (Nat)) t => va_P D vwCl (wM mo ma mb mc md me mf mg mh mi mj mk ml mn cI cZ n q c w u.2.1 u.2.2 num plc sig pad u.1 dig far cfr cby que has img kep) t.heap ∧ va_K D vwCl [(cI, .int), (cJ, .long), (cZ, .boolean)] t ∧ va_D A (wM mo ma mb mc md me mf mg mh mi mj mk ml mn cI cZ n q c w u.2.1 u.2.2 num plc sig pad u.1 dig far cfr cby que has img kep)) A) ([.ref mo, .int (zI a)] : List Value).toArray Gs 0 0 A) (F0 Gm 45 ls []) := by
            intro fu
            induction fu with
            | zero => intro rw_ zz ee i hi hzz hrr hsp hfu; exact absurd hfu (Nat.not_lt_zero _)
            | succ fu ih45 =>
              intro rw_ zz ee i hi hzz hrr hsp hfu H locs hP hD hS ls hl
              refine lv_iload gx gb dX9_taught_45 (lv_at hl 1 rfl) ?_
              refine lv_bipush (v := nI 7) gx gb dX9_taught_47 (by decide) ?_
              refine lv_icmp_ge (tgt := 78) gx gb dX9_taught_49 (by decide) (fun c49 => ?_) (fun c49 => ?_)
              · skip
                rw [nI_leI (by omega) (by omega)] at c49
                refine lv_iload_n gx gb dX9_taught_78 rfl (lv_at hl 0 rfl) ?_
                exact W.iret (v := nI (tbits (fun p => num (rw_ p)) zz i)) gx gb gr (fun t ht hW => ⟨⟨nI (tbits (fun p => num (rw_ p)) zz i), (rw_, zz, ee), rfl, (by first | (dsimp only; done) | ((try dsimp only); obtain rfl : i = 7 := (by omega); rw [← hsp, zI_nat])), by rw [ht]; exact hP, va_K.moved hW.alike hK, hD⟩, hS.F ht⟩) hS.2.2 dX9_taught_79
              · skip
                rw [nI_leI (by omega) (by omega)] at c49
                have L70 : ∀ (x : Nat) (hxx : x = if tau i (fun p => num (rw_ p)) zz then 1 * 2 ^ i else 0), ∀ (H : Heap) (locs : List Loc), va_P D vwCl (wM mo ma mb mc md me mf mg mh mi mj mk ml mn cI cZ n q c w zz ee num plc sig pad rw_ dig far cfr cby que has img kep) H → va_D A (wM mo ma mb mc md me mf mg mh mi mj mk ml mn cI cZ n q c w zz ee num plc sig pad rw_ dig far cfr cby que has img kep) → va_S A Gs.heap H locs → ∀ ls : Array Slot, lv_has ls 5 [(3, .int (nI (tbits (fun p => num (rw_ p)) zz i))), (4, .int (nI i)), (2, .int (zI (barZ pad w plc q))), (0, .ref mo), (1, .int (zI a))] → W Gp Gl Ge (headSpec wsX9_taught ({ frames := 5, cells := 0, slots := 0, locals := 113 } : Room)).room Gs Gm ([.ref mo, .int (zI a)] : List Value).toArray Gw Gt Gc H locs 0 0 (MQ Gw (va_Qi (fun (r : Int32) (u : (Nat → Nat) × (Nat) × (Nat)) => r = zI (tghZ num pad w plc q a)) (fun (u : (Nat → Nat) × (Nat) × (Nat)) t => va_P D vwCl (wM mo ma mb mc md me mf mg mh mi mj mk ml mn cI cZ n q c w u.2.1 u.2.2 num plc sig pad u.1 dig far cfr cby que has img kep) t.heap ∧ va_K D vwCl [(cI, .int), (cJ, .long), (cZ, .boolean)] t ∧ va_D A (wM mo ma mb mc md me mf mg mh mi mj mk ml mn cI cZ n q c w u.2.1 u.2.2 num plc sig pad u.1 dig far cfr cby que has img kep)) A) ([.ref mo, .int (zI a)] : List Value).toArray Gs 0 0 A) (F0 Gm 70 ls [.int (nI x), .int (nI (tbits (fun p => num (rw_ p)) zz i))]) := by
                  intro x hxx H locs hP hD hS ls hl
                  subst hxx
                  have hl : lv_has ls 5 [(3, .int (nI (tbits (fun p => num (rw_ p)) zz i))), (4, .int (nI i)), (2, .int (zI (barZ pad w plc q))), (0, .ref mo), (1, .int (zI a))] := hl
                  refine lv_ior gx gb dX9_taught_70 ?_
                  refine lv_evi (nI ((tbits (fun p => num (rw_ p)) zz i) ||| (if tau i (fun p => num (rw_ p)) zz then 1 * 2 ^ i else 0))) (e_or (tbits (fun p => num (rw_ p)) zz i) (if tau i (fun p => num (rw_ p)) zz then 1 * 2 ^ i else 0)) ?_
                  refine lv_istore_n (lv' := [(3, .int (nI ((tbits (fun p => num (rw_ p)) zz i) ||| (if tau i (fun p => num (rw_ p)) zz then 1 * 2 ^ i else 0)))), (4, .int (nI i)), (2, .int (zI (barZ pad w plc q))), (0, .ref mo), (1, .int (zI a))]) gx gb dX9_taught_71 rfl hl (by decide) rfl (fun ls hl => ?_)
                  refine lv_iinc (v := nI (i + 1)) (lv' := [(4, .int (nI (i + 1))), (3, .int (nI ((tbits (fun p => num (rw_ p)) zz i) ||| (if tau i (fun p => num (rw_ p)) zz then 1 * 2 ^ i else 0)))), (2, .int (zI (barZ pad w plc q))), (0, .ref mo), (1, .int (zI a))]) gx gb dX9_taught_72 hl (k := 1) rfl (nI_add i 1) (by decide) rfl (fun ls hl => ?_)
                  refine lv_goto (tgt := 45) gx gb dX9_taught_75 (by decide) ?_
                  exact ih45 rw_ zz ee (i + 1) (by omega) (by omega) (by exact hrr) (by exact hsp) (by omega) _ _ hP hD hS ls (lv_sub hl [1, 0, 2, 3, 4] rfl)
                refine lv_iload_n gx gb dX9_taught_52 rfl (lv_at hl 0 rfl) ?_
                refine lv_aload_n gx gb dX9_taught_53 rfl (lv_at hl 3 rfl) ?_
                refine lv_iload gx gb dX9_taught_54 (lv_at hl 1 rfl) ?_
                have hPc := hP.sub (ws' := wM mo ma mb mc md me mf mg mh mi mj mk ml mn cI cZ n q c w zz ee num plc sig pad rw_ dig far cfr cby que has img kep) [0, 1, 2, 3, 4, 5, 6, 7, 8, 9, 10, 11, 12, 13] rfl
                refine vp_callSi (W.runV (As := [.int (nI i)]) (rest := [.int (nI (tbits (fun p => num (rw_ p)) zz i))]) ⟨gx, gb, gml, gown, gts⟩ (kX9_isTaught Gl D cI cJ cZ mo ma mb mc md me mf mg mh mi mj mk ml mn n q c w zz ee num plc sig pad rw_ dig far cfr cby que has img kep i (by omega) (by omega) (by omega) (by intro p hp; have := hrr p hp; omega) (by intro p hp; exact hnum _ (hrr p hp))) (cwV 1 gts gX9_taught_X9_isTaught rfl rfl rfl (by decide +kernel) ⟨Nat.le_of_ble_eq_true rfl, Nat.le_of_ble_eq_true rfl⟩) ⟨fun a U g mk q => ⟨q.1, q.2.1, va_K.moved (u := U) (U := U.calling g mk a) (Vm.Alike.refl U.vm) q.2.2⟩, va_recv hK hPc (ci := 4) (q0 := 0) rfl rfl, fun U hU hW => ⟨rfl, by rw [hU]; exact hPc, va_K.moved hW.alike hK⟩⟩ rfl rfl hl.1 rfl (lv_room (Nat.le_of_ble_eq_true rfl)) dX9_taught_56 ⟨Nat.le_of_ble_eq_true rfl, Nat.le_of_ble_eq_true rfl⟩) (fun r hw => ?_)
                have hr56 := hw
                subst hr56
                refine lv_if_eq (tgt := 69) gx gb dX9_taught_59 (by decide) (fun c59 => ?_) (fun c59 => ?_)
                · skip
                  rw [b0_eq] at c59
                  refine lv_iconst (v := nI 0) gx gb dX9_taught_69 (by decide) ?_
                  exact L70 0 (by first | (rw [c59]; rfl)) _ _ hP hD hS ls (lv_sub hl [0, 1, 2, 3, 4] rfl)
                · skip
                  rw [b0_eq] at c59
                  have c59 := nf_t c59
                  refine lv_iconst (v := nI 1) gx gb dX9_taught_62 (by decide) ?_
                  refine lv_iload gx gb dX9_taught_63 (lv_at hl 1 rfl) ?_
                  refine lv_ishl gx gb dX9_taught_65 ?_
                  refine lv_evi (nI (1 * 2 ^ i)) (e_shl _ (by omega)) ?_
                  refine lv_goto (tgt := 70) gx gb dX9_taught_66 (by decide) ?_
                  exact L70 (1 * 2 ^ i) (by first | (rw [c59]; rfl)) _ _ hP hD hS ls (lv_sub hl [0, 1, 2, 3, 4] rfl)
          exact L45 _ (cpy plc row_18 7) q ev_18 0 (by omega) (by omega) (by first | (exfalso; omega) | (intro p hp; rw [cpy7 _ _ (by omega)]; exact hp_ p hp) | (intro p hp; rw [hrw p hp]; exact rowB_in (pad := pad) (w := w) (q := q) (P := fun x => x < n) hp_ p (by omega))) (by first | (exfalso; omega) | (rw [tghZ, if_pos (by omega), tbits_cong hq1 (fun p hp => by rw [cpy7 _ _ (by omega)])]) | (rw [tghZ, if_neg (by omega), if_pos (by omega), if_pos hb0, ← hz1, tbits_cong (by omega) (fun p hp => by rw [hrw p hp])])) (Nat.lt_succ_self _) _ _ hP hD hS ls (lv_sub hl [1, 0, 2, 3, 4] rfl)
      · skip
        rw [z0_ge (by omega) (by omega)] at c27
        refine lv_iload_n gx gb dX9_taught_30 rfl (lv_at hl 0 rfl) ?_
        exact W.iret (v := zI (barZ pad w plc q)) gx gb gr (fun t ht hW => ⟨⟨zI (barZ pad w plc q), (row_18, z_18, ev_18), rfl, (by first | (dsimp only; done) | ((try dsimp only); first | (exfalso; omega) | (rw [tghZ, if_neg (by omega), if_pos (by omega), if_neg (by omega)]))), by rw [ht]; exact hP, va_K.moved hW.alike hK, hD⟩, hS.F ht⟩) hS.2.2 dX9_taught_31
  · skip
    rw [b0_eq] at c6
    simp only [decide_eq_false_iff_not, Decidable.not_not] at c6
    refine lv_bipush (v := zI (-2)) gx gb dX9_taught_9 (by decide) ?_
    exact W.iret (v := zI (-2)) gx gb gr (fun t ht hW => ⟨⟨zI (-2), (row, z, ev), rfl, (by first | (dsimp only; done) | ((try dsimp only); rw [tghZ, if_neg (by omega), if_neg (by omega)])), by rw [ht]; exact hP, va_K.moved hW.alike hK, hD⟩, hS.F ht⟩) hS.2.2 dX9_taught_11

set_option maxHeartbeats 4000000 in
set_option maxRecDepth 100000 in
theorem kX9_longest (Gl : Launch) (D : va_G) (cI cJ cZ : ClassId) (mo : Nat) (ma : Nat) (mb : Nat) (mc : Nat) (md : Nat) (me : Nat) (mf : Nat) (mg : Nat) (mh : Nat) (mi : Nat) (mj : Nat) (mk : Nat) (ml : Nat) (mn : Nat) (n : Nat) (q : Nat) (c : Nat) (w : Nat) (z : Nat) (ev : Nat) (num : Nat → Nat) (plc : Nat → Nat) (sig : Nat → Nat) (pad : Nat → Nat) (row : Nat → Nat) (dig : Nat → Nat) (far : Nat → Int32) (cfr : Nat → Nat) (cby : Nat → Nat) (que : Nat → Nat) (has : Nat → Nat) (img : Nat → Nat) (kep : Nat → Nat) (sz : Nat) (hn1 : 1 ≤ n) (hn7 : n ≤ 7) (hq1 : 1 ≤ q) (hqn : q ≤ n) (hp : ∀ k, k < q → plc k < n) (hnum : ∀ k, k < n → num k ≤ 99) : Met Gl yX9_longest wsX9_longest ({ frames := 1, cells := 0, slots := 0, locals := 21 } : Room) (va_Pc [.ref mo] (fun U => U.heap.size = sz ∧ va_P D vwCl (wM mo ma mb mc md me mf mg mh mi mj mk ml mn cI cZ n q c w z ev num plc sig pad row dig far cfr cby que has img kep) U.heap ∧ va_K D vwCl [(cI, .int), (cJ, .long), (cZ, .boolean)] U ∧ va_D (fun _ => True) (wM mo ma mb mc md me mf mg mh mi mj mk ml mn cI cZ n q c w z ev num plc sig pad row dig far cfr cby que has img kep))) (va_Qi (fun (r : Int32) (u : Unit) => r = nI (lrise (fun p => num (plc p)) q)) (fun (u : Unit) t => va_P D vwCl (wM mo ma mb mc md me mf mg mh mi mj mk ml mn cI cZ n q c w q ev num plc sig pad (cpy plc row 7) dig far cfr cby que has img kep) t.heap ∧ va_K D vwCl [(cI, .int), (cJ, .long), (cZ, .boolean)] t ∧ va_D (va_A (wM mo ma mb mc md me mf mg mh mi mj mk ml mn cI cZ n q c w z ev num plc sig pad row dig far cfr cby que has img kep) sz) (wM mo ma mb mc md me mf mg mh mi mj mk ml mn cI cZ n q c w q ev num plc sig pad (cpy plc row 7) dig far cfr cby que has img kep)) (va_A (wM mo ma mb mc md me mf mg mh mi mj mk ml mn cI cZ n q c w z ev num plc sig pad row dig far cfr cby que has img kep) sz)) 0 0 (va_A (wM mo ma mb mc md me mf mg mh mi mj mk ml mn cI cZ n q c w z ev num plc sig pad row dig far cfr cby que has img kep) sz) := by
  refine Met.ofW (cc := cX9_longest) (maxL := 4) (ret := (some .int)) (by decide +kernel) rfl ?_
  intro Gp Ge Gs Gm Ga Gw Gt Gc G1 Bd gml gv
  obtain ⟨rfl, hsz, hP, hK, hD0⟩ := gv
  have gx := Bd.exec
  have gb := Bd.bytes
  have gr := Bd.returns
  have gts := atoms_spec (ws := wsX9_longest) Bd.pre
  have gown : Gs.vm.findClass RX9 = some Gm.cls := findClass_of_methodNamed Bd.named
  have glk := Bd.notSynchronized
  subst hsz
  have hD := hD0.self (sz := Gs.heap.size)
  generalize hAe : va_A (wM mo ma mb mc md me mf mg mh mi mj mk ml mn cI cZ n q c w z ev num plc sig pad row dig far cfr cby que has img kep) Gs.heap.size = A at hD ⊢
  have hA : ∀ q : Nat, Gs.heap.size ≤ q → A q := fun q h => by rw [← hAe]; exact Or.inr h
  have hS : va_S A Gs.heap Gs.heap [] := va_S.rf
  have hP : va_P D vwCl (wM mo ma mb mc md me mf mg mh mi mj mk ml mn cI cZ n q c w z ev num plc sig pad row dig far cfr cby que has img kep) Gs.heap := hP
  have hl := lv_entry ([.ref mo]) (n := 4) (Nat.le_of_ble_eq_true rfl)
  rw [lg_entry_eq]
  generalize (lg_sl ([.ref mo]) ++ List.replicate (4 - (lg_sl ([.ref mo])).length) Slot.unset).toArray = ls at hl ⊢
  have hl : lv_has ls 4 [(0, .ref mo)] := hl
  have i9 : ∀ w ∈ wsX90, w ∈ wsX9_longest := by decide +kernel
  refine lv_aload_n gx gb dX9_longest_0 rfl (lv_at hl 0 rfl) ?_
  have hPc := hP.sub (ws' := wM mo ma mb mc md me mf mg mh mi mj mk ml mn cI cZ n q c w z ev num plc sig pad row dig far cfr cby que has img kep) [0, 1, 2, 3, 4, 5, 6, 7, 8, 9, 10, 11, 12, 13] rfl
  have hDc := hD.sub (ws' := wM mo ma mb mc md me mf mg mh mi mj mk ml mn cI cZ n q c w z ev num plc sig pad row dig far cfr cby que has img kep) [0, 1, 2, 3, 4, 5, 6, 7, 8, 9, 10, 11, 12, 13] (by decide) rfl
  have hFc := va_free (wc := wM mo ma mb mc md me mf mg mh mi mj mk ml mn cI cZ n q c w z ev num plc sig pad row dig far cfr cby que has img kep) hD hS hA [0, 1, 2, 3, 4, 5, 6, 7, 8, 9, 10, 11, 12, 13] rfl
  refine va_callv (va_runV (As := []) (rest := []) ⟨gx, gb, gml, gown, gts⟩ (kX9_asNow Gl D cI cJ cZ mo ma mb mc md me mf mg mh mi mj mk ml mn n q c w z ev num plc sig pad row dig far cfr cby que has img kep _  ) (cwV 0 gts gX9_longest_X9_asNow rfl rfl rfl (by decide +kernel) ⟨Nat.le_of_ble_eq_true rfl, Nat.le_of_ble_eq_true rfl⟩) ⟨fun a U g mk q => by obtain ⟨q0, q1, qP, qK, qD⟩ := q; exact ⟨q0, q1, qP, va_K.moved (u := U) (U := U.calling g mk a) (Vm.Alike.refl U.vm) qK, qD⟩, va_recv hK hPc (ci := 4) (q0 := 0) rfl rfl, fun U hU hW => ⟨rfl, by rw [hU], by rw [hU]; exact hPc, va_K.moved hW.alike hK, hDc.weaken (fun _ _ _ _ => trivial)⟩⟩ rfl rfl hl.1 rfl (lv_room (Nat.le_of_ble_eq_true rfl)) dX9_longest_1 ⟨Nat.le_of_ble_eq_true rfl, Nat.le_of_ble_eq_true rfl⟩) hS (fun q _ h => hFc q h) hFc (fun u t H1 locs ht hvm hw hB hz1 hk1 hS => ?_)
  obtain ⟨hP1, hK1, hD1⟩ := hB
  rw [ht] at hP1
  try dsimp only at hw
  try dsimp only at hP1
  try dsimp only at hD1
  have hK := va_K.moved hvm.symm hK1
  obtain ⟨hP, hD⟩ := va_join (wr := []) (w1 := wM mo ma mb mc md me mf mg mh mi mj mk ml mn cI cZ n q c w q ev num plc sig pad (cpy plc row 7) dig far cfr cby que has img kep) hP hD [0, 1, 2, 3, 4, 5, 6, 7, 8, 9, 10, 11, 12, 13] [] rfl rfl (by decide) (by decide) hk1 hFc hP1 hD1
  have hP := hP.sub (ws' := wM mo ma mb mc md me mf mg mh mi mj mk ml mn cI cZ n q c w q ev num plc sig pad (cpy plc row 7) dig far cfr cby que has img kep) [0, 1, 2, 3, 4, 5, 6, 7, 8, 9, 10, 11, 12, 13] rfl
  have hD := hD.sub (ws' := wM mo ma mb mc md me mf mg mh mi mj mk ml mn cI cZ n q c w q ev num plc sig pad (cpy plc row 7) dig far cfr cby que has img kep) [0, 1, 2, 3, 4, 5, 6, 7, 8, 9, 10, 11, 12, 13] (by decide) rfl
  have hK := va_K.moved (Vm.Alike.refl Gs.vm) hK
  generalize H1 = H at hP hS ⊢
  refine lv_iconst (v := nI 1) gx gb dX9_longest_4 (by decide) ?_
  refine lv_istore_n (lv' := [(1, .int (nI 1)), (0, .ref mo)]) gx gb dX9_longest_5 rfl hl (by decide) rfl (fun ls hl => ?_)
  refine lv_iconst (v := nI 1) gx gb dX9_longest_6 (by decide) ?_
  refine lv_istore_n (lv' := [(2, .int (nI 1)), (1, .int (nI 1)), (0, .ref mo)]) gx gb dX9_longest_7 rfl hl (by decide) rfl (fun ls hl => ?_)
  refine lv_iconst (v := nI 1) gx gb dX9_longest_8 (by decide) ?_
  refine lv_istore_n (lv' := [(3, .int (nI 1)), (2, .int (nI 1)), (1, .int (nI 1)), (0, .ref mo)]) gx gb dX9_longest_9 rfl hl (by decide) rfl (fun ls hl => ?_)
  have L10 : ∀ fu : Nat, ∀ (i : Nat) (hi : i + 1 ≤ q), (q - i) < fu → ∀ (H : Heap) (locs : List Loc), va_P D vwCl (wM mo ma mb mc md me mf mg mh mi mj mk ml mn cI cZ n q c w q ev num plc sig pad (cpy plc row 7) dig far cfr cby que has img kep) H → va_D A (wM mo ma mb mc md me mf mg mh mi mj mk ml mn cI cZ n q c w q ev num plc sig pad (cpy plc row 7) dig far cfr cby que has img kep) → va_S A Gs.heap H locs → ∀ ls : Array Slot, lv_has ls 4 [(1, .int (nI ((lr (fun p => num (cpy plc row 7 p)) i).1))), (2, .int (nI ((lr (fun p => num (cpy plc row 7 p)) i).2))), (3, .int (nI (i + 1))), (0, .ref mo)] → W Gp Gl Ge (headSpec wsX9_longest ({ frames := 1, cells := 0, slots := 0, locals := 21 } : Room)).room Gs Gm ([.ref mo] : List Value).toArray Gw Gt Gc H locs 0 0 (MQ Gw (va_Qi (fun (r : Int32) (u : Unit) => r = nI (lrise (fun p => num (plc p)) q)) (fun (u : Unit) t => va_P D vwCl (wM mo ma mb mc md me mf mg mh mi mj mk ml mn cI cZ n q c w q ev num plc sig pad (cpy plc row 7) dig far cfr cby que has img kep) t.heap ∧ va_K D vwCl [(cI, .int), (cJ, .long), (cZ, .boolean)] t ∧ va_D A (wM mo ma mb mc md me mf mg mh mi mj mk ml mn cI cZ n q c w q ev num plc sig pad (cpy plc row 7) dig far cfr cby que has img kep)) A) ([.ref mo] : List Value).toArray Gs 0 0 A) (F0 Gm 10 ls []) := by
    intro fu
    induction fu with
    | zero => intro i hi hfu; exact absurd hfu (Nat.not_lt_zero _)
    | succ fu ih10 =>
      intro i hi hfu H locs hP hD hS ls hl
      have hlr := lr_bd (fun p => num (cpy plc row 7 p)) i
      refine lv_iload_n gx gb dX9_longest_10 rfl (lv_at hl 2 rfl) ?_
      refine lv_aload_n gx gb dX9_longest_11 rfl (lv_at hl 3 rfl) ?_
      refine va_get (D := D) (ci := 4) (v := .int (nI q)) (C := RX9) (T := TX9) (N := 19) gx gb gts i9 gown hK hP 0 rfl rfl 9 (by decide) (gts (.fieldLink RX9 81 "SwanSumsModel" "size" "I") (by decide +kernel)) (fun _ h9 => h9) rfl dX9_longest_12 ?_
      refine lv_icmp_ge (tgt := 58) gx gb dX9_longest_15 (by decide) (fun c15 => ?_) (fun c15 => ?_)
      · skip
        rw [nI_leI (by omega) (by omega)] at c15
        refine lv_iload_n gx gb dX9_longest_58 rfl (lv_at hl 0 rfl) ?_
        exact W.iret (v := nI ((lr (fun p => num (cpy plc row 7 p)) i).1)) gx gb gr (fun t ht hW => ⟨⟨nI ((lr (fun p => num (cpy plc row 7 p)) i).1), (), rfl, (by first | (dsimp only; done) | ((try dsimp only); obtain rfl : i = q - 1 := (by omega); exact congrArg nI (lrise_cong (v := fun p => num (cpy plc row 7 p)) hq1 (fun p hp2 => by rw [cpy7 _ _ (by omega)])))), by rw [ht]; exact hP, va_K.moved hW.alike hK, hD⟩, hS.F ht⟩) hS.2.2 dX9_longest_59
      · skip
        rw [nI_leI (by omega) (by omega)] at c15
        have L40 : ∀ (x : Nat) (hxx : x = if num (cpy plc row 7 i) < num (cpy plc row 7 (i + 1)) then (lr (fun p => num (cpy plc row 7 p)) i).2 + 1 else 1), ∀ (H : Heap) (locs : List Loc), va_P D vwCl (wM mo ma mb mc md me mf mg mh mi mj mk ml mn cI cZ n q c w q ev num plc sig pad (cpy plc row 7) dig far cfr cby que has img kep) H → va_D A (wM mo ma mb mc md me mf mg mh mi mj mk ml mn cI cZ n q c w q ev num plc sig pad (cpy plc row 7) dig far cfr cby que has img kep) → va_S A Gs.heap H locs → ∀ ls : Array Slot, lv_has ls 4 [(1, .int (nI ((lr (fun p => num (cpy plc row 7 p)) i).1))), (2, .int (nI ((lr (fun p => num (cpy plc row 7 p)) i).2))), (3, .int (nI (i + 1))), (0, .ref mo)] → W Gp Gl Ge (headSpec wsX9_longest ({ frames := 1, cells := 0, slots := 0, locals := 21 } : Room)).room Gs Gm ([.ref mo] : List Value).toArray Gw Gt Gc H locs 0 0 (MQ Gw (va_Qi (fun (r : Int32) (u : Unit) => r = nI (lrise (fun p => num (plc p)) q)) (fun (u : Unit) t => va_P D vwCl (wM mo ma mb mc md me mf mg mh mi mj mk ml mn cI cZ n q c w q ev num plc sig pad (cpy plc row 7) dig far cfr cby que has img kep) t.heap ∧ va_K D vwCl [(cI, .int), (cJ, .long), (cZ, .boolean)] t ∧ va_D A (wM mo ma mb mc md me mf mg mh mi mj mk ml mn cI cZ n q c w q ev num plc sig pad (cpy plc row 7) dig far cfr cby que has img kep)) A) ([.ref mo] : List Value).toArray Gs 0 0 A) (F0 Gm 40 ls [.int (nI x)]) := by
          intro x hxx H locs hP hD hS ls hl
          subst hxx
          have hx7 : (if num (cpy plc row 7 i) < num (cpy plc row 7 (i + 1)) then (lr (fun p => num (cpy plc row 7 p)) i).2 + 1 else 1) ≤ 8 := by split <;> omega
          have hl : lv_has ls 4 [(1, .int (nI ((lr (fun p => num (cpy plc row 7 p)) i).1))), (2, .int (nI ((lr (fun p => num (cpy plc row 7 p)) i).2))), (3, .int (nI (i + 1))), (0, .ref mo)] := hl
          refine lv_istore_n (lv' := [(2, .int (nI (if num (cpy plc row 7 i) < num (cpy plc row 7 (i + 1)) then (lr (fun p => num (cpy plc row 7 p)) i).2 + 1 else 1))), (1, .int (nI ((lr (fun p => num (cpy plc row 7 p)) i).1))), (3, .int (nI (i + 1))), (0, .ref mo)]) gx gb dX9_longest_40 rfl hl (by decide) rfl (fun ls hl => ?_)
          have L51 : ∀ (y : Nat) (hyy : y = max (lr (fun p => num (cpy plc row 7 p)) i).1 (if num (cpy plc row 7 i) < num (cpy plc row 7 (i + 1)) then (lr (fun p => num (cpy plc row 7 p)) i).2 + 1 else 1)), ∀ (H : Heap) (locs : List Loc), va_P D vwCl (wM mo ma mb mc md me mf mg mh mi mj mk ml mn cI cZ n q c w q ev num plc sig pad (cpy plc row 7) dig far cfr cby que has img kep) H → va_D A (wM mo ma mb mc md me mf mg mh mi mj mk ml mn cI cZ n q c w q ev num plc sig pad (cpy plc row 7) dig far cfr cby que has img kep) → va_S A Gs.heap H locs → ∀ ls : Array Slot, lv_has ls 4 [(2, .int (nI (if num (cpy plc row 7 i) < num (cpy plc row 7 (i + 1)) then (lr (fun p => num (cpy plc row 7 p)) i).2 + 1 else 1))), (1, .int (nI ((lr (fun p => num (cpy plc row 7 p)) i).1))), (3, .int (nI (i + 1))), (0, .ref mo)] → W Gp Gl Ge (headSpec wsX9_longest ({ frames := 1, cells := 0, slots := 0, locals := 21 } : Room)).room Gs Gm ([.ref mo] : List Value).toArray Gw Gt Gc H locs 0 0 (MQ Gw (va_Qi (fun (r : Int32) (u : Unit) => r = nI (lrise (fun p => num (plc p)) q)) (fun (u : Unit) t => va_P D vwCl (wM mo ma mb mc md me mf mg mh mi mj mk ml mn cI cZ n q c w q ev num plc sig pad (cpy plc row 7) dig far cfr cby que has img kep) t.heap ∧ va_K D vwCl [(cI, .int), (cJ, .long), (cZ, .boolean)] t ∧ va_D A (wM mo ma mb mc md me mf mg mh mi mj mk ml mn cI cZ n q c w q ev num plc sig pad (cpy plc row 7) dig far cfr cby que has img kep)) A) ([.ref mo] : List Value).toArray Gs 0 0 A) (F0 Gm 51 ls [.int (nI y)]) := by
            intro y hyy H locs hP hD hS ls hl
            subst hyy
            have hl : lv_has ls 4 [(2, .int (nI (if num (cpy plc row 7 i) < num (cpy plc row 7 (i + 1)) then (lr (fun p => num (cpy plc row 7 p)) i).2 + 1 else 1))), (1, .int (nI ((lr (fun p => num (cpy plc row 7 p)) i).1))), (3, .int (nI (i + 1))), (0, .ref mo)] := hl
            refine lv_istore_n (lv' := [(1, .int (nI (max (lr (fun p => num (cpy plc row 7 p)) i).1 (if num (cpy plc row 7 i) < num (cpy plc row 7 (i + 1)) then (lr (fun p => num (cpy plc row 7 p)) i).2 + 1 else 1)))), (2, .int (nI (if num (cpy plc row 7 i) < num (cpy plc row 7 (i + 1)) then (lr (fun p => num (cpy plc row 7 p)) i).2 + 1 else 1))), (3, .int (nI (i + 1))), (0, .ref mo)]) gx gb dX9_longest_51 rfl hl (by decide) rfl (fun ls hl => ?_)
            refine lv_iinc (v := nI (i + 1 + 1)) (lv' := [(3, .int (nI (i + 1 + 1))), (1, .int (nI (max (lr (fun p => num (cpy plc row 7 p)) i).1 (if num (cpy plc row 7 i) < num (cpy plc row 7 (i + 1)) then (lr (fun p => num (cpy plc row 7 p)) i).2 + 1 else 1)))), (2, .int (nI (if num (cpy plc row 7 i) < num (cpy plc row 7 (i + 1)) then (lr (fun p => num (cpy plc row 7 p)) i).2 + 1 else 1))), (0, .ref mo)]) gx gb dX9_longest_52 hl (k := 2) rfl (nI_add (i + 1) 1) (by decide) rfl (fun ls hl => ?_)
            refine lv_goto (tgt := 10) gx gb dX9_longest_55 (by decide) ?_
            exact ih10 (i + 1) (by omega) (by omega) _ _ hP hD hS ls (lv_sub hl [1, 2, 0, 3] rfl)
          refine lv_iload_n gx gb dX9_longest_41 rfl (lv_at hl 0 rfl) ?_
          refine lv_iload_n gx gb dX9_longest_42 rfl (lv_at hl 1 rfl) ?_
          refine lv_icmp_le (tgt := 50) gx gb dX9_longest_43 (by decide) (fun c43 => ?_) (fun c43 => ?_)
          · skip
            rw [nI_leI (by omega) (by omega)] at c43
            refine lv_iload_n gx gb dX9_longest_50 rfl (lv_at hl 1 rfl) ?_
            exact L51 ((lr (fun p => num (cpy plc row 7 p)) i).1) (by omega) _ _ hP hD hS ls (lv_sub hl [0, 1, 2, 3] rfl)
          · skip
            rw [nI_leI (by omega) (by omega)] at c43
            refine lv_iload_n gx gb dX9_longest_46 rfl (lv_at hl 0 rfl) ?_
            refine lv_goto (tgt := 51) gx gb dX9_longest_47 (by decide) ?_
            exact L51 (if num (cpy plc row 7 i) < num (cpy plc row 7 (i + 1)) then (lr (fun p => num (cpy plc row 7 p)) i).2 + 1 else 1) (by omega) _ _ hP hD hS ls (lv_sub hl [0, 1, 2, 3] rfl)
        have hr1 : cpy plc row 7 i < n := by rw [cpy7 _ _ (by omega)]; exact hp i (by omega)
        have hr2 : cpy plc row 7 (i + 1) < n := by rw [cpy7 _ _ (by omega)]; exact hp (i + 1) (by omega)
        have hm1 := hnum _ hr1
        have hm2 := hnum _ hr2
        refine lv_aload_n gx gb dX9_longest_18 rfl (lv_at hl 3 rfl) ?_
        refine lv_iload_n gx gb dX9_longest_19 rfl (lv_at hl 2 rfl) ?_
        have hPc := hP.sub (ws' := wM mo ma mb mc md me mf mg mh mi mj mk ml mn cI cZ n q c w q ev num plc sig pad (cpy plc row 7) dig far cfr cby que has img kep) [0, 1, 2, 3, 4, 5, 6, 7, 8, 9, 10, 11, 12, 13] rfl
        refine vp_callSi (W.runV (As := [.int (nI (i + 1))]) (rest := []) ⟨gx, gb, gml, gown, gts⟩ (kX9_valueAt Gl D cI cJ cZ mo ma mb mc md me mf mg mh mi mj mk ml mn n q c w q ev num plc sig pad (cpy plc row 7) dig far cfr cby que has img kep (i + 1) (by omega) (by omega)) (cwV 1 gts gX9_longest_X9_valueAt rfl rfl rfl (by decide +kernel) ⟨Nat.le_of_ble_eq_true rfl, Nat.le_of_ble_eq_true rfl⟩) ⟨fun a U g mk q => ⟨q.1, q.2.1, va_K.moved (u := U) (U := U.calling g mk a) (Vm.Alike.refl U.vm) q.2.2⟩, va_recv hK hPc (ci := 4) (q0 := 0) rfl rfl, fun U hU hW => ⟨rfl, by rw [hU]; exact hPc, va_K.moved hW.alike hK⟩⟩ rfl rfl hl.1 rfl (lv_room (Nat.le_of_ble_eq_true rfl)) dX9_longest_20 ⟨Nat.le_of_ble_eq_true rfl, Nat.le_of_ble_eq_true rfl⟩) (fun r hw => ?_)
        have hr20 := hw
        subst hr20
        refine lv_aload_n gx gb dX9_longest_23 rfl (lv_at hl 3 rfl) ?_
        refine lv_iload_n gx gb dX9_longest_24 rfl (lv_at hl 2 rfl) ?_
        refine lv_iconst (v := nI 1) gx gb dX9_longest_25 (by decide) ?_
        refine lv_isub gx gb dX9_longest_26 ?_
        refine lv_evi (nI ((i + 1) - 1)) (e_sub (by omega)) ?_
        refine lv_evi (nI i) (congrArg nI (by omega)) ?_
        have hPc := hP.sub (ws' := wM mo ma mb mc md me mf mg mh mi mj mk ml mn cI cZ n q c w q ev num plc sig pad (cpy plc row 7) dig far cfr cby que has img kep) [0, 1, 2, 3, 4, 5, 6, 7, 8, 9, 10, 11, 12, 13] rfl
        refine vp_callSi (W.runV (As := [.int (nI i)]) (rest := [.int (nI (num ((cpy plc row 7) (i + 1))))]) ⟨gx, gb, gml, gown, gts⟩ (kX9_valueAt Gl D cI cJ cZ mo ma mb mc md me mf mg mh mi mj mk ml mn n q c w q ev num plc sig pad (cpy plc row 7) dig far cfr cby que has img kep i (by omega) (by omega)) (cwV 1 gts gX9_longest_X9_valueAt rfl rfl rfl (by decide +kernel) ⟨Nat.le_of_ble_eq_true rfl, Nat.le_of_ble_eq_true rfl⟩) ⟨fun a U g mk q => ⟨q.1, q.2.1, va_K.moved (u := U) (U := U.calling g mk a) (Vm.Alike.refl U.vm) q.2.2⟩, va_recv hK hPc (ci := 4) (q0 := 0) rfl rfl, fun U hU hW => ⟨rfl, by rw [hU]; exact hPc, va_K.moved hW.alike hK⟩⟩ rfl rfl hl.1 rfl (lv_room (Nat.le_of_ble_eq_true rfl)) dX9_longest_27 ⟨Nat.le_of_ble_eq_true rfl, Nat.le_of_ble_eq_true rfl⟩) (fun r hw => ?_)
        have hr27 := hw
        subst hr27
        refine lv_icmp_le (tgt := 39) gx gb dX9_longest_30 (by decide) (fun c30 => ?_) (fun c30 => ?_)
        · skip
          rw [nI_leI (by omega) (by omega)] at c30
          refine lv_iconst (v := nI 1) gx gb dX9_longest_39 (by decide) ?_
          exact L40 1 (by first | rw [if_pos (by omega)] | rw [if_neg (by omega)]) _ _ hP hD hS ls (lv_sub hl [0, 1, 2, 3] rfl)
        · skip
          rw [nI_leI (by omega) (by omega)] at c30
          refine lv_iload_n gx gb dX9_longest_33 rfl (lv_at hl 1 rfl) ?_
          refine lv_iconst (v := nI 1) gx gb dX9_longest_34 (by decide) ?_
          refine lv_iadd gx gb dX9_longest_35 ?_
          refine lv_evi (nI (((lr (fun p => num (cpy plc row 7 p)) i).2) + 1)) (nI_add ((lr (fun p => num (cpy plc row 7 p)) i).2) 1) ?_
          refine lv_goto (tgt := 40) gx gb dX9_longest_36 (by decide) ?_
          exact L40 (((lr (fun p => num (cpy plc row 7 p)) i).2) + 1) (by first | rw [if_pos (by omega)] | rw [if_neg (by omega)]) _ _ hP hD hS ls (lv_sub hl [0, 1, 2, 3] rfl)
  exact L10 _ 0 (by omega) (Nat.lt_succ_self _) _ _ hP hD hS ls (lv_sub hl [2, 1, 0, 3] rfl)

set_option maxHeartbeats 4000000 in
set_option maxRecDepth 100000 in
theorem kX9_seen (Gl : Launch) (D : va_G) (cI cJ cZ : ClassId) (mo : Nat) (ma : Nat) (mb : Nat) (mc : Nat) (md : Nat) (me : Nat) (mf : Nat) (mg : Nat) (mh : Nat) (mi : Nat) (mj : Nat) (mk : Nat) (ml : Nat) (mn : Nat) (n : Nat) (q : Nat) (c : Nat) (w : Nat) (z : Nat) (ev : Nat) (num : Nat → Nat) (plc : Nat → Nat) (sig : Nat → Nat) (pad : Nat → Nat) (row : Nat → Nat) (dig : Nat → Nat) (far : Nat → Int32) (cfr : Nat → Nat) (cby : Nat → Nat) (que : Nat → Nat) (has : Nat → Nat) (img : Nat → Nat) (kep : Nat → Nat) (sz : Nat) (a b : Int) (hl_a : -2147483648 ≤ a) (hu_a : a < 2147483648) (hl_b : -2147483648 ≤ b) (hu_b : b < 2147483648) (hn1 : 1 ≤ n) (hn7 : n ≤ 7) (hq1 : 1 ≤ q) (hqn : q ≤ n) (hc : c ≤ 6) : Met Gl yX9_seen wsX9_seen ({ frames := 2, cells := 0, slots := 0, locals := 43 } : Room) (va_Pc [.ref mo, .int (zI a), .int (zI b)] (fun U => U.heap.size = sz ∧ va_P D vwCl (wM mo ma mb mc md me mf mg mh mi mj mk ml mn cI cZ n q c w z ev num plc sig pad row dig far cfr cby que has img kep) U.heap ∧ va_K D vwCl [(cI, .int), (cJ, .long), (cZ, .boolean)] U ∧ va_D (fun _ => True) (wM mo ma mb mc md me mf mg mh mi mj mk ml mn cI cZ n q c w z ev num plc sig pad row dig far cfr cby que has img kep))) (va_Qi (fun (r : Int32) (u : Unit) => r = zI (seeZ n c a b)) (fun (u : Unit) t => va_P D vwCl (wM mo ma mb mc md me mf mg mh mi mj mk ml mn cI cZ n q (if (0 ≤ a ∧ a < n) ∧ (0 ≤ b ∧ b ≤ 6) ∧ c < 6 then c + 1 else c) w z ev num plc (if (0 ≤ a ∧ a < n) ∧ (0 ≤ b ∧ b ≤ 6) ∧ c < 6 then up (up sig (2 * c) a.toNat) (2 * c + 1) b.toNat else sig) pad row dig far cfr cby que has img kep) t.heap ∧ va_K D vwCl [(cI, .int), (cJ, .long), (cZ, .boolean)] t ∧ va_D (va_A (wM mo ma mb mc md me mf mg mh mi mj mk ml mn cI cZ n q c w z ev num plc sig pad row dig far cfr cby que has img kep) sz) (wM mo ma mb mc md me mf mg mh mi mj mk ml mn cI cZ n q (if (0 ≤ a ∧ a < n) ∧ (0 ≤ b ∧ b ≤ 6) ∧ c < 6 then c + 1 else c) w z ev num plc (if (0 ≤ a ∧ a < n) ∧ (0 ≤ b ∧ b ≤ 6) ∧ c < 6 then up (up sig (2 * c) a.toNat) (2 * c + 1) b.toNat else sig) pad row dig far cfr cby que has img kep)) (va_A (wM mo ma mb mc md me mf mg mh mi mj mk ml mn cI cZ n q c w z ev num plc sig pad row dig far cfr cby que has img kep) sz)) 0 0 (va_A (wM mo ma mb mc md me mf mg mh mi mj mk ml mn cI cZ n q c w z ev num plc sig pad row dig far cfr cby que has img kep) sz) := by
  refine Met.ofW (cc := cX9_seen) (maxL := 3) (ret := (some .int)) (by decide +kernel) rfl ?_
  intro Gp Ge Gs Gm Ga Gw Gt Gc G1 Bd gml gv
  obtain ⟨rfl, hsz, hP, hK, hD0⟩ := gv
  have gx := Bd.exec
  have gb := Bd.bytes
  have gr := Bd.returns
  have gts := atoms_spec (ws := wsX9_seen) Bd.pre
  have gown : Gs.vm.findClass RX9 = some Gm.cls := findClass_of_methodNamed Bd.named
  have glk := Bd.notSynchronized
  subst hsz
  have hD := hD0.self (sz := Gs.heap.size)
  generalize hAe : va_A (wM mo ma mb mc md me mf mg mh mi mj mk ml mn cI cZ n q c w z ev num plc sig pad row dig far cfr cby que has img kep) Gs.heap.size = A at hD ⊢
  have hA : ∀ q : Nat, Gs.heap.size ≤ q → A q := fun q h => by rw [← hAe]; exact Or.inr h
  have hS : va_S A Gs.heap Gs.heap [] := va_S.rf
  have hP : va_P D vwCl (wM mo ma mb mc md me mf mg mh mi mj mk ml mn cI cZ n q c w z ev num plc sig pad row dig far cfr cby que has img kep) Gs.heap := hP
  have hl := lv_entry ([.ref mo, .int (zI a), .int (zI b)]) (n := 3) (Nat.le_of_ble_eq_true rfl)
  rw [lg_entry_eq]
  generalize (lg_sl ([.ref mo, .int (zI a), .int (zI b)]) ++ List.replicate (3 - (lg_sl ([.ref mo, .int (zI a), .int (zI b)])).length) Slot.unset).toArray = ls at hl ⊢
  have hl : lv_has ls 3 [(0, .ref mo), (1, .int (zI a)), (2, .int (zI b))] := hl
  have i9 : ∀ w ∈ wsX90, w ∈ wsX9_seen := by decide +kernel
  refine lv_aload_n gx gb dX9_seen_0 rfl (lv_at hl 0 rfl) ?_
  refine lv_iload_n gx gb dX9_seen_1 rfl (lv_at hl 1 rfl) ?_
  have hPc := hP.sub (ws' := wM mo ma mb mc md me mf mg mh mi mj mk ml mn cI cZ n q c w z ev num plc sig pad row dig far cfr cby que has img kep) [0, 1, 2, 3, 4, 5, 6, 7, 8, 9, 10, 11, 12, 13] rfl
  refine vp_callSi (W.runV (As := [.int (zI a)]) (rest := []) ⟨gx, gb, gml, gown, gts⟩ (kX9_isSwan Gl D cI cJ cZ mo ma mb mc md me mf mg mh mi mj mk ml mn n q c w z ev num plc sig pad row dig far cfr cby que has img kep a (by omega) (by omega) (by omega) (by omega)) (cwV 1 gts gX9_seen_X9_isSwan rfl rfl rfl (by decide +kernel) ⟨Nat.le_of_ble_eq_true rfl, Nat.le_of_ble_eq_true rfl⟩) ⟨fun a U g mk q => ⟨q.1, q.2.1, va_K.moved (u := U) (U := U.calling g mk a) (Vm.Alike.refl U.vm) q.2.2⟩, va_recv hK hPc (ci := 4) (q0 := 0) rfl rfl, fun U hU hW => ⟨rfl, by rw [hU]; exact hPc, va_K.moved hW.alike hK⟩⟩ rfl rfl hl.1 rfl (lv_room (Nat.le_of_ble_eq_true rfl)) dX9_seen_2 ⟨Nat.le_of_ble_eq_true rfl, Nat.le_of_ble_eq_true rfl⟩) (fun r hw => ?_)
  have hr2 := hw
  subst hr2
  refine lv_if_ne (tgt := 10) gx gb dX9_seen_5 (by decide) (fun c5 => ?_) (fun c5 => ?_)
  · skip
    rw [b0_eq] at c5
    simp only [decide_eq_false_iff_not, Decidable.not_not] at c5
    refine lv_iload_n gx gb dX9_seen_10 rfl (lv_at hl 2 rfl) ?_
    refine lv_iconst (v := nI 0) gx gb dX9_seen_11 (by decide) ?_
    refine lv_bipush (v := nI 6) gx gb dX9_seen_12 (by decide) ?_
    refine lv_evs [.int (zI ((6 : Nat) : Int)), .int (zI ((0 : Nat) : Int)), .int (zI b)] (by simp only [nI_zc]) ?_
    refine vp_callSi (W.runS (As := [.int (zI b), .int (zI ((0 : Nat) : Int)), .int (zI ((6 : Nat) : Int))]) (rest := []) ⟨gx, gb, gml, gown, gts⟩ (kX9_in Gl b ((0 : Nat) : Int) ((6 : Nat) : Int) (by omega) (by omega) (by omega) (by omega) (by omega) (by omega)) (va_cwS 3 gts gX9_seen_X9_in rfl rfl rfl (by decide +kernel) ⟨Nat.le_of_ble_eq_true rfl, Nat.le_of_ble_eq_true rfl⟩) ⟨fun _ _ _ _ h => h, fun U hU hW => ⟨rfl, trivial⟩⟩ rfl rfl hl.1 rfl (lv_room (Nat.le_of_ble_eq_true rfl)) dX9_seen_14 ⟨Nat.le_of_ble_eq_true rfl, Nat.le_of_ble_eq_true rfl⟩) (fun r hw => ?_)
    have hr14 := hw
    subst hr14
    refine lv_if_ne (tgt := 23) gx gb dX9_seen_17 (by decide) (fun c17 => ?_) (fun c17 => ?_)
    · skip
      rw [b0_eq] at c17
      simp only [decide_eq_false_iff_not, Decidable.not_not] at c17
      refine lv_aload_n gx gb dX9_seen_23 rfl (lv_at hl 0 rfl) ?_
      refine va_get (D := D) (ci := 4) (v := .int (nI c)) (C := RX9) (T := TX9) (N := 19) gx gb gts i9 gown hK hP 0 rfl rfl 4 (by decide) (gts (.fieldLink RX9 60 "SwanSumsModel" "sights" "I") (by decide +kernel)) (fun _ h9 => h9) rfl dX9_seen_24 ?_
      refine lv_bipush (v := nI 6) gx gb dX9_seen_27 (by decide) ?_
      refine lv_icmp_ne (tgt := 35) gx gb dX9_seen_29 (by decide) (fun c29 => ?_) (fun c29 => ?_)
      · skip
        rw [nI_eq (by omega) (by omega)] at c29
        obtain ⟨i, hi⟩ : ∃ i : Nat, a = (i : Int) := ⟨a.toNat, by omega⟩
        rw [show zI a = nI i from by rw [hi, zI_nat]] at hl
        obtain ⟨j, hj⟩ : ∃ j : Nat, b = (j : Int) := ⟨b.toNat, by omega⟩
        rw [show zI b = nI j from by rw [hj, zI_nat]] at hl
        have hl : lv_has ls 3 [(0, .ref mo), (1, .int (nI i)), (2, .int (nI j))] := hl
        refine lv_aload_n gx gb dX9_seen_35 rfl (lv_at hl 0 rfl) ?_
        refine va_get (D := D) (ci := 4) (v := .ref mc) (C := RX9) (T := TX9) (N := 19) gx gb gts i9 gown hK hP 0 rfl rfl 5 (by decide) (gts (.fieldLink RX9 23 "SwanSumsModel" "sight" "[I") (by decide +kernel)) (fun _ h9 => h9) rfl dX9_seen_36 ?_
        refine lv_iconst (v := nI 2) gx gb dX9_seen_39 (by decide) ?_
        refine lv_aload_n gx gb dX9_seen_40 rfl (lv_at hl 0 rfl) ?_
        refine va_get (D := D) (ci := 4) (v := .int (nI c)) (C := RX9) (T := TX9) (N := 19) gx gb gts i9 gown hK hP 0 rfl rfl 4 (by decide) (gts (.fieldLink RX9 60 "SwanSumsModel" "sights" "I") (by decide +kernel)) (fun _ h9 => h9) rfl dX9_seen_41 ?_
        refine lv_imul gx gb dX9_seen_44 ?_
        refine lv_evi (nI (2 * c)) (pk_mul 2 c) ?_
        refine lv_iload_n gx gb dX9_seen_45 rfl (lv_at hl 1 rfl) ?_
        refine va_iast gx gb hK hP hD hS 3 0 rfl rfl (vp_in_nI (n := 2 * c) (by omega) (by decide)) dX9_seen_46 (fun H locs hP hD hS => ?_)
        rw [aN_st sig i (by omega)] at hP hD
        have hP : va_P D vwCl (wM mo ma mb mc md me mf mg mh mi mj mk ml mn cI cZ n q c w z ev num plc (up sig (2 * c) i) pad row dig far cfr cby que has img kep) H := hP
        have hD : va_D A (wM mo ma mb mc md me mf mg mh mi mj mk ml mn cI cZ n q c w z ev num plc (up sig (2 * c) i) pad row dig far cfr cby que has img kep) := hD
        refine lv_aload_n gx gb dX9_seen_47 rfl (lv_at hl 0 rfl) ?_
        refine va_get (D := D) (ci := 4) (v := .ref mc) (C := RX9) (T := TX9) (N := 19) gx gb gts i9 gown hK hP 0 rfl rfl 5 (by decide) (gts (.fieldLink RX9 23 "SwanSumsModel" "sight" "[I") (by decide +kernel)) (fun _ h9 => h9) rfl dX9_seen_48 ?_
        refine lv_iconst (v := nI 2) gx gb dX9_seen_51 (by decide) ?_
        refine lv_aload_n gx gb dX9_seen_52 rfl (lv_at hl 0 rfl) ?_
        refine va_get (D := D) (ci := 4) (v := .int (nI c)) (C := RX9) (T := TX9) (N := 19) gx gb gts i9 gown hK hP 0 rfl rfl 4 (by decide) (gts (.fieldLink RX9 60 "SwanSumsModel" "sights" "I") (by decide +kernel)) (fun _ h9 => h9) rfl dX9_seen_53 ?_
        refine lv_imul gx gb dX9_seen_56 ?_
        refine lv_evi (nI (2 * c)) (pk_mul 2 c) ?_
        refine lv_iconst (v := nI 1) gx gb dX9_seen_57 (by decide) ?_
        refine lv_iadd gx gb dX9_seen_58 ?_
        refine lv_evi (nI ((2 * c) + 1)) (nI_add (2 * c) 1) ?_
        refine lv_iload_n gx gb dX9_seen_59 rfl (lv_at hl 2 rfl) ?_
        refine va_iast gx gb hK hP hD hS 3 0 rfl rfl (vp_in_nI (n := (2 * c) + 1) (by omega) (by decide)) dX9_seen_60 (fun H locs hP hD hS => ?_)
        rw [aN_st (up sig (2 * c) i) j (by omega)] at hP hD
        have hP : va_P D vwCl (wM mo ma mb mc md me mf mg mh mi mj mk ml mn cI cZ n q c w z ev num plc (up (up sig (2 * c) i) ((2 * c) + 1) j) pad row dig far cfr cby que has img kep) H := hP
        have hD : va_D A (wM mo ma mb mc md me mf mg mh mi mj mk ml mn cI cZ n q c w z ev num plc (up (up sig (2 * c) i) ((2 * c) + 1) j) pad row dig far cfr cby que has img kep) := hD
        refine lv_aload_n gx gb dX9_seen_61 rfl (lv_at hl 0 rfl) ?_
        refine lv_dup gx gb dX9_seen_62 rfl ?_
        refine va_get (D := D) (ci := 4) (v := .int (nI c)) (C := RX9) (T := TX9) (N := 19) gx gb gts i9 gown hK hP 0 rfl rfl 4 (by decide) (gts (.fieldLink RX9 60 "SwanSumsModel" "sights" "I") (by decide +kernel)) (fun _ h9 => h9) rfl dX9_seen_63 ?_
        refine lv_iconst (v := nI 1) gx gb dX9_seen_66 (by decide) ?_
        refine lv_iadd gx gb dX9_seen_67 ?_
        refine lv_evi (nI (c + 1)) (nI_add c 1) ?_
        refine va_put (D := D) (ci := 4) (v := .int (nI (c + 1))) (ty := .int) (C := RX9) (T := TX9) (N := 19) gx gb gts i9 tyX9 tyX9_ok nmX9 gown hK hP hD hS 0 rfl rfl 4 (by decide) (gts (.fieldLink RX9 60 "SwanSumsModel" "sights" "I") (by decide +kernel)) (fun _ h9 => h9) rfl (by decide +kernel) rfl rfl (Nat.le_of_ble_eq_true rfl) dX9_seen_68 (fun H locs hP hD hS => ?_)
        have hP : va_P D vwCl (wM mo ma mb mc md me mf mg mh mi mj mk ml mn cI cZ n q (c + 1) w z ev num plc (up (up sig (2 * c) i) ((2 * c) + 1) j) pad row dig far cfr cby que has img kep) H := hP
        have hD : va_D A (wM mo ma mb mc md me mf mg mh mi mj mk ml mn cI cZ n q (c + 1) w z ev num plc (up (up sig (2 * c) i) ((2 * c) + 1) j) pad row dig far cfr cby que has img kep) := hD
        refine lv_aload_n gx gb dX9_seen_71 rfl (lv_at hl 0 rfl) ?_
        refine va_get (D := D) (ci := 4) (v := .int (nI (c + 1))) (C := RX9) (T := TX9) (N := 19) gx gb gts i9 gown hK hP 0 rfl rfl 4 (by decide) (gts (.fieldLink RX9 60 "SwanSumsModel" "sights" "I") (by decide +kernel)) (fun _ h9 => h9) rfl dX9_seen_72 ?_
        have e_sig : (up (up sig (2 * c) i) ((2 * c) + 1) j) = (if (0 ≤ a ∧ a < n) ∧ (0 ≤ b ∧ b ≤ 6) ∧ c < 6 then up (up sig (2 * c) a.toNat) (2 * c + 1) b.toNat else sig) := by rw [if_pos (by omega), hi, hj]; rfl
        have e_c : (c + 1) = (if (0 ≤ a ∧ a < n) ∧ (0 ≤ b ∧ b ≤ 6) ∧ c < 6 then c + 1 else c) := by rw [if_pos (by omega)]
        have hP : va_P D vwCl (wM mo ma mb mc md me mf mg mh mi mj mk ml mn cI cZ n q (if (0 ≤ a ∧ a < n) ∧ (0 ≤ b ∧ b ≤ 6) ∧ c < 6 then c + 1 else c) w z ev num plc (if (0 ≤ a ∧ a < n) ∧ (0 ≤ b ∧ b ≤ 6) ∧ c < 6 then up (up sig (2 * c) a.toNat) (2 * c + 1) b.toNat else sig) pad row dig far cfr cby que has img kep) H := by rw [← e_sig, ← e_c]; exact hP
        have hD : va_D A (wM mo ma mb mc md me mf mg mh mi mj mk ml mn cI cZ n q (if (0 ≤ a ∧ a < n) ∧ (0 ≤ b ∧ b ≤ 6) ∧ c < 6 then c + 1 else c) w z ev num plc (if (0 ≤ a ∧ a < n) ∧ (0 ≤ b ∧ b ≤ 6) ∧ c < 6 then up (up sig (2 * c) a.toNat) (2 * c + 1) b.toNat else sig) pad row dig far cfr cby que has img kep) := by rw [← e_sig, ← e_c]; exact hD
        exact W.iret (v := nI (c + 1)) gx gb gr (fun t ht hW => ⟨⟨nI (c + 1), (), rfl, (by first | (dsimp only; done) | ((try dsimp only); rw [seeZ, if_pos (by omega), if_pos (by omega), if_pos (by omega)]; exact (zI_nat (c + 1)).symm)), by rw [ht]; exact hP, va_K.moved hW.alike hK, hD⟩, hS.F ht⟩) hS.2.2 dX9_seen_75
      · skip
        rw [nI_eq (by omega) (by omega)] at c29
        refine lv_bipush (v := zI (-4)) gx gb dX9_seen_32 (by decide) ?_
        have e_sig : sig = (if (0 ≤ a ∧ a < n) ∧ (0 ≤ b ∧ b ≤ 6) ∧ c < 6 then up (up sig (2 * c) a.toNat) (2 * c + 1) b.toNat else sig) := by rw [if_neg (by omega)]
        have e_c : c = (if (0 ≤ a ∧ a < n) ∧ (0 ≤ b ∧ b ≤ 6) ∧ c < 6 then c + 1 else c) := by rw [if_neg (by omega)]
        have hP : va_P D vwCl (wM mo ma mb mc md me mf mg mh mi mj mk ml mn cI cZ n q (if (0 ≤ a ∧ a < n) ∧ (0 ≤ b ∧ b ≤ 6) ∧ c < 6 then c + 1 else c) w z ev num plc (if (0 ≤ a ∧ a < n) ∧ (0 ≤ b ∧ b ≤ 6) ∧ c < 6 then up (up sig (2 * c) a.toNat) (2 * c + 1) b.toNat else sig) pad row dig far cfr cby que has img kep) Gs.heap := by rw [← e_sig, ← e_c]; exact hP
        have hD : va_D A (wM mo ma mb mc md me mf mg mh mi mj mk ml mn cI cZ n q (if (0 ≤ a ∧ a < n) ∧ (0 ≤ b ∧ b ≤ 6) ∧ c < 6 then c + 1 else c) w z ev num plc (if (0 ≤ a ∧ a < n) ∧ (0 ≤ b ∧ b ≤ 6) ∧ c < 6 then up (up sig (2 * c) a.toNat) (2 * c + 1) b.toNat else sig) pad row dig far cfr cby que has img kep) := by rw [← e_sig, ← e_c]; exact hD
        exact W.iret (v := zI (-4)) gx gb gr (fun t ht hW => ⟨⟨zI (-4), (), rfl, (by first | (dsimp only; done) | ((try dsimp only); rw [seeZ, if_pos (by omega), if_pos (by omega), if_neg (by omega)])), by rw [ht]; exact hP, va_K.moved hW.alike hK, hD⟩, hS.F ht⟩) hS.2.2 dX9_seen_34
    · skip
      rw [b0_eq] at c17
      simp only [decide_eq_false_iff_not, Decidable.not_not] at c17
      refine lv_bipush (v := zI (-2)) gx gb dX9_seen_20 (by decide) ?_
      have e_sig : sig = (if (0 ≤ a ∧ a < n) ∧ (0 ≤ b ∧ b ≤ 6) ∧ c < 6 then up (up sig (2 * c) a.toNat) (2 * c + 1) b.toNat else sig) := by rw [if_neg (by omega)]
      have e_c : c = (if (0 ≤ a ∧ a < n) ∧ (0 ≤ b ∧ b ≤ 6) ∧ c < 6 then c + 1 else c) := by rw [if_neg (by omega)]
      have hP : va_P D vwCl (wM mo ma mb mc md me mf mg mh mi mj mk ml mn cI cZ n q (if (0 ≤ a ∧ a < n) ∧ (0 ≤ b ∧ b ≤ 6) ∧ c < 6 then c + 1 else c) w z ev num plc (if (0 ≤ a ∧ a < n) ∧ (0 ≤ b ∧ b ≤ 6) ∧ c < 6 then up (up sig (2 * c) a.toNat) (2 * c + 1) b.toNat else sig) pad row dig far cfr cby que has img kep) Gs.heap := by rw [← e_sig, ← e_c]; exact hP
      have hD : va_D A (wM mo ma mb mc md me mf mg mh mi mj mk ml mn cI cZ n q (if (0 ≤ a ∧ a < n) ∧ (0 ≤ b ∧ b ≤ 6) ∧ c < 6 then c + 1 else c) w z ev num plc (if (0 ≤ a ∧ a < n) ∧ (0 ≤ b ∧ b ≤ 6) ∧ c < 6 then up (up sig (2 * c) a.toNat) (2 * c + 1) b.toNat else sig) pad row dig far cfr cby que has img kep) := by rw [← e_sig, ← e_c]; exact hD
      exact W.iret (v := zI (-2)) gx gb gr (fun t ht hW => ⟨⟨zI (-2), (), rfl, (by first | (dsimp only; done) | ((try dsimp only); rw [seeZ, if_pos (by omega), if_neg (by omega)])), by rw [ht]; exact hP, va_K.moved hW.alike hK, hD⟩, hS.F ht⟩) hS.2.2 dX9_seen_22
  · skip
    rw [b0_eq] at c5
    simp only [decide_eq_false_iff_not, Decidable.not_not] at c5
    refine lv_iconst (v := zI (-1)) gx gb dX9_seen_8 (by decide) ?_
    have e_sig : sig = (if (0 ≤ a ∧ a < n) ∧ (0 ≤ b ∧ b ≤ 6) ∧ c < 6 then up (up sig (2 * c) a.toNat) (2 * c + 1) b.toNat else sig) := by rw [if_neg (by omega)]
    have e_c : c = (if (0 ≤ a ∧ a < n) ∧ (0 ≤ b ∧ b ≤ 6) ∧ c < 6 then c + 1 else c) := by rw [if_neg (by omega)]
    have hP : va_P D vwCl (wM mo ma mb mc md me mf mg mh mi mj mk ml mn cI cZ n q (if (0 ≤ a ∧ a < n) ∧ (0 ≤ b ∧ b ≤ 6) ∧ c < 6 then c + 1 else c) w z ev num plc (if (0 ≤ a ∧ a < n) ∧ (0 ≤ b ∧ b ≤ 6) ∧ c < 6 then up (up sig (2 * c) a.toNat) (2 * c + 1) b.toNat else sig) pad row dig far cfr cby que has img kep) Gs.heap := by rw [← e_sig, ← e_c]; exact hP
    have hD : va_D A (wM mo ma mb mc md me mf mg mh mi mj mk ml mn cI cZ n q (if (0 ≤ a ∧ a < n) ∧ (0 ≤ b ∧ b ≤ 6) ∧ c < 6 then c + 1 else c) w z ev num plc (if (0 ≤ a ∧ a < n) ∧ (0 ≤ b ∧ b ≤ 6) ∧ c < 6 then up (up sig (2 * c) a.toNat) (2 * c + 1) b.toNat else sig) pad row dig far cfr cby que has img kep) := by rw [← e_sig, ← e_c]; exact hD
    exact W.iret (v := zI (-1)) gx gb gr (fun t ht hW => ⟨⟨zI (-1), (), rfl, (by first | (dsimp only; done) | ((try dsimp only); rw [seeZ, if_neg (by omega)])), by rw [ht]; exact hP, va_K.moved hW.alike hK, hD⟩, hS.F ht⟩) hS.2.2 dX9_seen_9

set_option maxHeartbeats 4000000 in
set_option maxRecDepth 100000 in
theorem kX9_forget (Gl : Launch) (D : va_G) (cI cJ cZ : ClassId) (mo : Nat) (ma : Nat) (mb : Nat) (mc : Nat) (md : Nat) (me : Nat) (mf : Nat) (mg : Nat) (mh : Nat) (mi : Nat) (mj : Nat) (mk : Nat) (ml : Nat) (mn : Nat) (n : Nat) (q : Nat) (c : Nat) (w : Nat) (z : Nat) (ev : Nat) (num : Nat → Nat) (plc : Nat → Nat) (sig : Nat → Nat) (pad : Nat → Nat) (row : Nat → Nat) (dig : Nat → Nat) (far : Nat → Int32) (cfr : Nat → Nat) (cby : Nat → Nat) (que : Nat → Nat) (has : Nat → Nat) (img : Nat → Nat) (kep : Nat → Nat) (sz : Nat) : Met Gl yX9_forget wsX9_forget ({ frames := 0, cells := 0, slots := 0, locals := 0 } : Room) (va_Pc [.ref mo] (fun U => U.heap.size = sz ∧ va_P D vwCl (wM mo ma mb mc md me mf mg mh mi mj mk ml mn cI cZ n q c w z ev num plc sig pad row dig far cfr cby que has img kep) U.heap ∧ va_K D vwCl [(cI, .int), (cJ, .long), (cZ, .boolean)] U ∧ va_D (fun _ => True) (wM mo ma mb mc md me mf mg mh mi mj mk ml mn cI cZ n q c w z ev num plc sig pad row dig far cfr cby que has img kep))) (va_Qi (fun (r : Int32) (u : Unit) => r = nI c) (fun (u : Unit) t => va_P D vwCl (wM mo ma mb mc md me mf mg mh mi mj mk ml mn cI cZ n q 0 w z ev num plc sig pad row dig far cfr cby que has img kep) t.heap ∧ va_K D vwCl [(cI, .int), (cJ, .long), (cZ, .boolean)] t ∧ va_D (va_A (wM mo ma mb mc md me mf mg mh mi mj mk ml mn cI cZ n q c w z ev num plc sig pad row dig far cfr cby que has img kep) sz) (wM mo ma mb mc md me mf mg mh mi mj mk ml mn cI cZ n q 0 w z ev num plc sig pad row dig far cfr cby que has img kep)) (va_A (wM mo ma mb mc md me mf mg mh mi mj mk ml mn cI cZ n q c w z ev num plc sig pad row dig far cfr cby que has img kep) sz)) 0 0 (va_A (wM mo ma mb mc md me mf mg mh mi mj mk ml mn cI cZ n q c w z ev num plc sig pad row dig far cfr cby que has img kep) sz) := by
  refine Met.ofW (cc := cX9_forget) (maxL := 2) (ret := (some .int)) (by decide +kernel) rfl ?_
  intro Gp Ge Gs Gm Ga Gw Gt Gc G1 Bd gml gv
  obtain ⟨rfl, hsz, hP, hK, hD0⟩ := gv
  have gx := Bd.exec
  have gb := Bd.bytes
  have gr := Bd.returns
  have gts := atoms_spec (ws := wsX9_forget) Bd.pre
  have gown : Gs.vm.findClass RX9 = some Gm.cls := findClass_of_methodNamed Bd.named
  have glk := Bd.notSynchronized
  subst hsz
  have hD := hD0.self (sz := Gs.heap.size)
  generalize hAe : va_A (wM mo ma mb mc md me mf mg mh mi mj mk ml mn cI cZ n q c w z ev num plc sig pad row dig far cfr cby que has img kep) Gs.heap.size = A at hD ⊢
  have hA : ∀ q : Nat, Gs.heap.size ≤ q → A q := fun q h => by rw [← hAe]; exact Or.inr h
  have hS : va_S A Gs.heap Gs.heap [] := va_S.rf
  have hP : va_P D vwCl (wM mo ma mb mc md me mf mg mh mi mj mk ml mn cI cZ n q c w z ev num plc sig pad row dig far cfr cby que has img kep) Gs.heap := hP
  have hl := lv_entry ([.ref mo]) (n := 2) (Nat.le_of_ble_eq_true rfl)
  rw [lg_entry_eq]
  generalize (lg_sl ([.ref mo]) ++ List.replicate (2 - (lg_sl ([.ref mo])).length) Slot.unset).toArray = ls at hl ⊢
  have hl : lv_has ls 2 [(0, .ref mo)] := hl
  have i9 : ∀ w ∈ wsX90, w ∈ wsX9_forget := by decide +kernel
  refine lv_aload_n gx gb dX9_forget_0 rfl (lv_at hl 0 rfl) ?_
  refine va_get (D := D) (ci := 4) (v := .int (nI c)) (C := RX9) (T := TX9) (N := 19) gx gb gts i9 gown hK hP 0 rfl rfl 4 (by decide) (gts (.fieldLink RX9 60 "SwanSumsModel" "sights" "I") (by decide +kernel)) (fun _ h9 => h9) rfl dX9_forget_1 ?_
  refine lv_istore_n (lv' := [(1, .int (nI c)), (0, .ref mo)]) gx gb dX9_forget_4 rfl hl (by decide) rfl (fun ls hl => ?_)
  refine lv_aload_n gx gb dX9_forget_5 rfl (lv_at hl 1 rfl) ?_
  refine lv_iconst (v := nI 0) gx gb dX9_forget_6 (by decide) ?_
  refine va_put (D := D) (ci := 4) (v := .int (nI 0)) (ty := .int) (C := RX9) (T := TX9) (N := 19) gx gb gts i9 tyX9 tyX9_ok nmX9 gown hK hP hD hS 0 rfl rfl 4 (by decide) (gts (.fieldLink RX9 60 "SwanSumsModel" "sights" "I") (by decide +kernel)) (fun _ h9 => h9) rfl (by decide +kernel) rfl rfl (Nat.le_of_ble_eq_true rfl) dX9_forget_7 (fun H locs hP hD hS => ?_)
  have hP : va_P D vwCl (wM mo ma mb mc md me mf mg mh mi mj mk ml mn cI cZ n q 0 w z ev num plc sig pad row dig far cfr cby que has img kep) H := hP
  have hD : va_D A (wM mo ma mb mc md me mf mg mh mi mj mk ml mn cI cZ n q 0 w z ev num plc sig pad row dig far cfr cby que has img kep) := hD
  refine lv_iload_n gx gb dX9_forget_10 rfl (lv_at hl 0 rfl) ?_
  exact W.iret (v := nI c) gx gb gr (fun t ht hW => ⟨⟨nI c, (), rfl, (by first | (dsimp only; done) | ((try dsimp only); rfl)), by rw [ht]; exact hP, va_K.moved hW.alike hK, hD⟩, hS.F ht⟩) hS.2.2 dX9_forget_11

set_option maxHeartbeats 4000000 in
set_option maxRecDepth 100000 in
theorem kX9_told (Gl : Launch) (D : va_G) (cI cJ cZ : ClassId) (mo : Nat) (ma : Nat) (mb : Nat) (mc : Nat) (md : Nat) (me : Nat) (mf : Nat) (mg : Nat) (mh : Nat) (mi : Nat) (mj : Nat) (mk : Nat) (ml : Nat) (mn : Nat) (n : Nat) (q : Nat) (c : Nat) (w : Nat) (z : Nat) (ev : Nat) (num : Nat → Nat) (plc : Nat → Nat) (sig : Nat → Nat) (pad : Nat → Nat) (row : Nat → Nat) (dig : Nat → Nat) (far : Nat → Int32) (cfr : Nat → Nat) (cby : Nat → Nat) (que : Nat → Nat) (has : Nat → Nat) (img : Nat → Nat) (kep : Nat → Nat) (a : Int) (hl_a : -2147483648 ≤ a) (hu_a : a < 2147483648) (hn1 : 1 ≤ n) (hn7 : n ≤ 7) (hq1 : 1 ≤ q) (hqn : q ≤ n) (hc : c ≤ 6) : Met Gl yX9_told wsX9_told ({ frames := 1, cells := 0, slots := 0, locals := 22 } : Room) (va_Pc [.ref mo, .int (zI a)] (fun U => va_P D vwCl (wM mo ma mb mc md me mf mg mh mi mj mk ml mn cI cZ n q c w z ev num plc sig pad row dig far cfr cby que has img kep) U.heap ∧ va_K D vwCl [(cI, .int), (cJ, .long), (cZ, .boolean)] U)) (vp_Si (fun r : Int32 => r = zI (tolZ w n q c num a))) 0 0 (fun _ => False) := by
  refine Met.ofW (cc := cX9_told) (maxL := 2) (ret := (some .int)) (by decide +kernel) rfl ?_
  intro Gp Ge Gs Gm Ga Gw Gt Gc G1 Bd gml gv
  obtain ⟨rfl, hP, hK⟩ := gv
  have gx := Bd.exec
  have gb := Bd.bytes
  have gr := Bd.returns
  have gts := atoms_spec (ws := wsX9_told) Bd.pre
  have gown : Gs.vm.findClass RX9 = some Gm.cls := findClass_of_methodNamed Bd.named
  have glk := Bd.notSynchronized
  have hl := lv_entry ([.ref mo, .int (zI a)]) (n := 2) (Nat.le_of_ble_eq_true rfl)
  rw [lg_entry_eq]
  generalize (lg_sl ([.ref mo, .int (zI a)]) ++ List.replicate (2 - (lg_sl ([.ref mo, .int (zI a)])).length) Slot.unset).toArray = ls at hl ⊢
  have hl : lv_has ls 2 [(0, .ref mo), (1, .int (zI a))] := hl
  have i9 : ∀ w ∈ wsX90, w ∈ wsX9_told := by decide +kernel
  refine lv_iload_n gx gb dX9_told_0 rfl (lv_at hl 1 rfl) ?_
  refine lv_bipush (v := nI 10) gx gb dX9_told_1 (by decide) ?_
  refine lv_bipush (v := nI 9) gx gb dX9_told_3 (by decide) ?_
  refine lv_aload_n gx gb dX9_told_5 rfl (lv_at hl 0 rfl) ?_
  refine va_get (D := D) (ci := 4) (v := .int (nI n)) (C := RX9) (T := TX9) (N := 19) gx gb gts i9 gown hK hP 0 rfl rfl 0 (by decide) (gts (.fieldLink RX9 7 "SwanSumsModel" "all" "I") (by decide +kernel)) (fun _ h9 => h9) rfl dX9_told_6 ?_
  refine lv_iadd gx gb dX9_told_9 ?_
  refine lv_evi (nI (9 + n)) (nI_add 9 n) ?_
  refine lv_evs [.int (zI ((9 + n : Nat) : Int)), .int (zI ((10 : Nat) : Int)), .int (zI a)] (by simp only [nI_zc]) ?_
  refine vp_callSi (W.runS (As := [.int (zI a), .int (zI ((10 : Nat) : Int)), .int (zI ((9 + n : Nat) : Int))]) (rest := []) ⟨gx, gb, gml, gown, gts⟩ (kX9_in Gl a ((10 : Nat) : Int) ((9 + n : Nat) : Int) (by omega) (by omega) (by omega) (by omega) (by omega) (by omega)) (va_cwS 3 gts gX9_told_X9_in rfl rfl rfl (by decide +kernel) ⟨Nat.le_of_ble_eq_true rfl, Nat.le_of_ble_eq_true rfl⟩) ⟨fun _ _ _ _ h => h, fun U hU hW => ⟨rfl, trivial⟩⟩ rfl rfl hl.1 rfl (lv_room (Nat.le_of_ble_eq_true rfl)) dX9_told_10 ⟨Nat.le_of_ble_eq_true rfl, Nat.le_of_ble_eq_true rfl⟩) (fun r hw => ?_)
  have hr10 := hw
  subst hr10
  refine lv_if_eq (tgt := 26) gx gb dX9_told_13 (by decide) (fun c13 => ?_) (fun c13 => ?_)
  · skip
    rw [b0_eq] at c13
    simp only [decide_eq_false_iff_not, Decidable.not_not] at c13
    refine lv_iload_n gx gb dX9_told_26 rfl (lv_at hl 1 rfl) ?_
    rcases (show a = 0 ∨ a = 1 ∨ a = 2 ∨ (a < 0 ∨ 2 < a) by omega) with rfl | rfl | rfl | ho
    · skip
      refine lv_tableIn (tgt := 52) (off := 25) gx gb dX9_told_27 (by decide) (by decide) (by decide) (by decide) ?_
      refine lv_aload_n gx gb dX9_told_52 rfl (lv_at hl 0 rfl) ?_
      refine va_get (D := D) (ci := 4) (v := .int (nI w)) (C := RX9) (T := TX9) (N := 19) gx gb gts i9 gown hK hP 0 rfl rfl 6 (by decide) (gts (.fieldLink RX9 71 "SwanSumsModel" "signs" "I") (by decide +kernel)) (fun _ h9 => h9) rfl dX9_told_53 ?_
      exact W.iret (v := nI w) gx gb gr (fun t ht hW => ⟨nI w, rfl, (by first | (dsimp only; done) | ((try dsimp only); exact (zI_nat _).symm)), ht⟩) (fun q h => by cases h) dX9_told_56
    · skip
      refine lv_tableIn (tgt := 57) (off := 30) gx gb dX9_told_27 (by decide) (by decide) (by decide) (by decide) ?_
      refine lv_aload_n gx gb dX9_told_57 rfl (lv_at hl 0 rfl) ?_
      refine va_get (D := D) (ci := 4) (v := .int (nI n)) (C := RX9) (T := TX9) (N := 19) gx gb gts i9 gown hK hP 0 rfl rfl 0 (by decide) (gts (.fieldLink RX9 7 "SwanSumsModel" "all" "I") (by decide +kernel)) (fun _ h9 => h9) rfl dX9_told_58 ?_
      exact W.iret (v := nI n) gx gb gr (fun t ht hW => ⟨nI n, rfl, (by first | (dsimp only; done) | ((try dsimp only); exact (zI_nat _).symm)), ht⟩) (fun q h => by cases h) dX9_told_61
    · skip
      refine lv_tableIn (tgt := 62) (off := 35) gx gb dX9_told_27 (by decide) (by decide) (by decide) (by decide) ?_
      refine lv_aload_n gx gb dX9_told_62 rfl (lv_at hl 0 rfl) ?_
      refine va_get (D := D) (ci := 4) (v := .int (nI q)) (C := RX9) (T := TX9) (N := 19) gx gb gts i9 gown hK hP 0 rfl rfl 1 (by decide) (gts (.fieldLink RX9 13 "SwanSumsModel" "many" "I") (by decide +kernel)) (fun _ h9 => h9) rfl dX9_told_63 ?_
      exact W.iret (v := nI q) gx gb gr (fun t ht hW => ⟨nI q, rfl, (by first | (dsimp only; done) | ((try dsimp only); exact (zI_nat _).symm)), ht⟩) (fun q h => by cases h) dX9_told_66
    · skip
      refine lv_tableOut (tgt := 67) gx gb dX9_told_27 (by rw [zI_toInt (by omega) (by omega)]; omega) (by decide) ?_
      refine lv_iload_n gx gb dX9_told_67 rfl (lv_at hl 1 rfl) ?_
      refine lv_iconst (v := nI 3) gx gb dX9_told_68 (by decide) ?_
      refine lv_icmp_ne (tgt := 79) gx gb dX9_told_69 (by decide) (fun c69 => ?_) (fun c69 => ?_)
      · skip
        rw [zn_eq (by omega) (by omega) (by omega)] at c69
        refine lv_bipush (v := zI (-2)) gx gb dX9_told_79 (by decide) ?_
        exact W.iret (v := zI (-2)) gx gb gr (fun t ht hW => ⟨zI (-2), rfl, (by first | (dsimp only; done) | ((try dsimp only); first | (simp only [tolZ]; rw [if_neg (by omega), if_neg (by omega), if_neg (by omega), if_pos (by omega), zI_nat]; done) | (simp only [tolZ]; rw [if_neg (by omega), if_neg (by omega), if_neg (by omega), if_neg (by omega), if_neg (by omega)]))), ht⟩) (fun q h => by cases h) dX9_told_81
      · skip
        rw [zn_eq (by omega) (by omega) (by omega)] at c69
        refine lv_aload_n gx gb dX9_told_72 rfl (lv_at hl 0 rfl) ?_
        refine va_get (D := D) (ci := 4) (v := .int (nI c)) (C := RX9) (T := TX9) (N := 19) gx gb gts i9 gown hK hP 0 rfl rfl 4 (by decide) (gts (.fieldLink RX9 60 "SwanSumsModel" "sights" "I") (by decide +kernel)) (fun _ h9 => h9) rfl dX9_told_73 ?_
        refine lv_goto (tgt := 81) gx gb dX9_told_76 (by decide) ?_
        exact W.iret (v := nI c) gx gb gr (fun t ht hW => ⟨nI c, rfl, (by first | (dsimp only; done) | ((try dsimp only); first | (simp only [tolZ]; rw [if_neg (by omega), if_neg (by omega), if_neg (by omega), if_pos (by omega), zI_nat]; done) | (simp only [tolZ]; rw [if_neg (by omega), if_neg (by omega), if_neg (by omega), if_neg (by omega), if_neg (by omega)]))), ht⟩) (fun q h => by cases h) dX9_told_81
  · skip
    rw [b0_eq] at c13
    simp only [decide_eq_false_iff_not, Decidable.not_not] at c13
    obtain ⟨i, hi⟩ : ∃ i : Nat, a = (i : Int) := ⟨a.toNat, by omega⟩
    rw [show zI a = nI i from by rw [hi, zI_nat]] at hl
    have hl : lv_has ls 2 [(0, .ref mo), (1, .int (nI i))] := hl
    refine lv_aload_n gx gb dX9_told_16 rfl (lv_at hl 0 rfl) ?_
    refine va_get (D := D) (ci := 4) (v := .ref ma) (C := RX9) (T := TX9) (N := 19) gx gb gts i9 gown hK hP 0 rfl rfl 2 (by decide) (gts (.fieldLink RX9 16 "SwanSumsModel" "numbers" "[I") (by decide +kernel)) (fun _ h9 => h9) rfl dX9_told_17 ?_
    refine lv_iload_n gx gb dX9_told_20 rfl (lv_at hl 1 rfl) ?_
    refine lv_bipush (v := nI 10) gx gb dX9_told_21 (by decide) ?_
    refine lv_isub gx gb dX9_told_23 ?_
    refine lv_evi (nI (i - 10)) (e_sub (by omega)) ?_
    refine va_iald gx gb hK hP 1 0 rfl rfl (vp_in_nI (n := i - 10) (by omega) (by decide)) dX9_told_24 ?_
    refine lv_evi (nI (num (i - 10))) (aN_rd num (by omega)) ?_
    exact W.iret (v := nI (num (i - 10))) gx gb gr (fun t ht hW => ⟨nI (num (i - 10)), rfl, (by first | (dsimp only; done) | ((try dsimp only); simp only [tolZ]; rw [if_neg (by omega), if_neg (by omega), if_neg (by omega), if_neg (by omega), if_pos (by omega), hi, show ((i : Int) - 10).toNat = i - 10 by omega, zI_nat])), ht⟩) (fun q h => by cases h) dX9_told_25

