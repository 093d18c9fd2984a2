
set_option maxHeartbeats 4000000 in
set_option maxRecDepth 100000 in
theorem kX9_isThere (Gl : Launch) (D : va_G) (cI cJ cZ : ClassId) (mo : Nat) (ma : Nat) (mb : Nat) (mc : Nat) (md : Nat) (me : Nat) (mf : Nat) (mg : Nat) (mh : Nat) (mi : Nat) (mj : Nat) (mk : Nat) (ml : Nat) (mn : Nat) (n : Nat) (q : Nat) (c : Nat) (w : Nat) (z : Nat) (ev : Nat) (num : Nat → Nat) (plc : Nat → Nat) (sig : Nat → Nat) (pad : Nat → Nat) (row : Nat → Nat) (dig : Nat → Nat) (far : Nat → Int32) (cfr : Nat → Nat) (cby : Nat → Nat) (que : Nat → Nat) (has : Nat → Nat) (img : Nat → Nat) (kep : Nat → Nat) (s : Int) (hl_s : -2147483648 ≤ s) (hu_s : s < 2147483648) (hn1 : 1 ≤ n) (hn7 : n ≤ 7) (hq1 : 1 ≤ q) (hqn : q ≤ n) (hp : ∀ k, k < q → plc k < n) : Met Gl yX9_isThere wsX9_isThere ({ frames := 0, cells := 0, slots := 0, locals := 0 } : Room) (va_Pc [.ref mo, .int (zI s)] (fun U => va_P D vwCl (wM mo ma mb mc md me mf mg mh mi mj mk ml mn cI cZ n q c w z ev num plc sig pad row dig far cfr cby que has img kep) U.heap ∧ va_K D vwCl [(cI, .int), (cJ, .long), (cZ, .boolean)] U)) (vp_Si (fun r : Int32 => r = bI (decide (∃ x_, x_ < q ∧ (plc x_ : Int) = s)))) 0 0 (fun _ => False) := by
  refine Met.ofW (cc := cX9_isThere) (maxL := 4) (ret := (some .boolean)) (by decide +kernel) rfl ?_
  intro Gp Ge Gs Gm Ga Gw Gt Gc G1 Bd gml gv
  obtain ⟨rfl, hP, hK⟩ := gv
  have gx := Bd.exec
  have gb := Bd.bytes
  have gr := Bd.returns
  have gts := atoms_spec (ws := wsX9_isThere) Bd.pre
  have gown : Gs.vm.findClass RX9 = some Gm.cls := findClass_of_methodNamed Bd.named
  have glk := Bd.notSynchronized
  have hl := lv_entry ([.ref mo, .int (zI s)]) (n := 4) (Nat.le_of_ble_eq_true rfl)
  rw [lg_entry_eq]
  generalize (lg_sl ([.ref mo, .int (zI s)]) ++ List.replicate (4 - (lg_sl ([.ref mo, .int (zI s)])).length) Slot.unset).toArray = ls at hl ⊢
  have hl : lv_has ls 4 [(0, .ref mo), (1, .int (zI s))] := hl
  have i9 : ∀ w ∈ wsX90, w ∈ wsX9_isThere := by decide +kernel
  refine lv_iconst (v := nI 0) gx gb dX9_isThere_0 (by decide) ?_
  refine lv_istore_n (lv' := [(2, .int (nI 0)), (0, .ref mo), (1, .int (zI s))]) gx gb dX9_isThere_1 rfl hl (by decide) rfl (fun ls hl => ?_)
  refine lv_iconst (v := nI 0) gx gb dX9_isThere_2 (by decide) ?_
  refine lv_istore_n (lv' := [(3, .int (nI 0)), (2, .int (nI 0)), (0, .ref mo), (1, .int (zI s))]) gx gb dX9_isThere_3 rfl hl (by decide) rfl (fun ls hl => ?_)
  have L4 : ∀ fu : Nat, ∀ (b : Bool) (i : Nat) (hi : i ≤ q) (hb : b = true ↔ ∃ x, x < i ∧ (plc x : Int) = s), (q - i) < fu → ∀ ls : Array Slot, lv_has ls 4 [(2, .int (bI b)), (3, .int (nI i)), (0, .ref mo), (1, .int (zI s))] → W Gp Gl Ge (headSpec wsX9_isThere ({ frames := 0, cells := 0, slots := 0, locals := 0 } : Room)).room Gs Gm ([.ref mo, .int (zI s)] : List Value).toArray Gw Gt Gc Gs.heap [] 0 0 (MQ Gw (vp_Si (fun r : Int32 => r = bI (decide (∃ x_, x_ < q ∧ (plc x_ : Int) = s)))) ([.ref mo, .int (zI s)] : List Value).toArray Gs 0 0 (fun _ => False)) (F0 Gm 4 ls []) := by
    intro fu
    induction fu with
    | zero => intro b i hi hb hfu; exact absurd hfu (Nat.not_lt_zero _)
    | succ fu ih4 =>
      intro b i hi hb hfu ls hl
      refine lv_iload_n gx gb dX9_isThere_4 rfl (lv_at hl 1 rfl) ?_
      refine lv_aload_n gx gb dX9_isThere_5 rfl (lv_at hl 2 rfl) ?_
      refine va_get (D := D) (ci := 4) (v := .int (nI q)) (C := RX9) (T := TX9) (N := 19) gx gb gts i9 gown hK hP 0 rfl rfl 1 (by decide) (gts (.fieldLink RX9 13 "SwanSumsModel" "many" "I") (by decide +kernel)) (fun _ h9 => h9) rfl dX9_isThere_6 ?_
      refine lv_icmp_ge (tgt := 38) gx gb dX9_isThere_9 (by decide) (fun c9 => ?_) (fun c9 => ?_)
      · skip
        rw [nI_leI (by omega) (by omega)] at c9
        refine lv_iload_n gx gb dX9_isThere_38 rfl (lv_at hl 0 rfl) ?_
        exact W.zret (v := bI b) gx gb gr (bI_nar _) (fun t ht hW => ⟨bI b, rfl, (by first | (dsimp only; done) | ((try dsimp only); exact congrArg bI (Bool.eq_iff_iff.mpr (hb.trans ⟨fun ⟨x, hx, hy⟩ => decide_eq_true ⟨x, by omega, hy⟩, fun h => by obtain ⟨x, hx, hy⟩ := of_decide_eq_true h; exact ⟨x, by omega, hy⟩⟩)))), ht⟩) (fun q h => by cases h) dX9_isThere_39
      · skip
        rw [nI_leI (by omega) (by omega)] at c9
        have hpi := hp i (by omega)
        refine lv_iload_n gx gb dX9_isThere_12 rfl (lv_at hl 0 rfl) ?_
        refine lv_if_ne (tgt := 26) gx gb dX9_isThere_13 (by decide) (fun c13 => ?_) (fun c13 => ?_)
        · skip
          rw [b0_eq] at c13
          have c13 := nf_t c13
          refine lv_iconst (v := nI 1) gx gb dX9_isThere_26 (by decide) ?_
          refine lv_goto (tgt := 31) gx gb dX9_isThere_27 (by decide) ?_
          refine lv_istore_n (lv' := [(2, .int (nI 1)), (3, .int (nI i)), (0, .ref mo), (1, .int (zI s))]) gx gb dX9_isThere_31 rfl hl (by decide) rfl (fun ls hl => ?_)
          refine lv_iinc (v := nI (i + 1)) (lv' := [(3, .int (nI (i + 1))), (2, .int (nI 1)), (0, .ref mo), (1, .int (zI s))]) gx gb dX9_isThere_32 hl (k := 1) rfl (nI_add i 1) (by decide) rfl (fun ls hl => ?_)
          refine lv_goto (tgt := 4) gx gb dX9_isThere_35 (by decide) ?_
          exact ih4 true (i + 1) (by omega) (by first | exact ⟨fun _ => by obtain ⟨x, hx, hy⟩ := hb.mp c13; exact ⟨x, by omega, hy⟩, fun _ => rfl⟩ | exact ⟨fun _ => ⟨i, by omega, c23⟩, fun _ => rfl⟩ | exact ⟨fun h => (by cases h), fun ⟨x, hx, hy⟩ => (Nat.lt_or_ge x i).elim (fun h => by have := hb.mpr ⟨x, h, hy⟩; rw [c13] at this; cases this) (fun h => by obtain rfl : x = i := (by omega); exact absurd hy c23)⟩) (by omega) ls (lv_sub hl [1, 0, 2, 3] rfl)
        · skip
          rw [b0_eq] at c13
          refine lv_aload_n gx gb dX9_isThere_16 rfl (lv_at hl 2 rfl) ?_
          refine va_get (D := D) (ci := 4) (v := .ref mb) (C := RX9) (T := TX9) (N := 19) gx gb gts i9 gown hK hP 0 rfl rfl 3 (by decide) (gts (.fieldLink RX9 20 "SwanSumsModel" "place" "[I") (by decide +kernel)) (fun _ h9 => h9) rfl dX9_isThere_17 ?_
          refine lv_iload_n gx gb dX9_isThere_20 rfl (lv_at hl 1 rfl) ?_
          refine va_iald gx gb hK hP 2 0 rfl rfl (vp_in_nI (n := i) (by omega) (by decide)) dX9_isThere_21 ?_
          refine lv_evi (nI (plc i)) (aN_rd plc (by omega)) ?_
          refine lv_iload_n gx gb dX9_isThere_22 rfl (lv_at hl 3 rfl) ?_
          refine lv_icmp_ne (tgt := 30) gx gb dX9_isThere_23 (by decide) (fun c23 => ?_) (fun c23 => ?_)
          · skip
            rw [nz_eq (by omega) (by omega) (by omega)] at c23
            refine lv_iconst (v := nI 0) gx gb dX9_isThere_30 (by decide) ?_
            refine lv_istore_n (lv' := [(2, .int (nI 0)), (3, .int (nI i)), (0, .ref mo), (1, .int (zI s))]) gx gb dX9_isThere_31 rfl hl (by decide) rfl (fun ls hl => ?_)
            refine lv_iinc (v := nI (i + 1)) (lv' := [(3, .int (nI (i + 1))), (2, .int (nI 0)), (0, .ref mo), (1, .int (zI s))]) gx gb dX9_isThere_32 hl (k := 1) rfl (nI_add i 1) (by decide) rfl (fun ls hl => ?_)
            refine lv_goto (tgt := 4) gx gb dX9_isThere_35 (by decide) ?_
            exact ih4 false (i + 1) (by omega) (by first | exact ⟨fun _ => by obtain ⟨x, hx, hy⟩ := hb.mp c13; exact ⟨x, by omega, hy⟩, fun _ => rfl⟩ | exact ⟨fun _ => ⟨i, by omega, c23⟩, fun _ => rfl⟩ | exact ⟨fun h => (by cases h), fun ⟨x, hx, hy⟩ => (Nat.lt_or_ge x i).elim (fun h => by have := hb.mpr ⟨x, h, hy⟩; rw [c13] at this; cases this) (fun h => by obtain rfl : x = i := (by omega); exact absurd hy c23)⟩) (by omega) ls (lv_sub hl [1, 0, 2, 3] rfl)
          · skip
            rw [nz_eq (by omega) (by omega) (by omega)] at c23
            refine lv_iconst (v := nI 1) gx gb dX9_isThere_26 (by decide) ?_
            refine lv_goto (tgt := 31) gx gb dX9_isThere_27 (by decide) ?_
            refine lv_istore_n (lv' := [(2, .int (nI 1)), (3, .int (nI i)), (0, .ref mo), (1, .int (zI s))]) gx gb dX9_isThere_31 rfl hl (by decide) rfl (fun ls hl => ?_)
            refine lv_iinc (v := nI (i + 1)) (lv' := [(3, .int (nI (i + 1))), (2, .int (nI 1)), (0, .ref mo), (1, .int (zI s))]) gx gb dX9_isThere_32 hl (k := 1) rfl (nI_add i 1) (by decide) rfl (fun ls hl => ?_)
            refine lv_goto (tgt := 4) gx gb dX9_isThere_35 (by decide) ?_
            exact ih4 true (i + 1) (by omega) (by first | exact ⟨fun _ => by obtain ⟨x, hx, hy⟩ := hb.mp c13; exact ⟨x, by omega, hy⟩, fun _ => rfl⟩ | exact ⟨fun _ => ⟨i, by omega, c23⟩, fun _ => rfl⟩ | exact ⟨fun h => (by cases h), fun ⟨x, hx, hy⟩ => (Nat.lt_or_ge x i).elim (fun h => by have := hb.mpr ⟨x, h, hy⟩; rw [c13] at this; cases this) (fun h => by obtain rfl : x = i := (by omega); exact absurd hy c23)⟩) (by omega) ls (lv_sub hl [1, 0, 2, 3] rfl)
  exact L4 _ false 0 (by omega) (by exact ⟨fun h => (by cases h), fun ⟨x, hx, _⟩ => absurd hx (Nat.not_lt_zero _)⟩) (Nat.lt_succ_self _) ls (lv_sub hl [1, 0, 2, 3] rfl)

set_option maxHeartbeats 4000000 in
set_option maxRecDepth 100000 in
theorem kX9_sell (Gl : Launch) (D : va_G) (cI cJ cZ : ClassId) (mo : Nat) (ma : Nat) (mb : Nat) (mc : Nat) (md : Nat) (me : Nat) (mf : Nat) (mg : Nat) (mh : Nat) (mi : Nat) (mj : Nat) (mk : Nat) (ml : Nat) (mn : Nat) (n : Nat) (q : Nat) (c : Nat) (w : Nat) (z : Nat) (ev : Nat) (num : Nat → Nat) (plc : Nat → Nat) (sig : Nat → Nat) (pad : Nat → Nat) (row : Nat → Nat) (dig : Nat → Nat) (far : Nat → Int32) (cfr : Nat → Nat) (cby : Nat → Nat) (que : Nat → Nat) (has : Nat → Nat) (img : Nat → Nat) (kep : Nat → Nat) (sz : Nat) (a : Int) (hl_a : -2147483648 ≤ a) (hu_a : a < 2147483648) (hn1 : 1 ≤ n) (hn7 : n ≤ 7) (hq1 : 1 ≤ q) (hqn : q ≤ n) (hp : ∀ k, k < q → plc k < n) (hnum : ∀ k, k < n → num k ≤ 99) : Met Gl yX9_sell wsX9_sell ({ frames := 3, cells := 0, slots := 0, locals := 71 } : Room) (va_Pc [.ref mo, .int (zI a)] (fun U => U.heap.size = sz ∧ va_P D vwCl (wM mo ma mb mc md me mf mg mh mi mj mk ml mn cI cZ n q c w z ev num plc sig pad row dig far cfr cby que has img kep) U.heap ∧ va_K D vwCl [(cI, .int), (cJ, .long), (cZ, .boolean)] U ∧ va_D (fun _ => True) (wM mo ma mb mc md me mf mg mh mi mj mk ml mn cI cZ n q c w z ev num plc sig pad row dig far cfr cby que has img kep))) (va_Qi (fun (r : Int32) (u : (Nat → Nat) × (Nat)) => r = zI (selZ num plc q a)) (fun (u : (Nat → Nat) × (Nat)) t => va_P D vwCl (wM mo ma mb mc md me mf mg mh mi mj mk ml mn cI cZ n q c w u.2 ev num plc sig pad u.1 dig far cfr cby que has img kep) t.heap ∧ va_K D vwCl [(cI, .int), (cJ, .long), (cZ, .boolean)] t ∧ va_D (va_A (wM mo ma mb mc md me mf mg mh mi mj mk ml mn cI cZ n q c w z ev num plc sig pad row dig far cfr cby que has img kep) sz) (wM mo ma mb mc md me mf mg mh mi mj mk ml mn cI cZ n q c w u.2 ev num plc sig pad u.1 dig far cfr cby que has img kep)) (va_A (wM mo ma mb mc md me mf mg mh mi mj mk ml mn cI cZ n q c w z ev num plc sig pad row dig far cfr cby que has img kep) sz)) 0 0 (va_A (wM mo ma mb mc md me mf mg mh mi mj mk ml mn cI cZ n q c w z ev num plc sig pad row dig far cfr cby que has img kep) sz) := by
  refine Met.ofW (cc := cX9_sell) (maxL := 5) (ret := (some .int)) (by decide +kernel) rfl ?_
  intro Gp Ge Gs Gm Ga Gw Gt Gc G1 Bd gml gv
  obtain ⟨rfl, hsz, hP, hK, hD0⟩ := gv
  have gx := Bd.exec
  have gb := Bd.bytes
  have gr := Bd.returns
  have gts := atoms_spec (ws := wsX9_sell) Bd.pre
  have gown : Gs.vm.findClass RX9 = some Gm.cls := findClass_of_methodNamed Bd.named
  have glk := Bd.notSynchronized
  subst hsz
  have hD := hD0.self (sz := Gs.heap.size)
  generalize hAe : va_A (wM mo ma mb mc md me mf mg mh mi mj mk ml mn cI cZ n q c w z ev num plc sig pad row dig far cfr cby que has img kep) Gs.heap.size = A at hD ⊢
  have hA : ∀ q : Nat, Gs.heap.size ≤ q → A q := fun q h => by rw [← hAe]; exact Or.inr h
  have hS : va_S A Gs.heap Gs.heap [] := va_S.rf
  have hP : va_P D vwCl (wM mo ma mb mc md me mf mg mh mi mj mk ml mn cI cZ n q c w z ev num plc sig pad row dig far cfr cby que has img kep) Gs.heap := hP
  have hl := lv_entry ([.ref mo, .int (zI a)]) (n := 5) (Nat.le_of_ble_eq_true rfl)
  rw [lg_entry_eq]
  generalize (lg_sl ([.ref mo, .int (zI a)]) ++ List.replicate (5 - (lg_sl ([.ref mo, .int (zI a)])).length) Slot.unset).toArray = ls at hl ⊢
  have hl : lv_has ls 5 [(0, .ref mo), (1, .int (zI a))] := hl
  have i9 : ∀ w ∈ wsX90, w ∈ wsX9_sell := by decide +kernel
  refine lv_iload_n gx gb dX9_sell_0 rfl (lv_at hl 1 rfl) ?_
  refine vp_callSi (W.runS (As := [.int (zI a)]) (rest := []) ⟨gx, gb, gml, gown, gts⟩ (kX9_isLesson Gl a (by omega) (by omega)) (va_cwS 1 gts gX9_sell_X9_isLesson rfl rfl rfl (by decide +kernel) ⟨Nat.le_of_ble_eq_true rfl, Nat.le_of_ble_eq_true rfl⟩) ⟨fun _ _ _ _ h => h, fun U hU hW => ⟨rfl, trivial⟩⟩ rfl rfl hl.1 rfl (lv_room (Nat.le_of_ble_eq_true rfl)) dX9_sell_1 ⟨Nat.le_of_ble_eq_true rfl, Nat.le_of_ble_eq_true rfl⟩) (fun r hw => ?_)
  have hr1 := hw
  subst hr1
  refine lv_if_ne (tgt := 10) gx gb dX9_sell_4 (by decide) (fun c4 => ?_) (fun c4 => ?_)
  · skip
    rw [b0_eq] at c4
    simp only [decide_eq_false_iff_not, Decidable.not_not] at c4
    obtain ⟨k, hk⟩ : ∃ k : Nat, a = (k : Int) := ⟨a.toNat, by omega⟩
    rw [show zI a = nI k from by rw [hk, zI_nat]] at hl
    have hl : lv_has ls 5 [(0, .ref mo), (1, .int (nI k))] := hl
    refine lv_iconst (v := nI 0) gx gb dX9_sell_10 (by decide) ?_
    refine lv_istore_n (lv' := [(2, .int (nI 0)), (0, .ref mo), (1, .int (nI k))]) gx gb dX9_sell_11 rfl hl (by decide) rfl (fun ls hl => ?_)
    refine lv_iconst (v := nI 0) gx gb dX9_sell_12 (by decide) ?_
    refine lv_istore_n (lv' := [(3, .int (nI 0)), (2, .int (nI 0)), (0, .ref mo), (1, .int (nI k))]) gx gb dX9_sell_13 rfl hl (by decide) rfl (fun ls hl => ?_)
    have L14 : ∀ fu : Nat, ∀ (rw_ : Nat → Nat) (zz p : Nat) (hpq : p ≤ q) (hp1 : p = 0 ∨ 1 < q), (q - p) < fu → ∀ (H : Heap) (locs : List Loc), va_P D vwCl (wM mo ma mb mc md me mf mg mh mi mj mk ml mn cI cZ n q c w zz ev num plc sig pad rw_ dig far cfr cby que has img kep) H → va_D A (wM mo ma mb mc md me mf mg mh mi mj mk ml mn cI cZ n q c w zz ev num plc sig pad rw_ dig far cfr cby que has img kep) → va_S A Gs.heap H locs → ∀ ls : Array Slot, lv_has ls 5 [(2, .int (nI (selB num plc q k p))), (3, .int (nI p)), (0, .ref mo), (1, .int (nI k))] → W Gp Gl Ge (headSpec wsX9_sell ({ frames := 3, cells := 0, slots := 0, locals := 71 } : Room)).room Gs Gm ([.ref mo, .int (zI a)] : List Value).toArray Gw Gt Gc H locs 0 0 (MQ Gw (va_Qi (fun (r : Int32) (u : (Nat → Nat) × (Nat)) => r = zI (selZ num plc q a)) (fun (u : (Nat → Nat) × (Nat)) t => va_P D vwCl (wM mo ma mb mc md me mf mg mh mi mj mk ml mn cI cZ n q c w u.2 ev num plc sig pad u.1 dig far cfr cby que has img kep) t.heap ∧ va_K D vwCl [(cI, .int), (cJ, .long), (cZ, .boolean)] t ∧ va_D A (wM mo ma mb mc md me mf mg mh mi mj mk ml mn cI cZ n q c w u.2 ev num plc sig pad u.1 dig far cfr cby que has img kep)) A) ([.ref mo, .int (zI a)] : List Value).toArray Gs 0 0 A) (F0 Gm 14 ls []) := by
      intro fu
      induction fu with
      | zero => intro rw_ zz p hpq hp1 hfu; exact absurd hfu (Nat.not_lt_zero _)
      | succ fu ih14 =>
        intro rw_ zz p hpq hp1 hfu H locs hP hD hS ls hl
        refine lv_iload_n gx gb dX9_sell_14 rfl (lv_at hl 1 rfl) ?_
        refine lv_aload_n gx gb dX9_sell_15 rfl (lv_at hl 2 rfl) ?_
        refine va_get (D := D) (ci := 4) (v := .int (nI q)) (C := RX9) (T := TX9) (N := 19) gx gb gts i9 gown hK hP 0 rfl rfl 1 (by decide) (gts (.fieldLink RX9 13 "SwanSumsModel" "many" "I") (by decide +kernel)) (fun _ h9 => h9) rfl dX9_sell_16 ?_
        refine lv_icmp_ge (tgt := 77) gx gb dX9_sell_19 (by decide) (fun c19 => ?_) (fun c19 => ?_)
        · skip
          rw [nI_leI (by omega) (by omega)] at c19
          refine lv_iload_n gx gb dX9_sell_77 rfl (lv_at hl 0 rfl) ?_
          exact W.iret (v := nI (selB num plc q k p)) gx gb gr (fun t ht hW => ⟨⟨nI (selB num plc q k p), (rw_, zz), rfl, (by first | (dsimp only; done) | ((try dsimp only); first | (have e9 : p = 0 := (by omega); subst e9; rw [selZ, if_pos (by omega), if_neg (by omega)]; exact (show nI 0 = zI 0 by decide)) | (have e9 : p = q := (by omega); subst e9; rw [selZ, if_pos (by omega), if_pos (by omega), hk, zI_nat] <;> rfl))), by rw [ht]; exact hP, va_K.moved hW.alike hK, hD⟩, hS.F ht⟩) hS.2.2 dX9_sell_78
        · skip
          rw [nI_leI (by omega) (by omega)] at c19
          refine lv_aload_n gx gb dX9_sell_22 rfl (lv_at hl 2 rfl) ?_
          refine va_get (D := D) (ci := 4) (v := .int (nI q)) (C := RX9) (T := TX9) (N := 19) gx gb gts i9 gown hK hP 0 rfl rfl 1 (by decide) (gts (.fieldLink RX9 13 "SwanSumsModel" "many" "I") (by decide +kernel)) (fun _ h9 => h9) rfl dX9_sell_23 ?_
          refine lv_iconst (v := nI 1) gx gb dX9_sell_26 (by decide) ?_
          refine lv_icmp_le (tgt := 77) gx gb dX9_sell_27 (by decide) (fun c27 => ?_) (fun c27 => ?_)
          · skip
            rw [nI_leI (by omega) (by omega)] at c27
            refine lv_iload_n gx gb dX9_sell_77 rfl (lv_at hl 0 rfl) ?_
            exact W.iret (v := nI (selB num plc q k p)) gx gb gr (fun t ht hW => ⟨⟨nI (selB num plc q k p), (rw_, zz), rfl, (by first | (dsimp only; done) | ((try dsimp only); first | (have e9 : p = 0 := (by omega); subst e9; rw [selZ, if_pos (by omega), if_neg (by omega)]; exact (show nI 0 = zI 0 by decide)) | (have e9 : p = q := (by omega); subst e9; rw [selZ, if_pos (by omega), if_pos (by omega), hk, zI_nat] <;> rfl))), by rw [ht]; exact hP, va_K.moved hW.alike hK, hD⟩, hS.F ht⟩) hS.2.2 dX9_sell_78
          · skip
            rw [nI_leI (by omega) (by omega)] at c27
            refine lv_aload_n gx gb dX9_sell_30 rfl (lv_at hl 2 rfl) ?_
            have hPc := hP.sub (ws' := wM mo ma mb mc md me mf mg mh mi mj mk ml mn cI cZ n q c w zz ev num plc sig pad rw_ dig far cfr cby que has img kep) [0, 1, 2, 3, 4, 5, 6, 7, 8, 9, 10, 11, 12, 13] rfl
            have hDc := hD.sub (ws' := wM mo ma mb mc md me mf mg mh mi mj mk ml mn cI cZ n q c w zz ev num plc sig pad rw_ dig far cfr cby que has img kep) [0, 1, 2, 3, 4, 5, 6, 7, 8, 9, 10, 11, 12, 13] (by decide) rfl
            have hFc := va_free (wc := wM mo ma mb mc md me mf mg mh mi mj mk ml mn cI cZ n q c w zz ev num plc sig pad rw_ dig far cfr cby que has img kep) hD hS hA [0, 1, 2, 3, 4, 5, 6, 7, 8, 9, 10, 11, 12, 13] rfl
            refine va_callv (va_runV (As := []) (rest := []) ⟨gx, gb, gml, gown, gts⟩ (kX9_asNow Gl D cI cJ cZ mo ma mb mc md me mf mg mh mi mj mk ml mn n q c w zz ev num plc sig pad rw_ dig far cfr cby que has img kep _  ) (cwV 0 gts gX9_sell_X9_asNow rfl rfl rfl (by decide +kernel) ⟨Nat.le_of_ble_eq_true rfl, Nat.le_of_ble_eq_true rfl⟩) ⟨fun a U g mk q => by obtain ⟨q0, q1, qP, qK, qD⟩ := q; exact ⟨q0, q1, qP, va_K.moved (u := U) (U := U.calling g mk a) (Vm.Alike.refl U.vm) qK, qD⟩, va_recv hK hPc (ci := 4) (q0 := 0) rfl rfl, fun U hU hW => ⟨rfl, by rw [hU], by rw [hU]; exact hPc, va_K.moved hW.alike hK, hDc.weaken (fun _ _ _ _ => trivial)⟩⟩ rfl rfl hl.1 rfl (lv_room (Nat.le_of_ble_eq_true rfl)) dX9_sell_31 ⟨Nat.le_of_ble_eq_true rfl, Nat.le_of_ble_eq_true rfl⟩) hS (fun q _ h => hFc q h) hFc (fun u t H1 locs ht hvm hw hB hz1 hk1 hS => ?_)
            obtain ⟨hP1, hK1, hD1⟩ := hB
            rw [ht] at hP1
            try dsimp only at hw
            try dsimp only at hP1
            try dsimp only at hD1
            have hK := va_K.moved hvm.symm hK1
            obtain ⟨hP, hD⟩ := va_join (wr := []) (w1 := wM mo ma mb mc md me mf mg mh mi mj mk ml mn cI cZ n q c w q ev num plc sig pad (cpy plc rw_ 7) dig far cfr cby que has img kep) hP hD [0, 1, 2, 3, 4, 5, 6, 7, 8, 9, 10, 11, 12, 13] [] rfl rfl (by decide) (by decide) hk1 hFc hP1 hD1
            have hP := hP.sub (ws' := wM mo ma mb mc md me mf mg mh mi mj mk ml mn cI cZ n q c w q ev num plc sig pad (cpy plc rw_ 7) dig far cfr cby que has img kep) [0, 1, 2, 3, 4, 5, 6, 7, 8, 9, 10, 11, 12, 13] rfl
            have hD := hD.sub (ws' := wM mo ma mb mc md me mf mg mh mi mj mk ml mn cI cZ n q c w q ev num plc sig pad (cpy plc rw_ 7) dig far cfr cby que has img kep) [0, 1, 2, 3, 4, 5, 6, 7, 8, 9, 10, 11, 12, 13] (by decide) rfl
            have hK := va_K.moved (Vm.Alike.refl Gs.vm) hK
            generalize H1 = H at hP hS ⊢
            refine lv_aload_n gx gb dX9_sell_34 rfl (lv_at hl 2 rfl) ?_
            refine va_get (D := D) (ci := 4) (v := .ref me) (C := RX9) (T := TX9) (N := 19) gx gb gts i9 gown hK hP 0 rfl rfl 8 (by decide) (gts (.fieldLink RX9 29 "SwanSumsModel" "row" "[I") (by decide +kernel)) (fun _ h9 => h9) rfl dX9_sell_35 ?_
            refine lv_iload_n gx gb dX9_sell_38 rfl (lv_at hl 1 rfl) ?_
            refine va_iald gx gb hK hP 5 0 rfl rfl (vp_in_nI (n := p) (by omega) (by decide)) dX9_sell_39 ?_
            refine lv_evi (nI ((cpy plc rw_ 7) p)) (aN_rd (cpy plc rw_ 7) (by omega)) ?_
            refine lv_evi (nI (plc p)) (congrArg nI (cpy7 _ _ (by omega))) ?_
            refine lv_istore (lv' := [(4, .int (nI (plc p))), (2, .int (nI (selB num plc q k p))), (3, .int (nI p)), (0, .ref mo), (1, .int (nI k))]) gx gb dX9_sell_40 hl (by decide) rfl (fun ls hl => ?_)
            have L69 : ∀ (x : Nat) (hxx : x = if tau k (fun i => num (pikeF p (q - 1) plc i)) (q - 1) then 1 * 2 ^ (plc p) else 0), ∀ (H : Heap) (locs : List Loc), va_P D vwCl (wM mo ma mb mc md me mf mg mh mi mj mk ml mn cI cZ n q c w (q - 1) ev num plc sig pad (pikeF p (q - 1) (cpy plc rw_ 7)) dig far cfr cby que has img kep) H → va_D A (wM mo ma mb mc md me mf mg mh mi mj mk ml mn cI cZ n q c w (q - 1) ev num plc sig pad (pikeF p (q - 1) (cpy plc rw_ 7)) dig far cfr cby que has img kep) → va_S A Gs.heap H locs → ∀ ls : Array Slot, lv_has ls 5 [(4, .int (nI (plc p))), (2, .int (nI (selB num plc q k p))), (3, .int (nI p)), (0, .ref mo), (1, .int (nI k))] → W Gp Gl Ge (headSpec wsX9_sell ({ frames := 3, cells := 0, slots := 0, locals := 71 } : Room)).room Gs Gm ([.ref mo, .int (zI a)] : List Value).toArray Gw Gt Gc H locs 0 0 (MQ Gw (va_Qi (fun (r : Int32) (u : (Nat → Nat) × (Nat)) => r = zI (selZ num plc q a)) (fun (u : (Nat → Nat) × (Nat)) t => va_P D vwCl (wM mo ma mb mc md me mf mg mh mi mj mk ml mn cI cZ n q c w u.2 ev num plc sig pad u.1 dig far cfr cby que has img kep) t.heap ∧ va_K D vwCl [(cI, .int), (cJ, .long), (cZ, .boolean)] t ∧ va_D A (wM mo ma mb mc md me mf mg mh mi mj mk ml mn cI cZ n q c w u.2 ev num plc sig pad u.1 dig far cfr cby que has img kep)) A) ([.ref mo, .int (zI a)] : List Value).toArray Gs 0 0 A) (F0 Gm 69 ls [.int (nI x), .int (nI (selB num plc q k p))]) := by
              intro x hxx H locs hP hD hS ls hl
              subst hxx
              have hl : lv_has ls 5 [(4, .int (nI (plc p))), (2, .int (nI (selB num plc q k p))), (3, .int (nI p)), (0, .ref mo), (1, .int (nI k))] := hl
              refine lv_ior gx gb dX9_sell_69 ?_
              refine lv_evi (nI ((selB num plc q k p) ||| (if tau k (fun i => num (pikeF p (q - 1) plc i)) (q - 1) then 1 * 2 ^ (plc p) else 0))) (e_or (selB num plc q k p) (if tau k (fun i => num (pikeF p (q - 1) plc i)) (q - 1) then 1 * 2 ^ (plc p) else 0)) ?_
              refine lv_istore_n (lv' := [(2, .int (nI ((selB num plc q k p) ||| (if tau k (fun i => num (pikeF p (q - 1) plc i)) (q - 1) then 1 * 2 ^ (plc p) else 0)))), (4, .int (nI (plc p))), (3, .int (nI p)), (0, .ref mo), (1, .int (nI k))]) gx gb dX9_sell_70 rfl hl (by decide) rfl (fun ls hl => ?_)
              refine lv_iinc (v := nI (p + 1)) (lv' := [(3, .int (nI (p + 1))), (2, .int (nI ((selB num plc q k p) ||| (if tau k (fun i => num (pikeF p (q - 1) plc i)) (q - 1) then 1 * 2 ^ (plc p) else 0)))), (4, .int (nI (plc p))), (0, .ref mo), (1, .int (nI k))]) gx gb dX9_sell_71 hl (k := 2) rfl (nI_add p 1) (by decide) rfl (fun ls hl => ?_)
              refine lv_goto (tgt := 14) gx gb dX9_sell_74 (by decide) ?_
              exact ih14 (pikeF p (q - 1) (cpy plc rw_ 7)) (q - 1) (p + 1) (by omega) (by omega) (by omega) _ _ hP hD hS ls (lv_sub hl [1, 0, 3, 4] rfl)
            have hC : hapC 120 p q = true := decide_eq_true (by omega)
            have hpp := hp p (by omega)
            have hpk : ∀ x, x < q - 1 → pikeF p (q - 1) (cpy plc rw_ 7) x = pikeF p (q - 1) plc x := fun x hx => pikeF_cong (by omega) (fun y hy => cpy7 _ _ (by omega)) x (by omega)
            have hpi := pikeF_in (q := q) (P := fun x => x < n) (by omega : p < q) hp
            refine lv_iload_n gx gb dX9_sell_42 rfl (lv_at hl 1 rfl) ?_
            refine lv_aload_n gx gb dX9_sell_43 rfl (lv_at hl 3 rfl) ?_
            refine lv_bipush (v := nI 120) gx gb dX9_sell_44 (by decide) ?_
            refine lv_iload_n gx gb dX9_sell_46 rfl (lv_at hl 2 rfl) ?_
            have hPc := hP.sub (ws' := wM mo ma mb mc md me mf mg mh mi mj mk ml mn cI cZ n q c w q ev num plc sig pad (cpy plc rw_ 7) dig far cfr cby que has img kep) [0, 1, 2, 3, 4, 5, 6, 7, 8, 9, 10, 11, 12, 13] rfl
            have hDc := hD.sub (ws' := wM mo ma mb mc md me mf mg mh mi mj mk ml mn cI cZ n q c w q ev num plc sig pad (cpy plc rw_ 7) dig far cfr cby que has img kep) [0, 1, 2, 3, 4, 5, 6, 7, 8, 9, 10, 11, 12, 13] (by decide) rfl
            have hFc := va_free (wc := wM mo ma mb mc md me mf mg mh mi mj mk ml mn cI cZ n q c w q ev num plc sig pad (cpy plc rw_ 7) dig far cfr cby que has img kep) hD hS hA [0, 1, 2, 3, 4, 5, 6, 7, 8, 9, 10, 11, 12, 13] rfl
            refine va_calli (va_runV (As := [.int (nI 120), .int (nI p)]) (rest := [.int (nI (selB num plc q k p))]) ⟨gx, gb, gml, gown, gts⟩ (kX9_happen Gl D cI cJ cZ mo ma mb mc md me mf mg mh mi mj mk ml mn n q c w q ev num plc sig pad (cpy plc rw_ 7) dig far cfr cby que has img kep _ 120 p (by omega) (by omega) (by omega) (by omega)) (cwV 2 gts gX9_sell_X9_happen rfl rfl rfl (by decide +kernel) ⟨Nat.le_of_ble_eq_true rfl, Nat.le_of_ble_eq_true rfl⟩) ⟨fun a U g mk q => by obtain ⟨q0, q1, qP, qK, qD⟩ := q; exact ⟨q0, q1, qP, va_K.moved (u := U) (U := U.calling g mk a) (Vm.Alike.refl U.vm) qK, qD⟩, va_recv hK hPc (ci := 4) (q0 := 0) rfl rfl, fun U hU hW => ⟨rfl, by rw [hU], by rw [hU]; exact hPc, va_K.moved hW.alike hK, hDc.weaken (fun _ _ _ _ => trivial)⟩⟩ rfl rfl hl.1 rfl (lv_room (Nat.le_of_ble_eq_true rfl)) dX9_sell_47 ⟨Nat.le_of_ble_eq_true rfl, Nat.le_of_ble_eq_true rfl⟩) hS (fun q _ h => hFc q h) hFc (fun r u t H1 locs ht hvm hw hB hz1 hk1 hS => ?_)
            obtain ⟨hP1, hK1, hD1⟩ := hB
            rw [ht] at hP1
            try dsimp only at hw
            try dsimp only at hP1
            try dsimp only at hD1
            have hK := va_K.moved hvm.symm hK1
            obtain ⟨hP, hD⟩ := va_join (wr := []) (w1 := wM mo ma mb mc md me mf mg mh mi mj mk ml mn cI cZ n q c w (hapZ 120 p q) ev num plc sig pad (hapR 120 p q (cpy plc rw_ 7)) dig far cfr cby que has img kep) hP hD [0, 1, 2, 3, 4, 5, 6, 7, 8, 9, 10, 11, 12, 13] [] rfl rfl (by decide) (by decide) hk1 hFc hP1 hD1
            have hP := hP.sub (ws' := wM mo ma mb mc md me mf mg mh mi mj mk ml mn cI cZ n q c w (hapZ 120 p q) ev num plc sig pad (hapR 120 p q (cpy plc rw_ 7)) dig far cfr cby que has img kep) [0, 1, 2, 3, 4, 5, 6, 7, 8, 9, 10, 11, 12, 13] rfl
            have hD := hD.sub (ws' := wM mo ma mb mc md me mf mg mh mi mj mk ml mn cI cZ n q c w (hapZ 120 p q) ev num plc sig pad (hapR 120 p q (cpy plc rw_ 7)) dig far cfr cby que has img kep) [0, 1, 2, 3, 4, 5, 6, 7, 8, 9, 10, 11, 12, 13] (by decide) rfl
            have hK := va_K.moved (Vm.Alike.refl Gs.vm) hK
            generalize H1 = H at hP hS ⊢
            have hr47 := hw
            subst hr47
            have e_row : (hapR 120 p q (cpy plc rw_ 7)) = (pikeF p (q - 1) (cpy plc rw_ 7)) := by simp [hapR, hC]
            have e_z : (hapZ 120 p q) = (q - 1) := by simp [hapZ, hC]
            have hP : va_P D vwCl (wM mo ma mb mc md me mf mg mh mi mj mk ml mn cI cZ n q c w (q - 1) ev num plc sig pad (pikeF p (q - 1) (cpy plc rw_ 7)) dig far cfr cby que has img kep) H := by rw [← e_row, ← e_z]; exact hP
            have hD : va_D A (wM mo ma mb mc md me mf mg mh mi mj mk ml mn cI cZ n q c w (q - 1) ev num plc sig pad (pikeF p (q - 1) (cpy plc rw_ 7)) dig far cfr cby que has img kep) := by rw [← e_row, ← e_z]; exact hD
            refine lv_if_eq (tgt := 68) gx gb dX9_sell_50 (by decide) (fun c50 => ?_) (fun c50 => ?_)
            · skip
              rw [b0_eq] at c50
              rw [hC] at c50; cases c50
            · skip
              rw [b0_eq] at c50
              have c50 := nf_t c50
              refine lv_aload_n gx gb dX9_sell_53 rfl (lv_at hl 3 rfl) ?_
              refine lv_iload_n gx gb dX9_sell_54 rfl (lv_at hl 4 rfl) ?_
              have hPc := hP.sub (ws' := wM mo ma mb mc md me mf mg mh mi mj mk ml mn cI cZ n q c w (q - 1) ev num plc sig pad (pikeF p (q - 1) (cpy plc rw_ 7)) dig far cfr cby que has img kep) [0, 1, 2, 3, 4, 5, 6, 7, 8, 9, 10, 11, 12, 13] rfl
              refine vp_callSi (W.runV (As := [.int (nI k)]) (rest := [.int (nI (selB num plc q k p))]) ⟨gx, gb, gml, gown, gts⟩ (kX9_isTaught Gl D cI cJ cZ mo ma mb mc md me mf mg mh mi mj mk ml mn n q c w (q - 1) ev num plc sig pad (pikeF p (q - 1) (cpy plc rw_ 7)) dig far cfr cby que has img kep k (by omega) (by omega) (by omega) (by intro x hx; rw [hpk x hx]; have := hpi x (by omega); omega) (by intro x hx; rw [hpk x hx]; exact hnum _ (hpi x (by omega)))) (cwV 1 gts gX9_sell_X9_isTaught rfl rfl rfl (by decide +kernel) ⟨Nat.le_of_ble_eq_true rfl, Nat.le_of_ble_eq_true rfl⟩) ⟨fun a U g mk q => ⟨q.1, q.2.1, va_K.moved (u := U) (U := U.calling g mk a) (Vm.Alike.refl U.vm) q.2.2⟩, va_recv hK hPc (ci := 4) (q0 := 0) rfl rfl, fun U hU hW => ⟨rfl, by rw [hU]; exact hPc, va_K.moved hW.alike hK⟩⟩ rfl rfl hl.1 rfl (lv_room (Nat.le_of_ble_eq_true rfl)) dX9_sell_55 ⟨Nat.le_of_ble_eq_true rfl, Nat.le_of_ble_eq_true rfl⟩) (fun r hw => ?_)
              have hr55 := hw
              subst hr55
              refine lv_evi (bI (tau k (fun i => num (pikeF p (q - 1) plc i)) (q - 1))) (congrArg bI (tau_cong (by omega) (fun x hx => by rw [hpk x hx]))) ?_
              refine lv_if_eq (tgt := 68) gx gb dX9_sell_58 (by decide) (fun c58 => ?_) (fun c58 => ?_)
              · skip
                rw [b0_eq] at c58
                refine lv_iconst (v := nI 0) gx gb dX9_sell_68 (by decide) ?_
                exact L69 0 (by first | (rw [c58]; rfl)) _ _ hP hD hS ls (lv_sub hl [0, 1, 2, 3, 4] rfl)
              · skip
                rw [b0_eq] at c58
                have c58 := nf_t c58
                refine lv_iconst (v := nI 1) gx gb dX9_sell_61 (by decide) ?_
                refine lv_iload gx gb dX9_sell_62 (lv_at hl 0 rfl) ?_
                refine lv_ishl gx gb dX9_sell_64 ?_
                refine lv_evi (nI (1 * 2 ^ (plc p))) (e_shl _ (by omega)) ?_
                refine lv_goto (tgt := 69) gx gb dX9_sell_65 (by decide) ?_
                exact L69 (1 * 2 ^ (plc p)) (by first | (rw [c58]; rfl)) _ _ hP hD hS ls (lv_sub hl [0, 1, 2, 3, 4] rfl)
    exact L14 _ row z 0 (by omega) (by omega) (Nat.lt_succ_self _) _ _ hP hD hS ls (lv_sub hl [1, 0, 2, 3] rfl)
  · skip
    rw [b0_eq] at c4
    simp only [decide_eq_false_iff_not, Decidable.not_not] at c4
    refine lv_bipush (v := zI (-2)) gx gb dX9_sell_7 (by decide) ?_
    exact W.iret (v := zI (-2)) gx gb gr (fun t ht hW => ⟨⟨zI (-2), (row, z), rfl, (by first | (dsimp only; done) | ((try dsimp only); rw [selZ, if_neg (by omega)])), by rw [ht]; exact hP, va_K.moved hW.alike hK, hD⟩, hS.F ht⟩) hS.2.2 dX9_sell_9

set_option maxHeartbeats 4000000 in
set_option maxRecDepth 100000 in
theorem kX9_worn (Gl : Launch) (D : va_G) (cI cJ cZ : ClassId) (mo : Nat) (ma : Nat) (mb : Nat) (mc : Nat) (md : Nat) (me : Nat) (mf : Nat) (mg : Nat) (mh : Nat) (mi : Nat) (mj : Nat) (mk : Nat) (ml : Nat) (mn : Nat) (n : Nat) (q : Nat) (c : Nat) (w : Nat) (z : Nat) (ev : Nat) (num : Nat → Nat) (plc : Nat → Nat) (sig : Nat → Nat) (pad : Nat → Nat) (row : Nat → Nat) (dig : Nat → Nat) (far : Nat → Int32) (cfr : Nat → Nat) (cby : Nat → Nat) (que : Nat → Nat) (has : Nat → Nat) (img : Nat → Nat) (kep : Nat → Nat) (sz : Nat) (a b e_ : Int) (hl_a : -2147483648 ≤ a) (hu_a : a < 2147483648) (hl_b : -2147483648 ≤ b) (hu_b : b < 2147483648) (hl_e_ : -2147483648 ≤ e_) (hu_e_ : e_ < 2147483648) (hn1 : 1 ≤ n) (hn7 : n ≤ 7) (hq1 : 1 ≤ q) (hqn : q ≤ n) (hp : ∀ k, k < q → plc k < n) (hnum : ∀ k, k < n → num k ≤ 99) : Met Gl yX9_worn wsX9_worn ({ frames := 3, cells := 0, slots := 0, locals := 71 } : Room) (va_Pc [.ref mo, .int (zI a), .int (zI b), .int (zI e_)] (fun U => U.heap.size = sz ∧ va_P D vwCl (wM mo ma mb mc md me mf mg mh mi mj mk ml mn cI cZ n q c w z ev num plc sig pad row dig far cfr cby que has img kep) U.heap ∧ va_K D vwCl [(cI, .int), (cJ, .long), (cZ, .boolean)] U ∧ va_D (fun _ => True) (wM mo ma mb mc md me mf mg mh mi mj mk ml mn cI cZ n q c w z ev num plc sig pad row dig far cfr cby que has img kep))) (va_Qi (fun (r : Int32) (u : (Nat → Nat) × (Nat)) => r = zI (worZ num plc q a b e_)) (fun (u : (Nat → Nat) × (Nat)) t => va_P D vwCl (wM mo ma mb mc md me mf mg mh mi mj mk ml mn cI cZ n q c w u.2 ev num plc sig pad u.1 dig far cfr cby que has img kep) t.heap ∧ va_K D vwCl [(cI, .int), (cJ, .long), (cZ, .boolean)] t ∧ va_D (va_A (wM mo ma mb mc md me mf mg mh mi mj mk ml mn cI cZ n q c w z ev num plc sig pad row dig far cfr cby que has img kep) sz) (wM mo ma mb mc md me mf mg mh mi mj mk ml mn cI cZ n q c w u.2 ev num plc sig pad u.1 dig far cfr cby que has img kep)) (va_A (wM mo ma mb mc md me mf mg mh mi mj mk ml mn cI cZ n q c w z ev num plc sig pad row dig far cfr cby que has img kep) sz)) 0 0 (va_A (wM mo ma mb mc md me mf mg mh mi mj mk ml mn cI cZ n q c w z ev num plc sig pad row dig far cfr cby que has img kep) sz) := by
  refine Met.ofW (cc := cX9_worn) (maxL := 9) (ret := (some .int)) (by decide +kernel) rfl ?_
  intro Gp Ge Gs Gm Ga Gw Gt Gc G1 Bd gml gv
  obtain ⟨rfl, hsz, hP, hK, hD0⟩ := gv
  have gx := Bd.exec
  have gb := Bd.bytes
  have gr := Bd.returns
  have gts := atoms_spec (ws := wsX9_worn) Bd.pre
  have gown : Gs.vm.findClass RX9 = some Gm.cls := findClass_of_methodNamed Bd.named
  have glk := Bd.notSynchronized
  subst hsz
  have hD := hD0.self (sz := Gs.heap.size)
  generalize hAe : va_A (wM mo ma mb mc md me mf mg mh mi mj mk ml mn cI cZ n q c w z ev num plc sig pad row dig far cfr cby que has img kep) Gs.heap.size = A at hD ⊢
  have hA : ∀ q : Nat, Gs.heap.size ≤ q → A q := fun q h => by rw [← hAe]; exact Or.inr h
  have hS : va_S A Gs.heap Gs.heap [] := va_S.rf
  have hP : va_P D vwCl (wM mo ma mb mc md me mf mg mh mi mj mk ml mn cI cZ n q c w z ev num plc sig pad row dig far cfr cby que has img kep) Gs.heap := hP
  have hl := lv_entry ([.ref mo, .int (zI a), .int (zI b), .int (zI e_)]) (n := 9) (Nat.le_of_ble_eq_true rfl)
  rw [lg_entry_eq]
  generalize (lg_sl ([.ref mo, .int (zI a), .int (zI b), .int (zI e_)]) ++ List.replicate (9 - (lg_sl ([.ref mo, .int (zI a), .int (zI b), .int (zI e_)])).length) Slot.unset).toArray = ls at hl ⊢
  have hl : lv_has ls 9 [(0, .ref mo), (1, .int (zI a)), (2, .int (zI b)), (3, .int (zI e_))] := hl
  have i9 : ∀ w ∈ wsX90, w ∈ wsX9_worn := by decide +kernel
  refine lv_aload_n gx gb dX9_worn_0 rfl (lv_at hl 0 rfl) ?_
  refine lv_iload_n gx gb dX9_worn_1 rfl (lv_at hl 1 rfl) ?_
  have hPc := hP.sub (ws' := wM mo ma mb mc md me mf mg mh mi mj mk ml mn cI cZ n q c w z ev num plc sig pad row dig far cfr cby que has img kep) [0, 1, 2, 3, 4, 5, 6, 7, 8, 9, 10, 11, 12, 13] rfl
  refine vp_callSi (W.runV (As := [.int (zI a)]) (rest := []) ⟨gx, gb, gml, gown, gts⟩ (kX9_isThere Gl D cI cJ cZ mo ma mb mc md me mf mg mh mi mj mk ml mn n q c w z ev num plc sig pad row dig far cfr cby que has img kep a (by omega) (by omega) (by omega) (by omega) (by omega) (by omega) (by omega)) (cwV 1 gts gX9_worn_X9_isThere rfl rfl rfl (by decide +kernel) ⟨Nat.le_of_ble_eq_true rfl, Nat.le_of_ble_eq_true rfl⟩) ⟨fun a U g mk q => ⟨q.1, q.2.1, va_K.moved (u := U) (U := U.calling g mk a) (Vm.Alike.refl U.vm) q.2.2⟩, va_recv hK hPc (ci := 4) (q0 := 0) rfl rfl, fun U hU hW => ⟨rfl, by rw [hU]; exact hPc, va_K.moved hW.alike hK⟩⟩ rfl rfl hl.1 rfl (lv_room (Nat.le_of_ble_eq_true rfl)) dX9_worn_2 ⟨Nat.le_of_ble_eq_true rfl, Nat.le_of_ble_eq_true rfl⟩) (fun r hw => ?_)
  have hr2 := hw
  subst hr2
  refine lv_if_ne (tgt := 10) gx gb dX9_worn_5 (by decide) (fun c5 => ?_) (fun c5 => ?_)
  · skip
    rw [b0_eq] at c5
    simp only [decide_eq_false_iff_not, Decidable.not_not] at c5
    refine lv_iload_n gx gb dX9_worn_10 rfl (lv_at hl 2 rfl) ?_
    refine vp_callSi (W.runS (As := [.int (zI b)]) (rest := []) ⟨gx, gb, gml, gown, gts⟩ (kX9_isLesson Gl b (by omega) (by omega)) (va_cwS 1 gts gX9_worn_X9_isLesson rfl rfl rfl (by decide +kernel) ⟨Nat.le_of_ble_eq_true rfl, Nat.le_of_ble_eq_true rfl⟩) ⟨fun _ _ _ _ h => h, fun U hU hW => ⟨rfl, trivial⟩⟩ rfl rfl hl.1 rfl (lv_room (Nat.le_of_ble_eq_true rfl)) dX9_worn_11 ⟨Nat.le_of_ble_eq_true rfl, Nat.le_of_ble_eq_true rfl⟩) (fun r hw => ?_)
    have hr11 := hw
    subst hr11
    refine lv_if_eq (tgt := 26) gx gb dX9_worn_14 (by decide) (fun c14 => ?_) (fun c14 => ?_)
    · skip
      rw [b0_eq] at c14
      simp only [decide_eq_false_iff_not, Decidable.not_not] at c14
      refine lv_bipush (v := zI (-2)) gx gb dX9_worn_26 (by decide) ?_
      exact W.iret (v := zI (-2)) gx gb gr (fun t ht hW => ⟨⟨zI (-2), (row, z), rfl, (by first | (dsimp only; done) | ((try dsimp only); rw [worZ, if_pos c5, if_neg (by omega)])), by rw [ht]; exact hP, va_K.moved hW.alike hK, hD⟩, hS.F ht⟩) hS.2.2 dX9_worn_28
    · skip
      rw [b0_eq] at c14
      simp only [decide_eq_false_iff_not, Decidable.not_not] at c14
      refine lv_iload_n gx gb dX9_worn_17 rfl (lv_at hl 3 rfl) ?_
      refine lv_iconst (v := nI 0) gx gb dX9_worn_18 (by decide) ?_
      refine lv_iconst (v := nI 2) gx gb dX9_worn_19 (by decide) ?_
      refine lv_evs [.int (zI ((2 : Nat) : Int)), .int (zI ((0 : Nat) : Int)), .int (zI e_)] (by simp only [nI_zc]) ?_
      refine vp_callSi (W.runS (As := [.int (zI e_), .int (zI ((0 : Nat) : Int)), .int (zI ((2 : Nat) : Int))]) (rest := []) ⟨gx, gb, gml, gown, gts⟩ (kX9_in Gl e_ ((0 : Nat) : Int) ((2 : Nat) : Int) (by omega) (by omega) (by omega) (by omega) (by omega) (by omega)) (va_cwS 3 gts gX9_worn_X9_in rfl rfl rfl (by decide +kernel) ⟨Nat.le_of_ble_eq_true rfl, Nat.le_of_ble_eq_true rfl⟩) ⟨fun _ _ _ _ h => h, fun U hU hW => ⟨rfl, trivial⟩⟩ rfl rfl hl.1 rfl (lv_room (Nat.le_of_ble_eq_true rfl)) dX9_worn_20 ⟨Nat.le_of_ble_eq_true rfl, Nat.le_of_ble_eq_true rfl⟩) (fun r hw => ?_)
      have hr20 := hw
      subst hr20
      refine lv_if_ne (tgt := 29) gx gb dX9_worn_23 (by decide) (fun c23 => ?_) (fun c23 => ?_)
      · skip
        rw [b0_eq] at c23
        simp only [decide_eq_false_iff_not, Decidable.not_not] at c23
        refine lv_aload_n gx gb dX9_worn_29 rfl (lv_at hl 0 rfl) ?_
        have hPc := hP.sub (ws' := wM mo ma mb mc md me mf mg mh mi mj mk ml mn cI cZ n q c w z ev num plc sig pad row dig far cfr cby que has img kep) [0, 1, 2, 3, 4, 5, 6, 7, 8, 9, 10, 11, 12, 13] rfl
        have hDc := hD.sub (ws' := wM mo ma mb mc md me mf mg mh mi mj mk ml mn cI cZ n q c w z ev num plc sig pad row dig far cfr cby que has img kep) [0, 1, 2, 3, 4, 5, 6, 7, 8, 9, 10, 11, 12, 13] (by decide) rfl
        have hFc := va_free (wc := wM mo ma mb mc md me mf mg mh mi mj mk ml mn cI cZ n q c w z ev num plc sig pad row dig far cfr cby que has img kep) hD hS hA [0, 1, 2, 3, 4, 5, 6, 7, 8, 9, 10, 11, 12, 13] rfl
        refine va_callv (va_runV (As := []) (rest := []) ⟨gx, gb, gml, gown, gts⟩ (kX9_asNow Gl D cI cJ cZ mo ma mb mc md me mf mg mh mi mj mk ml mn n q c w z ev num plc sig pad row dig far cfr cby que has img kep _  ) (cwV 0 gts gX9_worn_X9_asNow rfl rfl rfl (by decide +kernel) ⟨Nat.le_of_ble_eq_true rfl, Nat.le_of_ble_eq_true rfl⟩) ⟨fun a U g mk q => by obtain ⟨q0, q1, qP, qK, qD⟩ := q; exact ⟨q0, q1, qP, va_K.moved (u := U) (U := U.calling g mk a) (Vm.Alike.refl U.vm) qK, qD⟩, va_recv hK hPc (ci := 4) (q0 := 0) rfl rfl, fun U hU hW => ⟨rfl, by rw [hU], by rw [hU]; exact hPc, va_K.moved hW.alike hK, hDc.weaken (fun _ _ _ _ => trivial)⟩⟩ rfl rfl hl.1 rfl (lv_room (Nat.le_of_ble_eq_true rfl)) dX9_worn_30 ⟨Nat.le_of_ble_eq_true rfl, Nat.le_of_ble_eq_true rfl⟩) hS (fun q _ h => hFc q h) hFc (fun u t H1 locs ht hvm hw hB hz1 hk1 hS => ?_)
        obtain ⟨hP1, hK1, hD1⟩ := hB
        rw [ht] at hP1
        try dsimp only at hw
        try dsimp only at hP1
        try dsimp only at hD1
        have hK := va_K.moved hvm.symm hK1
        obtain ⟨hP, hD⟩ := va_join (wr := []) (w1 := wM mo ma mb mc md me mf mg mh mi mj mk ml mn cI cZ n q c w q ev num plc sig pad (cpy plc row 7) dig far cfr cby que has img kep) hP hD [0, 1, 2, 3, 4, 5, 6, 7, 8, 9, 10, 11, 12, 13] [] rfl rfl (by decide) (by decide) hk1 hFc hP1 hD1
        have hP := hP.sub (ws' := wM mo ma mb mc md me mf mg mh mi mj mk ml mn cI cZ n q c w q ev num plc sig pad (cpy plc row 7) dig far cfr cby que has img kep) [0, 1, 2, 3, 4, 5, 6, 7, 8, 9, 10, 11, 12, 13] rfl
        have hD := hD.sub (ws' := wM mo ma mb mc md me mf mg mh mi mj mk ml mn cI cZ n q c w q ev num plc sig pad (cpy plc row 7) dig far cfr cby que has img kep) [0, 1, 2, 3, 4, 5, 6, 7, 8, 9, 10, 11, 12, 13] (by decide) rfl
        have hK := va_K.moved (Vm.Alike.refl Gs.vm) hK
        generalize H1 = H at hP hS ⊢
        obtain ⟨x0, hx0, hx1⟩ := c5
        obtain ⟨s, hs⟩ : ∃ s : Nat, a = (s : Int) := ⟨a.toNat, by omega⟩
        rw [show zI a = nI s from by rw [hs, zI_nat]] at hl
        obtain ⟨k, hk⟩ : ∃ k : Nat, b = (k : Int) := ⟨b.toNat, by omega⟩
        rw [show zI b = nI k from by rw [hk, zI_nat]] at hl
        have hl : lv_has ls 9 [(0, .ref mo), (1, .int (nI s)), (2, .int (nI k)), (3, .int (zI e_))] := hl
        refine lv_aload_n gx gb dX9_worn_33 rfl (lv_at hl 0 rfl) ?_
        refine va_get (D := D) (ci := 4) (v := .ref ma) (C := RX9) (T := TX9) (N := 19) gx gb gts i9 gown hK hP 0 rfl rfl 2 (by decide) (gts (.fieldLink RX9 16 "SwanSumsModel" "numbers" "[I") (by decide +kernel)) (fun _ h9 => h9) rfl dX9_worn_34 ?_
        refine lv_iload_n gx gb dX9_worn_37 rfl (lv_at hl 1 rfl) ?_
        have hsn : s < n := by have := hp x0 hx0; omega
        refine va_iald gx gb hK hP 1 0 rfl rfl (vp_in_nI (n := s) (by omega) (by decide)) dX9_worn_38 ?_
        refine lv_evi (nI (num s)) (aN_rd num (by omega)) ?_
        refine lv_istore (lv' := [(4, .int (nI (num s))), (0, .ref mo), (1, .int (nI s)), (2, .int (nI k)), (3, .int (zI e_))]) gx gb dX9_worn_39 hl (by decide) rfl (fun ls hl => ?_)
        refine lv_iconst (v := nI 0) gx gb dX9_worn_41 (by decide) ?_
        refine lv_istore (lv' := [(5, .int (nI 0)), (4, .int (nI (num s))), (0, .ref mo), (1, .int (nI s)), (2, .int (nI k)), (3, .int (zI e_))]) gx gb dX9_worn_42 hl (by decide) rfl (fun ls hl => ?_)
        refine lv_bipush (v := zI (-6)) gx gb dX9_worn_44 (by decide) ?_
        refine lv_istore (lv' := [(6, .int (zI (-6))), (5, .int (nI 0)), (4, .int (nI (num s))), (0, .ref mo), (1, .int (nI s)), (2, .int (nI k)), (3, .int (zI e_))]) gx gb dX9_worn_46 hl (by decide) rfl (fun ls hl => ?_)
        refine lv_bipush (v := zI (-6)) gx gb dX9_worn_48 (by decide) ?_
        refine lv_istore (lv' := [(7, .int (zI (-6))), (6, .int (zI (-6))), (5, .int (nI 0)), (4, .int (nI (num s))), (0, .ref mo), (1, .int (nI s)), (2, .int (nI k)), (3, .int (zI e_))]) gx gb dX9_worn_50 hl (by decide) rfl (fun ls hl => ?_)
        refine lv_iconst (v := nI 0) gx gb dX9_worn_52 (by decide) ?_
        refine lv_istore (lv' := [(8, .int (nI 0)), (7, .int (zI (-6))), (6, .int (zI (-6))), (5, .int (nI 0)), (4, .int (nI (num s))), (0, .ref mo), (1, .int (nI s)), (2, .int (nI k)), (3, .int (zI e_))]) gx gb dX9_worn_53 hl (by decide) rfl (fun ls hl => ?_)
        have L55 : ∀ fu : Nat, ∀ (v n_ : Nat) (l_ g_ : Int) (u : Nat) (hv : v ≤ 100) (hW : (n_, l_, g_) = wrn (wnP num plc q k s) v), (100 - v) < fu → ∀ (H : Heap) (locs : List Loc), va_P D vwCl (wM mo ma mb mc md me mf mg mh mi mj mk ml mn cI cZ n q c w q ev (up num s u) plc sig pad (cpy plc row 7) dig far cfr cby que has img kep) H → va_D A (wM mo ma mb mc md me mf mg mh mi mj mk ml mn cI cZ n q c w q ev (up num s u) plc sig pad (cpy plc row 7) dig far cfr cby que has img kep) → va_S A Gs.heap H locs → ∀ ls : Array Slot, lv_has ls 9 [(5, .int (nI n_)), (6, .int (zI l_)), (7, .int (zI g_)), (8, .int (nI v)), (4, .int (nI (num s))), (0, .ref mo), (1, .int (nI s)), (2, .int (nI k)), (3, .int (zI e_))] → W Gp Gl Ge (headSpec wsX9_worn ({ frames := 3, cells := 0, slots := 0, locals := 71 } : Room)).room Gs Gm ([.ref mo, .int (zI a), .int (zI b), .int (zI e_)] : List Value).toArray Gw Gt Gc H locs 0 0 (MQ Gw (va_Qi (fun (r : Int32) (u : (Nat → Nat) × (Nat)) => r = zI (worZ num plc q a b e_)) (fun (u : (Nat → Nat) × (Nat)) t => va_P D vwCl (wM mo ma mb mc md me mf mg mh mi mj mk ml mn cI cZ n q c w u.2 ev num plc sig pad u.1 dig far cfr cby que has img kep) t.heap ∧ va_K D vwCl [(cI, .int), (cJ, .long), (cZ, .boolean)] t ∧ va_D A (wM mo ma mb mc md me mf mg mh mi mj mk ml mn cI cZ n q c w u.2 ev num plc sig pad u.1 dig far cfr cby que has img kep)) A) ([.ref mo, .int (zI a), .int (zI b), .int (zI e_)] : List Value).toArray Gs 0 0 A) (F0 Gm 55 ls []) := by
          intro fu
          induction fu with
          | zero => intro v n_ l_ g_ u hv hW hfu; exact absurd hfu (Nat.not_lt_zero _)
          | succ fu ih55 =>
            intro v n_ l_ g_ u hv hW hfu H locs hP hD hS ls hl
            have hwb := wrn_bd (wnP num plc q k s) v
            rw [← hW] at hwb
            refine lv_iload gx gb dX9_worn_55 (lv_at hl 3 rfl) ?_
            refine lv_bipush (v := nI 100) gx gb dX9_worn_57 (by decide) ?_
            refine lv_icmp_ge (tgt := 105) gx gb dX9_worn_59 (by decide) (fun c59 => ?_) (fun c59 => ?_)
            · skip
              rw [nI_leI (by omega) (by omega)] at c59
              refine lv_aload_n gx gb dX9_worn_105 rfl (lv_at hl 5 rfl) ?_
              refine va_get (D := D) (ci := 4) (v := .ref ma) (C := RX9) (T := TX9) (N := 19) gx gb gts i9 gown hK hP 0 rfl rfl 2 (by decide) (gts (.fieldLink RX9 16 "SwanSumsModel" "numbers" "[I") (by decide +kernel)) (fun _ h9 => h9) rfl dX9_worn_106 ?_
              refine lv_iload_n gx gb dX9_worn_109 rfl (lv_at hl 6 rfl) ?_
              refine lv_iload gx gb dX9_worn_110 (lv_at hl 4 rfl) ?_
              refine va_iast gx gb hK hP hD hS 1 0 rfl rfl (vp_in_nI (n := s) (by omega) (by decide)) dX9_worn_112 (fun H locs hP hD hS => ?_)
              rw [aN_st (up num s u) (num s) (by omega)] at hP hD
              have hP : va_P D vwCl (wM mo ma mb mc md me mf mg mh mi mj mk ml mn cI cZ n q c w q ev (up (up num s u) s (num s)) plc sig pad (cpy plc row 7) dig far cfr cby que has img kep) H := hP
              have hD : va_D A (wM mo ma mb mc md me mf mg mh mi mj mk ml mn cI cZ n q c w q ev (up (up num s u) s (num s)) plc sig pad (cpy plc row 7) dig far cfr cby que has img kep) := hD
              have e_num : (up (up num s u) s (num s)) = num := by rw [up_up, up_self]
              have hP : va_P D vwCl (wM mo ma mb mc md me mf mg mh mi mj mk ml mn cI cZ n q c w q ev num plc sig pad (cpy plc row 7) dig far cfr cby que has img kep) H := by rw [← e_num]; exact hP
              have hD : va_D A (wM mo ma mb mc md me mf mg mh mi mj mk ml mn cI cZ n q c w q ev num plc sig pad (cpy plc row 7) dig far cfr cby que has img kep) := by rw [← e_num]; exact hD
              refine lv_iload_n gx gb dX9_worn_113 rfl (lv_at hl 8 rfl) ?_
              refine lv_if_ne (tgt := 122) gx gb dX9_worn_114 (by decide) (fun c114 => ?_) (fun c114 => ?_)
              · skip
                rw [z0_eq (by omega) (by omega)] at c114
                refine lv_iload_n gx gb dX9_worn_122 rfl (lv_at hl 8 rfl) ?_
                refine lv_iconst (v := nI 1) gx gb dX9_worn_123 (by decide) ?_
                refine lv_icmp_ne (tgt := 132) gx gb dX9_worn_124 (by decide) (fun c124 => ?_) (fun c124 => ?_)
                · skip
                  rw [zn_eq (by omega) (by omega) (by omega)] at c124
                  refine lv_iload gx gb dX9_worn_132 (lv_at hl 2 rfl) ?_
                  exact W.iret (v := zI g_) gx gb gr (fun t ht hW => ⟨⟨zI g_, (cpy plc row 7, q), rfl, (by first | (dsimp only; done) | ((try dsimp only); obtain rfl : v = 100 := (by omega); first | (rw [worZ, if_pos ⟨x0, hx0, by omega⟩, if_pos (by omega), if_pos (by omega), hk, hs]; show nI n_ = zI ((wrn (wnP num plc q k s) 100).1 : Int); rw [← hW]; exact (zI_nat n_).symm) | (rw [worZ, if_pos ⟨x0, hx0, by omega⟩, if_pos (by omega), if_neg (by omega), if_pos (by omega), hk, hs]; show zI l_ = zI (wrn (wnP num plc q k s) 100).2.1; rw [← hW]) | (rw [worZ, if_pos ⟨x0, hx0, by omega⟩, if_pos (by omega), if_neg (by omega), if_neg (by omega), hk, hs]; show zI g_ = zI (wrn (wnP num plc q k s) 100).2.2; rw [← hW]))), by rw [ht]; exact hP, va_K.moved hW.alike hK, hD⟩, hS.F ht⟩) hS.2.2 dX9_worn_134
                · skip
                  rw [zn_eq (by omega) (by omega) (by omega)] at c124
                  refine lv_iload gx gb dX9_worn_127 (lv_at hl 1 rfl) ?_
                  refine lv_goto (tgt := 134) gx gb dX9_worn_129 (by decide) ?_
                  exact W.iret (v := zI l_) gx gb gr (fun t ht hW => ⟨⟨zI l_, (cpy plc row 7, q), rfl, (by first | (dsimp only; done) | ((try dsimp only); obtain rfl : v = 100 := (by omega); first | (rw [worZ, if_pos ⟨x0, hx0, by omega⟩, if_pos (by omega), if_pos (by omega), hk, hs]; show nI n_ = zI ((wrn (wnP num plc q k s) 100).1 : Int); rw [← hW]; exact (zI_nat n_).symm) | (rw [worZ, if_pos ⟨x0, hx0, by omega⟩, if_pos (by omega), if_neg (by omega), if_pos (by omega), hk, hs]; show zI l_ = zI (wrn (wnP num plc q k s) 100).2.1; rw [← hW]) | (rw [worZ, if_pos ⟨x0, hx0, by omega⟩, if_pos (by omega), if_neg (by omega), if_neg (by omega), hk, hs]; show zI g_ = zI (wrn (wnP num plc q k s) 100).2.2; rw [← hW]))), by rw [ht]; exact hP, va_K.moved hW.alike hK, hD⟩, hS.F ht⟩) hS.2.2 dX9_worn_134
              · skip
                rw [z0_eq (by omega) (by omega)] at c114
                refine lv_iload gx gb dX9_worn_117 (lv_at hl 0 rfl) ?_
                refine lv_goto (tgt := 134) gx gb dX9_worn_119 (by decide) ?_
                exact W.iret (v := nI n_) gx gb gr (fun t ht hW => ⟨⟨nI n_, (cpy plc row 7, q), rfl, (by first | (dsimp only; done) | ((try dsimp only); obtain rfl : v = 100 := (by omega); first | (rw [worZ, if_pos ⟨x0, hx0, by omega⟩, if_pos (by omega), if_pos (by omega), hk, hs]; show nI n_ = zI ((wrn (wnP num plc q k s) 100).1 : Int); rw [← hW]; exact (zI_nat n_).symm) | (rw [worZ, if_pos ⟨x0, hx0, by omega⟩, if_pos (by omega), if_neg (by omega), if_pos (by omega), hk, hs]; show zI l_ = zI (wrn (wnP num plc q k s) 100).2.1; rw [← hW]) | (rw [worZ, if_pos ⟨x0, hx0, by omega⟩, if_pos (by omega), if_neg (by omega), if_neg (by omega), hk, hs]; show zI g_ = zI (wrn (wnP num plc q k s) 100).2.2; rw [← hW]))), by rw [ht]; exact hP, va_K.moved hW.alike hK, hD⟩, hS.F ht⟩) hS.2.2 dX9_worn_134
            · skip
              rw [nI_leI (by omega) (by omega)] at c59
              refine lv_aload_n gx gb dX9_worn_62 rfl (lv_at hl 5 rfl) ?_
              refine va_get (D := D) (ci := 4) (v := .ref ma) (C := RX9) (T := TX9) (N := 19) gx gb gts i9 gown hK hP 0 rfl rfl 2 (by decide) (gts (.fieldLink RX9 16 "SwanSumsModel" "numbers" "[I") (by decide +kernel)) (fun _ h9 => h9) rfl dX9_worn_63 ?_
              refine lv_iload_n gx gb dX9_worn_66 rfl (lv_at hl 6 rfl) ?_
              refine lv_iload gx gb dX9_worn_67 (lv_at hl 3 rfl) ?_
              refine va_iast gx gb hK hP hD hS 1 0 rfl rfl (vp_in_nI (n := s) (by omega) (by decide)) dX9_worn_69 (fun H locs hP hD hS => ?_)
              rw [aN_st (up num s u) v (by omega)] at hP hD
              have hP : va_P D vwCl (wM mo ma mb mc md me mf mg mh mi mj mk ml mn cI cZ n q c w q ev (up (up num s u) s v) plc sig pad (cpy plc row 7) dig far cfr cby que has img kep) H := hP
              have hD : va_D A (wM mo ma mb mc md me mf mg mh mi mj mk ml mn cI cZ n q c w q ev (up (up num s u) s v) plc sig pad (cpy plc row 7) dig far cfr cby que has img kep) := hD
              have e_num : (up (up num s u) s v) = (up num s v) := by rw [up_up]
              have hP : va_P D vwCl (wM mo ma mb mc md me mf mg mh mi mj mk ml mn cI cZ n q c w q ev (up num s v) plc sig pad (cpy plc row 7) dig far cfr cby que has img kep) H := by rw [← e_num]; exact hP
              have hD : va_D A (wM mo ma mb mc md me mf mg mh mi mj mk ml mn cI cZ n q c w q ev (up num s v) plc sig pad (cpy plc row 7) dig far cfr cby que has img kep) := by rw [← e_num]; exact hD
              refine lv_aload_n gx gb dX9_worn_70 rfl (lv_at hl 5 rfl) ?_
              refine lv_iload_n gx gb dX9_worn_71 rfl (lv_at hl 7 rfl) ?_
              have hun : ∀ x, x < n → up num s v x ≤ 99 := fun x hx => by simp only [up]; split; omega; exact hnum x hx
              have hPc := hP.sub (ws' := wM mo ma mb mc md me mf mg mh mi mj mk ml mn cI cZ n q c w q ev (up num s v) plc sig pad (cpy plc row 7) dig far cfr cby que has img kep) [0, 1, 2, 3, 4, 5, 6, 7, 8, 9, 10, 11, 12, 13] rfl
              refine vp_callSi (W.runV (As := [.int (nI k)]) (rest := []) ⟨gx, gb, gml, gown, gts⟩ (kX9_isTaught Gl D cI cJ cZ mo ma mb mc md me mf mg mh mi mj mk ml mn n q c w q ev (up num s v) plc sig pad (cpy plc row 7) dig far cfr cby que has img kep k (by omega) (by omega) (by omega) (by intro x hx; rw [cpy7 _ _ (by omega)]; have := hp x hx; omega) (by intro x hx; rw [cpy7 _ _ (by omega)]; exact hun _ (hp x hx))) (cwV 1 gts gX9_worn_X9_isTaught rfl rfl rfl (by decide +kernel) ⟨Nat.le_of_ble_eq_true rfl, Nat.le_of_ble_eq_true rfl⟩) ⟨fun a U g mk q => ⟨q.1, q.2.1, va_K.moved (u := U) (U := U.calling g mk a) (Vm.Alike.refl U.vm) q.2.2⟩, va_recv hK hPc (ci := 4) (q0 := 0) rfl rfl, fun U hU hW => ⟨rfl, by rw [hU]; exact hPc, va_K.moved hW.alike hK⟩⟩ rfl rfl hl.1 rfl (lv_room (Nat.le_of_ble_eq_true rfl)) dX9_worn_72 ⟨Nat.le_of_ble_eq_true rfl, Nat.le_of_ble_eq_true rfl⟩) (fun r hw => ?_)
              have hr72 := hw
              subst hr72
              refine lv_evi (bI (wnP num plc q k s v)) (congrArg bI (tau_cong (by omega) (fun x hx => by rw [cpy7 _ _ (by omega)]))) ?_
              refine lv_if_eq (tgt := 99) gx gb dX9_worn_75 (by decide) (fun c75 => ?_) (fun c75 => ?_)
              · skip
                rw [b0_eq] at c75
                refine lv_iinc (v := nI (v + 1)) (lv' := [(8, .int (nI (v + 1))), (5, .int (nI n_)), (6, .int (zI l_)), (7, .int (zI g_)), (4, .int (nI (num s))), (0, .ref mo), (1, .int (nI s)), (2, .int (nI k)), (3, .int (zI e_))]) gx gb dX9_worn_99 hl (k := 3) rfl (nI_add v 1) (by decide) rfl (fun ls hl => ?_)
                refine lv_goto (tgt := 55) gx gb dX9_worn_102 (by decide) ?_
                exact ih55 (v + 1) n_ l_ g_ v (by omega) (by first | exact wrn_f hW c75 | exact wrn_t hW c75 hxx) (by omega) _ _ hP hD hS ls (lv_sub hl [1, 2, 3, 0, 4, 5, 6, 7, 8] rfl)
              · skip
                rw [b0_eq] at c75
                have c75 := nf_t c75
                have L90 : ∀ (x : Int) (hxx : x = if n_ = 0 then ((v : Nat) : Int) else l_), ∀ (H : Heap) (locs : List Loc), va_P D vwCl (wM mo ma mb mc md me mf mg mh mi mj mk ml mn cI cZ n q c w q ev (up num s v) plc sig pad (cpy plc row 7) dig far cfr cby que has img kep) H → va_D A (wM mo ma mb mc md me mf mg mh mi mj mk ml mn cI cZ n q c w q ev (up num s v) plc sig pad (cpy plc row 7) dig far cfr cby que has img kep) → va_S A Gs.heap H locs → ∀ ls : Array Slot, lv_has ls 9 [(5, .int (nI n_)), (6, .int (zI l_)), (7, .int (zI g_)), (8, .int (nI v)), (4, .int (nI (num s))), (0, .ref mo), (1, .int (nI s)), (2, .int (nI k)), (3, .int (zI e_))] → W Gp Gl Ge (headSpec wsX9_worn ({ frames := 3, cells := 0, slots := 0, locals := 71 } : Room)).room Gs Gm ([.ref mo, .int (zI a), .int (zI b), .int (zI e_)] : List Value).toArray Gw Gt Gc H locs 0 0 (MQ Gw (va_Qi (fun (r : Int32) (u : (Nat → Nat) × (Nat)) => r = zI (worZ num plc q a b e_)) (fun (u : (Nat → Nat) × (Nat)) t => va_P D vwCl (wM mo ma mb mc md me mf mg mh mi mj mk ml mn cI cZ n q c w u.2 ev num plc sig pad u.1 dig far cfr cby que has img kep) t.heap ∧ va_K D vwCl [(cI, .int), (cJ, .long), (cZ, .boolean)] t ∧ va_D A (wM mo ma mb mc md me mf mg mh mi mj mk ml mn cI cZ n q c w u.2 ev num plc sig pad u.1 dig far cfr cby que has img kep)) A) ([.ref mo, .int (zI a), .int (zI b), .int (zI e_)] : List Value).toArray Gs 0 0 A) (F0 Gm 90 ls [.int (zI x)]) := by
                  intro x hxx H locs hP hD hS ls hl
                  refine lv_istore (lv' := [(6, .int (zI x)), (5, .int (nI n_)), (7, .int (zI g_)), (8, .int (nI v)), (4, .int (nI (num s))), (0, .ref mo), (1, .int (nI s)), (2, .int (nI k)), (3, .int (zI e_))]) gx gb dX9_worn_90 hl (by decide) rfl (fun ls hl => ?_)
                  refine lv_iload gx gb dX9_worn_92 (lv_at hl 3 rfl) ?_
                  refine lv_evi (zI ((v : Nat) : Int)) (nI_zc v) ?_
                  refine lv_istore (lv' := [(7, .int (zI ((v : Nat) : Int))), (6, .int (zI x)), (5, .int (nI n_)), (8, .int (nI v)), (4, .int (nI (num s))), (0, .ref mo), (1, .int (nI s)), (2, .int (nI k)), (3, .int (zI e_))]) gx gb dX9_worn_94 hl (by decide) rfl (fun ls hl => ?_)
                  refine lv_iinc (v := nI (n_ + 1)) (lv' := [(5, .int (nI (n_ + 1))), (7, .int (zI ((v : Nat) : Int))), (6, .int (zI x)), (8, .int (nI v)), (4, .int (nI (num s))), (0, .ref mo), (1, .int (nI s)), (2, .int (nI k)), (3, .int (zI e_))]) gx gb dX9_worn_96 hl (k := 2) rfl (nI_add n_ 1) (by decide) rfl (fun ls hl => ?_)
                  refine lv_iinc (v := nI (v + 1)) (lv' := [(8, .int (nI (v + 1))), (5, .int (nI (n_ + 1))), (7, .int (zI ((v : Nat) : Int))), (6, .int (zI x)), (4, .int (nI (num s))), (0, .ref mo), (1, .int (nI s)), (2, .int (nI k)), (3, .int (zI e_))]) gx gb dX9_worn_99 hl (k := 3) rfl (nI_add v 1) (by decide) rfl (fun ls hl => ?_)
                  refine lv_goto (tgt := 55) gx gb dX9_worn_102 (by decide) ?_
                  exact ih55 (v + 1) (n_ + 1) x ((v : Nat) : Int) v (by omega) (by first | exact wrn_f hW c75 | exact wrn_t hW c75 hxx) (by omega) _ _ hP hD hS ls (lv_sub hl [1, 3, 2, 0, 4, 5, 6, 7, 8] rfl)
                refine lv_iload gx gb dX9_worn_78 (lv_at hl 0 rfl) ?_
                refine lv_if_ne (tgt := 88) gx gb dX9_worn_80 (by decide) (fun c80 => ?_) (fun c80 => ?_)
                · skip
                  rw [n0_eq (by omega)] at c80
                  refine lv_iload gx gb dX9_worn_88 (lv_at hl 1 rfl) ?_
                  exact L90 l_ (by first | rw [if_pos (by omega)] | rw [if_neg (by omega)]) _ _ hP hD hS ls (lv_sub hl [0, 1, 2, 3, 4, 5, 6, 7, 8] rfl)
                · skip
                  rw [n0_eq (by omega)] at c80
                  refine lv_iload gx gb dX9_worn_83 (lv_at hl 3 rfl) ?_
                  refine lv_goto (tgt := 90) gx gb dX9_worn_85 (by decide) ?_
                  refine lv_evs [.int (zI ((v : Nat) : Int))] (by simp only [nI_zc]) ?_
                  exact L90 ((v : Nat) : Int) (by first | rw [if_pos (by omega)] | rw [if_neg (by omega)]) _ _ hP hD hS ls (lv_sub hl [0, 1, 2, 3, 4, 5, 6, 7, 8] rfl)
        rw [← up_self num s] at hP hD
        exact L55 _ 0 0 (-6) (-6) (num s) (by omega) (by rfl) (Nat.lt_succ_self _) _ _ hP hD hS ls (lv_sub hl [3, 2, 1, 0, 4, 5, 6, 7, 8] rfl)
      · skip
        rw [b0_eq] at c23
        simp only [decide_eq_false_iff_not, Decidable.not_not] at c23
        refine lv_bipush (v := zI (-2)) gx gb dX9_worn_26 (by decide) ?_
        exact W.iret (v := zI (-2)) gx gb gr (fun t ht hW => ⟨⟨zI (-2), (row, z), rfl, (by first | (dsimp only; done) | ((try dsimp only); rw [worZ, if_pos c5, if_neg (by omega)])), by rw [ht]; exact hP, va_K.moved hW.alike hK, hD⟩, hS.F ht⟩) hS.2.2 dX9_worn_28
  · skip
    rw [b0_eq] at c5
    simp only [decide_eq_false_iff_not, Decidable.not_not] at c5
    refine lv_iconst (v := zI (-1)) gx gb dX9_worn_8 (by decide) ?_
    exact W.iret (v := zI (-1)) gx gb gr (fun t ht hW => ⟨⟨zI (-1), (row, z), rfl, (by first | (dsimp only; done) | ((try dsimp only); rw [worZ, if_neg c5])), by rw [ht]; exact hP, va_K.moved hW.alike hK, hD⟩, hS.F ht⟩) hS.2.2 dX9_worn_9

set_option maxHeartbeats 4000000 in
set_option maxRecDepth 100000 in
theorem kX9_read (Gl : Launch) (D : va_G) (cI cJ cZ : ClassId) (mo : Nat) (ma : Nat) (mb : Nat) (mc : Nat) (md : Nat) (me : Nat) (mf : Nat) (mg : Nat) (mh : Nat) (mi : Nat) (mj : Nat) (mk : Nat) (ml : Nat) (mn : Nat) (n : Nat) (q : Nat) (c : Nat) (w : Nat) (z : Nat) (ev : Nat) (num : Nat → Nat) (plc : Nat → Nat) (sig : Nat → Nat) (pad : Nat → Nat) (row : Nat → Nat) (dig : Nat → Nat) (far : Nat → Int32) (cfr : Nat → Nat) (cby : Nat → Nat) (que : Nat → Nat) (has : Nat → Nat) (img : Nat → Nat) (kep : Nat → Nat) (sz : Nat) (a b : Int) (hl_a : -2147483648 ≤ a) (hu_a : a < 2147483648) (hl_b : -2147483648 ≤ b) (hu_b : b < 2147483648) (hn1 : 1 ≤ n) (hn7 : n ≤ 7) (hq1 : 1 ≤ q) (hqn : q ≤ n) (hp : ∀ k, k < q → plc k < n) (hnum : ∀ k, k < n → num k ≤ 99) : Met Gl yX9_read wsX9_read ({ frames := 2, cells := 0, slots := 0, locals := 45 } : Room) (va_Pc [.ref mo, .int (zI a), .int (zI b)] (fun U => U.heap.size = sz ∧ va_P D vwCl (wM mo ma mb mc md me mf mg mh mi mj mk ml mn cI cZ n q c w z ev num plc sig pad row dig far cfr cby que has img kep) U.heap ∧ va_K D vwCl [(cI, .int), (cJ, .long), (cZ, .boolean)] U ∧ va_D (fun _ => True) (wM mo ma mb mc md me mf mg mh mi mj mk ml mn cI cZ n q c w z ev num plc sig pad row dig far cfr cby que has img kep))) (va_Qi (fun (r : Int32) (u : (Nat → Nat) × (Nat)) => ∃ zz : Int, r = zI zz ∧ rdZ (fun x => num (plc x)) q a b zz) (fun (u : (Nat → Nat) × (Nat)) t => va_P D vwCl (wM mo ma mb mc md me mf mg mh mi mj mk ml mn cI cZ n q c w u.2 ev num plc sig pad u.1 dig far cfr cby que has img kep) t.heap ∧ va_K D vwCl [(cI, .int), (cJ, .long), (cZ, .boolean)] t ∧ va_D (va_A (wM mo ma mb mc md me mf mg mh mi mj mk ml mn cI cZ n q c w z ev num plc sig pad row dig far cfr cby que has img kep) sz) (wM mo ma mb mc md me mf mg mh mi mj mk ml mn cI cZ n q c w u.2 ev num plc sig pad u.1 dig far cfr cby que has img kep)) (va_A (wM mo ma mb mc md me mf mg mh mi mj mk ml mn cI cZ n q c w z ev num plc sig pad row dig far cfr cby que has img kep) sz)) 0 0 (va_A (wM mo ma mb mc md me mf mg mh mi mj mk ml mn cI cZ n q c w z ev num plc sig pad row dig far cfr cby que has img kep) sz) := by
  refine Met.ofW (cc := cX9_read) (maxL := 8) (ret := (some .int)) (by decide +kernel) rfl ?_
  intro Gp Ge Gs Gm Ga Gw Gt Gc G1 Bd gml gv
  obtain ⟨rfl, hsz, hP, hK, hD0⟩ := gv
  have gx := Bd.exec
  have gb := Bd.bytes
  have gr := Bd.returns
  have gts := atoms_spec (ws := wsX9_read) Bd.pre
  have gown : Gs.vm.findClass RX9 = some Gm.cls := findClass_of_methodNamed Bd.named
  have glk := Bd.notSynchronized
  subst hsz
  have hD := hD0.self (sz := Gs.heap.size)
  generalize hAe : va_A (wM mo ma mb mc md me mf mg mh mi mj mk ml mn cI cZ n q c w z ev num plc sig pad row dig far cfr cby que has img kep) Gs.heap.size = A at hD ⊢
  have hA : ∀ q : Nat, Gs.heap.size ≤ q → A q := fun q h => by rw [← hAe]; exact Or.inr h
  have hS : va_S A Gs.heap Gs.heap [] := va_S.rf
  have hP : va_P D vwCl (wM mo ma mb mc md me mf mg mh mi mj mk ml mn cI cZ n q c w z ev num plc sig pad row dig far cfr cby que has img kep) Gs.heap := hP
  have hl := lv_entry ([.ref mo, .int (zI a), .int (zI b)]) (n := 8) (Nat.le_of_ble_eq_true rfl)
  rw [lg_entry_eq]
  generalize (lg_sl ([.ref mo, .int (zI a), .int (zI b)]) ++ List.replicate (8 - (lg_sl ([.ref mo, .int (zI a), .int (zI b)])).length) Slot.unset).toArray = ls at hl ⊢
  have hl : lv_has ls 8 [(0, .ref mo), (1, .int (zI a)), (2, .int (zI b))] := hl
  have i9 : ∀ w ∈ wsX90, w ∈ wsX9_read := by decide +kernel
  refine lv_iload_n gx gb dX9_read_0 rfl (lv_at hl 1 rfl) ?_
  refine lv_iconst (v := nI 0) gx gb dX9_read_1 (by decide) ?_
  refine lv_sipush (v := nI 693) gx gb dX9_read_2 (by decide) ?_
  refine lv_evs [.int (zI ((693 : Nat) : Int)), .int (zI ((0 : Nat) : Int)), .int (zI a)] (by simp only [nI_zc]) ?_
  refine vp_callSi (W.runS (As := [.int (zI a), .int (zI ((0 : Nat) : Int)), .int (zI ((693 : Nat) : Int))]) (rest := []) ⟨gx, gb, gml, gown, gts⟩ (kX9_in Gl a ((0 : Nat) : Int) ((693 : Nat) : Int) (by omega) (by omega) (by omega) (by omega) (by omega) (by omega)) (va_cwS 3 gts gX9_read_X9_in rfl rfl rfl (by decide +kernel) ⟨Nat.le_of_ble_eq_true rfl, Nat.le_of_ble_eq_true rfl⟩) ⟨fun _ _ _ _ h => h, fun U hU hW => ⟨rfl, trivial⟩⟩ rfl rfl hl.1 rfl (lv_room (Nat.le_of_ble_eq_true rfl)) dX9_read_5 ⟨Nat.le_of_ble_eq_true rfl, Nat.le_of_ble_eq_true rfl⟩) (fun r hw => ?_)
  have hr5 := hw
  subst hr5
  refine lv_if_eq (tgt := 20) gx gb dX9_read_8 (by decide) (fun c8 => ?_) (fun c8 => ?_)
  · skip
    rw [b0_eq] at c8
    simp only [decide_eq_false_iff_not, Decidable.not_not] at c8
    refine lv_bipush (v := zI (-2)) gx gb dX9_read_20 (by decide) ?_
    exact W.iret (v := zI (-2)) gx gb gr (fun t ht hW => ⟨⟨zI (-2), (row, z), rfl, (by first | (dsimp only; done) | ((try dsimp only); exact ⟨-2, rfl, by rw [rdZ, if_neg (by omega)]⟩)), by rw [ht]; exact hP, va_K.moved hW.alike hK, hD⟩, hS.F ht⟩) hS.2.2 dX9_read_22
  · skip
    rw [b0_eq] at c8
    simp only [decide_eq_false_iff_not, Decidable.not_not] at c8
    refine lv_iload_n gx gb dX9_read_11 rfl (lv_at hl 2 rfl) ?_
    refine lv_iconst (v := nI 0) gx gb dX9_read_12 (by decide) ?_
    refine lv_iconst (v := nI 2) gx gb dX9_read_13 (by decide) ?_
    refine lv_evs [.int (zI ((2 : Nat) : Int)), .int (zI ((0 : Nat) : Int)), .int (zI b)] (by simp only [nI_zc]) ?_
    refine vp_callSi (W.runS (As := [.int (zI b), .int (zI ((0 : Nat) : Int)), .int (zI ((2 : Nat) : Int))]) (rest := []) ⟨gx, gb, gml, gown, gts⟩ (kX9_in Gl b ((0 : Nat) : Int) ((2 : Nat) : Int) (by omega) (by omega) (by omega) (by omega) (by omega) (by omega)) (va_cwS 3 gts gX9_read_X9_in rfl rfl rfl (by decide +kernel) ⟨Nat.le_of_ble_eq_true rfl, Nat.le_of_ble_eq_true rfl⟩) ⟨fun _ _ _ _ h => h, fun U hU hW => ⟨rfl, trivial⟩⟩ rfl rfl hl.1 rfl (lv_room (Nat.le_of_ble_eq_true rfl)) dX9_read_14 ⟨Nat.le_of_ble_eq_true rfl, Nat.le_of_ble_eq_true rfl⟩) (fun r hw => ?_)
    have hr14 := hw
    subst hr14
    refine lv_if_ne (tgt := 23) gx gb dX9_read_17 (by decide) (fun c17 => ?_) (fun c17 => ?_)
    · skip
      rw [b0_eq] at c17
      simp only [decide_eq_false_iff_not, Decidable.not_not] at c17
      refine lv_aload_n gx gb dX9_read_23 rfl (lv_at hl 0 rfl) ?_
      have hPc := hP.sub (ws' := wM mo ma mb mc md me mf mg mh mi mj mk ml mn cI cZ n q c w z ev num plc sig pad row dig far cfr cby que has img kep) [0, 1, 2, 3, 4, 5, 6, 7, 8, 9, 10, 11, 12, 13] rfl
      have hDc := hD.sub (ws' := wM mo ma mb mc md me mf mg mh mi mj mk ml mn cI cZ n q c w z ev num plc sig pad row dig far cfr cby que has img kep) [0, 1, 2, 3, 4, 5, 6, 7, 8, 9, 10, 11, 12, 13] (by decide) rfl
      have hFc := va_free (wc := wM mo ma mb mc md me mf mg mh mi mj mk ml mn cI cZ n q c w z ev num plc sig pad row dig far cfr cby que has img kep) hD hS hA [0, 1, 2, 3, 4, 5, 6, 7, 8, 9, 10, 11, 12, 13] rfl
      refine va_callv (va_runV (As := []) (rest := []) ⟨gx, gb, gml, gown, gts⟩ (kX9_asNow Gl D cI cJ cZ mo ma mb mc md me mf mg mh mi mj mk ml mn n q c w z ev num plc sig pad row dig far cfr cby que has img kep _  ) (cwV 0 gts gX9_read_X9_asNow rfl rfl rfl (by decide +kernel) ⟨Nat.le_of_ble_eq_true rfl, Nat.le_of_ble_eq_true rfl⟩) ⟨fun a U g mk q => by obtain ⟨q0, q1, qP, qK, qD⟩ := q; exact ⟨q0, q1, qP, va_K.moved (u := U) (U := U.calling g mk a) (Vm.Alike.refl U.vm) qK, qD⟩, va_recv hK hPc (ci := 4) (q0 := 0) rfl rfl, fun U hU hW => ⟨rfl, by rw [hU], by rw [hU]; exact hPc, va_K.moved hW.alike hK, hDc.weaken (fun _ _ _ _ => trivial)⟩⟩ rfl rfl hl.1 rfl (lv_room (Nat.le_of_ble_eq_true rfl)) dX9_read_24 ⟨Nat.le_of_ble_eq_true rfl, Nat.le_of_ble_eq_true rfl⟩) hS (fun q _ h => hFc q h) hFc (fun u t H1 locs ht hvm hw hB hz1 hk1 hS => ?_)
      obtain ⟨hP1, hK1, hD1⟩ := hB
      rw [ht] at hP1
      try dsimp only at hw
      try dsimp only at hP1
      try dsimp only at hD1
      have hK := va_K.moved hvm.symm hK1
      obtain ⟨hP, hD⟩ := va_join (wr := []) (w1 := wM mo ma mb mc md me mf mg mh mi mj mk ml mn cI cZ n q c w q ev num plc sig pad (cpy plc row 7) dig far cfr cby que has img kep) hP hD [0, 1, 2, 3, 4, 5, 6, 7, 8, 9, 10, 11, 12, 13] [] rfl rfl (by decide) (by decide) hk1 hFc hP1 hD1
      have hP := hP.sub (ws' := wM mo ma mb mc md me mf mg mh mi mj mk ml mn cI cZ n q c w q ev num plc sig pad (cpy plc row 7) dig far cfr cby que has img kep) [0, 1, 2, 3, 4, 5, 6, 7, 8, 9, 10, 11, 12, 13] rfl
      have hD := hD.sub (ws' := wM mo ma mb mc md me mf mg mh mi mj mk ml mn cI cZ n q c w q ev num plc sig pad (cpy plc row 7) dig far cfr cby que has img kep) [0, 1, 2, 3, 4, 5, 6, 7, 8, 9, 10, 11, 12, 13] (by decide) rfl
      have hK := va_K.moved (Vm.Alike.refl Gs.vm) hK
      generalize H1 = H at hP hS ⊢
      obtain ⟨s, hs⟩ : ∃ s : Nat, a = (s : Int) := ⟨a.toNat, by omega⟩
      rw [show zI a = nI s from by rw [hs, zI_nat]] at hl
      have hl : lv_has ls 8 [(0, .ref mo), (1, .int (nI s)), (2, .int (zI b))] := hl
      refine lv_iconst (v := nI 0) gx gb dX9_read_27 (by decide) ?_
      refine lv_istore_n (lv' := [(3, .int (nI 0)), (0, .ref mo), (1, .int (nI s)), (2, .int (zI b))]) gx gb dX9_read_28 rfl hl (by decide) rfl (fun ls hl => ?_)
      refine lv_bipush (v := zI (-6)) gx gb dX9_read_29 (by decide) ?_
      refine lv_istore (lv' := [(4, .int (zI (-6))), (3, .int (nI 0)), (0, .ref mo), (1, .int (nI s)), (2, .int (zI b))]) gx gb dX9_read_31 hl (by decide) rfl (fun ls hl => ?_)
      refine lv_bipush (v := zI (-6)) gx gb dX9_read_33 (by decide) ?_
      refine lv_istore (lv' := [(5, .int (zI (-6))), (4, .int (zI (-6))), (3, .int (nI 0)), (0, .ref mo), (1, .int (nI s)), (2, .int (zI b))]) gx gb dX9_read_35 hl (by decide) rfl (fun ls hl => ?_)
      refine lv_iconst (v := nI 0) gx gb dX9_read_37 (by decide) ?_
      refine lv_istore (lv' := [(6, .int (nI 0)), (5, .int (zI (-6))), (4, .int (zI (-6))), (3, .int (nI 0)), (0, .ref mo), (1, .int (nI s)), (2, .int (zI b))]) gx gb dX9_read_38 hl (by decide) rfl (fun ls hl => ?_)
      have L40 : ∀ fu : Nat, ∀ (i n_ : Nat) (F_ S_ : Int) (hi : i ≤ q) (hR : rdv (fun x => num (plc x)) s q i 0 n_ F_ S_), (q - i) < fu → ∀ (H : Heap) (locs : List Loc), va_P D vwCl (wM mo ma mb mc md me mf mg mh mi mj mk ml mn cI cZ n q c w q ev num plc sig pad (cpy plc row 7) dig far cfr cby que has img kep) H → va_D A (wM mo ma mb mc md me mf mg mh mi mj mk ml mn cI cZ n q c w q ev num plc sig pad (cpy plc row 7) dig far cfr cby que has img kep) → va_S A Gs.heap H locs → ∀ ls : Array Slot, lv_has ls 8 [(3, .int (nI n_)), (4, .int (zI F_)), (5, .int (zI S_)), (6, .int (nI i)), (0, .ref mo), (1, .int (nI s)), (2, .int (zI b))] → W Gp Gl Ge (headSpec wsX9_read ({ frames := 2, cells := 0, slots := 0, locals := 45 } : Room)).room Gs Gm ([.ref mo, .int (zI a), .int (zI b)] : List Value).toArray Gw Gt Gc H locs 0 0 (MQ Gw (va_Qi (fun (r : Int32) (u : (Nat → Nat) × (Nat)) => ∃ zz : Int, r = zI zz ∧ rdZ (fun x => num (plc x)) q a b zz) (fun (u : (Nat → Nat) × (Nat)) t => va_P D vwCl (wM mo ma mb mc md me mf mg mh mi mj mk ml mn cI cZ n q c w u.2 ev num plc sig pad u.1 dig far cfr cby que has img kep) t.heap ∧ va_K D vwCl [(cI, .int), (cJ, .long), (cZ, .boolean)] t ∧ va_D A (wM mo ma mb mc md me mf mg mh mi mj mk ml mn cI cZ n q c w u.2 ev num plc sig pad u.1 dig far cfr cby que has img kep)) A) ([.ref mo, .int (zI a), .int (zI b)] : List Value).toArray Gs 0 0 A) (F0 Gm 40 ls []) := by
        intro fu
        induction fu with
        | zero => intro i n_ F_ S_ hi hR hfu; exact absurd hfu (Nat.not_lt_zero _)
        | succ fu ih40 =>
          intro i n_ F_ S_ hi hR hfu H locs hP hD hS ls hl
          have hrb0 := rdv_bd hR (by omega)
          refine lv_iload gx gb dX9_read_40 (lv_at hl 3 rfl) ?_
          refine lv_aload_n gx gb dX9_read_42 rfl (lv_at hl 4 rfl) ?_
          refine va_get (D := D) (ci := 4) (v := .int (nI q)) (C := RX9) (T := TX9) (N := 19) gx gb gts i9 gown hK hP 0 rfl rfl 9 (by decide) (gts (.fieldLink RX9 81 "SwanSumsModel" "size" "I") (by decide +kernel)) (fun _ h9 => h9) rfl dX9_read_43 ?_
          refine lv_icmp_ge (tgt := 130) gx gb dX9_read_46 (by decide) (fun c46 => ?_) (fun c46 => ?_)
          · skip
            rw [nI_leI (by omega) (by omega)] at c46
            refine lv_iload_n gx gb dX9_read_130 rfl (lv_at hl 6 rfl) ?_
            refine lv_if_ne (tgt := 138) gx gb dX9_read_131 (by decide) (fun c131 => ?_) (fun c131 => ?_)
            · skip
              rw [z0_eq (by omega) (by omega)] at c131
              refine lv_iload_n gx gb dX9_read_138 rfl (lv_at hl 6 rfl) ?_
              refine lv_iconst (v := nI 1) gx gb dX9_read_139 (by decide) ?_
              refine lv_icmp_ne (tgt := 148) gx gb dX9_read_140 (by decide) (fun c140 => ?_) (fun c140 => ?_)
              · skip
                rw [zn_eq (by omega) (by omega) (by omega)] at c140
                refine lv_iload gx gb dX9_read_148 (lv_at hl 2 rfl) ?_
                exact W.iret (v := zI S_) gx gb gr (fun t ht hW => ⟨⟨zI S_, (cpy plc row 7, q), rfl, (by first | (dsimp only; done) | ((try dsimp only); obtain ⟨h1, h2, h3⟩ := rdv_e hR (by omega); first | exact ⟨((n_ : Nat) : Int), (zI_nat _).symm, by rw [rdZ, if_pos (by omega), if_pos (by omega), hs, h1]; rfl⟩ | exact ⟨F_, rfl, by rw [rdZ, if_pos (by omega), if_neg (by omega), if_pos (by omega), hs]; exact h2⟩ | exact ⟨S_, rfl, by rw [rdZ, if_pos (by omega), if_neg (by omega), if_neg (by omega), hs]; exact h3⟩)), by rw [ht]; exact hP, va_K.moved hW.alike hK, hD⟩, hS.F ht⟩) hS.2.2 dX9_read_150
              · skip
                rw [zn_eq (by omega) (by omega) (by omega)] at c140
                refine lv_iload gx gb dX9_read_143 (lv_at hl 1 rfl) ?_
                refine lv_goto (tgt := 150) gx gb dX9_read_145 (by decide) ?_
                exact W.iret (v := zI F_) gx gb gr (fun t ht hW => ⟨⟨zI F_, (cpy plc row 7, q), rfl, (by first | (dsimp only; done) | ((try dsimp only); obtain ⟨h1, h2, h3⟩ := rdv_e hR (by omega); first | exact ⟨((n_ : Nat) : Int), (zI_nat _).symm, by rw [rdZ, if_pos (by omega), if_pos (by omega), hs, h1]; rfl⟩ | exact ⟨F_, rfl, by rw [rdZ, if_pos (by omega), if_neg (by omega), if_pos (by omega), hs]; exact h2⟩ | exact ⟨S_, rfl, by rw [rdZ, if_pos (by omega), if_neg (by omega), if_neg (by omega), hs]; exact h3⟩)), by rw [ht]; exact hP, va_K.moved hW.alike hK, hD⟩, hS.F ht⟩) hS.2.2 dX9_read_150
            · skip
              rw [z0_eq (by omega) (by omega)] at c131
              refine lv_iload_n gx gb dX9_read_134 rfl (lv_at hl 0 rfl) ?_
              refine lv_goto (tgt := 150) gx gb dX9_read_135 (by decide) ?_
              exact W.iret (v := nI n_) gx gb gr (fun t ht hW => ⟨⟨nI n_, (cpy plc row 7, q), rfl, (by first | (dsimp only; done) | ((try dsimp only); obtain ⟨h1, h2, h3⟩ := rdv_e hR (by omega); first | exact ⟨((n_ : Nat) : Int), (zI_nat _).symm, by rw [rdZ, if_pos (by omega), if_pos (by omega), hs, h1]; rfl⟩ | exact ⟨F_, rfl, by rw [rdZ, if_pos (by omega), if_neg (by omega), if_pos (by omega), hs]; exact h2⟩ | exact ⟨S_, rfl, by rw [rdZ, if_pos (by omega), if_neg (by omega), if_neg (by omega), hs]; exact h3⟩)), by rw [ht]; exact hP, va_K.moved hW.alike hK, hD⟩, hS.F ht⟩) hS.2.2 dX9_read_150
          · skip
            rw [nI_leI (by omega) (by omega)] at c46
            refine lv_iload gx gb dX9_read_49 (lv_at hl 3 rfl) ?_
            refine lv_iconst (v := nI 1) gx gb dX9_read_51 (by decide) ?_
            refine lv_iadd gx gb dX9_read_52 ?_
            refine lv_evi (nI (i + 1)) (nI_add i 1) ?_
            refine lv_istore (lv' := [(7, .int (nI (i + 1))), (3, .int (nI n_)), (4, .int (zI F_)), (5, .int (zI S_)), (6, .int (nI i)), (0, .ref mo), (1, .int (nI s)), (2, .int (zI b))]) gx gb dX9_read_53 hl (by decide) rfl (fun ls hl => ?_)
            have L55 : ∀ fu : Nat, ∀ (j m_ : Nat) (F2 S2 : Int) (hj : i + j ≤ q) (hR2 : rdv (fun x => num (plc x)) s q i j m_ F2 S2), (q - (i + j)) < fu → ∀ (H : Heap) (locs : List Loc), va_P D vwCl (wM mo ma mb mc md me mf mg mh mi mj mk ml mn cI cZ n q c w q ev num plc sig pad (cpy plc row 7) dig far cfr cby que has img kep) H → va_D A (wM mo ma mb mc md me mf mg mh mi mj mk ml mn cI cZ n q c w q ev num plc sig pad (cpy plc row 7) dig far cfr cby que has img kep) → va_S A Gs.heap H locs → ∀ ls : Array Slot, lv_has ls 8 [(3, .int (nI m_)), (4, .int (zI F2)), (5, .int (zI S2)), (6, .int (nI i)), (7, .int (nI (i + (j + 1)))), (0, .ref mo), (1, .int (nI s)), (2, .int (zI b))] → W Gp Gl Ge (headSpec wsX9_read ({ frames := 2, cells := 0, slots := 0, locals := 45 } : Room)).room Gs Gm ([.ref mo, .int (zI a), .int (zI b)] : List Value).toArray Gw Gt Gc H locs 0 0 (MQ Gw (va_Qi (fun (r : Int32) (u : (Nat → Nat) × (Nat)) => ∃ zz : Int, r = zI zz ∧ rdZ (fun x => num (plc x)) q a b zz) (fun (u : (Nat → Nat) × (Nat)) t => va_P D vwCl (wM mo ma mb mc md me mf mg mh mi mj mk ml mn cI cZ n q c w u.2 ev num plc sig pad u.1 dig far cfr cby que has img kep) t.heap ∧ va_K D vwCl [(cI, .int), (cJ, .long), (cZ, .boolean)] t ∧ va_D A (wM mo ma mb mc md me mf mg mh mi mj mk ml mn cI cZ n q c w u.2 ev num plc sig pad u.1 dig far cfr cby que has img kep)) A) ([.ref mo, .int (zI a), .int (zI b)] : List Value).toArray Gs 0 0 A) (F0 Gm 55 ls []) := by
              intro fu
              induction fu with
              | zero => intro j m_ F2 S2 hj hR2 hfu; exact absurd hfu (Nat.not_lt_zero _)
              | succ fu ih55 =>
                intro j m_ F2 S2 hj hR2 hfu H locs hP hD hS ls hl
                have hrb := rdv_bd hR2 (by omega)
                refine lv_iload gx gb dX9_read_55 (lv_at hl 4 rfl) ?_
                refine lv_aload_n gx gb dX9_read_57 rfl (lv_at hl 5 rfl) ?_
                refine va_get (D := D) (ci := 4) (v := .int (nI q)) (C := RX9) (T := TX9) (N := 19) gx gb gts i9 gown hK hP 0 rfl rfl 9 (by decide) (gts (.fieldLink RX9 81 "SwanSumsModel" "size" "I") (by decide +kernel)) (fun _ h9 => h9) rfl dX9_read_58 ?_
                refine lv_icmp_gt (tgt := 124) gx gb dX9_read_61 (by decide) (fun c61 => ?_) (fun c61 => ?_)
                · skip
                  rw [nI_ltI (by omega) (by omega)] at c61
                  refine lv_iinc (v := nI (i + 1)) (lv' := [(6, .int (nI (i + 1))), (3, .int (nI m_)), (4, .int (zI F2)), (5, .int (zI S2)), (7, .int (nI (i + (j + 1)))), (0, .ref mo), (1, .int (nI s)), (2, .int (zI b))]) gx gb dX9_read_124 hl (k := 3) rfl (nI_add i 1) (by decide) rfl (fun ls hl => ?_)
                  refine lv_goto (tgt := 40) gx gb dX9_read_127 (by decide) ?_
                  exact ih40 (i + 1) m_ F2 S2 (by omega) (by exact rdv_nx hR2 (by omega) (by omega)) (by omega) _ _ hP hD hS ls (lv_sub hl [1, 2, 3, 0, 5, 6, 7] rfl)
                · skip
                  rw [nI_ltI (by omega) (by omega)] at c61
                  refine lv_aload_n gx gb dX9_read_64 rfl (lv_at hl 5 rfl) ?_
                  refine lv_iload gx gb dX9_read_65 (lv_at hl 3 rfl) ?_
                  refine lv_iload gx gb dX9_read_67 (lv_at hl 4 rfl) ?_
                  have hsm := sm_le (v := (fun x => num (plc x))) (a := i) (c := 99) (n := j + 1) (fun x hx => hnum _ (hp _ (by omega)))
                  have hPc := hP.sub (ws' := wM mo ma mb mc md me mf mg mh mi mj mk ml mn cI cZ n q c w q ev num plc sig pad (cpy plc row 7) dig far cfr cby que has img kep) [0, 1, 2, 3, 4, 5, 6, 7, 8, 9, 10, 11, 12, 13] rfl
                  refine vp_callSi (W.runV (As := [.int (nI i), .int (nI (i + (j + 1)))]) (rest := []) ⟨gx, gb, gml, gown, gts⟩ (kX9_sumOf Gl D cI cJ cZ mo ma mb mc md me mf mg mh mi mj mk ml mn n q c w q ev num plc sig pad (cpy plc row 7) dig far cfr cby que has img kep i (i + (j + 1)) (by omega) (by omega) (by intro x hx; rw [cpy7 _ _ (by omega)]; have := hp x (by omega); omega)) (cwV 2 gts gX9_read_X9_sumOf rfl rfl rfl (by decide +kernel) ⟨Nat.le_of_ble_eq_true rfl, Nat.le_of_ble_eq_true rfl⟩) ⟨fun a U g mk q => ⟨q.1, q.2.1, va_K.moved (u := U) (U := U.calling g mk a) (Vm.Alike.refl U.vm) q.2.2⟩, va_recv hK hPc (ci := 4) (q0 := 0) rfl rfl, fun U hU hW => ⟨rfl, by rw [hU]; exact hPc, va_K.moved hW.alike hK⟩⟩ rfl rfl hl.1 rfl (lv_room (Nat.le_of_ble_eq_true rfl)) dX9_read_69 ⟨Nat.le_of_ble_eq_true rfl, Nat.le_of_ble_eq_true rfl⟩) (fun r hw => ?_)
                  have hr69 := hw
                  subst hr69
                  refine lv_evi (nI (sm (fun x => num (plc x)) i (j + 1))) (congrArg nI (by rw [Nat.add_sub_cancel_left]; exact sm_cong (fun x hx => by rw [cpy7 _ _ (by omega)]))) ?_
                  refine lv_iload_n gx gb dX9_read_72 rfl (lv_at hl 6 rfl) ?_
                  refine lv_icmp_ne (tgt := 118) gx gb dX9_read_73 (by decide) (fun c73 => ?_) (fun c73 => ?_)
                  · skip
                    rw [nI_eq (by omega) (by omega)] at c73
                    refine lv_iinc (v := nI (i + (j + 1) + 1)) (lv' := [(7, .int (nI (i + (j + 1) + 1))), (3, .int (nI m_)), (4, .int (zI F2)), (5, .int (zI S2)), (6, .int (nI i)), (0, .ref mo), (1, .int (nI s)), (2, .int (zI b))]) gx gb dX9_read_118 hl (k := 4) rfl (nI_add (i + (j + 1)) 1) (by decide) rfl (fun ls hl => ?_)
                    refine lv_goto (tgt := 55) gx gb dX9_read_121 (by decide) ?_
                    exact ih55 (j + 1) m_ F2 S2 (by omega) (by first | exact rdv_no hR2 c73 | exact rdv_yes hR2 (by omega) c73 hFx hSx) (by omega) _ _ hP hD hS ls (lv_sub hl [1, 2, 3, 4, 0, 5, 6, 7] rfl)
                  · skip
                    rw [nI_eq (by omega) (by omega)] at c73
                    have L87 : ∀ (x : Int) (hFx : x = if m_ = 0 then ((i : Nat) : Int) else F2), ∀ (H : Heap) (locs : List Loc), va_P D vwCl (wM mo ma mb mc md me mf mg mh mi mj mk ml mn cI cZ n q c w q ev num plc sig pad (cpy plc row 7) dig far cfr cby que has img kep) H → va_D A (wM mo ma mb mc md me mf mg mh mi mj mk ml mn cI cZ n q c w q ev num plc sig pad (cpy plc row 7) dig far cfr cby que has img kep) → va_S A Gs.heap H locs → ∀ ls : Array Slot, lv_has ls 8 [(3, .int (nI m_)), (4, .int (zI F2)), (5, .int (zI S2)), (6, .int (nI i)), (7, .int (nI (i + (j + 1)))), (0, .ref mo), (1, .int (nI s)), (2, .int (zI b))] → W Gp Gl Ge (headSpec wsX9_read ({ frames := 2, cells := 0, slots := 0, locals := 45 } : Room)).room Gs Gm ([.ref mo, .int (zI a), .int (zI b)] : List Value).toArray Gw Gt Gc H locs 0 0 (MQ Gw (va_Qi (fun (r : Int32) (u : (Nat → Nat) × (Nat)) => ∃ zz : Int, r = zI zz ∧ rdZ (fun x => num (plc x)) q a b zz) (fun (u : (Nat → Nat) × (Nat)) t => va_P D vwCl (wM mo ma mb mc md me mf mg mh mi mj mk ml mn cI cZ n q c w u.2 ev num plc sig pad u.1 dig far cfr cby que has img kep) t.heap ∧ va_K D vwCl [(cI, .int), (cJ, .long), (cZ, .boolean)] t ∧ va_D A (wM mo ma mb mc md me mf mg mh mi mj mk ml mn cI cZ n q c w u.2 ev num plc sig pad u.1 dig far cfr cby que has img kep)) A) ([.ref mo, .int (zI a), .int (zI b)] : List Value).toArray Gs 0 0 A) (F0 Gm 87 ls [.int (zI x)]) := by
                      intro x hFx H locs hP hD hS ls hl
                      refine lv_istore (lv' := [(4, .int (zI x)), (3, .int (nI m_)), (5, .int (zI S2)), (6, .int (nI i)), (7, .int (nI (i + (j + 1)))), (0, .ref mo), (1, .int (nI s)), (2, .int (zI b))]) gx gb dX9_read_87 hl (by decide) rfl (fun ls hl => ?_)
                      have L113 : ∀ (y : Int) (hSx : y = if m_ = 0 ∨ ((j + 1 : Nat) : Int) < S2 then ((j + 1 : Nat) : Int) else S2), ∀ (H : Heap) (locs : List Loc), va_P D vwCl (wM mo ma mb mc md me mf mg mh mi mj mk ml mn cI cZ n q c w q ev num plc sig pad (cpy plc row 7) dig far cfr cby que has img kep) H → va_D A (wM mo ma mb mc md me mf mg mh mi mj mk ml mn cI cZ n q c w q ev num plc sig pad (cpy plc row 7) dig far cfr cby que has img kep) → va_S A Gs.heap H locs → ∀ ls : Array Slot, lv_has ls 8 [(4, .int (zI x)), (3, .int (nI m_)), (5, .int (zI S2)), (6, .int (nI i)), (7, .int (nI (i + (j + 1)))), (0, .ref mo), (1, .int (nI s)), (2, .int (zI b))] → W Gp Gl Ge (headSpec wsX9_read ({ frames := 2, cells := 0, slots := 0, locals := 45 } : Room)).room Gs Gm ([.ref mo, .int (zI a), .int (zI b)] : List Value).toArray Gw Gt Gc H locs 0 0 (MQ Gw (va_Qi (fun (r : Int32) (u : (Nat → Nat) × (Nat)) => ∃ zz : Int, r = zI zz ∧ rdZ (fun x => num (plc x)) q a b zz) (fun (u : (Nat → Nat) × (Nat)) t => va_P D vwCl (wM mo ma mb mc md me mf mg mh mi mj mk ml mn cI cZ n q c w u.2 ev num plc sig pad u.1 dig far cfr cby que has img kep) t.heap ∧ va_K D vwCl [(cI, .int), (cJ, .long), (cZ, .boolean)] t ∧ va_D A (wM mo ma mb mc md me mf mg mh mi mj mk ml mn cI cZ n q c w u.2 ev num plc sig pad u.1 dig far cfr cby que has img kep)) A) ([.ref mo, .int (zI a), .int (zI b)] : List Value).toArray Gs 0 0 A) (F0 Gm 113 ls [.int (zI y)]) := by
                        intro y hSx H locs hP hD hS ls hl
                        refine lv_istore (lv' := [(5, .int (zI y)), (4, .int (zI x)), (3, .int (nI m_)), (6, .int (nI i)), (7, .int (nI (i + (j + 1)))), (0, .ref mo), (1, .int (nI s)), (2, .int (zI b))]) gx gb dX9_read_113 hl (by decide) rfl (fun ls hl => ?_)
                        refine lv_iinc (v := nI (m_ + 1)) (lv' := [(3, .int (nI (m_ + 1))), (5, .int (zI y)), (4, .int (zI x)), (6, .int (nI i)), (7, .int (nI (i + (j + 1)))), (0, .ref mo), (1, .int (nI s)), (2, .int (zI b))]) gx gb dX9_read_115 hl (k := 2) rfl (nI_add m_ 1) (by decide) rfl (fun ls hl => ?_)
                        refine lv_iinc (v := nI (i + (j + 1) + 1)) (lv' := [(7, .int (nI (i + (j + 1) + 1))), (3, .int (nI (m_ + 1))), (5, .int (zI y)), (4, .int (zI x)), (6, .int (nI i)), (0, .ref mo), (1, .int (nI s)), (2, .int (zI b))]) gx gb dX9_read_118 hl (k := 4) rfl (nI_add (i + (j + 1)) 1) (by decide) rfl (fun ls hl => ?_)
                        refine lv_goto (tgt := 55) gx gb dX9_read_121 (by decide) ?_
                        exact ih55 (j + 1) (m_ + 1) x y (by omega) (by first | exact rdv_no hR2 c73 | exact rdv_yes hR2 (by omega) c73 hFx hSx) (by omega) _ _ hP hD hS ls (lv_sub hl [1, 3, 2, 4, 0, 5, 6, 7] rfl)
                      refine lv_iload_n gx gb dX9_read_89 rfl (lv_at hl 1 rfl) ?_
                      refine lv_if_eq (tgt := 103) gx gb dX9_read_90 (by decide) (fun c90 => ?_) (fun c90 => ?_)
                      · skip
                        rw [n0_eq (by omega)] at c90
                        refine lv_iload gx gb dX9_read_103 (lv_at hl 4 rfl) ?_
                        refine lv_iload gx gb dX9_read_105 (lv_at hl 3 rfl) ?_
                        refine lv_isub gx gb dX9_read_107 ?_
                        refine lv_evi (nI ((i + (j + 1)) - i)) (e_sub (by omega)) ?_
                        refine lv_goto (tgt := 113) gx gb dX9_read_108 (by decide) ?_
                        refine lv_evs [.int (zI (((i + (j + 1)) - i : Nat) : Int))] (by simp only [nI_zc]) ?_
                        exact L113 (((i + (j + 1)) - i : Nat) : Int) (by first | (rw [if_pos (by omega)]; omega) | (rw [if_neg (by omega)])) _ _ hP hD hS ls (lv_sub hl [0, 1, 2, 3, 4, 5, 6, 7] rfl)
                      · skip
                        rw [n0_eq (by omega)] at c90
                        refine lv_iload gx gb dX9_read_93 (lv_at hl 4 rfl) ?_
                        refine lv_iload gx gb dX9_read_95 (lv_at hl 3 rfl) ?_
                        refine lv_isub gx gb dX9_read_97 ?_
                        refine lv_evi (nI ((i + (j + 1)) - i)) (e_sub (by omega)) ?_
                        refine lv_iload gx gb dX9_read_98 (lv_at hl 2 rfl) ?_
                        refine lv_icmp_ge (tgt := 111) gx gb dX9_read_100 (by decide) (fun c100 => ?_) (fun c100 => ?_)
                        · skip
                          rw [zn_le (by omega) (by omega) (by omega)] at c100
                          refine lv_iload gx gb dX9_read_111 (lv_at hl 2 rfl) ?_
                          exact L113 S2 (by first | (rw [if_pos (by omega)]; omega) | (rw [if_neg (by omega)])) _ _ hP hD hS ls (lv_sub hl [0, 1, 2, 3, 4, 5, 6, 7] rfl)
                        · skip
                          rw [zn_le (by omega) (by omega) (by omega)] at c100
                          refine lv_iload gx gb dX9_read_103 (lv_at hl 4 rfl) ?_
                          refine lv_iload gx gb dX9_read_105 (lv_at hl 3 rfl) ?_
                          refine lv_isub gx gb dX9_read_107 ?_
                          refine lv_evi (nI ((i + (j + 1)) - i)) (e_sub (by omega)) ?_
                          refine lv_goto (tgt := 113) gx gb dX9_read_108 (by decide) ?_
                          refine lv_evs [.int (zI (((i + (j + 1)) - i : Nat) : Int))] (by simp only [nI_zc]) ?_
                          exact L113 (((i + (j + 1)) - i : Nat) : Int) (by first | (rw [if_pos (by omega)]; omega) | (rw [if_neg (by omega)])) _ _ hP hD hS ls (lv_sub hl [0, 1, 2, 3, 4, 5, 6, 7] rfl)
                    refine lv_iload_n gx gb dX9_read_76 rfl (lv_at hl 0 rfl) ?_
                    refine lv_if_ne (tgt := 85) gx gb dX9_read_77 (by decide) (fun c77 => ?_) (fun c77 => ?_)
                    · skip
                      rw [n0_eq (by omega)] at c77
                      refine lv_iload gx gb dX9_read_85 (lv_at hl 1 rfl) ?_
                      exact L87 F2 (by first | rw [if_pos (by omega)] | rw [if_neg (by omega)]) _ _ hP hD hS ls (lv_sub hl [0, 1, 2, 3, 4, 5, 6, 7] rfl)
                    · skip
                      rw [n0_eq (by omega)] at c77
                      refine lv_iload gx gb dX9_read_80 (lv_at hl 3 rfl) ?_
                      refine lv_goto (tgt := 87) gx gb dX9_read_82 (by decide) ?_
                      refine lv_evs [.int (zI ((i : Nat) : Int))] (by simp only [nI_zc]) ?_
                      exact L87 ((i : Nat) : Int) (by first | rw [if_pos (by omega)] | rw [if_neg (by omega)]) _ _ hP hD hS ls (lv_sub hl [0, 1, 2, 3, 4, 5, 6, 7] rfl)
            exact L55 _ 0 n_ F_ S_ (by omega) (by exact hR) (Nat.lt_succ_self _) _ _ hP hD hS ls (lv_sub hl [1, 2, 3, 4, 0, 5, 6, 7] rfl)
      exact L40 _ 0 0 (-6) (-6) (by omega) (by exact rdv_0 _ _ _) (Nat.lt_succ_self _) _ _ hP hD hS ls (lv_sub hl [3, 2, 1, 0, 4, 5, 6] rfl)
    · skip
      rw [b0_eq] at c17
      simp only [decide_eq_false_iff_not, Decidable.not_not] at c17
      refine lv_bipush (v := zI (-2)) gx gb dX9_read_20 (by decide) ?_
      exact W.iret (v := zI (-2)) gx gb gr (fun t ht hW => ⟨⟨zI (-2), (row, z), rfl, (by first | (dsimp only; done) | ((try dsimp only); exact ⟨-2, rfl, by rw [rdZ, if_neg (by omega)]⟩)), by rw [ht]; exact hP, va_K.moved hW.alike hK, hD⟩, hS.F ht⟩) hS.2.2 dX9_read_22

set_option maxHeartbeats 4000000 in
set_option maxRecDepth 100000 in
theorem kX9_image (Gl : Launch) (D : va_G) (cI cJ cZ : ClassId) (mo : Nat) (ma : Nat) (mb : Nat) (mc : Nat) (md : Nat) (me : Nat) (mf : Nat) (mg : Nat) (mh : Nat) (mi : Nat) (mj : Nat) (mk : Nat) (ml : Nat) (mn : Nat) (n : Nat) (q : Nat) (c : Nat) (w : Nat) (z : Nat) (ev : Nat) (num : Nat → Nat) (plc : Nat → Nat) (sig : Nat → Nat) (pad : Nat → Nat) (row : Nat → Nat) (dig : Nat → Nat) (far : Nat → Int32) (cfr : Nat → Nat) (cby : Nat → Nat) (que : Nat → Nat) (has : Nat → Nat) (img : Nat → Nat) (kep : Nat → Nat) (sz : Nat) (a : Int) (hl_a : -2147483648 ≤ a) (hu_a : a < 2147483648) : Met Gl yX9_image wsX9_image ({ frames := 1, cells := 0, slots := 0, locals := 22 } : Room) (va_Pc [.ref mo, .int (zI a)] (fun U => U.heap.size = sz ∧ va_P D vwCl (wM mo ma mb mc md me mf mg mh mi mj mk ml mn cI cZ n q c w z ev num plc sig pad row dig far cfr cby que has img kep) U.heap ∧ va_K D vwCl [(cI, .int), (cJ, .long), (cZ, .boolean)] U ∧ va_D (fun _ => True) (wM mo ma mb mc md me mf mg mh mi mj mk ml mn cI cZ n q c w z ev num plc sig pad row dig far cfr cby que has img kep))) (va_Qi (fun (r : Int32) (u : Unit) => r = zI (if 0 ≤ a ∧ a ≤ 1 then 1 else -2)) (fun (u : Unit) t => va_P D vwCl (wM mo ma mb mc md me mf mg mh mi mj mk ml mn cI cZ n q c w z ev num plc sig pad row dig far cfr cby que has (if 0 ≤ a ∧ a ≤ 1 then imF num plc sig n q c (32 * a.toNat) img else img) (if 0 ≤ a ∧ a ≤ 1 then up kep a.toNat 1 else kep)) t.heap ∧ va_K D vwCl [(cI, .int), (cJ, .long), (cZ, .boolean)] t ∧ va_D (va_A (wM mo ma mb mc md me mf mg mh mi mj mk ml mn cI cZ n q c w z ev num plc sig pad row dig far cfr cby que has img kep) sz) (wM mo ma mb mc md me mf mg mh mi mj mk ml mn cI cZ n q c w z ev num plc sig pad row dig far cfr cby que has (if 0 ≤ a ∧ a ≤ 1 then imF num plc sig n q c (32 * a.toNat) img else img) (if 0 ≤ a ∧ a ≤ 1 then up kep a.toNat 1 else kep))) (va_A (wM mo ma mb mc md me mf mg mh mi mj mk ml mn cI cZ n q c w z ev num plc sig pad row dig far cfr cby que has img kep) sz)) 0 0 (va_A (wM mo ma mb mc md me mf mg mh mi mj mk ml mn cI cZ n q c w z ev num plc sig pad row dig far cfr cby que has img kep) sz) := by
  refine Met.ofW (cc := cX9_image) (maxL := 4) (ret := (some .int)) (by decide +kernel) rfl ?_
  intro Gp Ge Gs Gm Ga Gw Gt Gc G1 Bd gml gv
  obtain ⟨rfl, hsz, hP, hK, hD0⟩ := gv
  have gx := Bd.exec
  have gb := Bd.bytes
  have gr := Bd.returns
  have gts := atoms_spec (ws := wsX9_image) Bd.pre
  have gown : Gs.vm.findClass RX9 = some Gm.cls := findClass_of_methodNamed Bd.named
  have glk := Bd.notSynchronized
  subst hsz
  have hD := hD0.self (sz := Gs.heap.size)
  generalize hAe : va_A (wM mo ma mb mc md me mf mg mh mi mj mk ml mn cI cZ n q c w z ev num plc sig pad row dig far cfr cby que has img kep) Gs.heap.size = A at hD ⊢
  have hA : ∀ q : Nat, Gs.heap.size ≤ q → A q := fun q h => by rw [← hAe]; exact Or.inr h
  have hS : va_S A Gs.heap Gs.heap [] := va_S.rf
  have hP : va_P D vwCl (wM mo ma mb mc md me mf mg mh mi mj mk ml mn cI cZ n q c w z ev num plc sig pad row dig far cfr cby que has img kep) Gs.heap := hP
  have hl := lv_entry ([.ref mo, .int (zI a)]) (n := 4) (Nat.le_of_ble_eq_true rfl)
  rw [lg_entry_eq]
  generalize (lg_sl ([.ref mo, .int (zI a)]) ++ List.replicate (4 - (lg_sl ([.ref mo, .int (zI a)])).length) Slot.unset).toArray = ls at hl ⊢
  have hl : lv_has ls 4 [(0, .ref mo), (1, .int (zI a))] := hl
  have i9 : ∀ w ∈ wsX90, w ∈ wsX9_image := by decide +kernel
  refine lv_iload_n gx gb dX9_image_0 rfl (lv_at hl 1 rfl) ?_
  refine lv_iconst (v := nI 0) gx gb dX9_image_1 (by decide) ?_
  refine lv_iconst (v := nI 1) gx gb dX9_image_2 (by decide) ?_
  refine lv_evs [.int (zI ((1 : Nat) : Int)), .int (zI ((0 : Nat) : Int)), .int (zI a)] (by simp only [nI_zc]) ?_
  refine vp_callSi (W.runS (As := [.int (zI a), .int (zI ((0 : Nat) : Int)), .int (zI ((1 : Nat) : Int))]) (rest := []) ⟨gx, gb, gml, gown, gts⟩ (kX9_in Gl a ((0 : Nat) : Int) ((1 : Nat) : Int) (by omega) (by omega) (by omega) (by omega) (by omega) (by omega)) (va_cwS 3 gts gX9_image_X9_in rfl rfl rfl (by decide +kernel) ⟨Nat.le_of_ble_eq_true rfl, Nat.le_of_ble_eq_true rfl⟩) ⟨fun _ _ _ _ h => h, fun U hU hW => ⟨rfl, trivial⟩⟩ rfl rfl hl.1 rfl (lv_room (Nat.le_of_ble_eq_true rfl)) dX9_image_3 ⟨Nat.le_of_ble_eq_true rfl, Nat.le_of_ble_eq_true rfl⟩) (fun r hw => ?_)
  have hr3 := hw
  subst hr3
  refine lv_if_ne (tgt := 12) gx gb dX9_image_6 (by decide) (fun c6 => ?_) (fun c6 => ?_)
  · skip
    rw [b0_eq] at c6
    simp only [decide_eq_false_iff_not, Decidable.not_not] at c6
    obtain ⟨i, hi⟩ : ∃ i : Nat, a = (i : Int) := ⟨a.toNat, by omega⟩
    rw [show zI a = nI i from by rw [hi, zI_nat]] at hl
    have hl : lv_has ls 4 [(0, .ref mo), (1, .int (nI i))] := hl
    refine lv_bipush (v := nI 32) gx gb dX9_image_12 (by decide) ?_
    refine lv_iload_n gx gb dX9_image_14 rfl (lv_at hl 1 rfl) ?_
    refine lv_imul gx gb dX9_image_15 ?_
    refine lv_evi (nI (32 * i)) (pk_mul 32 i) ?_
    refine lv_istore_n (lv' := [(2, .int (nI (32 * i))), (0, .ref mo), (1, .int (nI i))]) gx gb dX9_image_16 rfl hl (by decide) rfl (fun ls hl => ?_)
    refine lv_iconst (v := nI 0) gx gb dX9_image_17 (by decide) ?_
    refine lv_istore_n (lv' := [(3, .int (nI 0)), (2, .int (nI (32 * i))), (0, .ref mo), (1, .int (nI i))]) gx gb dX9_image_18 rfl hl (by decide) rfl (fun ls hl => ?_)
    have L19 : ∀ fu : Nat, ∀ (j : Nat) (hj : j ≤ 7), (7 - j) < fu → ∀ (H : Heap) (locs : List Loc), va_P D vwCl (wM mo ma mb mc md me mf mg mh mi mj mk ml mn cI cZ n q c w z ev num plc sig pad row dig far cfr cby que has (imA num plc (32 * i) j img) kep) H → va_D A (wM mo ma mb mc md me mf mg mh mi mj mk ml mn cI cZ n q c w z ev num plc sig pad row dig far cfr cby que has (imA num plc (32 * i) j img) kep) → va_S A Gs.heap H locs → ∀ ls : Array Slot, lv_has ls 4 [(3, .int (nI j)), (2, .int (nI (32 * i))), (0, .ref mo), (1, .int (nI i))] → W Gp Gl Ge (headSpec wsX9_image ({ frames := 1, cells := 0, slots := 0, locals := 22 } : Room)).room Gs Gm ([.ref mo, .int (zI a)] : List Value).toArray Gw Gt Gc H locs 0 0 (MQ Gw (va_Qi (fun (r : Int32) (u : Unit) => r = zI (if 0 ≤ a ∧ a ≤ 1 then 1 else -2)) (fun (u : Unit) t => va_P D vwCl (wM mo ma mb mc md me mf mg mh mi mj mk ml mn cI cZ n q c w z ev num plc sig pad row dig far cfr cby que has (if 0 ≤ a ∧ a ≤ 1 then imF num plc sig n q c (32 * a.toNat) img else img) (if 0 ≤ a ∧ a ≤ 1 then up kep a.toNat 1 else kep)) t.heap ∧ va_K D vwCl [(cI, .int), (cJ, .long), (cZ, .boolean)] t ∧ va_D A (wM mo ma mb mc md me mf mg mh mi mj mk ml mn cI cZ n q c w z ev num plc sig pad row dig far cfr cby que has (if 0 ≤ a ∧ a ≤ 1 then imF num plc sig n q c (32 * a.toNat) img else img) (if 0 ≤ a ∧ a ≤ 1 then up kep a.toNat 1 else kep))) A) ([.ref mo, .int (zI a)] : List Value).toArray Gs 0 0 A) (F0 Gm 19 ls []) := by
      intro fu
      induction fu with
      | zero => intro j hj hfu; exact absurd hfu (Nat.not_lt_zero _)
      | succ fu ih19 =>
        intro j hj hfu H locs hP hD hS ls hl
        refine lv_iload_n gx gb dX9_image_19 rfl (lv_at hl 0 rfl) ?_
        refine lv_bipush (v := nI 7) gx gb dX9_image_20 (by decide) ?_
        refine lv_icmp_ge (tgt := 62) gx gb dX9_image_22 (by decide) (fun c22 => ?_) (fun c22 => ?_)
        · skip
          rw [nI_leI (by omega) (by omega)] at c22
          refine lv_iconst (v := nI 0) gx gb dX9_image_62 (by decide) ?_
          refine lv_istore_n (lv' := [(3, .int (nI 0)), (2, .int (nI (32 * i))), (0, .ref mo), (1, .int (nI i))]) gx gb dX9_image_63 rfl hl (by decide) rfl (fun ls hl => ?_)
          have L64 : ∀ fu : Nat, ∀ (j : Nat) (hj : j ≤ 12), (12 - j) < fu → ∀ (H : Heap) (locs : List Loc), va_P D vwCl (wM mo ma mb mc md me mf mg mh mi mj mk ml mn cI cZ n q c w z ev num plc sig pad row dig far cfr cby que has (imB sig (32 * i) j (imA num plc (32 * i) 7 img)) kep) H → va_D A (wM mo ma mb mc md me mf mg mh mi mj mk ml mn cI cZ n q c w z ev num plc sig pad row dig far cfr cby que has (imB sig (32 * i) j (imA num plc (32 * i) 7 img)) kep) → va_S A Gs.heap H locs → ∀ ls : Array Slot, lv_has ls 4 [(3, .int (nI j)), (2, .int (nI (32 * i))), (0, .ref mo), (1, .int (nI i))] → W Gp Gl Ge (headSpec wsX9_image ({ frames := 1, cells := 0, slots := 0, locals := 22 } : Room)).room Gs Gm ([.ref mo, .int (zI a)] : List Value).toArray Gw Gt Gc H locs 0 0 (MQ Gw (va_Qi (fun (r : Int32) (u : Unit) => r = zI (if 0 ≤ a ∧ a ≤ 1 then 1 else -2)) (fun (u : Unit) t => va_P D vwCl (wM mo ma mb mc md me mf mg mh mi mj mk ml mn cI cZ n q c w z ev num plc sig pad row dig far cfr cby que has (if 0 ≤ a ∧ a ≤ 1 then imF num plc sig n q c (32 * a.toNat) img else img) (if 0 ≤ a ∧ a ≤ 1 then up kep a.toNat 1 else kep)) t.heap ∧ va_K D vwCl [(cI, .int), (cJ, .long), (cZ, .boolean)] t ∧ va_D A (wM mo ma mb mc md me mf mg mh mi mj mk ml mn cI cZ n q c w z ev num plc sig pad row dig far cfr cby que has (if 0 ≤ a ∧ a ≤ 1 then imF num plc sig n q c (32 * a.toNat) img else img) (if 0 ≤ a ∧ a ≤ 1 then up kep a.toNat 1 else kep))) A) ([.ref mo, .int (zI a)] : List Value).toArray Gs 0 0 A) (F0 Gm 64 ls []) := by
            intro fu
            induction fu with
            | zero => intro j hj hfu; exact absurd hfu (Nat.not_lt_zero _)
            | succ fu ih64 =>
              intro j hj hfu H locs hP hD hS ls hl
              refine lv_iload_n gx gb dX9_image_64 rfl (lv_at hl 0 rfl) ?_
              refine lv_bipush (v := nI 12) gx gb dX9_image_65 (by decide) ?_
              refine lv_icmp_ge (tgt := 93) gx gb dX9_image_67 (by decide) (fun c67 => ?_) (fun c67 => ?_)
              · skip
                rw [nI_leI (by omega) (by omega)] at c67
                refine lv_aload_n gx gb dX9_image_93 rfl (lv_at hl 2 rfl) ?_
                refine va_get (D := D) (ci := 4) (v := .ref ml) (C := RX9) (T := TX9) (N := 19) gx gb gts i9 gown hK hP 0 rfl rfl 17 (by decide) (gts (.fieldLink RX9 50 "SwanSumsModel" "image" "[I") (by decide +kernel)) (fun _ h9 => h9) rfl dX9_image_94 ?_
                refine lv_iload_n gx gb dX9_image_97 rfl (lv_at hl 1 rfl) ?_
                refine lv_bipush (v := nI 26) gx gb dX9_image_98 (by decide) ?_
                refine lv_iadd gx gb dX9_image_100 ?_
                refine lv_evi (nI ((32 * i) + 26)) (nI_add (32 * i) 26) ?_
                refine lv_aload_n gx gb dX9_image_101 rfl (lv_at hl 2 rfl) ?_
                refine va_get (D := D) (ci := 4) (v := .int (nI n)) (C := RX9) (T := TX9) (N := 19) gx gb gts i9 gown hK hP 0 rfl rfl 0 (by decide) (gts (.fieldLink RX9 7 "SwanSumsModel" "all" "I") (by decide +kernel)) (fun _ h9 => h9) rfl dX9_image_102 ?_
                refine va_iast gx gb hK hP hD hS 12 0 rfl rfl (vp_in_nI (n := (32 * i) + 26) (by omega) (by decide)) dX9_image_105 (fun H locs hP hD hS => ?_)
                rw [aN_st (imB sig (32 * i) j (imA num plc (32 * i) 7 img)) n (by omega)] at hP hD
                have hP : va_P D vwCl (wM mo ma mb mc md me mf mg mh mi mj mk ml mn cI cZ n q c w z ev num plc sig pad row dig far cfr cby que has (up (imB sig (32 * i) j (imA num plc (32 * i) 7 img)) ((32 * i) + 26) n) kep) H := hP
                have hD : va_D A (wM mo ma mb mc md me mf mg mh mi mj mk ml mn cI cZ n q c w z ev num plc sig pad row dig far cfr cby que has (up (imB sig (32 * i) j (imA num plc (32 * i) 7 img)) ((32 * i) + 26) n) kep) := hD
                refine lv_aload_n gx gb dX9_image_106 rfl (lv_at hl 2 rfl) ?_
                refine va_get (D := D) (ci := 4) (v := .ref ml) (C := RX9) (T := TX9) (N := 19) gx gb gts i9 gown hK hP 0 rfl rfl 17 (by decide) (gts (.fieldLink RX9 50 "SwanSumsModel" "image" "[I") (by decide +kernel)) (fun _ h9 => h9) rfl dX9_image_107 ?_
                refine lv_iload_n gx gb dX9_image_110 rfl (lv_at hl 1 rfl) ?_
                refine lv_bipush (v := nI 27) gx gb dX9_image_111 (by decide) ?_
                refine lv_iadd gx gb dX9_image_113 ?_
                refine lv_evi (nI ((32 * i) + 27)) (nI_add (32 * i) 27) ?_
                refine lv_aload_n gx gb dX9_image_114 rfl (lv_at hl 2 rfl) ?_
                refine va_get (D := D) (ci := 4) (v := .int (nI q)) (C := RX9) (T := TX9) (N := 19) gx gb gts i9 gown hK hP 0 rfl rfl 1 (by decide) (gts (.fieldLink RX9 13 "SwanSumsModel" "many" "I") (by decide +kernel)) (fun _ h9 => h9) rfl dX9_image_115 ?_
                refine va_iast gx gb hK hP hD hS 12 0 rfl rfl (vp_in_nI (n := (32 * i) + 27) (by omega) (by decide)) dX9_image_118 (fun H locs hP hD hS => ?_)
                rw [aN_st (up (imB sig (32 * i) j (imA num plc (32 * i) 7 img)) ((32 * i) + 26) n) q (by omega)] at hP hD
                have hP : va_P D vwCl (wM mo ma mb mc md me mf mg mh mi mj mk ml mn cI cZ n q c w z ev num plc sig pad row dig far cfr cby que has (up (up (imB sig (32 * i) j (imA num plc (32 * i) 7 img)) ((32 * i) + 26) n) ((32 * i) + 27) q) kep) H := hP
                have hD : va_D A (wM mo ma mb mc md me mf mg mh mi mj mk ml mn cI cZ n q c w z ev num plc sig pad row dig far cfr cby que has (up (up (imB sig (32 * i) j (imA num plc (32 * i) 7 img)) ((32 * i) + 26) n) ((32 * i) + 27) q) kep) := hD
                refine lv_aload_n gx gb dX9_image_119 rfl (lv_at hl 2 rfl) ?_
                refine va_get (D := D) (ci := 4) (v := .ref ml) (C := RX9) (T := TX9) (N := 19) gx gb gts i9 gown hK hP 0 rfl rfl 17 (by decide) (gts (.fieldLink RX9 50 "SwanSumsModel" "image" "[I") (by decide +kernel)) (fun _ h9 => h9) rfl dX9_image_120 ?_
                refine lv_iload_n gx gb dX9_image_123 rfl (lv_at hl 1 rfl) ?_
                refine lv_bipush (v := nI 28) gx gb dX9_image_124 (by decide) ?_
                refine lv_iadd gx gb dX9_image_126 ?_
                refine lv_evi (nI ((32 * i) + 28)) (nI_add (32 * i) 28) ?_
                refine lv_aload_n gx gb dX9_image_127 rfl (lv_at hl 2 rfl) ?_
                refine va_get (D := D) (ci := 4) (v := .int (nI c)) (C := RX9) (T := TX9) (N := 19) gx gb gts i9 gown hK hP 0 rfl rfl 4 (by decide) (gts (.fieldLink RX9 60 "SwanSumsModel" "sights" "I") (by decide +kernel)) (fun _ h9 => h9) rfl dX9_image_128 ?_
                refine va_iast gx gb hK hP hD hS 12 0 rfl rfl (vp_in_nI (n := (32 * i) + 28) (by omega) (by decide)) dX9_image_131 (fun H locs hP hD hS => ?_)
                rw [aN_st (up (up (imB sig (32 * i) j (imA num plc (32 * i) 7 img)) ((32 * i) + 26) n) ((32 * i) + 27) q) c (by omega)] at hP hD
                have hP : va_P D vwCl (wM mo ma mb mc md me mf mg mh mi mj mk ml mn cI cZ n q c w z ev num plc sig pad row dig far cfr cby que has (up (up (up (imB sig (32 * i) j (imA num plc (32 * i) 7 img)) ((32 * i) + 26) n) ((32 * i) + 27) q) ((32 * i) + 28) c) kep) H := hP
                have hD : va_D A (wM mo ma mb mc md me mf mg mh mi mj mk ml mn cI cZ n q c w z ev num plc sig pad row dig far cfr cby que has (up (up (up (imB sig (32 * i) j (imA num plc (32 * i) 7 img)) ((32 * i) + 26) n) ((32 * i) + 27) q) ((32 * i) + 28) c) kep) := hD
                refine lv_aload_n gx gb dX9_image_132 rfl (lv_at hl 2 rfl) ?_
                refine va_get (D := D) (ci := 4) (v := .ref mn) (C := RX9) (T := TX9) (N := 19) gx gb gts i9 gown hK hP 0 rfl rfl 18 (by decide) (gts (.fieldLink RX9 53 "SwanSumsModel" "isKept" "[Z") (by decide +kernel)) (fun _ h9 => h9) rfl dX9_image_133 ?_
                refine lv_iload_n gx gb dX9_image_136 rfl (lv_at hl 3 rfl) ?_
                refine lv_iconst (v := nI 1) gx gb dX9_image_137 (by decide) ?_
                refine va_zast gx gb hK hP hD hS 13 2 rfl rfl (vp_in_nI (n := i) (by omega) (by decide)) dX9_image_138 (fun H locs hP hD hS => ?_)
                rw [show vp_nar .boolean (nI 1) = nI 1 from by decide, aN_st kep 1 (by omega)] at hP hD
                have hP : va_P D vwCl (wM mo ma mb mc md me mf mg mh mi mj mk ml mn cI cZ n q c w z ev num plc sig pad row dig far cfr cby que has (up (up (up (imB sig (32 * i) j (imA num plc (32 * i) 7 img)) ((32 * i) + 26) n) ((32 * i) + 27) q) ((32 * i) + 28) c) (up kep i 1)) H := hP
                have hD : va_D A (wM mo ma mb mc md me mf mg mh mi mj mk ml mn cI cZ n q c w z ev num plc sig pad row dig far cfr cby que has (up (up (up (imB sig (32 * i) j (imA num plc (32 * i) 7 img)) ((32 * i) + 26) n) ((32 * i) + 27) q) ((32 * i) + 28) c) (up kep i 1)) := hD
                refine lv_iconst (v := nI 1) gx gb dX9_image_139 (by decide) ?_
                have e_img : (up (up (up (imB sig (32 * i) j (imA num plc (32 * i) 7 img)) ((32 * i) + 26) n) ((32 * i) + 27) q) ((32 * i) + 28) c) = (if 0 ≤ a ∧ a ≤ 1 then imF num plc sig n q c (32 * a.toNat) img else img) := by rw [if_pos (by omega), show j = 12 by omega, hi]; rfl
                have e_kep : (up kep i 1) = (if 0 ≤ a ∧ a ≤ 1 then up kep a.toNat 1 else kep) := by rw [if_pos (by omega), hi]; rfl
                have hP : va_P D vwCl (wM mo ma mb mc md me mf mg mh mi mj mk ml mn cI cZ n q c w z ev num plc sig pad row dig far cfr cby que has (if 0 ≤ a ∧ a ≤ 1 then imF num plc sig n q c (32 * a.toNat) img else img) (if 0 ≤ a ∧ a ≤ 1 then up kep a.toNat 1 else kep)) H := by rw [← e_img, ← e_kep]; exact hP
                have hD : va_D A (wM mo ma mb mc md me mf mg mh mi mj mk ml mn cI cZ n q c w z ev num plc sig pad row dig far cfr cby que has (if 0 ≤ a ∧ a ≤ 1 then imF num plc sig n q c (32 * a.toNat) img else img) (if 0 ≤ a ∧ a ≤ 1 then up kep a.toNat 1 else kep)) := by rw [← e_img, ← e_kep]; exact hD
                exact W.iret (v := nI 1) gx gb gr (fun t ht hW => ⟨⟨nI 1, (), rfl, (by first | (dsimp only; done) | ((try dsimp only); rw [if_pos (by omega)]; rfl)), by rw [ht]; exact hP, va_K.moved hW.alike hK, hD⟩, hS.F ht⟩) hS.2.2 dX9_image_140
              · skip
                rw [nI_leI (by omega) (by omega)] at c67
                refine lv_aload_n gx gb dX9_image_70 rfl (lv_at hl 2 rfl) ?_
                refine va_get (D := D) (ci := 4) (v := .ref ml) (C := RX9) (T := TX9) (N := 19) gx gb gts i9 gown hK hP 0 rfl rfl 17 (by decide) (gts (.fieldLink RX9 50 "SwanSumsModel" "image" "[I") (by decide +kernel)) (fun _ h9 => h9) rfl dX9_image_71 ?_
                refine lv_iload_n gx gb dX9_image_74 rfl (lv_at hl 1 rfl) ?_
                refine lv_bipush (v := nI 14) gx gb dX9_image_75 (by decide) ?_
                refine lv_iadd gx gb dX9_image_77 ?_
                refine lv_evi (nI ((32 * i) + 14)) (nI_add (32 * i) 14) ?_
                refine lv_iload_n gx gb dX9_image_78 rfl (lv_at hl 0 rfl) ?_
                refine lv_iadd gx gb dX9_image_79 ?_
                refine lv_evi (nI (((32 * i) + 14) + j)) (nI_add ((32 * i) + 14) j) ?_
                refine lv_aload_n gx gb dX9_image_80 rfl (lv_at hl 2 rfl) ?_
                refine va_get (D := D) (ci := 4) (v := .ref mc) (C := RX9) (T := TX9) (N := 19) gx gb gts i9 gown hK hP 0 rfl rfl 5 (by decide) (gts (.fieldLink RX9 23 "SwanSumsModel" "sight" "[I") (by decide +kernel)) (fun _ h9 => h9) rfl dX9_image_81 ?_
                refine lv_iload_n gx gb dX9_image_84 rfl (lv_at hl 0 rfl) ?_
                refine va_iald gx gb hK hP 3 0 rfl rfl (vp_in_nI (n := j) (by omega) (by decide)) dX9_image_85 ?_
                refine lv_evi (nI (sig j)) (aN_rd sig (by omega)) ?_
                refine va_iast gx gb hK hP hD hS 12 0 rfl rfl (vp_in_nI (n := ((32 * i) + 14) + j) (by omega) (by decide)) dX9_image_86 (fun H locs hP hD hS => ?_)
                rw [aN_st (imB sig (32 * i) j (imA num plc (32 * i) 7 img)) (sig j) (by omega)] at hP hD
                have hP : va_P D vwCl (wM mo ma mb mc md me mf mg mh mi mj mk ml mn cI cZ n q c w z ev num plc sig pad row dig far cfr cby que has (up (imB sig (32 * i) j (imA num plc (32 * i) 7 img)) (((32 * i) + 14) + j) (sig j)) kep) H := hP
                have hD : va_D A (wM mo ma mb mc md me mf mg mh mi mj mk ml mn cI cZ n q c w z ev num plc sig pad row dig far cfr cby que has (up (imB sig (32 * i) j (imA num plc (32 * i) 7 img)) (((32 * i) + 14) + j) (sig j)) kep) := hD
                refine lv_iinc (v := nI (j + 1)) (lv' := [(3, .int (nI (j + 1))), (2, .int (nI (32 * i))), (0, .ref mo), (1, .int (nI i))]) gx gb dX9_image_87 hl (k := 0) rfl (nI_add j 1) (by decide) rfl (fun ls hl => ?_)
                refine lv_goto (tgt := 64) gx gb dX9_image_90 (by decide) ?_
                rw [imB_s sig (32 * i) j] at hP hD
                exact ih64 (j + 1) (by omega) (by omega) _ _ hP hD hS ls (lv_sub hl [0, 1, 2, 3] rfl)
          rw [show j = 7 by omega, ← imB_0 sig (32 * i) (imA num plc (32 * i) 7 img)] at hP hD
          exact L64 _ 0 (by omega) (Nat.lt_succ_self _) _ _ hP hD hS ls (lv_sub hl [0, 1, 2, 3] rfl)
        · skip
          rw [nI_leI (by omega) (by omega)] at c22
          refine lv_aload_n gx gb dX9_image_25 rfl (lv_at hl 2 rfl) ?_
          refine va_get (D := D) (ci := 4) (v := .ref ml) (C := RX9) (T := TX9) (N := 19) gx gb gts i9 gown hK hP 0 rfl rfl 17 (by decide) (gts (.fieldLink RX9 50 "SwanSumsModel" "image" "[I") (by decide +kernel)) (fun _ h9 => h9) rfl dX9_image_26 ?_
          refine lv_iload_n gx gb dX9_image_29 rfl (lv_at hl 1 rfl) ?_
          refine lv_iload_n gx gb dX9_image_30 rfl (lv_at hl 0 rfl) ?_
          refine lv_iadd gx gb dX9_image_31 ?_
          refine lv_evi (nI ((32 * i) + j)) (nI_add (32 * i) j) ?_
          refine lv_aload_n gx gb dX9_image_32 rfl (lv_at hl 2 rfl) ?_
          refine va_get (D := D) (ci := 4) (v := .ref ma) (C := RX9) (T := TX9) (N := 19) gx gb gts i9 gown hK hP 0 rfl rfl 2 (by decide) (gts (.fieldLink RX9 16 "SwanSumsModel" "numbers" "[I") (by decide +kernel)) (fun _ h9 => h9) rfl dX9_image_33 ?_
          refine lv_iload_n gx gb dX9_image_36 rfl (lv_at hl 0 rfl) ?_
          refine va_iald gx gb hK hP 1 0 rfl rfl (vp_in_nI (n := j) (by omega) (by decide)) dX9_image_37 ?_
          refine lv_evi (nI (num j)) (aN_rd num (by omega)) ?_
          refine va_iast gx gb hK hP hD hS 12 0 rfl rfl (vp_in_nI (n := (32 * i) + j) (by omega) (by decide)) dX9_image_38 (fun H locs hP hD hS => ?_)
          rw [aN_st (imA num plc (32 * i) j img) (num j) (by omega)] at hP hD
          have hP : va_P D vwCl (wM mo ma mb mc md me mf mg mh mi mj mk ml mn cI cZ n q c w z ev num plc sig pad row dig far cfr cby que has (up (imA num plc (32 * i) j img) ((32 * i) + j) (num j)) kep) H := hP
          have hD : va_D A (wM mo ma mb mc md me mf mg mh mi mj mk ml mn cI cZ n q c w z ev num plc sig pad row dig far cfr cby que has (up (imA num plc (32 * i) j img) ((32 * i) + j) (num j)) kep) := hD
          refine lv_aload_n gx gb dX9_image_39 rfl (lv_at hl 2 rfl) ?_
          refine va_get (D := D) (ci := 4) (v := .ref ml) (C := RX9) (T := TX9) (N := 19) gx gb gts i9 gown hK hP 0 rfl rfl 17 (by decide) (gts (.fieldLink RX9 50 "SwanSumsModel" "image" "[I") (by decide +kernel)) (fun _ h9 => h9) rfl dX9_image_40 ?_
          refine lv_iload_n gx gb dX9_image_43 rfl (lv_at hl 1 rfl) ?_
          refine lv_bipush (v := nI 7) gx gb dX9_image_44 (by decide) ?_
          refine lv_iadd gx gb dX9_image_46 ?_
          refine lv_evi (nI ((32 * i) + 7)) (nI_add (32 * i) 7) ?_
          refine lv_iload_n gx gb dX9_image_47 rfl (lv_at hl 0 rfl) ?_
          refine lv_iadd gx gb dX9_image_48 ?_
          refine lv_evi (nI (((32 * i) + 7) + j)) (nI_add ((32 * i) + 7) j) ?_
          refine lv_aload_n gx gb dX9_image_49 rfl (lv_at hl 2 rfl) ?_
          refine va_get (D := D) (ci := 4) (v := .ref mb) (C := RX9) (T := TX9) (N := 19) gx gb gts i9 gown hK hP 0 rfl rfl 3 (by decide) (gts (.fieldLink RX9 20 "SwanSumsModel" "place" "[I") (by decide +kernel)) (fun _ h9 => h9) rfl dX9_image_50 ?_
          refine lv_iload_n gx gb dX9_image_53 rfl (lv_at hl 0 rfl) ?_
          refine va_iald gx gb hK hP 2 0 rfl rfl (vp_in_nI (n := j) (by omega) (by decide)) dX9_image_54 ?_
          refine lv_evi (nI (plc j)) (aN_rd plc (by omega)) ?_
          refine va_iast gx gb hK hP hD hS 12 0 rfl rfl (vp_in_nI (n := ((32 * i) + 7) + j) (by omega) (by decide)) dX9_image_55 (fun H locs hP hD hS => ?_)
          rw [aN_st (up (imA num plc (32 * i) j img) ((32 * i) + j) (num j)) (plc j) (by omega)] at hP hD
          have hP : va_P D vwCl (wM mo ma mb mc md me mf mg mh mi mj mk ml mn cI cZ n q c w z ev num plc sig pad row dig far cfr cby que has (up (up (imA num plc (32 * i) j img) ((32 * i) + j) (num j)) (((32 * i) + 7) + j) (plc j)) kep) H := hP
          have hD : va_D A (wM mo ma mb mc md me mf mg mh mi mj mk ml mn cI cZ n q c w z ev num plc sig pad row dig far cfr cby que has (up (up (imA num plc (32 * i) j img) ((32 * i) + j) (num j)) (((32 * i) + 7) + j) (plc j)) kep) := hD
          refine lv_iinc (v := nI (j + 1)) (lv' := [(3, .int (nI (j + 1))), (2, .int (nI (32 * i))), (0, .ref mo), (1, .int (nI i))]) gx gb dX9_image_56 hl (k := 0) rfl (nI_add j 1) (by decide) rfl (fun ls hl => ?_)
          refine lv_goto (tgt := 19) gx gb dX9_image_59 (by decide) ?_
          rw [imA_s num plc (32 * i) img (by omega)] at hP hD
          exact ih19 (j + 1) (by omega) (by omega) _ _ hP hD hS ls (lv_sub hl [0, 1, 2, 3] rfl)
    rw [← imA_0 num plc (32 * i) img] at hP hD
    exact L19 _ 0 (by omega) (Nat.lt_succ_self _) _ _ hP hD hS ls (lv_sub hl [0, 1, 2, 3] rfl)
  · skip
    rw [b0_eq] at c6
    simp only [decide_eq_false_iff_not, Decidable.not_not] at c6
    refine lv_bipush (v := zI (-2)) gx gb dX9_image_9 (by decide) ?_
    have e_img : img = (if 0 ≤ a ∧ a ≤ 1 then imF num plc sig n q c (32 * a.toNat) img else img) := by rw [if_neg (by omega)]
    have e_kep : kep = (if 0 ≤ a ∧ a ≤ 1 then up kep a.toNat 1 else kep) := by rw [if_neg (by omega)]
    have hP : va_P D vwCl (wM mo ma mb mc md me mf mg mh mi mj mk ml mn cI cZ n q c w z ev num plc sig pad row dig far cfr cby que has (if 0 ≤ a ∧ a ≤ 1 then imF num plc sig n q c (32 * a.toNat) img else img) (if 0 ≤ a ∧ a ≤ 1 then up kep a.toNat 1 else kep)) Gs.heap := by rw [← e_img, ← e_kep]; exact hP
    have hD : va_D A (wM mo ma mb mc md me mf mg mh mi mj mk ml mn cI cZ n q c w z ev num plc sig pad row dig far cfr cby que has (if 0 ≤ a ∧ a ≤ 1 then imF num plc sig n q c (32 * a.toNat) img else img) (if 0 ≤ a ∧ a ≤ 1 then up kep a.toNat 1 else kep)) := by rw [← e_img, ← e_kep]; exact hD
    exact W.iret (v := zI (-2)) gx gb gr (fun t ht hW => ⟨⟨zI (-2), (), rfl, (by first | (dsimp only; done) | ((try dsimp only); rw [if_neg (by omega)])), by rw [ht]; exact hP, va_K.moved hW.alike hK, hD⟩, hS.F ht⟩) hS.2.2 dX9_image_11

set_option maxHeartbeats 4000000 in
set_option maxRecDepth 100000 in
theorem kX9_restore (Gl : Launch) (D : va_G) (cI cJ cZ : ClassId) (mo : Nat) (ma : Nat) (mb : Nat) (mc : Nat) (md : Nat) (me : Nat) (mf : Nat) (mg : Nat) (mh : Nat) (mi : Nat) (mj : Nat) (mk : Nat) (ml : Nat) (mn : Nat) (n : Nat) (q : Nat) (c : Nat) (w : Nat) (z : Nat) (ev : Nat) (num : Nat → Nat) (plc : Nat → Nat) (sig : Nat → Nat) (pad : Nat → Nat) (row : Nat → Nat) (dig : Nat → Nat) (far : Nat → Int32) (cfr : Nat → Nat) (cby : Nat → Nat) (que : Nat → Nat) (has : Nat → Nat) (img : Nat → Nat) (kep : Nat → Nat) (sz : Nat) (a : Int) (hl_a : -2147483648 ≤ a) (hu_a : a < 2147483648) (hk : ∀ i, i < 2 → kep i ≤ 1) : Met Gl yX9_restore wsX9_restore ({ frames := 1, cells := 0, slots := 0, locals := 22 } : Room) (va_Pc [.ref mo, .int (zI a)] (fun U => U.heap.size = sz ∧ va_P D vwCl (wM mo ma mb mc md me mf mg mh mi mj mk ml mn cI cZ n q c w z ev num plc sig pad row dig far cfr cby que has img kep) U.heap ∧ va_K D vwCl [(cI, .int), (cJ, .long), (cZ, .boolean)] U ∧ va_D (fun _ => True) (wM mo ma mb mc md me mf mg mh mi mj mk ml mn cI cZ n q c w z ev num plc sig pad row dig far cfr cby que has img kep))) (va_Qi (fun (r : Int32) (u : Unit) => r = zI (if 0 ≤ a ∧ a ≤ 1 then (if kep a.toNat ≠ 0 then 1 else -3) else -2)) (fun (u : Unit) t => va_P D vwCl (wM mo ma mb mc md me mf mg mh mi mj mk ml mn cI cZ (if (0 ≤ a ∧ a ≤ 1) ∧ kep a.toNat ≠ 0 then img (32 * a.toNat + 26) else n) (if (0 ≤ a ∧ a ≤ 1) ∧ kep a.toNat ≠ 0 then img (32 * a.toNat + 27) else q) (if (0 ≤ a ∧ a ≤ 1) ∧ kep a.toNat ≠ 0 then img (32 * a.toNat + 28) else c) w z ev (if (0 ≤ a ∧ a ≤ 1) ∧ kep a.toNat ≠ 0 then cpy (fun k => img (32 * a.toNat + k)) num 7 else num) (if (0 ≤ a ∧ a ≤ 1) ∧ kep a.toNat ≠ 0 then cpy (fun k => img (32 * a.toNat + 7 + k)) plc 7 else plc) (if (0 ≤ a ∧ a ≤ 1) ∧ kep a.toNat ≠ 0 then cpy (fun k => img (32 * a.toNat + 14 + k)) sig 12 else sig) pad row dig far cfr cby que has img kep) t.heap ∧ va_K D vwCl [(cI, .int), (cJ, .long), (cZ, .boolean)] t ∧ va_D (va_A (wM mo ma mb mc md me mf mg mh mi mj mk ml mn cI cZ n q c w z ev num plc sig pad row dig far cfr cby que has img kep) sz) (wM mo ma mb mc md me mf mg mh mi mj mk ml mn cI cZ (if (0 ≤ a ∧ a ≤ 1) ∧ kep a.toNat ≠ 0 then img (32 * a.toNat + 26) else n) (if (0 ≤ a ∧ a ≤ 1) ∧ kep a.toNat ≠ 0 then img (32 * a.toNat + 27) else q) (if (0 ≤ a ∧ a ≤ 1) ∧ kep a.toNat ≠ 0 then img (32 * a.toNat + 28) else c) w z ev (if (0 ≤ a ∧ a ≤ 1) ∧ kep a.toNat ≠ 0 then cpy (fun k => img (32 * a.toNat + k)) num 7 else num) (if (0 ≤ a ∧ a ≤ 1) ∧ kep a.toNat ≠ 0 then cpy (fun k => img (32 * a.toNat + 7 + k)) plc 7 else plc) (if (0 ≤ a ∧ a ≤ 1) ∧ kep a.toNat ≠ 0 then cpy (fun k => img (32 * a.toNat + 14 + k)) sig 12 else sig) pad row dig far cfr cby que has img kep)) (va_A (wM mo ma mb mc md me mf mg mh mi mj mk ml mn cI cZ n q c w z ev num plc sig pad row dig far cfr cby que has img kep) sz)) 0 0 (va_A (wM mo ma mb mc md me mf mg mh mi mj mk ml mn cI cZ n q c w z ev num plc sig pad row dig far cfr cby que has img kep) sz) := by
  refine Met.ofW (cc := cX9_restore) (maxL := 4) (ret := (some .int)) (by decide +kernel) rfl ?_
  intro Gp Ge Gs Gm Ga Gw Gt Gc G1 Bd gml gv
  obtain ⟨rfl, hsz, hP, hK, hD0⟩ := gv
  have gx := Bd.exec
  have gb := Bd.bytes
  have gr := Bd.returns
  have gts := atoms_spec (ws := wsX9_restore) Bd.pre
  have gown : Gs.vm.findClass RX9 = some Gm.cls := findClass_of_methodNamed Bd.named
  have glk := Bd.notSynchronized
  subst hsz
  have hD := hD0.self (sz := Gs.heap.size)
  generalize hAe : va_A (wM mo ma mb mc md me mf mg mh mi mj mk ml mn cI cZ n q c w z ev num plc sig pad row dig far cfr cby que has img kep) Gs.heap.size = A at hD ⊢
  have hA : ∀ q : Nat, Gs.heap.size ≤ q → A q := fun q h => by rw [← hAe]; exact Or.inr h
  have hS : va_S A Gs.heap Gs.heap [] := va_S.rf
  have hP : va_P D vwCl (wM mo ma mb mc md me mf mg mh mi mj mk ml mn cI cZ n q c w z ev num plc sig pad row dig far cfr cby que has img kep) Gs.heap := hP
  have hl := lv_entry ([.ref mo, .int (zI a)]) (n := 4) (Nat.le_of_ble_eq_true rfl)
  rw [lg_entry_eq]
  generalize (lg_sl ([.ref mo, .int (zI a)]) ++ List.replicate (4 - (lg_sl ([.ref mo, .int (zI a)])).length) Slot.unset).toArray = ls at hl ⊢
  have hl : lv_has ls 4 [(0, .ref mo), (1, .int (zI a))] := hl
  have i9 : ∀ w ∈ wsX90, w ∈ wsX9_restore := by decide +kernel
  refine lv_iload_n gx gb dX9_restore_0 rfl (lv_at hl 1 rfl) ?_
  refine lv_iconst (v := nI 0) gx gb dX9_restore_1 (by decide) ?_
  refine lv_iconst (v := nI 1) gx gb dX9_restore_2 (by decide) ?_
  refine lv_evs [.int (zI ((1 : Nat) : Int)), .int (zI ((0 : Nat) : Int)), .int (zI a)] (by simp only [nI_zc]) ?_
  refine vp_callSi (W.runS (As := [.int (zI a), .int (zI ((0 : Nat) : Int)), .int (zI ((1 : Nat) : Int))]) (rest := []) ⟨gx, gb, gml, gown, gts⟩ (kX9_in Gl a ((0 : Nat) : Int) ((1 : Nat) : Int) (by omega) (by omega) (by omega) (by omega) (by omega) (by omega)) (va_cwS 3 gts gX9_restore_X9_in rfl rfl rfl (by decide +kernel) ⟨Nat.le_of_ble_eq_true rfl, Nat.le_of_ble_eq_true rfl⟩) ⟨fun _ _ _ _ h => h, fun U hU hW => ⟨rfl, trivial⟩⟩ rfl rfl hl.1 rfl (lv_room (Nat.le_of_ble_eq_true rfl)) dX9_restore_3 ⟨Nat.le_of_ble_eq_true rfl, Nat.le_of_ble_eq_true rfl⟩) (fun r hw => ?_)
  have hr3 := hw
  subst hr3
  refine lv_if_ne (tgt := 12) gx gb dX9_restore_6 (by decide) (fun c6 => ?_) (fun c6 => ?_)
  · skip
    rw [b0_eq] at c6
    simp only [decide_eq_false_iff_not, Decidable.not_not] at c6
    obtain ⟨i, hi⟩ : ∃ i : Nat, a = (i : Int) := ⟨a.toNat, by omega⟩
    rw [show zI a = nI i from by rw [hi, zI_nat]] at hl
    have hl : lv_has ls 4 [(0, .ref mo), (1, .int (nI i))] := hl
    refine lv_aload_n gx gb dX9_restore_12 rfl (lv_at hl 0 rfl) ?_
    refine va_get (D := D) (ci := 4) (v := .ref mn) (C := RX9) (T := TX9) (N := 19) gx gb gts i9 gown hK hP 0 rfl rfl 18 (by decide) (gts (.fieldLink RX9 53 "SwanSumsModel" "isKept" "[Z") (by decide +kernel)) (fun _ h9 => h9) rfl dX9_restore_13 ?_
    have hki := hk i (by omega)
    refine lv_iload_n gx gb dX9_restore_16 rfl (lv_at hl 1 rfl) ?_
    refine va_zald gx gb hK hP 13 2 rfl rfl (vp_in_nI (n := i) (by omega) (by decide)) dX9_restore_17 ?_
    refine lv_evi (nI (kep i)) (aN_rd kep (by omega)) ?_
    refine lv_if_ne (tgt := 24) gx gb dX9_restore_18 (by decide) (fun c18 => ?_) (fun c18 => ?_)
    · skip
      rw [n0_eq (by omega)] at c18
      refine lv_bipush (v := nI 32) gx gb dX9_restore_24 (by decide) ?_
      refine lv_iload_n gx gb dX9_restore_26 rfl (lv_at hl 1 rfl) ?_
      refine lv_imul gx gb dX9_restore_27 ?_
      refine lv_evi (nI (32 * i)) (pk_mul 32 i) ?_
      refine lv_istore_n (lv' := [(2, .int (nI (32 * i))), (0, .ref mo), (1, .int (nI i))]) gx gb dX9_restore_28 rfl hl (by decide) rfl (fun ls hl => ?_)
      refine lv_iconst (v := nI 0) gx gb dX9_restore_29 (by decide) ?_
      refine lv_istore_n (lv' := [(3, .int (nI 0)), (2, .int (nI (32 * i))), (0, .ref mo), (1, .int (nI i))]) gx gb dX9_restore_30 rfl hl (by decide) rfl (fun ls hl => ?_)
      have L31 : ∀ fu : Nat, ∀ (j : Nat) (hj : j ≤ 7), (7 - j) < fu → ∀ (H : Heap) (locs : List Loc), va_P D vwCl (wM mo ma mb mc md me mf mg mh mi mj mk ml mn cI cZ n q c w z ev (cpy (fun k => img (32 * i + k)) num j) (cpy (fun k => img (32 * i + 7 + k)) plc j) sig pad row dig far cfr cby que has img kep) H → va_D A (wM mo ma mb mc md me mf mg mh mi mj mk ml mn cI cZ n q c w z ev (cpy (fun k => img (32 * i + k)) num j) (cpy (fun k => img (32 * i + 7 + k)) plc j) sig pad row dig far cfr cby que has img kep) → va_S A Gs.heap H locs → ∀ ls : Array Slot, lv_has ls 4 [(3, .int (nI j)), (2, .int (nI (32 * i))), (0, .ref mo), (1, .int (nI i))] → W Gp Gl Ge (headSpec wsX9_restore ({ frames := 1, cells := 0, slots := 0, locals := 22 } : Room)).room Gs Gm ([.ref mo, .int (zI a)] : List Value).toArray Gw Gt Gc H locs 0 0 (MQ Gw (va_Qi (fun (r : Int32) (u : Unit) => r = zI (if 0 ≤ a ∧ a ≤ 1 then (if kep a.toNat ≠ 0 then 1 else -3) else -2)) (fun (u : Unit) t => va_P D vwCl (wM mo ma mb mc md me mf mg mh mi mj mk ml mn cI cZ (if (0 ≤ a ∧ a ≤ 1) ∧ kep a.toNat ≠ 0 then img (32 * a.toNat + 26) else n) (if (0 ≤ a ∧ a ≤ 1) ∧ kep a.toNat ≠ 0 then img (32 * a.toNat + 27) else q) (if (0 ≤ a ∧ a ≤ 1) ∧ kep a.toNat ≠ 0 then img (32 * a.toNat + 28) else c) w z ev (if (0 ≤ a ∧ a ≤ 1) ∧ kep a.toNat ≠ 0 then cpy (fun k => img (32 * a.toNat + k)) num 7 else num) (if (0 ≤ a ∧ a ≤ 1) ∧ kep a.toNat ≠ 0 then cpy (fun k => img (32 * a.toNat + 7 + k)) plc 7 else plc) (if (0 ≤ a ∧ a ≤ 1) ∧ kep a.toNat ≠ 0 then cpy (fun k => img (32 * a.toNat + 14 + k)) sig 12 else sig) pad row dig far cfr cby que has img kep) t.heap ∧ va_K D vwCl [(cI, .int), (cJ, .long), (cZ, .boolean)] t ∧ va_D A (wM mo ma mb mc md me mf mg mh mi mj mk ml mn cI cZ (if (0 ≤ a ∧ a ≤ 1) ∧ kep a.toNat ≠ 0 then img (32 * a.toNat + 26) else n) (if (0 ≤ a ∧ a ≤ 1) ∧ kep a.toNat ≠ 0 then img (32 * a.toNat + 27) else q) (if (0 ≤ a ∧ a ≤ 1) ∧ kep a.toNat ≠ 0 then img (32 * a.toNat + 28) else c) w z ev (if (0 ≤ a ∧ a ≤ 1) ∧ kep a.toNat ≠ 0 then cpy (fun k => img (32 * a.toNat + k)) num 7 else num) (if (0 ≤ a ∧ a ≤ 1) ∧ kep a.toNat ≠ 0 then cpy (fun k => img (32 * a.toNat + 7 + k)) plc 7 else plc) (if (0 ≤ a ∧ a ≤ 1) ∧ kep a.toNat ≠ 0 then cpy (fun k => img (32 * a.toNat + 14 + k)) sig 12 else sig) pad row dig far cfr cby que has img kep)) A) ([.ref mo, .int (zI a)] : List Value).toArray Gs 0 0 A) (F0 Gm 31 ls []) := by
        intro fu
        induction fu with
        | zero => intro j hj hfu; exact absurd hfu (Nat.not_lt_zero _)
        | succ fu ih31 =>
          intro j hj hfu H locs hP hD hS ls hl
          refine lv_iload_n gx gb dX9_restore_31 rfl (lv_at hl 0 rfl) ?_
          refine lv_bipush (v := nI 7) gx gb dX9_restore_32 (by decide) ?_
          refine lv_icmp_ge (tgt := 74) gx gb dX9_restore_34 (by decide) (fun c34 => ?_) (fun c34 => ?_)
          · skip
            rw [nI_leI (by omega) (by omega)] at c34
            refine lv_iconst (v := nI 0) gx gb dX9_restore_74 (by decide) ?_
            refine lv_istore_n (lv' := [(3, .int (nI 0)), (2, .int (nI (32 * i))), (0, .ref mo), (1, .int (nI i))]) gx gb dX9_restore_75 rfl hl (by decide) rfl (fun ls hl => ?_)
            have L76 : ∀ fu : Nat, ∀ (j2 : Nat) (hj2 : j2 ≤ 12), (12 - j2) < fu → ∀ (H : Heap) (locs : List Loc), va_P D vwCl (wM mo ma mb mc md me mf mg mh mi mj mk ml mn cI cZ n q c w z ev (cpy (fun k => img (32 * i + k)) num j) (cpy (fun k => img (32 * i + 7 + k)) plc j) (cpy (fun k => img (32 * i + 14 + k)) sig j2) pad row dig far cfr cby que has img kep) H → va_D A (wM mo ma mb mc md me mf mg mh mi mj mk ml mn cI cZ n q c w z ev (cpy (fun k => img (32 * i + k)) num j) (cpy (fun k => img (32 * i + 7 + k)) plc j) (cpy (fun k => img (32 * i + 14 + k)) sig j2) pad row dig far cfr cby que has img kep) → va_S A Gs.heap H locs → ∀ ls : Array Slot, lv_has ls 4 [(3, .int (nI j2)), (2, .int (nI (32 * i))), (0, .ref mo), (1, .int (nI i))] → W Gp Gl Ge (headSpec wsX9_restore ({ frames := 1, cells := 0, slots := 0, locals := 22 } : Room)).room Gs Gm ([.ref mo, .int (zI a)] : List Value).toArray Gw Gt Gc H locs 0 0 (MQ Gw (va_Qi (fun (r : Int32) (u : Unit) => r = zI (if 0 ≤ a ∧ a ≤ 1 then (if kep a.toNat ≠ 0 then 1 else -3) else -2)) (fun (u : Unit) t => va_P D vwCl (wM mo ma mb mc md me mf mg mh mi mj mk ml mn cI cZ (if (0 ≤ a ∧ a ≤ 1) ∧ kep a.toNat ≠ 0 then img (32 * a.toNat + 26) else n) (if (0 ≤ a ∧ a ≤ 1) ∧ kep a.toNat ≠ 0 then img (32 * a.toNat + 27) else q) (if (0 ≤ a ∧ a ≤ 1) ∧ kep a.toNat ≠ 0 then img (32 * a.toNat + 28) else c) w z ev (if (0 ≤ a ∧ a ≤ 1) ∧ kep a.toNat ≠ 0 then cpy (fun k => img (32 * a.toNat + k)) num 7 else num) (if (0 ≤ a ∧ a ≤ 1) ∧ kep a.toNat ≠ 0 then cpy (fun k => img (32 * a.toNat + 7 + k)) plc 7 else plc) (if (0 ≤ a ∧ a ≤ 1) ∧ kep a.toNat ≠ 0 then cpy (fun k => img (32 * a.toNat + 14 + k)) sig 12 else sig) pad row dig far cfr cby que has img kep) t.heap ∧ va_K D vwCl [(cI, .int), (cJ, .long), (cZ, .boolean)] t ∧ va_D A (wM mo ma mb mc md me mf mg mh mi mj mk ml mn cI cZ (if (0 ≤ a ∧ a ≤ 1) ∧ kep a.toNat ≠ 0 then img (32 * a.toNat + 26) else n) (if (0 ≤ a ∧ a ≤ 1) ∧ kep a.toNat ≠ 0 then img (32 * a.toNat + 27) else q) (if (0 ≤ a ∧ a ≤ 1) ∧ kep a.toNat ≠ 0 then img (32 * a.toNat + 28) else c) w z ev (if (0 ≤ a ∧ a ≤ 1) ∧ kep a.toNat ≠ 0 then cpy (fun k => img (32 * a.toNat + k)) num 7 else num) (if (0 ≤ a ∧ a ≤ 1) ∧ kep a.toNat ≠ 0 then cpy (fun k => img (32 * a.toNat + 7 + k)) plc 7 else plc) (if (0 ≤ a ∧ a ≤ 1) ∧ kep a.toNat ≠ 0 then cpy (fun k => img (32 * a.toNat + 14 + k)) sig 12 else sig) pad row dig far cfr cby que has img kep)) A) ([.ref mo, .int (zI a)] : List Value).toArray Gs 0 0 A) (F0 Gm 76 ls []) := by
              intro fu
              induction fu with
              | zero => intro j2 hj2 hfu; exact absurd hfu (Nat.not_lt_zero _)
              | succ fu ih76 =>
                intro j2 hj2 hfu H locs hP hD hS ls hl
                refine lv_iload_n gx gb dX9_restore_76 rfl (lv_at hl 0 rfl) ?_
                refine lv_bipush (v := nI 12) gx gb dX9_restore_77 (by decide) ?_
                refine lv_icmp_ge (tgt := 105) gx gb dX9_restore_79 (by decide) (fun c79 => ?_) (fun c79 => ?_)
                · skip
                  rw [nI_leI (by omega) (by omega)] at c79
                  refine lv_aload_n gx gb dX9_restore_105 rfl (lv_at hl 2 rfl) ?_
                  refine lv_aload_n gx gb dX9_restore_106 rfl (lv_at hl 2 rfl) ?_
                  refine va_get (D := D) (ci := 4) (v := .ref ml) (C := RX9) (T := TX9) (N := 19) gx gb gts i9 gown hK hP 0 rfl rfl 17 (by decide) (gts (.fieldLink RX9 50 "SwanSumsModel" "image" "[I") (by decide +kernel)) (fun _ h9 => h9) rfl dX9_restore_107 ?_
                  refine lv_iload_n gx gb dX9_restore_110 rfl (lv_at hl 1 rfl) ?_
                  refine lv_bipush (v := nI 26) gx gb dX9_restore_111 (by decide) ?_
                  refine lv_iadd gx gb dX9_restore_113 ?_
                  refine lv_evi (nI ((32 * i) + 26)) (nI_add (32 * i) 26) ?_
                  refine va_iald gx gb hK hP 12 0 rfl rfl (vp_in_nI (n := (32 * i) + 26) (by omega) (by decide)) dX9_restore_114 ?_
                  refine lv_evi (nI (img ((32 * i) + 26))) (aN_rd img (by omega)) ?_
                  refine va_put (D := D) (ci := 4) (v := .int (nI (img ((32 * i) + 26)))) (ty := .int) (C := RX9) (T := TX9) (N := 19) gx gb gts i9 tyX9 tyX9_ok nmX9 gown hK hP hD hS 0 rfl rfl 0 (by decide) (gts (.fieldLink RX9 7 "SwanSumsModel" "all" "I") (by decide +kernel)) (fun _ h9 => h9) rfl (by decide +kernel) rfl rfl (Nat.le_of_ble_eq_true rfl) dX9_restore_115 (fun H locs hP hD hS => ?_)
                  have hP : va_P D vwCl (wM mo ma mb mc md me mf mg mh mi mj mk ml mn cI cZ (img ((32 * i) + 26)) q c w z ev (cpy (fun k => img (32 * i + k)) num j) (cpy (fun k => img (32 * i + 7 + k)) plc j) (cpy (fun k => img (32 * i + 14 + k)) sig j2) pad row dig far cfr cby que has img kep) H := hP
                  have hD : va_D A (wM mo ma mb mc md me mf mg mh mi mj mk ml mn cI cZ (img ((32 * i) + 26)) q c w z ev (cpy (fun k => img (32 * i + k)) num j) (cpy (fun k => img (32 * i + 7 + k)) plc j) (cpy (fun k => img (32 * i + 14 + k)) sig j2) pad row dig far cfr cby que has img kep) := hD
                  refine lv_aload_n gx gb dX9_restore_118 rfl (lv_at hl 2 rfl) ?_
                  refine lv_aload_n gx gb dX9_restore_119 rfl (lv_at hl 2 rfl) ?_
                  refine va_get (D := D) (ci := 4) (v := .ref ml) (C := RX9) (T := TX9) (N := 19) gx gb gts i9 gown hK hP 0 rfl rfl 17 (by decide) (gts (.fieldLink RX9 50 "SwanSumsModel" "image" "[I") (by decide +kernel)) (fun _ h9 => h9) rfl dX9_restore_120 ?_
                  refine lv_iload_n gx gb dX9_restore_123 rfl (lv_at hl 1 rfl) ?_
                  refine lv_bipush (v := nI 27) gx gb dX9_restore_124 (by decide) ?_
                  refine lv_iadd gx gb dX9_restore_126 ?_
                  refine lv_evi (nI ((32 * i) + 27)) (nI_add (32 * i) 27) ?_
                  refine va_iald gx gb hK hP 12 0 rfl rfl (vp_in_nI (n := (32 * i) + 27) (by omega) (by decide)) dX9_restore_127 ?_
                  refine lv_evi (nI (img ((32 * i) + 27))) (aN_rd img (by omega)) ?_
                  refine va_put (D := D) (ci := 4) (v := .int (nI (img ((32 * i) + 27)))) (ty := .int) (C := RX9) (T := TX9) (N := 19) gx gb gts i9 tyX9 tyX9_ok nmX9 gown hK hP hD hS 0 rfl rfl 1 (by decide) (gts (.fieldLink RX9 13 "SwanSumsModel" "many" "I") (by decide +kernel)) (fun _ h9 => h9) rfl (by decide +kernel) rfl rfl (Nat.le_of_ble_eq_true rfl) dX9_restore_128 (fun H locs hP hD hS => ?_)
                  have hP : va_P D vwCl (wM mo ma mb mc md me mf mg mh mi mj mk ml mn cI cZ (img ((32 * i) + 26)) (img ((32 * i) + 27)) c w z ev (cpy (fun k => img (32 * i + k)) num j) (cpy (fun k => img (32 * i + 7 + k)) plc j) (cpy (fun k => img (32 * i + 14 + k)) sig j2) pad row dig far cfr cby que has img kep) H := hP
                  have hD : va_D A (wM mo ma mb mc md me mf mg mh mi mj mk ml mn cI cZ (img ((32 * i) + 26)) (img ((32 * i) + 27)) c w z ev (cpy (fun k => img (32 * i + k)) num j) (cpy (fun k => img (32 * i + 7 + k)) plc j) (cpy (fun k => img (32 * i + 14 + k)) sig j2) pad row dig far cfr cby que has img kep) := hD
                  refine lv_aload_n gx gb dX9_restore_131 rfl (lv_at hl 2 rfl) ?_
                  refine lv_aload_n gx gb dX9_restore_132 rfl (lv_at hl 2 rfl) ?_
                  refine va_get (D := D) (ci := 4) (v := .ref ml) (C := RX9) (T := TX9) (N := 19) gx gb gts i9 gown hK hP 0 rfl rfl 17 (by decide) (gts (.fieldLink RX9 50 "SwanSumsModel" "image" "[I") (by decide +kernel)) (fun _ h9 => h9) rfl dX9_restore_133 ?_
                  refine lv_iload_n gx gb dX9_restore_136 rfl (lv_at hl 1 rfl) ?_
                  refine lv_bipush (v := nI 28) gx gb dX9_restore_137 (by decide) ?_
                  refine lv_iadd gx gb dX9_restore_139 ?_
                  refine lv_evi (nI ((32 * i) + 28)) (nI_add (32 * i) 28) ?_
                  refine va_iald gx gb hK hP 12 0 rfl rfl (vp_in_nI (n := (32 * i) + 28) (by omega) (by decide)) dX9_restore_140 ?_
                  refine lv_evi (nI (img ((32 * i) + 28))) (aN_rd img (by omega)) ?_
                  refine va_put (D := D) (ci := 4) (v := .int (nI (img ((32 * i) + 28)))) (ty := .int) (C := RX9) (T := TX9) (N := 19) gx gb gts i9 tyX9 tyX9_ok nmX9 gown hK hP hD hS 0 rfl rfl 4 (by decide) (gts (.fieldLink RX9 60 "SwanSumsModel" "sights" "I") (by decide +kernel)) (fun _ h9 => h9) rfl (by decide +kernel) rfl rfl (Nat.le_of_ble_eq_true rfl) dX9_restore_141 (fun H locs hP hD hS => ?_)
                  have hP : va_P D vwCl (wM mo ma mb mc md me mf mg mh mi mj mk ml mn cI cZ (img ((32 * i) + 26)) (img ((32 * i) + 27)) (img ((32 * i) + 28)) w z ev (cpy (fun k => img (32 * i + k)) num j) (cpy (fun k => img (32 * i + 7 + k)) plc j) (cpy (fun k => img (32 * i + 14 + k)) sig j2) pad row dig far cfr cby que has img kep) H := hP
                  have hD : va_D A (wM mo ma mb mc md me mf mg mh mi mj mk ml mn cI cZ (img ((32 * i) + 26)) (img ((32 * i) + 27)) (img ((32 * i) + 28)) w z ev (cpy (fun k => img (32 * i + k)) num j) (cpy (fun k => img (32 * i + 7 + k)) plc j) (cpy (fun k => img (32 * i + 14 + k)) sig j2) pad row dig far cfr cby que has img kep) := hD
                  refine lv_iconst (v := nI 1) gx gb dX9_restore_144 (by decide) ?_
                  have e_num : (cpy (fun k => img (32 * i + k)) num j) = (if (0 ≤ a ∧ a ≤ 1) ∧ kep a.toNat ≠ 0 then cpy (fun k => img (32 * a.toNat + k)) num 7 else num) := by rw [show j = 7 by omega, hi]; exact (if_pos ⟨by omega, show kep i ≠ 0 by omega⟩).symm
                  have e_plc : (cpy (fun k => img (32 * i + 7 + k)) plc j) = (if (0 ≤ a ∧ a ≤ 1) ∧ kep a.toNat ≠ 0 then cpy (fun k => img (32 * a.toNat + 7 + k)) plc 7 else plc) := by rw [show j = 7 by omega, hi]; exact (if_pos ⟨by omega, show kep i ≠ 0 by omega⟩).symm
                  have e_sig : (cpy (fun k => img (32 * i + 14 + k)) sig j2) = (if (0 ≤ a ∧ a ≤ 1) ∧ kep a.toNat ≠ 0 then cpy (fun k => img (32 * a.toNat + 14 + k)) sig 12 else sig) := by rw [show j2 = 12 by omega, hi]; exact (if_pos ⟨by omega, show kep i ≠ 0 by omega⟩).symm
                  have e_n : (img ((32 * i) + 26)) = (if (0 ≤ a ∧ a ≤ 1) ∧ kep a.toNat ≠ 0 then img (32 * a.toNat + 26) else n) := by rw [hi]; exact (if_pos ⟨by omega, show kep i ≠ 0 by omega⟩).symm
                  have e_q : (img ((32 * i) + 27)) = (if (0 ≤ a ∧ a ≤ 1) ∧ kep a.toNat ≠ 0 then img (32 * a.toNat + 27) else q) := by rw [hi]; exact (if_pos ⟨by omega, show kep i ≠ 0 by omega⟩).symm
                  have e_c : (img ((32 * i) + 28)) = (if (0 ≤ a ∧ a ≤ 1) ∧ kep a.toNat ≠ 0 then img (32 * a.toNat + 28) else c) := by rw [hi]; exact (if_pos ⟨by omega, show kep i ≠ 0 by omega⟩).symm
                  have hP : va_P D vwCl (wM mo ma mb mc md me mf mg mh mi mj mk ml mn cI cZ (if (0 ≤ a ∧ a ≤ 1) ∧ kep a.toNat ≠ 0 then img (32 * a.toNat + 26) else n) (if (0 ≤ a ∧ a ≤ 1) ∧ kep a.toNat ≠ 0 then img (32 * a.toNat + 27) else q) (if (0 ≤ a ∧ a ≤ 1) ∧ kep a.toNat ≠ 0 then img (32 * a.toNat + 28) else c) w z ev (if (0 ≤ a ∧ a ≤ 1) ∧ kep a.toNat ≠ 0 then cpy (fun k => img (32 * a.toNat + k)) num 7 else num) (if (0 ≤ a ∧ a ≤ 1) ∧ kep a.toNat ≠ 0 then cpy (fun k => img (32 * a.toNat + 7 + k)) plc 7 else plc) (if (0 ≤ a ∧ a ≤ 1) ∧ kep a.toNat ≠ 0 then cpy (fun k => img (32 * a.toNat + 14 + k)) sig 12 else sig) pad row dig far cfr cby que has img kep) H := by rw [← e_num, ← e_plc, ← e_sig, ← e_n, ← e_q, ← e_c]; exact hP
                  have hD : va_D A (wM mo ma mb mc md me mf mg mh mi mj mk ml mn cI cZ (if (0 ≤ a ∧ a ≤ 1) ∧ kep a.toNat ≠ 0 then img (32 * a.toNat + 26) else n) (if (0 ≤ a ∧ a ≤ 1) ∧ kep a.toNat ≠ 0 then img (32 * a.toNat + 27) else q) (if (0 ≤ a ∧ a ≤ 1) ∧ kep a.toNat ≠ 0 then img (32 * a.toNat + 28) else c) w z ev (if (0 ≤ a ∧ a ≤ 1) ∧ kep a.toNat ≠ 0 then cpy (fun k => img (32 * a.toNat + k)) num 7 else num) (if (0 ≤ a ∧ a ≤ 1) ∧ kep a.toNat ≠ 0 then cpy (fun k => img (32 * a.toNat + 7 + k)) plc 7 else plc) (if (0 ≤ a ∧ a ≤ 1) ∧ kep a.toNat ≠ 0 then cpy (fun k => img (32 * a.toNat + 14 + k)) sig 12 else sig) pad row dig far cfr cby que has img kep) := by rw [← e_num, ← e_plc, ← e_sig, ← e_n, ← e_q, ← e_c]; exact hD
                  exact W.iret (v := nI 1) gx gb gr (fun t ht hW => ⟨⟨nI 1, (), rfl, (by first | (dsimp only; done) | ((try dsimp only); rw [if_pos (by omega), hi]; show _ = zI (if kep i ≠ 0 then 1 else -3); rw [if_pos (by omega)]; rfl)), by rw [ht]; exact hP, va_K.moved hW.alike hK, hD⟩, hS.F ht⟩) hS.2.2 dX9_restore_145
                · skip
                  rw [nI_leI (by omega) (by omega)] at c79
                  refine lv_aload_n gx gb dX9_restore_82 rfl (lv_at hl 2 rfl) ?_
                  refine va_get (D := D) (ci := 4) (v := .ref mc) (C := RX9) (T := TX9) (N := 19) gx gb gts i9 gown hK hP 0 rfl rfl 5 (by decide) (gts (.fieldLink RX9 23 "SwanSumsModel" "sight" "[I") (by decide +kernel)) (fun _ h9 => h9) rfl dX9_restore_83 ?_
                  refine lv_iload_n gx gb dX9_restore_86 rfl (lv_at hl 0 rfl) ?_
                  refine lv_aload_n gx gb dX9_restore_87 rfl (lv_at hl 2 rfl) ?_
                  refine va_get (D := D) (ci := 4) (v := .ref ml) (C := RX9) (T := TX9) (N := 19) gx gb gts i9 gown hK hP 0 rfl rfl 17 (by decide) (gts (.fieldLink RX9 50 "SwanSumsModel" "image" "[I") (by decide +kernel)) (fun _ h9 => h9) rfl dX9_restore_88 ?_
                  refine lv_iload_n gx gb dX9_restore_91 rfl (lv_at hl 1 rfl) ?_
                  refine lv_bipush (v := nI 14) gx gb dX9_restore_92 (by decide) ?_
                  refine lv_iadd gx gb dX9_restore_94 ?_
                  refine lv_evi (nI ((32 * i) + 14)) (nI_add (32 * i) 14) ?_
                  refine lv_iload_n gx gb dX9_restore_95 rfl (lv_at hl 0 rfl) ?_
                  refine lv_iadd gx gb dX9_restore_96 ?_
                  refine lv_evi (nI (((32 * i) + 14) + j2)) (nI_add ((32 * i) + 14) j2) ?_
                  refine va_iald gx gb hK hP 12 0 rfl rfl (vp_in_nI (n := ((32 * i) + 14) + j2) (by omega) (by decide)) dX9_restore_97 ?_
                  refine lv_evi (nI (img (((32 * i) + 14) + j2))) (aN_rd img (by omega)) ?_
                  refine va_iast gx gb hK hP hD hS 3 0 rfl rfl (vp_in_nI (n := j2) (by omega) (by decide)) dX9_restore_98 (fun H locs hP hD hS => ?_)
                  rw [aN_st (cpy (fun k => img (32 * i + 14 + k)) sig j2) (img (((32 * i) + 14) + j2)) (by omega)] at hP hD
                  have hP : va_P D vwCl (wM mo ma mb mc md me mf mg mh mi mj mk ml mn cI cZ n q c w z ev (cpy (fun k => img (32 * i + k)) num j) (cpy (fun k => img (32 * i + 7 + k)) plc j) (up (cpy (fun k => img (32 * i + 14 + k)) sig j2) j2 (img (((32 * i) + 14) + j2))) pad row dig far cfr cby que has img kep) H := hP
                  have hD : va_D A (wM mo ma mb mc md me mf mg mh mi mj mk ml mn cI cZ n q c w z ev (cpy (fun k => img (32 * i + k)) num j) (cpy (fun k => img (32 * i + 7 + k)) plc j) (up (cpy (fun k => img (32 * i + 14 + k)) sig j2) j2 (img (((32 * i) + 14) + j2))) pad row dig far cfr cby que has img kep) := hD
                  refine lv_iinc (v := nI (j2 + 1)) (lv' := [(3, .int (nI (j2 + 1))), (2, .int (nI (32 * i))), (0, .ref mo), (1, .int (nI i))]) gx gb dX9_restore_99 hl (k := 0) rfl (nI_add j2 1) (by decide) rfl (fun ls hl => ?_)
                  refine lv_goto (tgt := 76) gx gb dX9_restore_102 (by decide) ?_
                  rw [cpy_s (fun k => img (32 * i + 14 + k)) sig j2] at hP hD
                  exact ih76 (j2 + 1) (by omega) (by omega) _ _ hP hD hS ls (lv_sub hl [0, 1, 2, 3] rfl)
            rw [← cpy_0 (fun k => img (32 * i + 14 + k)) sig] at hP hD
            exact L76 _ 0 (by omega) (Nat.lt_succ_self _) _ _ hP hD hS ls (lv_sub hl [0, 1, 2, 3] rfl)
          · skip
            rw [nI_leI (by omega) (by omega)] at c34
            refine lv_aload_n gx gb dX9_restore_37 rfl (lv_at hl 2 rfl) ?_
            refine va_get (D := D) (ci := 4) (v := .ref ma) (C := RX9) (T := TX9) (N := 19) gx gb gts i9 gown hK hP 0 rfl rfl 2 (by decide) (gts (.fieldLink RX9 16 "SwanSumsModel" "numbers" "[I") (by decide +kernel)) (fun _ h9 => h9) rfl dX9_restore_38 ?_
            refine lv_iload_n gx gb dX9_restore_41 rfl (lv_at hl 0 rfl) ?_
            refine lv_aload_n gx gb dX9_restore_42 rfl (lv_at hl 2 rfl) ?_
            refine va_get (D := D) (ci := 4) (v := .ref ml) (C := RX9) (T := TX9) (N := 19) gx gb gts i9 gown hK hP 0 rfl rfl 17 (by decide) (gts (.fieldLink RX9 50 "SwanSumsModel" "image" "[I") (by decide +kernel)) (fun _ h9 => h9) rfl dX9_restore_43 ?_
            refine lv_iload_n gx gb dX9_restore_46 rfl (lv_at hl 1 rfl) ?_
            refine lv_iload_n gx gb dX9_restore_47 rfl (lv_at hl 0 rfl) ?_
            refine lv_iadd gx gb dX9_restore_48 ?_
            refine lv_evi (nI ((32 * i) + j)) (nI_add (32 * i) j) ?_
            refine va_iald gx gb hK hP 12 0 rfl rfl (vp_in_nI (n := (32 * i) + j) (by omega) (by decide)) dX9_restore_49 ?_
            refine lv_evi (nI (img ((32 * i) + j))) (aN_rd img (by omega)) ?_
            refine va_iast gx gb hK hP hD hS 1 0 rfl rfl (vp_in_nI (n := j) (by omega) (by decide)) dX9_restore_50 (fun H locs hP hD hS => ?_)
            rw [aN_st (cpy (fun k => img (32 * i + k)) num j) (img ((32 * i) + j)) (by omega)] at hP hD
            have hP : va_P D vwCl (wM mo ma mb mc md me mf mg mh mi mj mk ml mn cI cZ n q c w z ev (up (cpy (fun k => img (32 * i + k)) num j) j (img ((32 * i) + j))) (cpy (fun k => img (32 * i + 7 + k)) plc j) sig pad row dig far cfr cby que has img kep) H := hP
            have hD : va_D A (wM mo ma mb mc md me mf mg mh mi mj mk ml mn cI cZ n q c w z ev (up (cpy (fun k => img (32 * i + k)) num j) j (img ((32 * i) + j))) (cpy (fun k => img (32 * i + 7 + k)) plc j) sig pad row dig far cfr cby que has img kep) := hD
            refine lv_aload_n gx gb dX9_restore_51 rfl (lv_at hl 2 rfl) ?_
            refine va_get (D := D) (ci := 4) (v := .ref mb) (C := RX9) (T := TX9) (N := 19) gx gb gts i9 gown hK hP 0 rfl rfl 3 (by decide) (gts (.fieldLink RX9 20 "SwanSumsModel" "place" "[I") (by decide +kernel)) (fun _ h9 => h9) rfl dX9_restore_52 ?_
            refine lv_iload_n gx gb dX9_restore_55 rfl (lv_at hl 0 rfl) ?_
            refine lv_aload_n gx gb dX9_restore_56 rfl (lv_at hl 2 rfl) ?_
            refine va_get (D := D) (ci := 4) (v := .ref ml) (C := RX9) (T := TX9) (N := 19) gx gb gts i9 gown hK hP 0 rfl rfl 17 (by decide) (gts (.fieldLink RX9 50 "SwanSumsModel" "image" "[I") (by decide +kernel)) (fun _ h9 => h9) rfl dX9_restore_57 ?_
            refine lv_iload_n gx gb dX9_restore_60 rfl (lv_at hl 1 rfl) ?_
            refine lv_bipush (v := nI 7) gx gb dX9_restore_61 (by decide) ?_
            refine lv_iadd gx gb dX9_restore_63 ?_
            refine lv_evi (nI ((32 * i) + 7)) (nI_add (32 * i) 7) ?_
            refine lv_iload_n gx gb dX9_restore_64 rfl (lv_at hl 0 rfl) ?_
            refine lv_iadd gx gb dX9_restore_65 ?_
            refine lv_evi (nI (((32 * i) + 7) + j)) (nI_add ((32 * i) + 7) j) ?_
            refine va_iald gx gb hK hP 12 0 rfl rfl (vp_in_nI (n := ((32 * i) + 7) + j) (by omega) (by decide)) dX9_restore_66 ?_
            refine lv_evi (nI (img (((32 * i) + 7) + j))) (aN_rd img (by omega)) ?_
            refine va_iast gx gb hK hP hD hS 2 0 rfl rfl (vp_in_nI (n := j) (by omega) (by decide)) dX9_restore_67 (fun H locs hP hD hS => ?_)
            rw [aN_st (cpy (fun k => img (32 * i + 7 + k)) plc j) (img (((32 * i) + 7) + j)) (by omega)] at hP hD
            have hP : va_P D vwCl (wM mo ma mb mc md me mf mg mh mi mj mk ml mn cI cZ n q c w z ev (up (cpy (fun k => img (32 * i + k)) num j) j (img ((32 * i) + j))) (up (cpy (fun k => img (32 * i + 7 + k)) plc j) j (img (((32 * i) + 7) + j))) sig pad row dig far cfr cby que has img kep) H := hP
            have hD : va_D A (wM mo ma mb mc md me mf mg mh mi mj mk ml mn cI cZ n q c w z ev (up (cpy (fun k => img (32 * i + k)) num j) j (img ((32 * i) + j))) (up (cpy (fun k => img (32 * i + 7 + k)) plc j) j (img (((32 * i) + 7) + j))) sig pad row dig far cfr cby que has img kep) := hD
            refine lv_iinc (v := nI (j + 1)) (lv' := [(3, .int (nI (j + 1))), (2, .int (nI (32 * i))), (0, .ref mo), (1, .int (nI i))]) gx gb dX9_restore_68 hl (k := 0) rfl (nI_add j 1) (by decide) rfl (fun ls hl => ?_)
            refine lv_goto (tgt := 31) gx gb dX9_restore_71 (by decide) ?_
            rw [cpy_s (fun k => img (32 * i + k)) num j, cpy_s (fun k => img (32 * i + 7 + k)) plc j] at hP hD
            exact ih31 (j + 1) (by omega) (by omega) _ _ hP hD hS ls (lv_sub hl [0, 1, 2, 3] rfl)
      rw [← cpy_0 (fun k => img (32 * i + k)) num, ← cpy_0 (fun k => img (32 * i + 7 + k)) plc] at hP hD
      exact L31 _ 0 (by omega) (Nat.lt_succ_self _) _ _ hP hD hS ls (lv_sub hl [0, 1, 2, 3] rfl)
    · skip
      rw [n0_eq (by omega)] at c18
      refine lv_bipush (v := zI (-3)) gx gb dX9_restore_21 (by decide) ?_
      have e_num : num = (if (0 ≤ a ∧ a ≤ 1) ∧ kep a.toNat ≠ 0 then cpy (fun k => img (32 * a.toNat + k)) num 7 else num) := by rw [hi]; exact (if_neg (fun h => h.2 (show kep i = 0 by omega))).symm
      have e_plc : plc = (if (0 ≤ a ∧ a ≤ 1) ∧ kep a.toNat ≠ 0 then cpy (fun k => img (32 * a.toNat + 7 + k)) plc 7 else plc) := by rw [hi]; exact (if_neg (fun h => h.2 (show kep i = 0 by omega))).symm
      have e_sig : sig = (if (0 ≤ a ∧ a ≤ 1) ∧ kep a.toNat ≠ 0 then cpy (fun k => img (32 * a.toNat + 14 + k)) sig 12 else sig) := by rw [hi]; exact (if_neg (fun h => h.2 (show kep i = 0 by omega))).symm
      have e_n : n = (if (0 ≤ a ∧ a ≤ 1) ∧ kep a.toNat ≠ 0 then img (32 * a.toNat + 26) else n) := by rw [hi]; exact (if_neg (fun h => h.2 (show kep i = 0 by omega))).symm
      have e_q : q = (if (0 ≤ a ∧ a ≤ 1) ∧ kep a.toNat ≠ 0 then img (32 * a.toNat + 27) else q) := by rw [hi]; exact (if_neg (fun h => h.2 (show kep i = 0 by omega))).symm
      have e_c : c = (if (0 ≤ a ∧ a ≤ 1) ∧ kep a.toNat ≠ 0 then img (32 * a.toNat + 28) else c) := by rw [hi]; exact (if_neg (fun h => h.2 (show kep i = 0 by omega))).symm
      have hP : va_P D vwCl (wM mo ma mb mc md me mf mg mh mi mj mk ml mn cI cZ (if (0 ≤ a ∧ a ≤ 1) ∧ kep a.toNat ≠ 0 then img (32 * a.toNat + 26) else n) (if (0 ≤ a ∧ a ≤ 1) ∧ kep a.toNat ≠ 0 then img (32 * a.toNat + 27) else q) (if (0 ≤ a ∧ a ≤ 1) ∧ kep a.toNat ≠ 0 then img (32 * a.toNat + 28) else c) w z ev (if (0 ≤ a ∧ a ≤ 1) ∧ kep a.toNat ≠ 0 then cpy (fun k => img (32 * a.toNat + k)) num 7 else num) (if (0 ≤ a ∧ a ≤ 1) ∧ kep a.toNat ≠ 0 then cpy (fun k => img (32 * a.toNat + 7 + k)) plc 7 else plc) (if (0 ≤ a ∧ a ≤ 1) ∧ kep a.toNat ≠ 0 then cpy (fun k => img (32 * a.toNat + 14 + k)) sig 12 else sig) pad row dig far cfr cby que has img kep) Gs.heap := by rw [← e_num, ← e_plc, ← e_sig, ← e_n, ← e_q, ← e_c]; exact hP
      have hD : va_D A (wM mo ma mb mc md me mf mg mh mi mj mk ml mn cI cZ (if (0 ≤ a ∧ a ≤ 1) ∧ kep a.toNat ≠ 0 then img (32 * a.toNat + 26) else n) (if (0 ≤ a ∧ a ≤ 1) ∧ kep a.toNat ≠ 0 then img (32 * a.toNat + 27) else q) (if (0 ≤ a ∧ a ≤ 1) ∧ kep a.toNat ≠ 0 then img (32 * a.toNat + 28) else c) w z ev (if (0 ≤ a ∧ a ≤ 1) ∧ kep a.toNat ≠ 0 then cpy (fun k => img (32 * a.toNat + k)) num 7 else num) (if (0 ≤ a ∧ a ≤ 1) ∧ kep a.toNat ≠ 0 then cpy (fun k => img (32 * a.toNat + 7 + k)) plc 7 else plc) (if (0 ≤ a ∧ a ≤ 1) ∧ kep a.toNat ≠ 0 then cpy (fun k => img (32 * a.toNat + 14 + k)) sig 12 else sig) pad row dig far cfr cby que has img kep) := by rw [← e_num, ← e_plc, ← e_sig, ← e_n, ← e_q, ← e_c]; exact hD
      exact W.iret (v := zI (-3)) gx gb gr (fun t ht hW => ⟨⟨zI (-3), (), rfl, (by first | (dsimp only; done) | ((try dsimp only); rw [if_pos (by omega), hi]; show _ = zI (if kep i ≠ 0 then 1 else -3); rw [if_neg (by omega)])), by rw [ht]; exact hP, va_K.moved hW.alike hK, hD⟩, hS.F ht⟩) hS.2.2 dX9_restore_23
  · skip
    rw [b0_eq] at c6
    simp only [decide_eq_false_iff_not, Decidable.not_not] at c6
    refine lv_bipush (v := zI (-2)) gx gb dX9_restore_9 (by decide) ?_
    have e_num : num = (if (0 ≤ a ∧ a ≤ 1) ∧ kep a.toNat ≠ 0 then cpy (fun k => img (32 * a.toNat + k)) num 7 else num) := by rw [if_neg (by omega)]
    have e_plc : plc = (if (0 ≤ a ∧ a ≤ 1) ∧ kep a.toNat ≠ 0 then cpy (fun k => img (32 * a.toNat + 7 + k)) plc 7 else plc) := by rw [if_neg (by omega)]
    have e_sig : sig = (if (0 ≤ a ∧ a ≤ 1) ∧ kep a.toNat ≠ 0 then cpy (fun k => img (32 * a.toNat + 14 + k)) sig 12 else sig) := by rw [if_neg (by omega)]
    have e_n : n = (if (0 ≤ a ∧ a ≤ 1) ∧ kep a.toNat ≠ 0 then img (32 * a.toNat + 26) else n) := by rw [if_neg (by omega)]
    have e_q : q = (if (0 ≤ a ∧ a ≤ 1) ∧ kep a.toNat ≠ 0 then img (32 * a.toNat + 27) else q) := by rw [if_neg (by omega)]
    have e_c : c = (if (0 ≤ a ∧ a ≤ 1) ∧ kep a.toNat ≠ 0 then img (32 * a.toNat + 28) else c) := by rw [if_neg (by omega)]
    have hP : va_P D vwCl (wM mo ma mb mc md me mf mg mh mi mj mk ml mn cI cZ (if (0 ≤ a ∧ a ≤ 1) ∧ kep a.toNat ≠ 0 then img (32 * a.toNat + 26) else n) (if (0 ≤ a ∧ a ≤ 1) ∧ kep a.toNat ≠ 0 then img (32 * a.toNat + 27) else q) (if (0 ≤ a ∧ a ≤ 1) ∧ kep a.toNat ≠ 0 then img (32 * a.toNat + 28) else c) w z ev (if (0 ≤ a ∧ a ≤ 1) ∧ kep a.toNat ≠ 0 then cpy (fun k => img (32 * a.toNat + k)) num 7 else num) (if (0 ≤ a ∧ a ≤ 1) ∧ kep a.toNat ≠ 0 then cpy (fun k => img (32 * a.toNat + 7 + k)) plc 7 else plc) (if (0 ≤ a ∧ a ≤ 1) ∧ kep a.toNat ≠ 0 then cpy (fun k => img (32 * a.toNat + 14 + k)) sig 12 else sig) pad row dig far cfr cby que has img kep) Gs.heap := by rw [← e_num, ← e_plc, ← e_sig, ← e_n, ← e_q, ← e_c]; exact hP
    have hD : va_D A (wM mo ma mb mc md me mf mg mh mi mj mk ml mn cI cZ (if (0 ≤ a ∧ a ≤ 1) ∧ kep a.toNat ≠ 0 then img (32 * a.toNat + 26) else n) (if (0 ≤ a ∧ a ≤ 1) ∧ kep a.toNat ≠ 0 then img (32 * a.toNat + 27) else q) (if (0 ≤ a ∧ a ≤ 1) ∧ kep a.toNat ≠ 0 then img (32 * a.toNat + 28) else c) w z ev (if (0 ≤ a ∧ a ≤ 1) ∧ kep a.toNat ≠ 0 then cpy (fun k => img (32 * a.toNat + k)) num 7 else num) (if (0 ≤ a ∧ a ≤ 1) ∧ kep a.toNat ≠ 0 then cpy (fun k => img (32 * a.toNat + 7 + k)) plc 7 else plc) (if (0 ≤ a ∧ a ≤ 1) ∧ kep a.toNat ≠ 0 then cpy (fun k => img (32 * a.toNat + 14 + k)) sig 12 else sig) pad row dig far cfr cby que has img kep) := by rw [← e_num, ← e_plc, ← e_sig, ← e_n, ← e_q, ← e_c]; exact hD
    exact W.iret (v := zI (-2)) gx gb gr (fun t ht hW => ⟨⟨zI (-2), (), rfl, (by first | (dsimp only; done) | ((try dsimp only); rw [if_neg (by omega)])), by rw [ht]; exact hP, va_K.moved hW.alike hK, hD⟩, hS.F ht⟩) hS.2.2 dX9_restore_11

set_option maxHeartbeats 4000000 in
set_option maxRecDepth 100000 in
theorem kX9_rivals (Gl : Launch) (D : va_G) (cI cJ cZ : ClassId) (mo : Nat) (ma : Nat) (mb : Nat) (mc : Nat) (md : Nat) (me : Nat) (mf : Nat) (mg : Nat) (mh : Nat) (mi : Nat) (mj : Nat) (mk : Nat) (ml : Nat) (mn : Nat) (n : Nat) (q : Nat) (c : Nat) (w : Nat) (z : Nat) (ev : Nat) (num : Nat → Nat) (plc : Nat → Nat) (sig : Nat → Nat) (pad : Nat → Nat) (row : Nat → Nat) (dig : Nat → Nat) (far : Nat → Int32) (cfr : Nat → Nat) (cby : Nat → Nat) (que : Nat → Nat) (has : Nat → Nat) (img : Nat → Nat) (kep : Nat → Nat) (sz : Nat) (a : Int) (hl_a : -2147483648 ≤ a) (hu_a : a < 2147483648) (hn1 : 1 ≤ n) (hn7 : n ≤ 7) (hq1 : 1 ≤ q) (hqn : q ≤ n) (hp : ∀ k, k < q → plc k < n) (hnum : ∀ k, k < n → num k ≤ 99) : Met Gl yX9_rivals wsX9_rivals ({ frames := 2, cells := 0, slots := 0, locals := 45 } : Room) (va_Pc [.ref mo, .int (zI a)] (fun U => U.heap.size = sz ∧ va_P D vwCl (wM mo ma mb mc md me mf mg mh mi mj mk ml mn cI cZ n q c w z ev num plc sig pad row dig far cfr cby que has img kep) U.heap ∧ va_K D vwCl [(cI, .int), (cJ, .long), (cZ, .boolean)] U ∧ va_D (fun _ => True) (wM mo ma mb mc md me mf mg mh mi mj mk ml mn cI cZ n q c w z ev num plc sig pad row dig far cfr cby que has img kep))) (va_Qi (fun (r : Int32) (u : (Nat → Nat) × (Nat) × (Nat → Nat)) => r = zI (rivZ (fun x => num (plc x)) q a)) (fun (u : (Nat → Nat) × (Nat) × (Nat → Nat)) t => va_P D vwCl (wM mo ma mb mc md me mf mg mh mi mj mk ml mn cI cZ n q c w u.2.1 ev num plc sig pad u.1 dig far cfr cby que u.2.2 img kep) t.heap ∧ va_K D vwCl [(cI, .int), (cJ, .long), (cZ, .boolean)] t ∧ va_D (va_A (wM mo ma mb mc md me mf mg mh mi mj mk ml mn cI cZ n q c w z ev num plc sig pad row dig far cfr cby que has img kep) sz) (wM mo ma mb mc md me mf mg mh mi mj mk ml mn cI cZ n q c w u.2.1 ev num plc sig pad u.1 dig far cfr cby que u.2.2 img kep)) (va_A (wM mo ma mb mc md me mf mg mh mi mj mk ml mn cI cZ n q c w z ev num plc sig pad row dig far cfr cby que has img kep) sz)) 0 0 (va_A (wM mo ma mb mc md me mf mg mh mi mj mk ml mn cI cZ n q c w z ev num plc sig pad row dig far cfr cby que has img kep) sz) := by
  refine Met.ofW (cc := cX9_rivals) (maxL := 9) (ret := (some .int)) (by decide +kernel) rfl ?_
  intro Gp Ge Gs Gm Ga Gw Gt Gc G1 Bd gml gv
  obtain ⟨rfl, hsz, hP, hK, hD0⟩ := gv
  have gx := Bd.exec
  have gb := Bd.bytes
  have gr := Bd.returns
  have gts := atoms_spec (ws := wsX9_rivals) Bd.pre
  have gown : Gs.vm.findClass RX9 = some Gm.cls := findClass_of_methodNamed Bd.named
  have glk := Bd.notSynchronized
  subst hsz
  have hD := hD0.self (sz := Gs.heap.size)
  generalize hAe : va_A (wM mo ma mb mc md me mf mg mh mi mj mk ml mn cI cZ n q c w z ev num plc sig pad row dig far cfr cby que has img kep) Gs.heap.size = A at hD ⊢
  have hA : ∀ q : Nat, Gs.heap.size ≤ q → A q := fun q h => by rw [← hAe]; exact Or.inr h
  have hS : va_S A Gs.heap Gs.heap [] := va_S.rf
  have hP : va_P D vwCl (wM mo ma mb mc md me mf mg mh mi mj mk ml mn cI cZ n q c w z ev num plc sig pad row dig far cfr cby que has img kep) Gs.heap := hP
  have hl := lv_entry ([.ref mo, .int (zI a)]) (n := 9) (Nat.le_of_ble_eq_true rfl)
  rw [lg_entry_eq]
  generalize (lg_sl ([.ref mo, .int (zI a)]) ++ List.replicate (9 - (lg_sl ([.ref mo, .int (zI a)])).length) Slot.unset).toArray = ls at hl ⊢
  have hl : lv_has ls 9 [(0, .ref mo), (1, .int (zI a))] := hl
  have i9 : ∀ w ∈ wsX90, w ∈ wsX9_rivals := by decide +kernel
  refine lv_iload_n gx gb dX9_rivals_0 rfl (lv_at hl 1 rfl) ?_
  refine lv_iconst (v := nI 0) gx gb dX9_rivals_1 (by decide) ?_
  refine lv_iconst (v := nI 1) gx gb dX9_rivals_2 (by decide) ?_
  refine lv_evs [.int (zI ((1 : Nat) : Int)), .int (zI ((0 : Nat) : Int)), .int (zI a)] (by simp only [nI_zc]) ?_
  refine vp_callSi (W.runS (As := [.int (zI a), .int (zI ((0 : Nat) : Int)), .int (zI ((1 : Nat) : Int))]) (rest := []) ⟨gx, gb, gml, gown, gts⟩ (kX9_in Gl a ((0 : Nat) : Int) ((1 : Nat) : Int) (by omega) (by omega) (by omega) (by omega) (by omega) (by omega)) (va_cwS 3 gts gX9_rivals_X9_in rfl rfl rfl (by decide +kernel) ⟨Nat.le_of_ble_eq_true rfl, Nat.le_of_ble_eq_true rfl⟩) ⟨fun _ _ _ _ h => h, fun U hU hW => ⟨rfl, trivial⟩⟩ rfl rfl hl.1 rfl (lv_room (Nat.le_of_ble_eq_true rfl)) dX9_rivals_3 ⟨Nat.le_of_ble_eq_true rfl, Nat.le_of_ble_eq_true rfl⟩) (fun r hw => ?_)
  have hr3 := hw
  subst hr3
  refine lv_if_ne (tgt := 12) gx gb dX9_rivals_6 (by decide) (fun c6 => ?_) (fun c6 => ?_)
  · skip
    rw [b0_eq] at c6
    simp only [decide_eq_false_iff_not, Decidable.not_not] at c6
    refine lv_aload_n gx gb dX9_rivals_12 rfl (lv_at hl 0 rfl) ?_
    have hPc := hP.sub (ws' := wM mo ma mb mc md me mf mg mh mi mj mk ml mn cI cZ n q c w z ev num plc sig pad row dig far cfr cby que has img kep) [0, 1, 2, 3, 4, 5, 6, 7, 8, 9, 10, 11, 12, 13] rfl
    have hDc := hD.sub (ws' := wM mo ma mb mc md me mf mg mh mi mj mk ml mn cI cZ n q c w z ev num plc sig pad row dig far cfr cby que has img kep) [0, 1, 2, 3, 4, 5, 6, 7, 8, 9, 10, 11, 12, 13] (by decide) rfl
    have hFc := va_free (wc := wM mo ma mb mc md me mf mg mh mi mj mk ml mn cI cZ n q c w z ev num plc sig pad row dig far cfr cby que has img kep) hD hS hA [0, 1, 2, 3, 4, 5, 6, 7, 8, 9, 10, 11, 12, 13] rfl
    refine va_callv (va_runV (As := []) (rest := []) ⟨gx, gb, gml, gown, gts⟩ (kX9_asNow Gl D cI cJ cZ mo ma mb mc md me mf mg mh mi mj mk ml mn n q c w z ev num plc sig pad row dig far cfr cby que has img kep _  ) (cwV 0 gts gX9_rivals_X9_asNow rfl rfl rfl (by decide +kernel) ⟨Nat.le_of_ble_eq_true rfl, Nat.le_of_ble_eq_true rfl⟩) ⟨fun a U g mk q => by obtain ⟨q0, q1, qP, qK, qD⟩ := q; exact ⟨q0, q1, qP, va_K.moved (u := U) (U := U.calling g mk a) (Vm.Alike.refl U.vm) qK, qD⟩, va_recv hK hPc (ci := 4) (q0 := 0) rfl rfl, fun U hU hW => ⟨rfl, by rw [hU], by rw [hU]; exact hPc, va_K.moved hW.alike hK, hDc.weaken (fun _ _ _ _ => trivial)⟩⟩ rfl rfl hl.1 rfl (lv_room (Nat.le_of_ble_eq_true rfl)) dX9_rivals_13 ⟨Nat.le_of_ble_eq_true rfl, Nat.le_of_ble_eq_true rfl⟩) hS (fun q _ h => hFc q h) hFc (fun u t H1 locs ht hvm hw hB hz1 hk1 hS => ?_)
    obtain ⟨hP1, hK1, hD1⟩ := hB
    rw [ht] at hP1
    try dsimp only at hw
    try dsimp only at hP1
    try dsimp only at hD1
    have hK := va_K.moved hvm.symm hK1
    obtain ⟨hP, hD⟩ := va_join (wr := []) (w1 := wM mo ma mb mc md me mf mg mh mi mj mk ml mn cI cZ n q c w q ev num plc sig pad (cpy plc row 7) dig far cfr cby que has img kep) hP hD [0, 1, 2, 3, 4, 5, 6, 7, 8, 9, 10, 11, 12, 13] [] rfl rfl (by decide) (by decide) hk1 hFc hP1 hD1
    have hP := hP.sub (ws' := wM mo ma mb mc md me mf mg mh mi mj mk ml mn cI cZ n q c w q ev num plc sig pad (cpy plc row 7) dig far cfr cby que has img kep) [0, 1, 2, 3, 4, 5, 6, 7, 8, 9, 10, 11, 12, 13] rfl
    have hD := hD.sub (ws' := wM mo ma mb mc md me mf mg mh mi mj mk ml mn cI cZ n q c w q ev num plc sig pad (cpy plc row 7) dig far cfr cby que has img kep) [0, 1, 2, 3, 4, 5, 6, 7, 8, 9, 10, 11, 12, 13] (by decide) rfl
    have hK := va_K.moved (Vm.Alike.refl Gs.vm) hK
    generalize H1 = H at hP hS ⊢
    refine lv_iconst (v := nI 0) gx gb dX9_rivals_16 (by decide) ?_
    refine lv_istore_n (lv' := [(2, .int (nI 0)), (0, .ref mo), (1, .int (zI a))]) gx gb dX9_rivals_17 rfl hl (by decide) rfl (fun ls hl => ?_)
    refine lv_iconst (v := nI 0) gx gb dX9_rivals_18 (by decide) ?_
    refine lv_istore_n (lv' := [(3, .int (nI 0)), (2, .int (nI 0)), (0, .ref mo), (1, .int (zI a))]) gx gb dX9_rivals_19 rfl hl (by decide) rfl (fun ls hl => ?_)
    have L20 : ∀ fu : Nat, ∀ (j : Nat) (hs : Nat → Nat) (hj : j ≤ 64) (h0 : ∀ x, x < j → hs x = 0), (64 - j) < fu → ∀ (H : Heap) (locs : List Loc), va_P D vwCl (wM mo ma mb mc md me mf mg mh mi mj mk ml mn cI cZ n q c w q ev num plc sig pad (cpy plc row 7) dig far cfr cby que hs img kep) H → va_D A (wM mo ma mb mc md me mf mg mh mi mj mk ml mn cI cZ n q c w q ev num plc sig pad (cpy plc row 7) dig far cfr cby que hs img kep) → va_S A Gs.heap H locs → ∀ ls : Array Slot, lv_has ls 9 [(3, .int (nI j)), (2, .int (nI 0)), (0, .ref mo), (1, .int (zI a))] → W Gp Gl Ge (headSpec wsX9_rivals ({ frames := 2, cells := 0, slots := 0, locals := 45 } : Room)).room Gs Gm ([.ref mo, .int (zI a)] : List Value).toArray Gw Gt Gc H locs 0 0 (MQ Gw (va_Qi (fun (r : Int32) (u : (Nat → Nat) × (Nat) × (Nat → Nat)) => r = zI (rivZ (fun x => num (plc x)) q a)) (fun (u : (Nat → Nat) × (Nat) × (Nat → Nat)) t => va_P D vwCl (wM mo ma mb mc md me mf mg mh mi mj mk ml mn cI cZ n q c w u.2.1 ev num plc sig pad u.1 dig far cfr cby que u.2.2 img kep) t.heap ∧ va_K D vwCl [(cI, .int), (cJ, .long), (cZ, .boolean)] t ∧ va_D A (wM mo ma mb mc md me mf mg mh mi mj mk ml mn cI cZ n q c w u.2.1 ev num plc sig pad u.1 dig far cfr cby que u.2.2 img kep)) A) ([.ref mo, .int (zI a)] : List Value).toArray Gs 0 0 A) (F0 Gm 20 ls []) := by
      intro fu
      induction fu with
      | zero => intro j hs hj h0 hfu; exact absurd hfu (Nat.not_lt_zero _)
      | succ fu ih20 =>
        intro j hs hj h0 hfu H locs hP hD hS ls hl
        refine lv_iload_n gx gb dX9_rivals_20 rfl (lv_at hl 0 rfl) ?_
        refine lv_bipush (v := nI 64) gx gb dX9_rivals_21 (by decide) ?_
        refine lv_icmp_ge (tgt := 39) gx gb dX9_rivals_23 (by decide) (fun c23 => ?_) (fun c23 => ?_)
        · skip
          rw [nI_leI (by omega) (by omega)] at c23
          refine lv_iconst (v := nI 1) gx gb dX9_rivals_39 (by decide) ?_
          refine lv_istore_n (lv' := [(3, .int (nI 1)), (2, .int (nI 0)), (0, .ref mo), (1, .int (zI a))]) gx gb dX9_rivals_40 rfl hl (by decide) rfl (fun ls hl => ?_)
          have L41 : ∀ fu : Nat, ∀ (l e : Nat) (hs : Nat → Nat) (hl0 : l ≤ q) (hh : ∀ x m, x + m ≤ q → m ≤ l → hs (8 * x + (x + m)) = gv (fun x => num (plc x)) x m) (he : e ≤ 1 ∧ (l = q → e = endF (fun x => num (plc x)) q)), (q - l) < fu → ∀ (H : Heap) (locs : List Loc), va_P D vwCl (wM mo ma mb mc md me mf mg mh mi mj mk ml mn cI cZ n q c w q ev num plc sig pad (cpy plc row 7) dig far cfr cby que hs img kep) H → va_D A (wM mo ma mb mc md me mf mg mh mi mj mk ml mn cI cZ n q c w q ev num plc sig pad (cpy plc row 7) dig far cfr cby que hs img kep) → va_S A Gs.heap H locs → ∀ ls : Array Slot, lv_has ls 9 [(2, .int (nI e)), (3, .int (nI (l + 1))), (0, .ref mo), (1, .int (zI a))] → W Gp Gl Ge (headSpec wsX9_rivals ({ frames := 2, cells := 0, slots := 0, locals := 45 } : Room)).room Gs Gm ([.ref mo, .int (zI a)] : List Value).toArray Gw Gt Gc H locs 0 0 (MQ Gw (va_Qi (fun (r : Int32) (u : (Nat → Nat) × (Nat) × (Nat → Nat)) => r = zI (rivZ (fun x => num (plc x)) q a)) (fun (u : (Nat → Nat) × (Nat) × (Nat → Nat)) t => va_P D vwCl (wM mo ma mb mc md me mf mg mh mi mj mk ml mn cI cZ n q c w u.2.1 ev num plc sig pad u.1 dig far cfr cby que u.2.2 img kep) t.heap ∧ va_K D vwCl [(cI, .int), (cJ, .long), (cZ, .boolean)] t ∧ va_D A (wM mo ma mb mc md me mf mg mh mi mj mk ml mn cI cZ n q c w u.2.1 ev num plc sig pad u.1 dig far cfr cby que u.2.2 img kep)) A) ([.ref mo, .int (zI a)] : List Value).toArray Gs 0 0 A) (F0 Gm 41 ls []) := by
            intro fu
            induction fu with
            | zero => intro l e hs hl0 hh he hfu; exact absurd hfu (Nat.not_lt_zero _)
            | succ fu ih41 =>
              intro l e hs hl0 hh he hfu H locs hP hD hS ls hl
              refine lv_iload_n gx gb dX9_rivals_41 rfl (lv_at hl 1 rfl) ?_
              refine lv_aload_n gx gb dX9_rivals_42 rfl (lv_at hl 2 rfl) ?_
              refine va_get (D := D) (ci := 4) (v := .int (nI q)) (C := RX9) (T := TX9) (N := 19) gx gb gts i9 gown hK hP 0 rfl rfl 9 (by decide) (gts (.fieldLink RX9 81 "SwanSumsModel" "size" "I") (by decide +kernel)) (fun _ h9 => h9) rfl dX9_rivals_43 ?_
              refine lv_icmp_gt (tgt := 171) gx gb dX9_rivals_46 (by decide) (fun c46 => ?_) (fun c46 => ?_)
              · skip
                rw [nI_ltI (by omega) (by omega)] at c46
                refine lv_iload_n gx gb dX9_rivals_171 rfl (lv_at hl 3 rfl) ?_
                refine lv_if_ne (tgt := 187) gx gb dX9_rivals_172 (by decide) (fun c172 => ?_) (fun c172 => ?_)
                · skip
                  rw [z0_eq (by omega) (by omega)] at c172
                  refine lv_iload_n gx gb dX9_rivals_187 rfl (lv_at hl 0 rfl) ?_
                  exact W.iret (v := nI e) gx gb gr (fun t ht hW => ⟨⟨nI e, (cpy plc row 7, q, hs), rfl, (by first | (dsimp only; done) | ((try dsimp only); first | (rw [rivZ, if_pos (by omega), zI_nat]; done) | (rw [rivZ, if_neg (by omega), if_pos (by omega), ← he.2 (by omega), zI_nat]))), by rw [ht]; exact hP, va_K.moved hW.alike hK, hD⟩, hS.F ht⟩) hS.2.2 dX9_rivals_188
                · skip
                  rw [z0_eq (by omega) (by omega)] at c172
                  refine lv_aload_n gx gb dX9_rivals_175 rfl (lv_at hl 2 rfl) ?_
                  refine va_get (D := D) (ci := 4) (v := .ref mk) (C := RX9) (T := TX9) (N := 19) gx gb gts i9 gown hK hP 0 rfl rfl 16 (by decide) (gts (.fieldLink RX9 47 "SwanSumsModel" "has" "[I") (by decide +kernel)) (fun _ h9 => h9) rfl dX9_rivals_176 ?_
                  refine lv_aload_n gx gb dX9_rivals_179 rfl (lv_at hl 2 rfl) ?_
                  refine va_get (D := D) (ci := 4) (v := .int (nI q)) (C := RX9) (T := TX9) (N := 19) gx gb gts i9 gown hK hP 0 rfl rfl 9 (by decide) (gts (.fieldLink RX9 81 "SwanSumsModel" "size" "I") (by decide +kernel)) (fun _ h9 => h9) rfl dX9_rivals_180 ?_
                  refine va_iald gx gb hK hP 11 0 rfl rfl (vp_in_nI (n := q) (by omega) (by decide)) dX9_rivals_183 ?_
                  refine lv_evi (nI (hs q)) (aN_rd hs (by omega)) ?_
                  refine lv_evi (nI (gv (fun x => num (plc x)) 0 q)) (congrArg nI (by have h9 := hh 0 q (by omega) (by omega); rw [show 8 * 0 + (0 + q) = q by omega] at h9; exact h9)) ?_
                  refine lv_goto (tgt := 188) gx gb dX9_rivals_184 (by decide) ?_
                  exact W.iret (v := nI (gv (fun x => num (plc x)) 0 q)) gx gb gr (fun t ht hW => ⟨⟨nI (gv (fun x => num (plc x)) 0 q), (cpy plc row 7, q, hs), rfl, (by first | (dsimp only; done) | ((try dsimp only); first | (rw [rivZ, if_pos (by omega), zI_nat]; done) | (rw [rivZ, if_neg (by omega), if_pos (by omega), ← he.2 (by omega), zI_nat]))), by rw [ht]; exact hP, va_K.moved hW.alike hK, hD⟩, hS.F ht⟩) hS.2.2 dX9_rivals_188
              · skip
                rw [nI_ltI (by omega) (by omega)] at c46
                refine lv_iconst (v := nI 0) gx gb dX9_rivals_49 (by decide) ?_
                refine lv_istore (lv' := [(4, .int (nI 0)), (2, .int (nI e)), (3, .int (nI (l + 1))), (0, .ref mo), (1, .int (zI a))]) gx gb dX9_rivals_50 hl (by decide) rfl (fun ls hl => ?_)
                have L52 : ∀ fu : Nat, ∀ (p e2 : Nat) (hs : Nat → Nat) (hp0 : p + l ≤ q) (hh2 : ∀ x m, x + m ≤ q → (m ≤ l ∨ (m = l + 1 ∧ x < p)) → hs (8 * x + (x + m)) = gv (fun x => num (plc x)) x m) (he2 : e2 ≤ 1 ∧ ((l + 1 = q ∧ 0 < p) → e2 = endF (fun x => num (plc x)) q)), (q - (p + l)) < fu → ∀ (H : Heap) (locs : List Loc), va_P D vwCl (wM mo ma mb mc md me mf mg mh mi mj mk ml mn cI cZ n q c w q ev num plc sig pad (cpy plc row 7) dig far cfr cby que hs img kep) H → va_D A (wM mo ma mb mc md me mf mg mh mi mj mk ml mn cI cZ n q c w q ev num plc sig pad (cpy plc row 7) dig far cfr cby que hs img kep) → va_S A Gs.heap H locs → ∀ ls : Array Slot, lv_has ls 9 [(2, .int (nI e2)), (3, .int (nI (l + 1))), (4, .int (nI p)), (0, .ref mo), (1, .int (zI a))] → W Gp Gl Ge (headSpec wsX9_rivals ({ frames := 2, cells := 0, slots := 0, locals := 45 } : Room)).room Gs Gm ([.ref mo, .int (zI a)] : List Value).toArray Gw Gt Gc H locs 0 0 (MQ Gw (va_Qi (fun (r : Int32) (u : (Nat → Nat) × (Nat) × (Nat → Nat)) => r = zI (rivZ (fun x => num (plc x)) q a)) (fun (u : (Nat → Nat) × (Nat) × (Nat → Nat)) t => va_P D vwCl (wM mo ma mb mc md me mf mg mh mi mj mk ml mn cI cZ n q c w u.2.1 ev num plc sig pad u.1 dig far cfr cby que u.2.2 img kep) t.heap ∧ va_K D vwCl [(cI, .int), (cJ, .long), (cZ, .boolean)] t ∧ va_D A (wM mo ma mb mc md me mf mg mh mi mj mk ml mn cI cZ n q c w u.2.1 ev num plc sig pad u.1 dig far cfr cby que u.2.2 img kep)) A) ([.ref mo, .int (zI a)] : List Value).toArray Gs 0 0 A) (F0 Gm 52 ls []) := by
                  intro fu
                  induction fu with
                  | zero => intro p e2 hs hp0 hh2 he2 hfu; exact absurd hfu (Nat.not_lt_zero _)
                  | succ fu ih52 =>
                    intro p e2 hs hp0 hh2 he2 hfu H locs hP hD hS ls hl
                    refine lv_iload gx gb dX9_rivals_52 (lv_at hl 2 rfl) ?_
                    refine lv_iload_n gx gb dX9_rivals_54 rfl (lv_at hl 1 rfl) ?_
                    refine lv_iadd gx gb dX9_rivals_55 ?_
                    refine lv_evi (nI (p + (l + 1))) (nI_add p (l + 1)) ?_
                    refine lv_aload_n gx gb dX9_rivals_56 rfl (lv_at hl 3 rfl) ?_
                    refine va_get (D := D) (ci := 4) (v := .int (nI q)) (C := RX9) (T := TX9) (N := 19) gx gb gts i9 gown hK hP 0 rfl rfl 9 (by decide) (gts (.fieldLink RX9 81 "SwanSumsModel" "size" "I") (by decide +kernel)) (fun _ h9 => h9) rfl dX9_rivals_57 ?_
                    refine lv_icmp_gt (tgt := 165) gx gb dX9_rivals_60 (by decide) (fun c60 => ?_) (fun c60 => ?_)
                    · skip
                      rw [nI_ltI (by omega) (by omega)] at c60
                      refine lv_iinc (v := nI (l + 1 + 1)) (lv' := [(3, .int (nI (l + 1 + 1))), (2, .int (nI e2)), (4, .int (nI p)), (0, .ref mo), (1, .int (zI a))]) gx gb dX9_rivals_165 hl (k := 1) rfl (nI_add (l + 1) 1) (by decide) rfl (fun ls hl => ?_)
                      refine lv_goto (tgt := 41) gx gb dX9_rivals_168 (by decide) ?_
                      exact ih41 (l + 1) e2 hs (by omega) (by intro x m hx hm; exact hh2 x m hx (by omega)) (by exact ⟨he2.1, fun h => he2.2 ⟨h, by omega⟩⟩) (by omega) _ _ hP hD hS ls (lv_sub hl [1, 0, 3, 4] rfl)
                    · skip
                      rw [nI_ltI (by omega) (by omega)] at c60
                      refine lv_iload gx gb dX9_rivals_63 (lv_at hl 2 rfl) ?_
                      refine lv_iload_n gx gb dX9_rivals_65 rfl (lv_at hl 1 rfl) ?_
                      refine lv_iadd gx gb dX9_rivals_66 ?_
                      refine lv_evi (nI (p + (l + 1))) (nI_add p (l + 1)) ?_
                      refine lv_istore (lv' := [(5, .int (nI (p + (l + 1)))), (2, .int (nI e2)), (3, .int (nI (l + 1))), (4, .int (nI p)), (0, .ref mo), (1, .int (zI a))]) gx gb dX9_rivals_67 hl (by decide) rfl (fun ls hl => ?_)
                      have hg2 := gv_2 (fun x => num (plc x)) l p
                      have hsm := sm_le (v := (fun x => num (plc x))) (a := p) (c := 99) (n := l + 1) (fun x hx => hnum _ (hp _ (by omega)))
                      refine lv_aload_n gx gb dX9_rivals_69 rfl (lv_at hl 4 rfl) ?_
                      refine lv_iload gx gb dX9_rivals_70 (lv_at hl 3 rfl) ?_
                      refine lv_iload gx gb dX9_rivals_72 (lv_at hl 0 rfl) ?_
                      have hPc := hP.sub (ws' := wM mo ma mb mc md me mf mg mh mi mj mk ml mn cI cZ n q c w q ev num plc sig pad (cpy plc row 7) dig far cfr cby que hs img kep) [0, 1, 2, 3, 4, 5, 6, 7, 8, 9, 10, 11, 12, 13] rfl
                      refine vp_callSi (W.runV (As := [.int (nI p), .int (nI (p + (l + 1)))]) (rest := []) ⟨gx, gb, gml, gown, gts⟩ (kX9_sumOf Gl D cI cJ cZ mo ma mb mc md me mf mg mh mi mj mk ml mn n q c w q ev num plc sig pad (cpy plc row 7) dig far cfr cby que hs img kep p (p + (l + 1)) (by omega) (by omega) (by intro x hx; rw [cpy7 _ _ (by omega)]; have := hp x (by omega); omega)) (cwV 2 gts gX9_rivals_X9_sumOf rfl rfl rfl (by decide +kernel) ⟨Nat.le_of_ble_eq_true rfl, Nat.le_of_ble_eq_true rfl⟩) ⟨fun a U g mk q => ⟨q.1, q.2.1, va_K.moved (u := U) (U := U.calling g mk a) (Vm.Alike.refl U.vm) q.2.2⟩, va_recv hK hPc (ci := 4) (q0 := 0) rfl rfl, fun U hU hW => ⟨rfl, by rw [hU]; exact hPc, va_K.moved hW.alike hK⟩⟩ rfl rfl hl.1 rfl (lv_room (Nat.le_of_ble_eq_true rfl)) dX9_rivals_74 ⟨Nat.le_of_ble_eq_true rfl, Nat.le_of_ble_eq_true rfl⟩) (fun r hw => ?_)
                      have hr74 := hw
                      subst hr74
                      refine lv_evi (nI (sm (fun x => num (plc x)) p (l + 1))) (congrArg nI (by rw [Nat.add_sub_cancel_left]; exact sm_cong (fun x hx => by rw [cpy7 _ _ (by omega)]))) ?_
                      refine lv_istore (lv' := [(6, .int (nI (sm (fun x => num (plc x)) p (l + 1)))), (5, .int (nI (p + (l + 1)))), (2, .int (nI e2)), (3, .int (nI (l + 1))), (4, .int (nI p)), (0, .ref mo), (1, .int (zI a))]) gx gb dX9_rivals_77 hl (by decide) rfl (fun ls hl => ?_)
                      refine lv_iload gx gb dX9_rivals_79 (lv_at hl 0 rfl) ?_
                      refine lv_aload_n gx gb dX9_rivals_81 rfl (lv_at hl 5 rfl) ?_
                      refine va_get (D := D) (ci := 4) (v := .ref mk) (C := RX9) (T := TX9) (N := 19) gx gb gts i9 gown hK hP 0 rfl rfl 16 (by decide) (gts (.fieldLink RX9 47 "SwanSumsModel" "has" "[I") (by decide +kernel)) (fun _ h9 => h9) rfl dX9_rivals_82 ?_
                      refine lv_bipush (v := nI 8) gx gb dX9_rivals_85 (by decide) ?_
                      refine lv_iload gx gb dX9_rivals_87 (lv_at hl 4 rfl) ?_
                      refine lv_iconst (v := nI 1) gx gb dX9_rivals_89 (by decide) ?_
                      refine lv_iadd gx gb dX9_rivals_90 ?_
                      refine lv_evi (nI (p + 1)) (nI_add p 1) ?_
                      refine lv_imul gx gb dX9_rivals_91 ?_
                      refine lv_evi (nI (8 * (p + 1))) (pk_mul 8 (p + 1)) ?_
                      refine lv_iload gx gb dX9_rivals_92 (lv_at hl 1 rfl) ?_
                      refine lv_iadd gx gb dX9_rivals_94 ?_
                      refine lv_evi (nI ((8 * (p + 1)) + (p + (l + 1)))) (nI_add (8 * (p + 1)) (p + (l + 1))) ?_
                      refine va_iald gx gb hK hP 11 0 rfl rfl (vp_in_nI (n := (8 * (p + 1)) + (p + (l + 1))) (by omega) (by decide)) dX9_rivals_95 ?_
                      refine lv_evi (nI (hs ((8 * (p + 1)) + (p + (l + 1))))) (aN_rd hs (by omega)) ?_
                      refine lv_evi (nI (gv (fun x => num (plc x)) (p + 1) l)) (congrArg nI (by rw [show (8 * (p + 1)) + (p + (l + 1)) = 8 * (p + 1) + ((p + 1) + l) by omega]; exact hh2 _ _ (by omega) (by omega))) ?_
                      refine lv_isub gx gb dX9_rivals_96 ?_
                      refine lv_evi (nI ((sm (fun x => num (plc x)) p (l + 1)) - (gv (fun x => num (plc x)) (p + 1) l))) (e_sub (by omega)) ?_
                      refine lv_istore (lv' := [(7, .int (nI ((sm (fun x => num (plc x)) p (l + 1)) - (gv (fun x => num (plc x)) (p + 1) l)))), (6, .int (nI (sm (fun x => num (plc x)) p (l + 1)))), (5, .int (nI (p + (l + 1)))), (2, .int (nI e2)), (3, .int (nI (l + 1))), (4, .int (nI p)), (0, .ref mo), (1, .int (zI a))]) gx gb dX9_rivals_97 hl (by decide) rfl (fun ls hl => ?_)
                      refine lv_iload gx gb dX9_rivals_99 (lv_at hl 1 rfl) ?_
                      refine lv_aload_n gx gb dX9_rivals_101 rfl (lv_at hl 6 rfl) ?_
                      refine va_get (D := D) (ci := 4) (v := .ref mk) (C := RX9) (T := TX9) (N := 19) gx gb gts i9 gown hK hP 0 rfl rfl 16 (by decide) (gts (.fieldLink RX9 47 "SwanSumsModel" "has" "[I") (by decide +kernel)) (fun _ h9 => h9) rfl dX9_rivals_102 ?_
                      refine lv_bipush (v := nI 8) gx gb dX9_rivals_105 (by decide) ?_
                      refine lv_iload gx gb dX9_rivals_107 (lv_at hl 5 rfl) ?_
                      refine lv_imul gx gb dX9_rivals_109 ?_
                      refine lv_evi (nI (8 * p)) (pk_mul 8 p) ?_
                      refine lv_iload gx gb dX9_rivals_110 (lv_at hl 2 rfl) ?_
                      refine lv_iadd gx gb dX9_rivals_112 ?_
                      refine lv_evi (nI ((8 * p) + (p + (l + 1)))) (nI_add (8 * p) (p + (l + 1))) ?_
                      refine lv_iconst (v := nI 1) gx gb dX9_rivals_113 (by decide) ?_
                      refine lv_isub gx gb dX9_rivals_114 ?_
                      refine lv_evi (nI (((8 * p) + (p + (l + 1))) - 1)) (e_sub (by omega)) ?_
                      refine va_iald gx gb hK hP 11 0 rfl rfl (vp_in_nI (n := ((8 * p) + (p + (l + 1))) - 1) (by omega) (by decide)) dX9_rivals_115 ?_
                      refine lv_evi (nI (hs (((8 * p) + (p + (l + 1))) - 1))) (aN_rd hs (by omega)) ?_
                      refine lv_evi (nI (gv (fun x => num (plc x)) p l)) (congrArg nI (by rw [show ((8 * p) + (p + (l + 1))) - 1 = 8 * p + (p + l) by omega]; exact hh2 _ _ (by omega) (by omega))) ?_
                      refine lv_isub gx gb dX9_rivals_116 ?_
                      refine lv_evi (nI ((sm (fun x => num (plc x)) p (l + 1)) - (gv (fun x => num (plc x)) p l))) (e_sub (by omega)) ?_
                      refine lv_istore (lv' := [(8, .int (nI ((sm (fun x => num (plc x)) p (l + 1)) - (gv (fun x => num (plc x)) p l)))), (7, .int (nI ((sm (fun x => num (plc x)) p (l + 1)) - (gv (fun x => num (plc x)) (p + 1) l)))), (6, .int (nI (sm (fun x => num (plc x)) p (l + 1)))), (5, .int (nI (p + (l + 1)))), (2, .int (nI e2)), (3, .int (nI (l + 1))), (4, .int (nI p)), (0, .ref mo), (1, .int (zI a))]) gx gb dX9_rivals_117 hl (by decide) rfl (fun ls hl => ?_)
                      have L145 : ∀ (x : Nat) (hgx : x = gv (fun x => num (plc x)) p (l + 1)), ∀ (H : Heap) (locs : List Loc), va_P D vwCl (wM mo ma mb mc md me mf mg mh mi mj mk ml mn cI cZ n q c w q ev num plc sig pad (cpy plc row 7) dig far cfr cby que hs img kep) H → va_D A (wM mo ma mb mc md me mf mg mh mi mj mk ml mn cI cZ n q c w q ev num plc sig pad (cpy plc row 7) dig far cfr cby que hs img kep) → va_S A Gs.heap H locs → ∀ ls : Array Slot, lv_has ls 9 [(8, .int (nI ((sm (fun x => num (plc x)) p (l + 1)) - (gv (fun x => num (plc x)) p l)))), (7, .int (nI ((sm (fun x => num (plc x)) p (l + 1)) - (gv (fun x => num (plc x)) (p + 1) l)))), (6, .int (nI (sm (fun x => num (plc x)) p (l + 1)))), (5, .int (nI (p + (l + 1)))), (2, .int (nI e2)), (3, .int (nI (l + 1))), (4, .int (nI p)), (0, .ref mo), (1, .int (zI a))] → W Gp Gl Ge (headSpec wsX9_rivals ({ frames := 2, cells := 0, slots := 0, locals := 45 } : Room)).room Gs Gm ([.ref mo, .int (zI a)] : List Value).toArray Gw Gt Gc H locs 0 0 (MQ Gw (va_Qi (fun (r : Int32) (u : (Nat → Nat) × (Nat) × (Nat → Nat)) => r = zI (rivZ (fun x => num (plc x)) q a)) (fun (u : (Nat → Nat) × (Nat) × (Nat → Nat)) t => va_P D vwCl (wM mo ma mb mc md me mf mg mh mi mj mk ml mn cI cZ n q c w u.2.1 ev num plc sig pad u.1 dig far cfr cby que u.2.2 img kep) t.heap ∧ va_K D vwCl [(cI, .int), (cJ, .long), (cZ, .boolean)] t ∧ va_D A (wM mo ma mb mc md me mf mg mh mi mj mk ml mn cI cZ n q c w u.2.1 ev num plc sig pad u.1 dig far cfr cby que u.2.2 img kep)) A) ([.ref mo, .int (zI a)] : List Value).toArray Gs 0 0 A) (F0 Gm 145 ls [.int (nI x), .int (nI ((8 * p) + (p + (l + 1)))), .ref mk]) := by
                        intro x hgx H locs hP hD hS ls hl
                        refine va_iast gx gb hK hP hD hS 11 0 rfl rfl (vp_in_nI (n := (8 * p) + (p + (l + 1))) (by omega) (by decide)) dX9_rivals_145 (fun H locs hP hD hS => ?_)
                        rw [aN_st hs x (by omega)] at hP hD
                        have hP : va_P D vwCl (wM mo ma mb mc md me mf mg mh mi mj mk ml mn cI cZ n q c w q ev num plc sig pad (cpy plc row 7) dig far cfr cby que (up hs ((8 * p) + (p + (l + 1))) x) img kep) H := hP
                        have hD : va_D A (wM mo ma mb mc md me mf mg mh mi mj mk ml mn cI cZ n q c w q ev num plc sig pad (cpy plc row 7) dig far cfr cby que (up hs ((8 * p) + (p + (l + 1))) x) img kep) := hD
                        have L158 : ∀ (y : Nat) (hgy : y = if gv (fun x => num (plc x)) (p + 1) l ≤ gv (fun x => num (plc x)) p l then 0 else 1), ∀ (H : Heap) (locs : List Loc), va_P D vwCl (wM mo ma mb mc md me mf mg mh mi mj mk ml mn cI cZ n q c w q ev num plc sig pad (cpy plc row 7) dig far cfr cby que (up hs ((8 * p) + (p + (l + 1))) x) img kep) H → va_D A (wM mo ma mb mc md me mf mg mh mi mj mk ml mn cI cZ n q c w q ev num plc sig pad (cpy plc row 7) dig far cfr cby que (up hs ((8 * p) + (p + (l + 1))) x) img kep) → va_S A Gs.heap H locs → ∀ ls : Array Slot, lv_has ls 9 [(8, .int (nI ((sm (fun x => num (plc x)) p (l + 1)) - (gv (fun x => num (plc x)) p l)))), (7, .int (nI ((sm (fun x => num (plc x)) p (l + 1)) - (gv (fun x => num (plc x)) (p + 1) l)))), (6, .int (nI (sm (fun x => num (plc x)) p (l + 1)))), (5, .int (nI (p + (l + 1)))), (2, .int (nI e2)), (3, .int (nI (l + 1))), (4, .int (nI p)), (0, .ref mo), (1, .int (zI a))] → W Gp Gl Ge (headSpec wsX9_rivals ({ frames := 2, cells := 0, slots := 0, locals := 45 } : Room)).room Gs Gm ([.ref mo, .int (zI a)] : List Value).toArray Gw Gt Gc H locs 0 0 (MQ Gw (va_Qi (fun (r : Int32) (u : (Nat → Nat) × (Nat) × (Nat → Nat)) => r = zI (rivZ (fun x => num (plc x)) q a)) (fun (u : (Nat → Nat) × (Nat) × (Nat → Nat)) t => va_P D vwCl (wM mo ma mb mc md me mf mg mh mi mj mk ml mn cI cZ n q c w u.2.1 ev num plc sig pad u.1 dig far cfr cby que u.2.2 img kep) t.heap ∧ va_K D vwCl [(cI, .int), (cJ, .long), (cZ, .boolean)] t ∧ va_D A (wM mo ma mb mc md me mf mg mh mi mj mk ml mn cI cZ n q c w u.2.1 ev num plc sig pad u.1 dig far cfr cby que u.2.2 img kep)) A) ([.ref mo, .int (zI a)] : List Value).toArray Gs 0 0 A) (F0 Gm 158 ls [.int (nI y)]) := by
                          intro y hgy H locs hP hD hS ls hl
                          refine lv_istore_n (lv' := [(2, .int (nI y)), (8, .int (nI ((sm (fun x => num (plc x)) p (l + 1)) - (gv (fun x => num (plc x)) p l)))), (7, .int (nI ((sm (fun x => num (plc x)) p (l + 1)) - (gv (fun x => num (plc x)) (p + 1) l)))), (6, .int (nI (sm (fun x => num (plc x)) p (l + 1)))), (5, .int (nI (p + (l + 1)))), (3, .int (nI (l + 1))), (4, .int (nI p)), (0, .ref mo), (1, .int (zI a))]) gx gb dX9_rivals_158 rfl hl (by decide) rfl (fun ls hl => ?_)
                          refine lv_iinc (v := nI (p + 1)) (lv' := [(4, .int (nI (p + 1))), (2, .int (nI y)), (8, .int (nI ((sm (fun x => num (plc x)) p (l + 1)) - (gv (fun x => num (plc x)) p l)))), (7, .int (nI ((sm (fun x => num (plc x)) p (l + 1)) - (gv (fun x => num (plc x)) (p + 1) l)))), (6, .int (nI (sm (fun x => num (plc x)) p (l + 1)))), (5, .int (nI (p + (l + 1)))), (3, .int (nI (l + 1))), (0, .ref mo), (1, .int (zI a))]) gx gb dX9_rivals_159 hl (k := 6) rfl (nI_add p 1) (by decide) rfl (fun ls hl => ?_)
                          refine lv_goto (tgt := 52) gx gb dX9_rivals_162 (by decide) ?_
                          exact ih52 (p + 1) y (up hs ((8 * p) + (p + (l + 1))) x) (by omega) (by intro x m hx hm; simp only [up]; split; rename_i hq9; obtain ⟨rfl, rfl⟩ : x = p ∧ m = l + 1 := (by omega); rw [hgx]; rename_i hq9; exact hh2 x m hx (by omega)) (by exact ⟨by rw [hgy]; split <;> omega, fun h => by rw [hgy, endF, show q - 1 = l by omega, show p = 0 by omega]⟩) (by omega) _ _ hP hD hS ls (lv_sub hl [1, 6, 0, 7, 8] rfl)
                        refine lv_iload gx gb dX9_rivals_146 (lv_at hl 1 rfl) ?_
                        refine lv_iload gx gb dX9_rivals_148 (lv_at hl 0 rfl) ?_
                        refine lv_icmp_lt (tgt := 157) gx gb dX9_rivals_150 (by decide) (fun c150 => ?_) (fun c150 => ?_)
                        · skip
                          rw [nI_ltI (by omega) (by omega)] at c150
                          refine lv_iconst (v := nI 1) gx gb dX9_rivals_157 (by decide) ?_
                          exact L158 1 (by first | rw [if_pos (by omega)] | rw [if_neg (by omega)]) _ _ hP hD hS ls (lv_sub hl [0, 1, 2, 3, 4, 5, 6, 7, 8] rfl)
                        · skip
                          rw [nI_ltI (by omega) (by omega)] at c150
                          refine lv_iconst (v := nI 0) gx gb dX9_rivals_153 (by decide) ?_
                          refine lv_goto (tgt := 158) gx gb dX9_rivals_154 (by decide) ?_
                          exact L158 0 (by first | rw [if_pos (by omega)] | rw [if_neg (by omega)]) _ _ hP hD hS ls (lv_sub hl [0, 1, 2, 3, 4, 5, 6, 7, 8] rfl)
                      refine lv_aload_n gx gb dX9_rivals_119 rfl (lv_at hl 7 rfl) ?_
                      refine va_get (D := D) (ci := 4) (v := .ref mk) (C := RX9) (T := TX9) (N := 19) gx gb gts i9 gown hK hP 0 rfl rfl 16 (by decide) (gts (.fieldLink RX9 47 "SwanSumsModel" "has" "[I") (by decide +kernel)) (fun _ h9 => h9) rfl dX9_rivals_120 ?_
                      refine lv_bipush (v := nI 8) gx gb dX9_rivals_123 (by decide) ?_
                      refine lv_iload gx gb dX9_rivals_125 (lv_at hl 6 rfl) ?_
                      refine lv_imul gx gb dX9_rivals_127 ?_
                      refine lv_evi (nI (8 * p)) (pk_mul 8 p) ?_
                      refine lv_iload gx gb dX9_rivals_128 (lv_at hl 3 rfl) ?_
                      refine lv_iadd gx gb dX9_rivals_130 ?_
                      refine lv_evi (nI ((8 * p) + (p + (l + 1)))) (nI_add (8 * p) (p + (l + 1))) ?_
                      refine lv_iload gx gb dX9_rivals_131 (lv_at hl 1 rfl) ?_
                      refine lv_iload gx gb dX9_rivals_133 (lv_at hl 0 rfl) ?_
                      refine lv_icmp_lt (tgt := 143) gx gb dX9_rivals_135 (by decide) (fun c135 => ?_) (fun c135 => ?_)
                      · skip
                        rw [nI_ltI (by omega) (by omega)] at c135
                        refine lv_iload gx gb dX9_rivals_143 (lv_at hl 0 rfl) ?_
                        exact L145 ((sm (fun x => num (plc x)) p (l + 1)) - (gv (fun x => num (plc x)) p l)) (by simp only [gv]; omega) _ _ hP hD hS ls (lv_sub hl [0, 1, 2, 3, 4, 5, 6, 7, 8] rfl)
                      · skip
                        rw [nI_ltI (by omega) (by omega)] at c135
                        refine lv_iload gx gb dX9_rivals_138 (lv_at hl 1 rfl) ?_
                        refine lv_goto (tgt := 145) gx gb dX9_rivals_140 (by decide) ?_
                        exact L145 ((sm (fun x => num (plc x)) p (l + 1)) - (gv (fun x => num (plc x)) (p + 1) l)) (by simp only [gv]; omega) _ _ hP hD hS ls (lv_sub hl [0, 1, 2, 3, 4, 5, 6, 7, 8] rfl)
                exact L52 _ 0 e hs (by omega) (by intro x m hx hm; exact hh x m hx (by omega)) (by omega) (Nat.lt_succ_self _) _ _ hP hD hS ls (lv_sub hl [1, 2, 0, 3, 4] rfl)
          exact L41 _ 0 0 hs (by omega) (by intro x m hx hm; obtain rfl : m = 0 := (by omega); exact h0 _ (by omega)) (by omega) (Nat.lt_succ_self _) _ _ hP hD hS ls (lv_sub hl [1, 0, 2, 3] rfl)
        · skip
          rw [nI_leI (by omega) (by omega)] at c23
          refine lv_aload_n gx gb dX9_rivals_26 rfl (lv_at hl 2 rfl) ?_
          refine va_get (D := D) (ci := 4) (v := .ref mk) (C := RX9) (T := TX9) (N := 19) gx gb gts i9 gown hK hP 0 rfl rfl 16 (by decide) (gts (.fieldLink RX9 47 "SwanSumsModel" "has" "[I") (by decide +kernel)) (fun _ h9 => h9) rfl dX9_rivals_27 ?_
          refine lv_iload_n gx gb dX9_rivals_30 rfl (lv_at hl 0 rfl) ?_
          refine lv_iconst (v := nI 0) gx gb dX9_rivals_31 (by decide) ?_
          refine va_iast gx gb hK hP hD hS 11 0 rfl rfl (vp_in_nI (n := j) (by omega) (by decide)) dX9_rivals_32 (fun H locs hP hD hS => ?_)
          rw [aN_st hs 0 (by omega)] at hP hD
          have hP : va_P D vwCl (wM mo ma mb mc md me mf mg mh mi mj mk ml mn cI cZ n q c w q ev num plc sig pad (cpy plc row 7) dig far cfr cby que (up hs j 0) img kep) H := hP
          have hD : va_D A (wM mo ma mb mc md me mf mg mh mi mj mk ml mn cI cZ n q c w q ev num plc sig pad (cpy plc row 7) dig far cfr cby que (up hs j 0) img kep) := hD
          refine lv_iinc (v := nI (j + 1)) (lv' := [(3, .int (nI (j + 1))), (2, .int (nI 0)), (0, .ref mo), (1, .int (zI a))]) gx gb dX9_rivals_33 hl (k := 0) rfl (nI_add j 1) (by decide) rfl (fun ls hl => ?_)
          refine lv_goto (tgt := 20) gx gb dX9_rivals_36 (by decide) ?_
          exact ih20 (j + 1) (up hs j 0) (by omega) (by intro x hx; simp only [up]; split; rfl; exact h0 x (by omega)) (by omega) _ _ hP hD hS ls (lv_sub hl [0, 1, 2, 3] rfl)
    exact L20 _ 0 has (by omega) (by intro x hx; exact absurd hx (Nat.not_lt_zero _)) (Nat.lt_succ_self _) _ _ hP hD hS ls (lv_sub hl [0, 1, 2, 3] rfl)
  · skip
    rw [b0_eq] at c6
    simp only [decide_eq_false_iff_not, Decidable.not_not] at c6
    refine lv_bipush (v := zI (-2)) gx gb dX9_rivals_9 (by decide) ?_
    exact W.iret (v := zI (-2)) gx gb gr (fun t ht hW => ⟨⟨zI (-2), (row, z, has), rfl, (by first | (dsimp only; done) | ((try dsimp only); rw [rivZ, if_neg (by omega), if_neg (by omega)])), by rw [ht]; exact hP, va_K.moved hW.alike hK, hD⟩, hS.F ht⟩) hS.2.2 dX9_rivals_11

