abbrev wT (rt : Nat) (r0 : Nat) (r1 : Nat) (r4 : Nat) (r5 : Nat) (cI : ClassId) (cJ : ClassId) (tn : Nat) (ts : Nat) (tq : Nat) (rws : Nat → Nat) (lks : Nat → Nat) (mks : Nat → Nat) (qu : Nat → Nat) : va_W := [(rt, .inr (2, [.ref r0, .ref r1, .int (nI tn), .int (nI ts), .ref r4, .ref r5, .int (nI tq)])), (r0, .inl (cI, 5040, .inl (aN rws))), (r1, .inl (cI, 5040, .inl (aN lks))), (r4, .inl (cJ, 16384, .inr (.inl (aL mks)))), (r5, .inl (cI, 20160, .inl (aN qu)))]
abbrev wAJ (r4 : Nat) (cJ : ClassId) (mks : Nat → Nat) : va_W := [(r4, .inl (cJ, 16384, .inr (.inl (aL mks))))]
set_option maxHeartbeats 4000000 in
set_option maxRecDepth 100000 in
theorem kJ7_fill_d0a16 (Gl : Launch) (D : va_G) (cI cJ cZ : ClassId) (r4 : Nat) (mks : Nat → Nat) (sz : Nat) : Met Gl yJ7_fill_d0a16 wsJ7_fill_d0a16 ({ frames := 0, cells := 0, slots := 0, locals := 0 } : Room) (va_Pc [.ref r4, .long (lN 0)] (fun U => U.heap.size = sz ∧ va_P D vwCl (wAJ r4 cJ mks) U.heap ∧ va_K D vwCl [(cI, .int), (cJ, .long), (cZ, .boolean)] U ∧ va_D (fun _ => True) (wAJ r4 cJ mks))) (va_Qv (fun u : Unit => True) (fun (u : Unit) t => va_P D vwCl (wAJ r4 cJ (cpy (fun _ => 0) mks 16384)) t.heap ∧ va_K D vwCl [(cI, .int), (cJ, .long), (cZ, .boolean)] t ∧ va_D (va_A (wAJ r4 cJ mks) sz) (wAJ r4 cJ (cpy (fun _ => 0) mks 16384))) (va_A (wAJ r4 cJ mks) sz)) 0 0 (va_A (wAJ r4 cJ mks) sz) := by
  refine Met.ofW (cc := cJ7_fill_d0a16) (maxL := 5) (ret := none) (by decide +kernel) rfl ?_
  intro Gp Ge Gs Gm Ga Gw Gt Gc G1 Bd gml gv
  obtain ⟨rfl, hsz, hP, hK, hD0⟩ := gv
  have gx := Bd.exec
  have gb := Bd.bytes
  have gr := Bd.returns
  have gts := atoms_spec (ws := wsJ7_fill_d0a16) Bd.pre
  have gown : Gs.vm.findClass RJ7 = some Gm.cls := findClass_of_methodNamed Bd.named
  have glk := Bd.notSynchronized
  subst hsz
  have hD := hD0.self (sz := Gs.heap.size)
  generalize hAe : va_A (wAJ r4 cJ mks) Gs.heap.size = A at hD ⊢
  have hA : ∀ q : Nat, Gs.heap.size ≤ q → A q := fun q h => by rw [← hAe]; exact Or.inr h
  have hS : va_S A Gs.heap Gs.heap [] := va_S.rf
  have hP : va_P D vwCl (wAJ r4 cJ mks) Gs.heap := hP
  have hl := lv_entry ([.ref r4, .long (lN 0)]) (n := 5) (Nat.le_of_ble_eq_true rfl)
  rw [lg_entry_eq]
  generalize (lg_sl ([.ref r4, .long (lN 0)]) ++ List.replicate (5 - (lg_sl ([.ref r4, .long (lN 0)])).length) Slot.unset).toArray = ls at hl ⊢
  have hl : lv_has ls 5 [(0, .ref r4), (1, .long (lN 0))] := hl
  refine lv_iconst (v := nI 0) gx gb dJ7_fill_d0a16_0 (by decide) ?_
  refine lv_istore_n (lv' := [(3, .int (nI 0)), (0, .ref r4), (1, .long (lN 0))]) gx gb dJ7_fill_d0a16_1 rfl hl (by decide) rfl (fun ls hl => ?_)
  refine lv_aload_n gx gb dJ7_fill_d0a16_2 rfl (lv_at hl 1 rfl) ?_
  refine va_alen (v := nI 16384) gx gb hK hP 0 1 rfl rfl rfl dJ7_fill_d0a16_3 ?_
  refine lv_istore (lv' := [(4, .int (nI 16384)), (3, .int (nI 0)), (0, .ref r4), (1, .long (lN 0))]) gx gb dJ7_fill_d0a16_4 hl (by decide) rfl (fun ls hl => ?_)
  have L6 : ∀ fu : Nat, ∀ (i : Nat) (hi : i ≤ 16384), (16384 - i) < fu → ∀ (H : Heap) (locs : List Loc), va_P D vwCl (wAJ r4 cJ (cpy (fun _ => 0) mks i)) H → va_D A (wAJ r4 cJ (cpy (fun _ => 0) mks i)) → va_S A Gs.heap H locs → ∀ ls : Array Slot, lv_has ls 5 [(3, .int (nI i)), (4, .int (nI 16384)), (0, .ref r4), (1, .long (lN 0))] → W Gp Gl Ge (headSpec wsJ7_fill_d0a16 ({ frames := 0, cells := 0, slots := 0, locals := 0 } : Room)).room Gs Gm ([.ref r4, .long (lN 0)] : List Value).toArray Gw Gt Gc H locs 0 0 (MQ Gw (va_Qv (fun u : Unit => True) (fun (u : Unit) t => va_P D vwCl (wAJ r4 cJ (cpy (fun _ => 0) mks 16384)) t.heap ∧ va_K D vwCl [(cI, .int), (cJ, .long), (cZ, .boolean)] t ∧ va_D A (wAJ r4 cJ (cpy (fun _ => 0) mks 16384))) A) ([.ref r4, .long (lN 0)] : List Value).toArray Gs 0 0 A) (F0 Gm 6 ls []) := by
    intro fu
    induction fu with
    | zero => intro i hi hfu; exact absurd hfu (Nat.not_lt_zero _)
    | succ fu ih6 =>
      intro i hi hfu H locs hP hD hS ls hl
      refine lv_iload_n gx gb dJ7_fill_d0a16_6 rfl (lv_at hl 0 rfl) ?_
      refine lv_iload gx gb dJ7_fill_d0a16_7 (lv_at hl 1 rfl) ?_
      refine lv_icmp_ge (tgt := 22) gx gb dJ7_fill_d0a16_9 (by decide) (fun c9 => ?_) (fun c9 => ?_)
      · skip
        rw [nI_leI (by omega) (by omega)] at c9
        have e_mks : (cpy (fun _ => 0) mks i) = (cpy (fun _ => 0) mks 16384) := by rw [show i = 16384 by omega]
        have hP : va_P D vwCl (wAJ r4 cJ (cpy (fun _ => 0) mks 16384)) H := by rw [← e_mks]; exact hP
        have hD : va_D A (wAJ r4 cJ (cpy (fun _ => 0) mks 16384)) := by rw [← e_mks]; exact hD
        exact W.vret gx gb gr (fun t ht hW => ⟨⟨(), rfl, (by first | (dsimp only; done) | ((try dsimp only); trivial)), by rw [ht]; exact hP, va_K.moved hW.alike hK, hD⟩, hS.F ht⟩) hS.2.2 dJ7_fill_d0a16_22
      · skip
        rw [nI_leI (by omega) (by omega)] at c9
        refine lv_aload_n gx gb dJ7_fill_d0a16_12 rfl (lv_at hl 2 rfl) ?_
        refine lv_iload_n gx gb dJ7_fill_d0a16_13 rfl (lv_at hl 0 rfl) ?_
        refine lv_lload_n gx gb dJ7_fill_d0a16_14 rfl (lv_at hl 3 rfl) ?_
        refine va_last gx gb hK hP hD hS 0 1 rfl rfl (vp_in_nI (n := i) (by omega) (by decide)) dJ7_fill_d0a16_15 (fun H locs hP hD hS => ?_)
        rw [aL_st (cpy (fun _ => 0) mks i) 0 (by omega)] at hP hD
        have hP : va_P D vwCl (wAJ r4 cJ (up (cpy (fun _ => 0) mks i) i 0)) H := hP
        have hD : va_D A (wAJ r4 cJ (up (cpy (fun _ => 0) mks i) i 0)) := hD
        refine lv_iinc (v := nI (i + 1)) (lv' := [(3, .int (nI (i + 1))), (4, .int (nI 16384)), (0, .ref r4), (1, .long (lN 0))]) gx gb dJ7_fill_d0a16_16 hl (k := 0) rfl (nI_add i 1) (by decide) rfl (fun ls hl => ?_)
        refine lv_goto (tgt := 6) gx gb dJ7_fill_d0a16_19 (by decide) ?_
        rw [show up (cpy (fun _ => 0) mks i) i 0 = cpy (fun _ => 0) mks (i + 1) from cpy_s (fun _ => 0) mks i] at hP hD
        exact ih6 (i + 1) (by omega) (by omega) _ _ hP hD hS ls (lv_sub hl [0, 1, 2, 3] rfl)
  rw [← cpy_0 (fun _ => 0) mks] at hP hD
  exact L6 _ 0 (by omega) (Nat.lt_succ_self _) _ _ hP hD hS ls (lv_sub hl [1, 0, 2, 3] rfl)

set_option maxHeartbeats 4000000 in
set_option maxRecDepth 100000 in
theorem kX5_rowAt (Gl : Launch) (D : va_G) (cI cJ cZ : ClassId) (rt : Nat) (r0 : Nat) (r1 : Nat) (r4 : Nat) (r5 : Nat) (tn : Nat) (ts : Nat) (tq : Nat) (rws : Nat → Nat) (lks : Nat → Nat) (mks : Nat → Nat) (qu : Nat → Nat) (k : Nat) (hk : k < 5040) : Met Gl yX5_rowAt wsX5_rowAt ({ frames := 0, cells := 0, slots := 0, locals := 0 } : Room) (va_Pc [.ref rt, .int (nI k)] (fun U => va_P D vwCl (wT rt r0 r1 r4 r5 cI cJ tn ts tq rws lks mks qu) U.heap ∧ va_K D vwCl [(cI, .int), (cJ, .long), (cZ, .boolean)] U)) (vp_Si (fun r : Int32 => r = nI (rws k))) 0 0 (fun _ => False) := by
  refine Met.ofW (cc := cX5_rowAt) (maxL := 2) (ret := (some .int)) (by decide +kernel) rfl ?_
  intro Gp Ge Gs Gm Ga Gw Gt Gc G1 Bd gml gv
  obtain ⟨rfl, hP, hK⟩ := gv
  have gx := Bd.exec
  have gb := Bd.bytes
  have gr := Bd.returns
  have gts := atoms_spec (ws := wsX5_rowAt) Bd.pre
  have gown : Gs.vm.findClass RX5 = some Gm.cls := findClass_of_methodNamed Bd.named
  have glk := Bd.notSynchronized
  have hl := lv_entry ([.ref rt, .int (nI k)]) (n := 2) (Nat.le_of_ble_eq_true rfl)
  rw [lg_entry_eq]
  generalize (lg_sl ([.ref rt, .int (nI k)]) ++ List.replicate (2 - (lg_sl ([.ref rt, .int (nI k)])).length) Slot.unset).toArray = ls at hl ⊢
  have hl : lv_has ls 2 [(0, .ref rt), (1, .int (nI k))] := hl
  have i5 : ∀ w ∈ wsX50, w ∈ wsX5_rowAt := by decide +kernel
  refine lv_iload_n gx gb dX5_rowAt_0 rfl (lv_at hl 1 rfl) ?_
  refine lv_if_lt (tgt := 22) gx gb dX5_rowAt_1 (by decide) (fun c1 => ?_) (fun c1 => ?_)
  · skip
    rw [n0_lt (by omega)] at c1
    exfalso; omega
  · skip
    rw [n0_lt (by omega)] at c1
    refine lv_iload_n gx gb dX5_rowAt_4 rfl (lv_at hl 1 rfl) ?_
    refine lv_aload_n gx gb dX5_rowAt_5 rfl (lv_at hl 0 rfl) ?_
    refine va_get (D := D) (ci := 2) (v := .ref r0) (C := RX5) (T := TX5) (N := 7) gx gb gts i5 gown hK hP 0 rfl rfl 0 (by decide) (gts (.fieldLink RX5 11 "SwanSums$Routes" "rows" "[I") (by decide +kernel)) (fun _ h9 => h9) rfl dX5_rowAt_6 ?_
    refine va_alen (v := nI 5040) gx gb hK hP 1 0 rfl rfl rfl dX5_rowAt_9 ?_
    refine lv_icmp_ge (tgt := 22) gx gb dX5_rowAt_10 (by decide) (fun c10 => ?_) (fun c10 => ?_)
    · skip
      rw [nI_leI (by omega) (by omega)] at c10
      exfalso; omega
    · skip
      rw [nI_leI (by omega) (by omega)] at c10
      refine lv_aload_n gx gb dX5_rowAt_13 rfl (lv_at hl 0 rfl) ?_
      refine va_get (D := D) (ci := 2) (v := .ref r0) (C := RX5) (T := TX5) (N := 7) gx gb gts i5 gown hK hP 0 rfl rfl 0 (by decide) (gts (.fieldLink RX5 11 "SwanSums$Routes" "rows" "[I") (by decide +kernel)) (fun _ h9 => h9) rfl dX5_rowAt_14 ?_
      refine lv_iload_n gx gb dX5_rowAt_17 rfl (lv_at hl 1 rfl) ?_
      refine va_iald gx gb hK hP 1 0 rfl rfl (vp_in_nI (n := k) (by omega) (by decide)) dX5_rowAt_18 ?_
      refine lv_evi (nI (rws k)) (aN_rd rws (by omega)) ?_
      refine lv_goto (tgt := 23) gx gb dX5_rowAt_19 (by decide) ?_
      exact W.iret (v := nI (rws k)) gx gb gr (fun t ht hW => ⟨nI (rws k), rfl, (by first | (dsimp only; done) | ((try dsimp only); rfl)), ht⟩) (fun q h => by cases h) dX5_rowAt_23

set_option maxHeartbeats 4000000 in
set_option maxRecDepth 100000 in
theorem kX5_linkAt (Gl : Launch) (D : va_G) (cI cJ cZ : ClassId) (rt : Nat) (r0 : Nat) (r1 : Nat) (r4 : Nat) (r5 : Nat) (tn : Nat) (ts : Nat) (tq : Nat) (rws : Nat → Nat) (lks : Nat → Nat) (mks : Nat → Nat) (qu : Nat → Nat) (k : Nat) (hk : k < 5040) : Met Gl yX5_linkAt wsX5_linkAt ({ frames := 0, cells := 0, slots := 0, locals := 0 } : Room) (va_Pc [.ref rt, .int (nI k)] (fun U => va_P D vwCl (wT rt r0 r1 r4 r5 cI cJ tn ts tq rws lks mks qu) U.heap ∧ va_K D vwCl [(cI, .int), (cJ, .long), (cZ, .boolean)] U)) (vp_Si (fun r : Int32 => r = nI (lks k))) 0 0 (fun _ => False) := by
  refine Met.ofW (cc := cX5_linkAt) (maxL := 2) (ret := (some .int)) (by decide +kernel) rfl ?_
  intro Gp Ge Gs Gm Ga Gw Gt Gc G1 Bd gml gv
  obtain ⟨rfl, hP, hK⟩ := gv
  have gx := Bd.exec
  have gb := Bd.bytes
  have gr := Bd.returns
  have gts := atoms_spec (ws := wsX5_linkAt) Bd.pre
  have gown : Gs.vm.findClass RX5 = some Gm.cls := findClass_of_methodNamed Bd.named
  have glk := Bd.notSynchronized
  have hl := lv_entry ([.ref rt, .int (nI k)]) (n := 2) (Nat.le_of_ble_eq_true rfl)
  rw [lg_entry_eq]
  generalize (lg_sl ([.ref rt, .int (nI k)]) ++ List.replicate (2 - (lg_sl ([.ref rt, .int (nI k)])).length) Slot.unset).toArray = ls at hl ⊢
  have hl : lv_has ls 2 [(0, .ref rt), (1, .int (nI k))] := hl
  have i5 : ∀ w ∈ wsX50, w ∈ wsX5_linkAt := by decide +kernel
  refine lv_iload_n gx gb dX5_linkAt_0 rfl (lv_at hl 1 rfl) ?_
  refine lv_if_lt (tgt := 22) gx gb dX5_linkAt_1 (by decide) (fun c1 => ?_) (fun c1 => ?_)
  · skip
    rw [n0_lt (by omega)] at c1
    exfalso; omega
  · skip
    rw [n0_lt (by omega)] at c1
    refine lv_iload_n gx gb dX5_linkAt_4 rfl (lv_at hl 1 rfl) ?_
    refine lv_aload_n gx gb dX5_linkAt_5 rfl (lv_at hl 0 rfl) ?_
    refine va_get (D := D) (ci := 2) (v := .ref r1) (C := RX5) (T := TX5) (N := 7) gx gb gts i5 gown hK hP 0 rfl rfl 1 (by decide) (gts (.fieldLink RX5 15 "SwanSums$Routes" "links" "[I") (by decide +kernel)) (fun _ h9 => h9) rfl dX5_linkAt_6 ?_
    refine va_alen (v := nI 5040) gx gb hK hP 2 0 rfl rfl rfl dX5_linkAt_9 ?_
    refine lv_icmp_ge (tgt := 22) gx gb dX5_linkAt_10 (by decide) (fun c10 => ?_) (fun c10 => ?_)
    · skip
      rw [nI_leI (by omega) (by omega)] at c10
      exfalso; omega
    · skip
      rw [nI_leI (by omega) (by omega)] at c10
      refine lv_aload_n gx gb dX5_linkAt_13 rfl (lv_at hl 0 rfl) ?_
      refine va_get (D := D) (ci := 2) (v := .ref r1) (C := RX5) (T := TX5) (N := 7) gx gb gts i5 gown hK hP 0 rfl rfl 1 (by decide) (gts (.fieldLink RX5 15 "SwanSums$Routes" "links" "[I") (by decide +kernel)) (fun _ h9 => h9) rfl dX5_linkAt_14 ?_
      refine lv_iload_n gx gb dX5_linkAt_17 rfl (lv_at hl 1 rfl) ?_
      refine va_iald gx gb hK hP 2 0 rfl rfl (vp_in_nI (n := k) (by omega) (by decide)) dX5_linkAt_18 ?_
      refine lv_evi (nI (lks k)) (aN_rd lks (by omega)) ?_
      refine lv_goto (tgt := 23) gx gb dX5_linkAt_19 (by decide) ?_
      exact W.iret (v := nI (lks k)) gx gb gr (fun t ht hW => ⟨nI (lks k), rfl, (by first | (dsimp only; done) | ((try dsimp only); rfl)), ht⟩) (fun q h => by cases h) dX5_linkAt_23

set_option maxHeartbeats 4000000 in
set_option maxRecDepth 100000 in
theorem kX5_raise (Gl : Launch) (D : va_G) (cI cJ cZ : ClassId) (rt : Nat) (r0 : Nat) (r1 : Nat) (r4 : Nat) (r5 : Nat) (tn : Nat) (ts : Nat) (tq : Nat) (rws : Nat → Nat) (lks : Nat → Nat) (mks : Nat → Nat) (qu : Nat → Nat) (sz : Nat) (lv : Nat → Nat) (R l : Nat) (hR : R < 2147483648) (hl7 : l ≤ 7) (hm : mkR lv mks) (h7 : ∀ k, lv k ≤ 7) : Met Gl yX5_raise wsX5_raise ({ frames := 0, cells := 0, slots := 0, locals := 0 } : Room) (va_Pc [.ref rt, .int (nI R), .int (nI l)] (fun U => U.heap.size = sz ∧ va_P D vwCl (wT rt r0 r1 r4 r5 cI cJ tn ts tq rws lks mks qu) U.heap ∧ va_K D vwCl [(cI, .int), (cJ, .long), (cZ, .boolean)] U ∧ va_D (fun _ => True) (wT rt r0 r1 r4 r5 cI cJ tn ts tq rws lks mks qu))) (va_Qi (fun (r : Int32) (u : (Nat → Nat)) => r = bI (decide (lv (R % 262144) < l)) ∧ mkR (if lv (R % 262144) < l then up lv (R % 262144) l else lv) u) (fun (u : (Nat → Nat)) t => va_P D vwCl (wT rt r0 r1 r4 r5 cI cJ tn ts tq rws lks u qu) t.heap ∧ va_K D vwCl [(cI, .int), (cJ, .long), (cZ, .boolean)] t ∧ va_D (va_A (wT rt r0 r1 r4 r5 cI cJ tn ts tq rws lks mks qu) sz) (wT rt r0 r1 r4 r5 cI cJ tn ts tq rws lks u qu)) (va_A (wT rt r0 r1 r4 r5 cI cJ tn ts tq rws lks mks qu) sz)) 0 0 (va_A (wT rt r0 r1 r4 r5 cI cJ tn ts tq rws lks mks qu) sz) := by
  refine Met.ofW (cc := cX5_raise) (maxL := 8) (ret := (some .boolean)) (by decide +kernel) rfl ?_
  intro Gp Ge Gs Gm Ga Gw Gt Gc G1 Bd gml gv
  obtain ⟨rfl, hsz, hP, hK, hD0⟩ := gv
  have gx := Bd.exec
  have gb := Bd.bytes
  have gr := Bd.returns
  have gts := atoms_spec (ws := wsX5_raise) Bd.pre
  have gown : Gs.vm.findClass RX5 = some Gm.cls := findClass_of_methodNamed Bd.named
  have glk := Bd.notSynchronized
  subst hsz
  have hD := hD0.self (sz := Gs.heap.size)
  generalize hAe : va_A (wT rt r0 r1 r4 r5 cI cJ tn ts tq rws lks mks qu) Gs.heap.size = A at hD ⊢
  have hA : ∀ q : Nat, Gs.heap.size ≤ q → A q := fun q h => by rw [← hAe]; exact Or.inr h
  have hS : va_S A Gs.heap Gs.heap [] := va_S.rf
  have hP : va_P D vwCl (wT rt r0 r1 r4 r5 cI cJ tn ts tq rws lks mks qu) Gs.heap := hP
  have hl := lv_entry ([.ref rt, .int (nI R), .int (nI l)]) (n := 8) (Nat.le_of_ble_eq_true rfl)
  rw [lg_entry_eq]
  generalize (lg_sl ([.ref rt, .int (nI R), .int (nI l)]) ++ List.replicate (8 - (lg_sl ([.ref rt, .int (nI R), .int (nI l)])).length) Slot.unset).toArray = ls at hl ⊢
  have hl : lv_has ls 8 [(0, .ref rt), (1, .int (nI R)), (2, .int (nI l))] := hl
  have i5 : ∀ w ∈ wsX50, w ∈ wsX5_raise := by decide +kernel
  refine lv_iload_n gx gb dX5_raise_0 rfl (lv_at hl 1 rfl) ?_
  refine lv_ldc (v := (262143)) gx gb gown (gts (.constant RX5 87 (262143)) (by decide +kernel)) dX5_raise_1 ?_
  refine lv_evi (nI 262143) (rfl) ?_
  refine lv_iand gx gb dX5_raise_3 ?_
  refine lv_evi (nI (R % 2 ^ 18)) (e_mask R 18 rfl) ?_
  have hk18 : R % 2 ^ 18 < 262144 := Nat.mod_lt _ (by decide)
  have hek : R % 2 ^ 18 = R % 262144 := rfl
  have hml := mk_lt hm h7 (s := R % 2 ^ 18 / 16) (by omega)
  have hrd := mk_rd hm h7 hk18
  have hl0 := h7 (R % 2 ^ 18)
  refine lv_istore_n (lv' := [(3, .int (nI (R % 2 ^ 18))), (0, .ref rt), (1, .int (nI R)), (2, .int (nI l))]) gx gb dX5_raise_4 rfl hl (by decide) rfl (fun ls hl => ?_)
  refine lv_iload_n gx gb dX5_raise_5 rfl (lv_at hl 0 rfl) ?_
  refine lv_bipush (v := nI 16) gx gb dX5_raise_6 (by decide) ?_
  refine lv_idiv gx gb dX5_raise_8 (nI_ne0 (by omega) (by omega)) ?_
  refine lv_evi (nI ((R % 2 ^ 18) / 16)) (e_div (by omega) (by omega) (by omega)) ?_
  refine lv_istore (lv' := [(4, .int (nI ((R % 2 ^ 18) / 16))), (3, .int (nI (R % 2 ^ 18))), (0, .ref rt), (1, .int (nI R)), (2, .int (nI l))]) gx gb dX5_raise_9 hl (by decide) rfl (fun ls hl => ?_)
  refine lv_iload_n gx gb dX5_raise_11 rfl (lv_at hl 1 rfl) ?_
  refine lv_bipush (v := nI 16) gx gb dX5_raise_12 (by decide) ?_
  refine lv_irem gx gb dX5_raise_14 (nI_ne0 (by omega) (by omega)) ?_
  refine lv_evi (nI ((R % 2 ^ 18) % 16)) (e_rem (by omega) (by omega) (by omega)) ?_
  refine lv_iconst (v := nI 4) gx gb dX5_raise_15 (by decide) ?_
  refine lv_imul gx gb dX5_raise_16 ?_
  refine lv_evi (nI (((R % 2 ^ 18) % 16) * 4)) (pk_mul ((R % 2 ^ 18) % 16) 4) ?_
  refine lv_istore (lv' := [(5, .int (nI (((R % 2 ^ 18) % 16) * 4))), (4, .int (nI ((R % 2 ^ 18) / 16))), (3, .int (nI (R % 2 ^ 18))), (0, .ref rt), (1, .int (nI R)), (2, .int (nI l))]) gx gb dX5_raise_17 hl (by decide) rfl (fun ls hl => ?_)
  refine lv_iload gx gb dX5_raise_19 (lv_at hl 1 rfl) ?_
  refine lv_if_lt (tgt := 34) gx gb dX5_raise_21 (by decide) (fun c21 => ?_) (fun c21 => ?_)
  · skip
    rw [n0_lt (by omega)] at c21
    exfalso; omega
  · skip
    rw [n0_lt (by omega)] at c21
    refine lv_iload gx gb dX5_raise_24 (lv_at hl 1 rfl) ?_
    refine lv_aload_n gx gb dX5_raise_26 rfl (lv_at hl 3 rfl) ?_
    refine va_get (D := D) (ci := 2) (v := .ref r4) (C := RX5) (T := TX5) (N := 7) gx gb gts i5 gown hK hP 0 rfl rfl 4 (by decide) (gts (.fieldLink RX5 25 "SwanSums$Routes" "marks" "[J") (by decide +kernel)) (fun _ h9 => h9) rfl dX5_raise_27 ?_
    refine va_alen (v := nI 16384) gx gb hK hP 3 1 rfl rfl rfl dX5_raise_30 ?_
    refine lv_icmp_lt (tgt := 36) gx gb dX5_raise_31 (by decide) (fun c31 => ?_) (fun c31 => ?_)
    · skip
      rw [nI_ltI (by omega) (by omega)] at c31
      refine lv_aload_n gx gb dX5_raise_36 rfl (lv_at hl 3 rfl) ?_
      refine va_get (D := D) (ci := 2) (v := .ref r4) (C := RX5) (T := TX5) (N := 7) gx gb gts i5 gown hK hP 0 rfl rfl 4 (by decide) (gts (.fieldLink RX5 25 "SwanSums$Routes" "marks" "[J") (by decide +kernel)) (fun _ h9 => h9) rfl dX5_raise_37 ?_
      refine lv_iload gx gb dX5_raise_40 (lv_at hl 1 rfl) ?_
      refine va_lald gx gb hK hP 3 1 rfl rfl (vp_in_nI (n := (R % 2 ^ 18) / 16) (by omega) (by decide)) dX5_raise_42 ?_
      refine lv_evl (lN (mks ((R % 2 ^ 18) / 16))) (aL_rd mks (by omega)) ?_
      refine lv_iload gx gb dX5_raise_43 (lv_at hl 0 rfl) ?_
      refine lv_lshr (v := lN ((mks ((R % 2 ^ 18) / 16)) / 2 ^ (((R % 2 ^ 18) % 16) * 4))) gx gb dX5_raise_45 (e_shrL (by omega) (by omega)) ?_
      refine lv_ldc2 (v := (15)) gx gb gown (gts (.constantLong RX5 88 (15)) (by decide +kernel)) dX5_raise_46 ?_
      refine lv_evl (lN 15) (rfl) ?_
      refine lv_land gx gb dX5_raise_49 ?_
      refine lv_evl (lN (((mks ((R % 2 ^ 18) / 16)) / 2 ^ (((R % 2 ^ 18) % 16) * 4)) % 2 ^ 4)) (e_maskL ((mks ((R % 2 ^ 18) / 16)) / 2 ^ (((R % 2 ^ 18) % 16) * 4)) 4 rfl) ?_
      refine lv_evl (lN (lv (R % 2 ^ 18))) (congrArg lN hrd) ?_
      refine lv_lstore (lv' := [(6, .long (lN (lv (R % 2 ^ 18)))), (5, .int (nI (((R % 2 ^ 18) % 16) * 4))), (4, .int (nI ((R % 2 ^ 18) / 16))), (3, .int (nI (R % 2 ^ 18))), (0, .ref rt), (1, .int (nI R)), (2, .int (nI l))]) gx gb dX5_raise_50 hl (by decide) rfl (fun ls hl => ?_)
      refine lv_lload gx gb dX5_raise_52 (lv_at hl 0 rfl) ?_
      refine lv_iload_n gx gb dX5_raise_54 rfl (lv_at hl 6 rfl) ?_
      refine lv_i2l (v := lN l) gx gb dX5_raise_55 (nI_l (by omega)) ?_
      refine W.lcmp gx gb dX5_raise_56 ?_
      refine lv_evi (zI (cmZ (lv (R % 2 ^ 18)) l)) (lcmp_N (by omega) (by omega)) ?_
      have hcb := cmZ_bd (lv (R % 2 ^ 18)) l
      have hcl := cmZ_lt (lv (R % 2 ^ 18)) l
      refine lv_if_lt (tgt := 62) gx gb dX5_raise_57 (by decide) (fun c57 => ?_) (fun c57 => ?_)
      · skip
        rw [z0_lt (by omega) (by omega)] at c57
        rw [cmZ_lt] at c57
        refine lv_aload_n gx gb dX5_raise_62 rfl (lv_at hl 4 rfl) ?_
        refine va_get (D := D) (ci := 2) (v := .ref r4) (C := RX5) (T := TX5) (N := 7) gx gb gts i5 gown hK hP 0 rfl rfl 4 (by decide) (gts (.fieldLink RX5 25 "SwanSums$Routes" "marks" "[J") (by decide +kernel)) (fun _ h9 => h9) rfl dX5_raise_63 ?_
        refine lv_iload gx gb dX5_raise_66 (lv_at hl 2 rfl) ?_
        refine lv_dup2_11 gx gb dX5_raise_68 rfl rfl ?_
        refine va_lald gx gb hK hP 3 1 rfl rfl (vp_in_nI (n := (R % 2 ^ 18) / 16) (by omega) (by decide)) dX5_raise_69 ?_
        refine lv_evl (lN (mks ((R % 2 ^ 18) / 16))) (aL_rd mks (by omega)) ?_
        refine lv_iload_n gx gb dX5_raise_70 rfl (lv_at hl 6 rfl) ?_
        refine lv_i2l (v := lN l) gx gb dX5_raise_71 (nI_l (by omega)) ?_
        refine lv_lload gx gb dX5_raise_72 (lv_at hl 0 rfl) ?_
        refine lv_lsub gx gb dX5_raise_74 ?_
        refine lv_evl (lN (l - lv (R % 2 ^ 18))) (lN_sub (by omega)) ?_
        refine lv_iload gx gb dX5_raise_75 (lv_at hl 1 rfl) ?_
        refine lv_lshl (v := lN ((l - lv (R % 2 ^ 18)) * 2 ^ (((R % 2 ^ 18) % 16) * 4))) gx gb dX5_raise_77 (e_shlL _ (by omega)) ?_
        refine lv_ladd gx gb dX5_raise_78 ?_
        refine lv_evl (lN (pk 16 (fun j => up lv (R % 2 ^ 18) l (16 * (R % 2 ^ 18 / 16) + j)) 16)) ((lN_add _ _).trans (congrArg lN (mk_add hm hk18 (by omega)))) ?_
        refine va_last gx gb hK hP hD hS 3 1 rfl rfl (vp_in_nI (n := (R % 2 ^ 18) / 16) (by omega) (by decide)) dX5_raise_79 (fun H locs hP hD hS => ?_)
        rw [aL_st mks (pk 16 (fun j => up lv (R % 2 ^ 18) l (16 * (R % 2 ^ 18 / 16) + j)) 16) (by omega)] at hP hD
        have hP : va_P D vwCl (wT rt r0 r1 r4 r5 cI cJ tn ts tq rws lks (up mks ((R % 2 ^ 18) / 16) (pk 16 (fun j => up lv (R % 2 ^ 18) l (16 * (R % 2 ^ 18 / 16) + j)) 16)) qu) H := hP
        have hD : va_D A (wT rt r0 r1 r4 r5 cI cJ tn ts tq rws lks (up mks ((R % 2 ^ 18) / 16) (pk 16 (fun j => up lv (R % 2 ^ 18) l (16 * (R % 2 ^ 18 / 16) + j)) 16)) qu) := hD
        refine lv_iconst (v := nI 1) gx gb dX5_raise_80 (by decide) ?_
        exact W.zret (v := nI 1) gx gb gr (by decide) (fun t ht hW => ⟨⟨nI 1, (up mks ((R % 2 ^ 18) / 16) (pk 16 (fun j => up lv (R % 2 ^ 18) l (16 * (R % 2 ^ 18 / 16) + j)) 16)), rfl, (by first | (dsimp only; done) | ((try dsimp only); exact ⟨bI_t (decide_eq_true c57), by rw [if_pos c57]; exact mk_up hm _ _⟩)), by rw [ht]; exact hP, va_K.moved hW.alike hK, hD⟩, hS.F ht⟩) hS.2.2 dX5_raise_81
      · skip
        rw [z0_lt (by omega) (by omega)] at c57
        rw [cmZ_lt] at c57
        refine lv_iconst (v := nI 0) gx gb dX5_raise_60 (by decide) ?_
        exact W.zret (v := nI 0) gx gb gr (by decide) (fun t ht hW => ⟨⟨nI 0, (mks), rfl, (by first | (dsimp only; done) | ((try dsimp only); exact ⟨bI_f (decide_eq_false c57), by rw [if_neg c57]; exact hm⟩)), by rw [ht]; exact hP, va_K.moved hW.alike hK, hD⟩, hS.F ht⟩) hS.2.2 dX5_raise_61
    · skip
      rw [nI_ltI (by omega) (by omega)] at c31
      exfalso; omega

set_option maxHeartbeats 4000000 in
set_option maxRecDepth 100000 in
theorem kX5_addRow (Gl : Launch) (D : va_G) (cI cJ cZ : ClassId) (rt : Nat) (r0 : Nat) (r1 : Nat) (r4 : Nat) (r5 : Nat) (tn : Nat) (ts : Nat) (tq : Nat) (rws : Nat → Nat) (lks : Nat → Nat) (mks : Nat → Nat) (qu : Nat → Nat) (sz : Nat) (lv : Nat → Nat) (R l : Nat) (hR : R < 2147483648) (hm : mkR lv mks) (h7 : ∀ k, lv k ≤ 7) (htn : tn ≤ 5040) (hroom : lv (R % 262144) < 1 → tn < 5040) : Met Gl yX5_addRow wsX5_addRow ({ frames := 1, cells := 0, slots := 0, locals := 27 } : Room) (va_Pc [.ref rt, .int (nI R), .int (nI l)] (fun U => U.heap.size = sz ∧ va_P D vwCl (wT rt r0 r1 r4 r5 cI cJ tn ts tq rws lks mks qu) U.heap ∧ va_K D vwCl [(cI, .int), (cJ, .long), (cZ, .boolean)] U ∧ va_D (fun _ => True) (wT rt r0 r1 r4 r5 cI cJ tn ts tq rws lks mks qu))) (va_Qv (fun u : (Nat → Nat) => mkR (if lv (R % 262144) < 1 then up lv (R % 262144) 1 else lv) u) (fun (u : (Nat → Nat)) t => va_P D vwCl (wT rt r0 r1 r4 r5 cI cJ (if lv (R % 262144) < 1 then tn + 1 else tn) ts tq (if lv (R % 262144) < 1 then up rws tn R else rws) (if lv (R % 262144) < 1 then up lks tn l else lks) u qu) t.heap ∧ va_K D vwCl [(cI, .int), (cJ, .long), (cZ, .boolean)] t ∧ va_D (va_A (wT rt r0 r1 r4 r5 cI cJ tn ts tq rws lks mks qu) sz) (wT rt r0 r1 r4 r5 cI cJ (if lv (R % 262144) < 1 then tn + 1 else tn) ts tq (if lv (R % 262144) < 1 then up rws tn R else rws) (if lv (R % 262144) < 1 then up lks tn l else lks) u qu)) (va_A (wT rt r0 r1 r4 r5 cI cJ tn ts tq rws lks mks qu) sz)) 0 0 (va_A (wT rt r0 r1 r4 r5 cI cJ tn ts tq rws lks mks qu) sz) := by
  refine Met.ofW (cc := cX5_addRow) (maxL := 3) (ret := none) (by decide +kernel) rfl ?_
  intro Gp Ge Gs Gm Ga Gw Gt Gc G1 Bd gml gv
  obtain ⟨rfl, hsz, hP, hK, hD0⟩ := gv
  have gx := Bd.exec
  have gb := Bd.bytes
  have gr := Bd.returns
  have gts := atoms_spec (ws := wsX5_addRow) Bd.pre
  have gown : Gs.vm.findClass RX5 = some Gm.cls := findClass_of_methodNamed Bd.named
  have glk := Bd.notSynchronized
  subst hsz
  have hD := hD0.self (sz := Gs.heap.size)
  generalize hAe : va_A (wT rt r0 r1 r4 r5 cI cJ tn ts tq rws lks mks qu) Gs.heap.size = A at hD ⊢
  have hA : ∀ q : Nat, Gs.heap.size ≤ q → A q := fun q h => by rw [← hAe]; exact Or.inr h
  have hS : va_S A Gs.heap Gs.heap [] := va_S.rf
  have hP : va_P D vwCl (wT rt r0 r1 r4 r5 cI cJ tn ts tq rws lks mks qu) Gs.heap := hP
  have hl := lv_entry ([.ref rt, .int (nI R), .int (nI l)]) (n := 3) (Nat.le_of_ble_eq_true rfl)
  rw [lg_entry_eq]
  generalize (lg_sl ([.ref rt, .int (nI R), .int (nI l)]) ++ List.replicate (3 - (lg_sl ([.ref rt, .int (nI R), .int (nI l)])).length) Slot.unset).toArray = ls at hl ⊢
  have hl : lv_has ls 3 [(0, .ref rt), (1, .int (nI R)), (2, .int (nI l))] := hl
  have i5 : ∀ w ∈ wsX50, w ∈ wsX5_addRow := by decide +kernel
  refine lv_aload_n gx gb dX5_addRow_0 rfl (lv_at hl 0 rfl) ?_
  refine va_get (D := D) (ci := 2) (v := .int (nI tn)) (C := RX5) (T := TX5) (N := 7) gx gb gts i5 gown hK hP 0 rfl rfl 2 (by decide) (gts (.fieldLink RX5 18 "SwanSums$Routes" "count" "I") (by decide +kernel)) (fun _ h9 => h9) rfl dX5_addRow_1 ?_
  refine lv_if_lt (tgt := 70) gx gb dX5_addRow_4 (by decide) (fun c4 => ?_) (fun c4 => ?_)
  · skip
    rw [n0_lt (by omega)] at c4
    exfalso; omega
  · skip
    rw [n0_lt (by omega)] at c4
    refine lv_aload_n gx gb dX5_addRow_7 rfl (lv_at hl 0 rfl) ?_
    refine va_get (D := D) (ci := 2) (v := .int (nI tn)) (C := RX5) (T := TX5) (N := 7) gx gb gts i5 gown hK hP 0 rfl rfl 2 (by decide) (gts (.fieldLink RX5 18 "SwanSums$Routes" "count" "I") (by decide +kernel)) (fun _ h9 => h9) rfl dX5_addRow_8 ?_
    refine lv_aload_n gx gb dX5_addRow_11 rfl (lv_at hl 0 rfl) ?_
    refine va_get (D := D) (ci := 2) (v := .ref r0) (C := RX5) (T := TX5) (N := 7) gx gb gts i5 gown hK hP 0 rfl rfl 0 (by decide) (gts (.fieldLink RX5 11 "SwanSums$Routes" "rows" "[I") (by decide +kernel)) (fun _ h9 => h9) rfl dX5_addRow_12 ?_
    refine va_alen (v := nI 5040) gx gb hK hP 1 0 rfl rfl rfl dX5_addRow_15 ?_
    refine lv_icmp_ge (tgt := 70) gx gb dX5_addRow_16 (by decide) (fun c16 => ?_) (fun c16 => ?_)
    · skip
      rw [nI_leI (by omega) (by omega)] at c16
      have hn1 : ¬ lv (R % 262144) < 1 := fun h9 => by have := hroom h9; omega
      have e_tn : tn = (if lv (R % 262144) < 1 then tn + 1 else tn) := by first | (rw [if_neg hn1]; done) | (rw [if_pos hn1])
      have e_rws : rws = (if lv (R % 262144) < 1 then up rws tn R else rws) := by first | (rw [if_neg hn1]; done) | (rw [if_pos hn1])
      have e_lks : lks = (if lv (R % 262144) < 1 then up lks tn l else lks) := by first | (rw [if_neg hn1]; done) | (rw [if_pos hn1])
      have hP : va_P D vwCl (wT rt r0 r1 r4 r5 cI cJ (if lv (R % 262144) < 1 then tn + 1 else tn) ts tq (if lv (R % 262144) < 1 then up rws tn R else rws) (if lv (R % 262144) < 1 then up lks tn l else lks) mks qu) Gs.heap := by rw [← e_tn, ← e_rws, ← e_lks]; exact hP
      have hD : va_D A (wT rt r0 r1 r4 r5 cI cJ (if lv (R % 262144) < 1 then tn + 1 else tn) ts tq (if lv (R % 262144) < 1 then up rws tn R else rws) (if lv (R % 262144) < 1 then up lks tn l else lks) mks qu) := by rw [← e_tn, ← e_rws, ← e_lks]; exact hD
      exact W.vret gx gb gr (fun t ht hW => ⟨⟨(mks), rfl, (by first | (dsimp only; done) | ((try dsimp only); first | exact hm9 | (rw [if_neg hn1]; exact hm))), by rw [ht]; exact hP, va_K.moved hW.alike hK, hD⟩, hS.F ht⟩) hS.2.2 dX5_addRow_70
    · skip
      rw [nI_leI (by omega) (by omega)] at c16
      refine lv_aload_n gx gb dX5_addRow_19 rfl (lv_at hl 0 rfl) ?_
      refine va_get (D := D) (ci := 2) (v := .int (nI tn)) (C := RX5) (T := TX5) (N := 7) gx gb gts i5 gown hK hP 0 rfl rfl 2 (by decide) (gts (.fieldLink RX5 18 "SwanSums$Routes" "count" "I") (by decide +kernel)) (fun _ h9 => h9) rfl dX5_addRow_20 ?_
      refine lv_aload_n gx gb dX5_addRow_23 rfl (lv_at hl 0 rfl) ?_
      refine va_get (D := D) (ci := 2) (v := .ref r1) (C := RX5) (T := TX5) (N := 7) gx gb gts i5 gown hK hP 0 rfl rfl 1 (by decide) (gts (.fieldLink RX5 15 "SwanSums$Routes" "links" "[I") (by decide +kernel)) (fun _ h9 => h9) rfl dX5_addRow_24 ?_
      refine va_alen (v := nI 5040) gx gb hK hP 2 0 rfl rfl rfl dX5_addRow_27 ?_
      refine lv_icmp_ge (tgt := 70) gx gb dX5_addRow_28 (by decide) (fun c28 => ?_) (fun c28 => ?_)
      · skip
        rw [nI_leI (by omega) (by omega)] at c28
        exfalso; omega
      · skip
        rw [nI_leI (by omega) (by omega)] at c28
        refine lv_aload_n gx gb dX5_addRow_31 rfl (lv_at hl 0 rfl) ?_
        refine lv_iload_n gx gb dX5_addRow_32 rfl (lv_at hl 1 rfl) ?_
        refine lv_iconst (v := nI 1) gx gb dX5_addRow_33 (by decide) ?_
        have hPc := hP.sub (ws' := wT rt r0 r1 r4 r5 cI cJ tn ts tq rws lks mks qu) [0, 1, 2, 3, 4] rfl
        have hDc := hD.sub (ws' := wT rt r0 r1 r4 r5 cI cJ tn ts tq rws lks mks qu) [0, 1, 2, 3, 4] (by decide) rfl
        have hFc := va_free (wc := wT rt r0 r1 r4 r5 cI cJ tn ts tq rws lks mks qu) hD hS hA [0, 1, 2, 3, 4] rfl
        refine va_calli (va_runV (As := [.int (nI R), .int (nI 1)]) (rest := []) ⟨gx, gb, gml, gown, gts⟩ (kX5_raise Gl D cI cJ cZ rt r0 r1 r4 r5 tn ts tq rws lks mks qu _ lv R 1 (by omega) (by omega) (by omega) (by omega)) (cwV 2 gts gX5_addRow_X5_raise rfl rfl rfl (by decide +kernel) ⟨Nat.le_of_ble_eq_true rfl, Nat.le_of_ble_eq_true rfl⟩) ⟨fun a U g mk q => by obtain ⟨q0, q1, qP, qK, qD⟩ := q; exact ⟨q0, q1, qP, va_K.moved (u := U) (U := U.calling g mk a) (Vm.Alike.refl U.vm) qK, qD⟩, va_recv hK hPc (ci := 2) (q0 := 0) rfl rfl, fun U hU hW => ⟨rfl, by rw [hU], by rw [hU]; exact hPc, va_K.moved hW.alike hK, hDc.weaken (fun _ _ _ _ => trivial)⟩⟩ rfl rfl hl.1 rfl (lv_room (Nat.le_of_ble_eq_true rfl)) dX5_addRow_34 ⟨Nat.le_of_ble_eq_true rfl, Nat.le_of_ble_eq_true rfl⟩) hS (fun q _ h => hFc q h) hFc (fun r u t H1 locs ht hvm hw hB hz1 hk1 hS => ?_)
        obtain ⟨mks_34, rfl⟩ : ∃ z, z = u := ⟨_, rfl⟩
        obtain ⟨hP1, hK1, hD1⟩ := hB
        rw [ht] at hP1
        try dsimp only at hw
        try dsimp only at hP1
        try dsimp only at hD1
        have hK := va_K.moved hvm.symm hK1
        obtain ⟨hP, hD⟩ := va_join (wr := []) (w1 := wT rt r0 r1 r4 r5 cI cJ tn ts tq rws lks mks_34 qu) hP hD [0, 1, 2, 3, 4] [] rfl rfl (by decide) (by decide) hk1 hFc hP1 hD1
        have hP := hP.sub (ws' := wT rt r0 r1 r4 r5 cI cJ tn ts tq rws lks mks_34 qu) [0, 1, 2, 3, 4] rfl
        have hD := hD.sub (ws' := wT rt r0 r1 r4 r5 cI cJ tn ts tq rws lks mks_34 qu) [0, 1, 2, 3, 4] (by decide) rfl
        have hK := va_K.moved (Vm.Alike.refl Gs.vm) hK
        generalize H1 = H at hP hS ⊢
        obtain ⟨hr34, hw⟩ := hw
        subst hr34
        have hm9 := hw
        refine lv_if_eq (tgt := 70) gx gb dX5_addRow_37 (by decide) (fun c37 => ?_) (fun c37 => ?_)
        · skip
          rw [b0_eq] at c37
          simp only [decide_eq_false_iff_not, Decidable.not_not] at c37
          have hn1 := c37
          have e_tn : tn = (if lv (R % 262144) < 1 then tn + 1 else tn) := by first | (rw [if_neg hn1]; done) | (rw [if_pos hn1])
          have e_rws : rws = (if lv (R % 262144) < 1 then up rws tn R else rws) := by first | (rw [if_neg hn1]; done) | (rw [if_pos hn1])
          have e_lks : lks = (if lv (R % 262144) < 1 then up lks tn l else lks) := by first | (rw [if_neg hn1]; done) | (rw [if_pos hn1])
          have hP : va_P D vwCl (wT rt r0 r1 r4 r5 cI cJ (if lv (R % 262144) < 1 then tn + 1 else tn) ts tq (if lv (R % 262144) < 1 then up rws tn R else rws) (if lv (R % 262144) < 1 then up lks tn l else lks) mks_34 qu) H := by rw [← e_tn, ← e_rws, ← e_lks]; exact hP
          have hD : va_D A (wT rt r0 r1 r4 r5 cI cJ (if lv (R % 262144) < 1 then tn + 1 else tn) ts tq (if lv (R % 262144) < 1 then up rws tn R else rws) (if lv (R % 262144) < 1 then up lks tn l else lks) mks_34 qu) := by rw [← e_tn, ← e_rws, ← e_lks]; exact hD
          exact W.vret gx gb gr (fun t ht hW => ⟨⟨(mks_34), rfl, (by first | (dsimp only; done) | ((try dsimp only); first | exact hm9 | (rw [if_neg hn1]; exact hm))), by rw [ht]; exact hP, va_K.moved hW.alike hK, hD⟩, hS.F ht⟩) hS.2.2 dX5_addRow_70
        · skip
          rw [b0_eq] at c37
          simp only [decide_eq_false_iff_not, Decidable.not_not] at c37
          have hn1 := c37
          refine lv_aload_n gx gb dX5_addRow_40 rfl (lv_at hl 0 rfl) ?_
          refine va_get (D := D) (ci := 2) (v := .ref r0) (C := RX5) (T := TX5) (N := 7) gx gb gts i5 gown hK hP 0 rfl rfl 0 (by decide) (gts (.fieldLink RX5 11 "SwanSums$Routes" "rows" "[I") (by decide +kernel)) (fun _ h9 => h9) rfl dX5_addRow_41 ?_
          refine lv_aload_n gx gb dX5_addRow_44 rfl (lv_at hl 0 rfl) ?_
          refine va_get (D := D) (ci := 2) (v := .int (nI tn)) (C := RX5) (T := TX5) (N := 7) gx gb gts i5 gown hK hP 0 rfl rfl 2 (by decide) (gts (.fieldLink RX5 18 "SwanSums$Routes" "count" "I") (by decide +kernel)) (fun _ h9 => h9) rfl dX5_addRow_45 ?_
          refine lv_iload_n gx gb dX5_addRow_48 rfl (lv_at hl 1 rfl) ?_
          refine va_iast gx gb hK hP hD hS 1 0 rfl rfl (vp_in_nI (n := tn) (by omega) (by decide)) dX5_addRow_49 (fun H locs hP hD hS => ?_)
          rw [aN_st rws R (by omega)] at hP hD
          have hP : va_P D vwCl (wT rt r0 r1 r4 r5 cI cJ tn ts tq (up rws tn R) lks mks_34 qu) H := hP
          have hD : va_D A (wT rt r0 r1 r4 r5 cI cJ tn ts tq (up rws tn R) lks mks_34 qu) := hD
          refine lv_aload_n gx gb dX5_addRow_50 rfl (lv_at hl 0 rfl) ?_
          refine va_get (D := D) (ci := 2) (v := .ref r1) (C := RX5) (T := TX5) (N := 7) gx gb gts i5 gown hK hP 0 rfl rfl 1 (by decide) (gts (.fieldLink RX5 15 "SwanSums$Routes" "links" "[I") (by decide +kernel)) (fun _ h9 => h9) rfl dX5_addRow_51 ?_
          refine lv_aload_n gx gb dX5_addRow_54 rfl (lv_at hl 0 rfl) ?_
          refine va_get (D := D) (ci := 2) (v := .int (nI tn)) (C := RX5) (T := TX5) (N := 7) gx gb gts i5 gown hK hP 0 rfl rfl 2 (by decide) (gts (.fieldLink RX5 18 "SwanSums$Routes" "count" "I") (by decide +kernel)) (fun _ h9 => h9) rfl dX5_addRow_55 ?_
          refine lv_iload_n gx gb dX5_addRow_58 rfl (lv_at hl 2 rfl) ?_
          refine va_iast gx gb hK hP hD hS 2 0 rfl rfl (vp_in_nI (n := tn) (by omega) (by decide)) dX5_addRow_59 (fun H locs hP hD hS => ?_)
          rw [aN_st lks l (by omega)] at hP hD
          have hP : va_P D vwCl (wT rt r0 r1 r4 r5 cI cJ tn ts tq (up rws tn R) (up lks tn l) mks_34 qu) H := hP
          have hD : va_D A (wT rt r0 r1 r4 r5 cI cJ tn ts tq (up rws tn R) (up lks tn l) mks_34 qu) := hD
          refine lv_aload_n gx gb dX5_addRow_60 rfl (lv_at hl 0 rfl) ?_
          refine lv_dup gx gb dX5_addRow_61 rfl ?_
          refine va_get (D := D) (ci := 2) (v := .int (nI tn)) (C := RX5) (T := TX5) (N := 7) gx gb gts i5 gown hK hP 0 rfl rfl 2 (by decide) (gts (.fieldLink RX5 18 "SwanSums$Routes" "count" "I") (by decide +kernel)) (fun _ h9 => h9) rfl dX5_addRow_62 ?_
          refine lv_iconst (v := nI 1) gx gb dX5_addRow_65 (by decide) ?_
          refine lv_iadd gx gb dX5_addRow_66 ?_
          refine lv_evi (nI (tn + 1)) (nI_add tn 1) ?_
          refine va_put (D := D) (ci := 2) (v := .int (nI (tn + 1))) (ty := .int) (C := RX5) (T := TX5) (N := 7) gx gb gts i5 tyX5 tyX5_ok nmX5 gown hK hP hD hS 0 rfl rfl 2 (by decide) (gts (.fieldLink RX5 18 "SwanSums$Routes" "count" "I") (by decide +kernel)) (fun _ h9 => h9) rfl (by decide +kernel) rfl rfl (Nat.le_of_ble_eq_true rfl) dX5_addRow_67 (fun H locs hP hD hS => ?_)
          have hP : va_P D vwCl (wT rt r0 r1 r4 r5 cI cJ (tn + 1) ts tq (up rws tn R) (up lks tn l) mks_34 qu) H := hP
          have hD : va_D A (wT rt r0 r1 r4 r5 cI cJ (tn + 1) ts tq (up rws tn R) (up lks tn l) mks_34 qu) := hD
          have e_tn : (tn + 1) = (if lv (R % 262144) < 1 then tn + 1 else tn) := by first | (rw [if_neg hn1]; done) | (rw [if_pos hn1])
          have e_rws : (up rws tn R) = (if lv (R % 262144) < 1 then up rws tn R else rws) := by first | (rw [if_neg hn1]; done) | (rw [if_pos hn1])
          have e_lks : (up lks tn l) = (if lv (R % 262144) < 1 then up lks tn l else lks) := by first | (rw [if_neg hn1]; done) | (rw [if_pos hn1])
          have hP : va_P D vwCl (wT rt r0 r1 r4 r5 cI cJ (if lv (R % 262144) < 1 then tn + 1 else tn) ts tq (if lv (R % 262144) < 1 then up rws tn R else rws) (if lv (R % 262144) < 1 then up lks tn l else lks) mks_34 qu) H := by rw [← e_tn, ← e_rws, ← e_lks]; exact hP
          have hD : va_D A (wT rt r0 r1 r4 r5 cI cJ (if lv (R % 262144) < 1 then tn + 1 else tn) ts tq (if lv (R % 262144) < 1 then up rws tn R else rws) (if lv (R % 262144) < 1 then up lks tn l else lks) mks_34 qu) := by rw [← e_tn, ← e_rws, ← e_lks]; exact hD
          exact W.vret gx gb gr (fun t ht hW => ⟨⟨(mks_34), rfl, (by first | (dsimp only; done) | ((try dsimp only); first | exact hm9 | (rw [if_neg hn1]; exact hm))), by rw [ht]; exact hP, va_K.moved hW.alike hK, hD⟩, hS.F ht⟩) hS.2.2 dX5_addRow_70

set_option maxHeartbeats 4000000 in
set_option maxRecDepth 100000 in
theorem kX5_addRowsBehind (Gl : Launch) (D : va_G) (cI cJ cZ : ClassId) (rt : Nat) (r0 : Nat) (r1 : Nat) (r4 : Nat) (r5 : Nat) (tn : Nat) (tq : Nat) (rws : Nat → Nat) (lks : Nat → Nat) (mks : Nat → Nat) (qu : Nat → Nat) (sz : Nat) (S : BS) (q hd : Nat) (hq1 : 1 ≤ q) (hq : q ≤ 7) (hbok : bOK q S) (hh : hd < bN S) (hsR : simR q S tn rws lks) (hsM : simM q S mks) : Met Gl yX5_addRowsBehind wsX5_addRowsBehind ({ frames := 3, cells := 0, slots := 0, locals := 68 } : Room) (va_Pc [.ref rt, .int (nI hd)] (fun U => U.heap.size = sz ∧ va_P D vwCl (wT rt r0 r1 r4 r5 cI cJ tn q tq rws lks mks qu) U.heap ∧ va_K D vwCl [(cI, .int), (cJ, .long), (cZ, .boolean)] U ∧ va_D (fun _ => True) (wT rt r0 r1 r4 r5 cI cJ tn q tq rws lks mks qu))) (va_Qv (fun u : (Nat) × (Nat → Nat) × (Nat → Nat) × (Nat → Nat) => (simR q (bRow q hd S (3 * q)) u.1 u.2.1 u.2.2.1 ∧ simM q (bRow q hd S (3 * q)) u.2.2.2)) (fun (u : (Nat) × (Nat → Nat) × (Nat → Nat) × (Nat → Nat)) t => va_P D vwCl (wT rt r0 r1 r4 r5 cI cJ u.1 q tq u.2.1 u.2.2.1 u.2.2.2 qu) t.heap ∧ va_K D vwCl [(cI, .int), (cJ, .long), (cZ, .boolean)] t ∧ va_D (va_A (wT rt r0 r1 r4 r5 cI cJ tn q tq rws lks mks qu) sz) (wT rt r0 r1 r4 r5 cI cJ u.1 q tq u.2.1 u.2.2.1 u.2.2.2 qu)) (va_A (wT rt r0 r1 r4 r5 cI cJ tn q tq rws lks mks qu) sz)) 0 0 (va_A (wT rt r0 r1 r4 r5 cI cJ tn q tq rws lks mks qu) sz) := by
  refine Met.ofW (cc := cX5_addRowsBehind) (maxL := 6) (ret := none) (by decide +kernel) rfl ?_
  intro Gp Ge Gs Gm Ga Gw Gt Gc G1 Bd gml gv
  obtain ⟨rfl, hsz, hP, hK, hD0⟩ := gv
  have gx := Bd.exec
  have gb := Bd.bytes
  have gr := Bd.returns
  have gts := atoms_spec (ws := wsX5_addRowsBehind) Bd.pre
  have gown : Gs.vm.findClass RX5 = some Gm.cls := findClass_of_methodNamed Bd.named
  have glk := Bd.notSynchronized
  subst hsz
  have hD := hD0.self (sz := Gs.heap.size)
  generalize hAe : va_A (wT rt r0 r1 r4 r5 cI cJ tn q tq rws lks mks qu) Gs.heap.size = A at hD ⊢
  have hA : ∀ q : Nat, Gs.heap.size ≤ q → A q := fun q h => by rw [← hAe]; exact Or.inr h
  have hS : va_S A Gs.heap Gs.heap [] := va_S.rf
  have hP : va_P D vwCl (wT rt r0 r1 r4 r5 cI cJ tn q tq rws lks mks qu) Gs.heap := hP
  have hl := lv_entry ([.ref rt, .int (nI hd)]) (n := 6) (Nat.le_of_ble_eq_true rfl)
  rw [lg_entry_eq]
  generalize (lg_sl ([.ref rt, .int (nI hd)]) ++ List.replicate (6 - (lg_sl ([.ref rt, .int (nI hd)])).length) Slot.unset).toArray = ls at hl ⊢
  have hl : lv_has ls 6 [(0, .ref rt), (1, .int (nI hd))] := hl
  have i5 : ∀ w ∈ wsX50, w ∈ wsX5_addRowsBehind := by decide +kernel
  have hn7 := bOK_n7 hq hbok
  refine lv_aload_n gx gb dX5_addRowsBehind_0 rfl (lv_at hl 0 rfl) ?_
  refine lv_iload_n gx gb dX5_addRowsBehind_1 rfl (lv_at hl 1 rfl) ?_
  have hPc := hP.sub (ws' := wT rt r0 r1 r4 r5 cI cJ tn q tq rws lks mks qu) [0, 1, 2, 3, 4] rfl
  refine vp_callSi (W.runV (As := [.int (nI hd)]) (rest := []) ⟨gx, gb, gml, gown, gts⟩ (kX5_rowAt Gl D cI cJ cZ rt r0 r1 r4 r5 tn q tq rws lks mks qu hd (by omega)) (cwV 1 gts gX5_addRowsBehind_X5_rowAt rfl rfl rfl (by decide +kernel) ⟨Nat.le_of_ble_eq_true rfl, Nat.le_of_ble_eq_true rfl⟩) ⟨fun a U g mk q => ⟨q.1, q.2.1, va_K.moved (u := U) (U := U.calling g mk a) (Vm.Alike.refl U.vm) q.2.2⟩, va_recv hK hPc (ci := 2) (q0 := 0) rfl rfl, fun U hU hW => ⟨rfl, by rw [hU]; exact hPc, va_K.moved hW.alike hK⟩⟩ rfl rfl hl.1 rfl (lv_room (Nat.le_of_ble_eq_true rfl)) dX5_addRowsBehind_2 ⟨Nat.le_of_ble_eq_true rfl, Nat.le_of_ble_eq_true rfl⟩) (fun r hw => ?_)
  have hr2 := hw
  subst hr2
  refine lv_evi (nI (bR S hd)) (congrArg nI (hsR.2 hd hh).1) ?_
  refine lv_istore_n (lv' := [(2, .int (nI (bR S hd))), (0, .ref rt), (1, .int (nI hd))]) gx gb dX5_addRowsBehind_5 rfl hl (by decide) rfl (fun ls hl => ?_)
  refine lv_iconst (v := nI 0) gx gb dX5_addRowsBehind_6 (by decide) ?_
  refine lv_istore_n (lv' := [(3, .int (nI 0)), (2, .int (nI (bR S hd))), (0, .ref rt), (1, .int (nI hd))]) gx gb dX5_addRowsBehind_7 rfl hl (by decide) rfl (fun ls hl => ?_)
  have L8 : ∀ fu : Nat, ∀ (n_ s : Nat) (rw_ lk_ mk_ : Nat → Nat) (hs4 : s ≤ 4) (h1 : simR q (bRow q hd S (bse q s)) n_ rw_ lk_) (h2 : simM q (bRow q hd S (bse q s)) mk_), (4 - s) < fu → ∀ (H : Heap) (locs : List Loc), va_P D vwCl (wT rt r0 r1 r4 r5 cI cJ n_ q tq rw_ lk_ mk_ qu) H → va_D A (wT rt r0 r1 r4 r5 cI cJ n_ q tq rw_ lk_ mk_ qu) → va_S A Gs.heap H locs → ∀ ls : Array Slot, lv_has ls 6 [(2, .int (nI (bR S hd))), (3, .int (nI s)), (0, .ref rt), (1, .int (nI hd))] → W Gp Gl Ge (headSpec wsX5_addRowsBehind ({ frames := 3, cells := 0, slots := 0, locals := 68 } : Room)).room Gs Gm ([.ref rt, .int (nI hd)] : List Value).toArray Gw Gt Gc H locs 0 0 (MQ Gw (va_Qv (fun u : (Nat) × (Nat → Nat) × (Nat → Nat) × (Nat → Nat) => (simR q (bRow q hd S (3 * q)) u.1 u.2.1 u.2.2.1 ∧ simM q (bRow q hd S (3 * q)) u.2.2.2)) (fun (u : (Nat) × (Nat → Nat) × (Nat → Nat) × (Nat → Nat)) t => va_P D vwCl (wT rt r0 r1 r4 r5 cI cJ u.1 q tq u.2.1 u.2.2.1 u.2.2.2 qu) t.heap ∧ va_K D vwCl [(cI, .int), (cJ, .long), (cZ, .boolean)] t ∧ va_D A (wT rt r0 r1 r4 r5 cI cJ u.1 q tq u.2.1 u.2.2.1 u.2.2.2 qu)) A) ([.ref rt, .int (nI hd)] : List Value).toArray Gs 0 0 A) (F0 Gm 8 ls []) := by
    intro fu
    induction fu with
    | zero => intro n_ s rw_ lk_ mk_ hs4 h1 h2 hfu; exact absurd hfu (Nat.not_lt_zero _)
    | succ fu ih8 =>
      intro n_ s rw_ lk_ mk_ hs4 h1 h2 hfu H locs hP hD hS ls hl
      have hab := arr_21 hq (hbok.2.2.2.1 hd hh)
      refine lv_iload_n gx gb dX5_addRowsBehind_8 rfl (lv_at hl 1 rfl) ?_
      refine lv_iconst (v := nI 4) gx gb dX5_addRowsBehind_9 (by decide) ?_
      refine lv_icmp_ge (tgt := 72) gx gb dX5_addRowsBehind_10 (by decide) (fun c10 => ?_) (fun c10 => ?_)
      · skip
        rw [nI_leI (by omega) (by omega)] at c10
        exact W.vret gx gb gr (fun t ht hW => ⟨⟨(n_, rw_, lk_, mk_), rfl, (by first | (dsimp only; done) | ((try dsimp only); rw [show s = 4 by omega] at h1 h2; exact ⟨h1, h2⟩)), by rw [ht]; exact hP, va_K.moved hW.alike hK, hD⟩, hS.F ht⟩) hS.2.2 dX5_addRowsBehind_72
      · skip
        rw [nI_leI (by omega) (by omega)] at c10
        refine lv_iload_n gx gb dX5_addRowsBehind_13 rfl (lv_at hl 1 rfl) ?_
        refine lv_aload_n gx gb dX5_addRowsBehind_14 rfl (lv_at hl 2 rfl) ?_
        refine va_get (D := D) (ci := 2) (v := .int (nI q)) (C := RX5) (T := TX5) (N := 7) gx gb gts i5 gown hK hP 0 rfl rfl 3 (by decide) (gts (.fieldLink RX5 22 "SwanSums$Routes" "size" "I") (by decide +kernel)) (fun _ h9 => h9) rfl dX5_addRowsBehind_15 ?_
        refine vp_callSi (W.runS (As := [.int (nI s), .int (nI q)]) (rest := []) ⟨gx, gb, gml, gown, gts⟩ (kX7_places Gl s q (by omega) (by omega) (by omega)) (va_cwS 2 gts gX5_addRowsBehind_X7_places rfl rfl rfl (by decide +kernel) ⟨Nat.le_of_ble_eq_true rfl, Nat.le_of_ble_eq_true rfl⟩) ⟨fun _ _ _ _ h => h, fun U hU hW => ⟨rfl, trivial⟩⟩ rfl rfl hl.1 rfl (lv_room (Nat.le_of_ble_eq_true rfl)) dX5_addRowsBehind_18 ⟨Nat.le_of_ble_eq_true rfl, Nat.le_of_ble_eq_true rfl⟩) (fun r hw => ?_)
        have hr18 := hw
        subst hr18
        refine lv_istore (lv' := [(4, .int (nI (plC s q))), (2, .int (nI (bR S hd))), (3, .int (nI s)), (0, .ref rt), (1, .int (nI hd))]) gx gb dX5_addRowsBehind_21 hl (by decide) rfl (fun ls hl => ?_)
        refine lv_iconst (v := nI 0) gx gb dX5_addRowsBehind_23 (by decide) ?_
        refine lv_istore (lv' := [(5, .int (nI 0)), (4, .int (nI (plC s q))), (2, .int (nI (bR S hd))), (3, .int (nI s)), (0, .ref rt), (1, .int (nI hd))]) gx gb dX5_addRowsBehind_24 hl (by decide) rfl (fun ls hl => ?_)
        have L26 : ∀ fu : Nat, ∀ (n_ p : Nat) (rw_ lk_ mk_ : Nat → Nat) (hpp : p ≤ plC s q) (h3 : simR q (bRow q hd S (bse q s + p)) n_ rw_ lk_) (h4 : simM q (bRow q hd S (bse q s + p)) mk_), (plC s q - p) < fu → ∀ (H : Heap) (locs : List Loc), va_P D vwCl (wT rt r0 r1 r4 r5 cI cJ n_ q tq rw_ lk_ mk_ qu) H → va_D A (wT rt r0 r1 r4 r5 cI cJ n_ q tq rw_ lk_ mk_ qu) → va_S A Gs.heap H locs → ∀ ls : Array Slot, lv_has ls 6 [(5, .int (nI p)), (4, .int (nI (plC s q))), (2, .int (nI (bR S hd))), (3, .int (nI s)), (0, .ref rt), (1, .int (nI hd))] → W Gp Gl Ge (headSpec wsX5_addRowsBehind ({ frames := 3, cells := 0, slots := 0, locals := 68 } : Room)).room Gs Gm ([.ref rt, .int (nI hd)] : List Value).toArray Gw Gt Gc H locs 0 0 (MQ Gw (va_Qv (fun u : (Nat) × (Nat → Nat) × (Nat → Nat) × (Nat → Nat) => (simR q (bRow q hd S (3 * q)) u.1 u.2.1 u.2.2.1 ∧ simM q (bRow q hd S (3 * q)) u.2.2.2)) (fun (u : (Nat) × (Nat → Nat) × (Nat → Nat) × (Nat → Nat)) t => va_P D vwCl (wT rt r0 r1 r4 r5 cI cJ u.1 q tq u.2.1 u.2.2.1 u.2.2.2 qu) t.heap ∧ va_K D vwCl [(cI, .int), (cJ, .long), (cZ, .boolean)] t ∧ va_D A (wT rt r0 r1 r4 r5 cI cJ u.1 q tq u.2.1 u.2.2.1 u.2.2.2 qu)) A) ([.ref rt, .int (nI hd)] : List Value).toArray Gs 0 0 A) (F0 Gm 26 ls []) := by
          intro fu
          induction fu with
          | zero => intro n_ p rw_ lk_ mk_ hpp h3 h4 hfu; exact absurd hfu (Nat.not_lt_zero _)
          | succ fu ih26 =>
            intro n_ p rw_ lk_ mk_ hpp h3 h4 hfu H locs hP hD hS ls hl
            have hple := plC_b (s := s) hq1 hq
            refine lv_iload gx gb dX5_addRowsBehind_26 (lv_at hl 0 rfl) ?_
            refine lv_iload gx gb dX5_addRowsBehind_28 (lv_at hl 1 rfl) ?_
            refine lv_icmp_ge (tgt := 66) gx gb dX5_addRowsBehind_30 (by decide) (fun c30 => ?_) (fun c30 => ?_)
            · skip
              rw [nI_leI (by omega) (by omega)] at c30
              refine lv_iinc (v := nI (s + 1)) (lv' := [(3, .int (nI (s + 1))), (5, .int (nI p)), (4, .int (nI (plC s q))), (2, .int (nI (bR S hd))), (0, .ref rt), (1, .int (nI hd))]) gx gb dX5_addRowsBehind_66 hl (k := 3) rfl (nI_add s 1) (by decide) rfl (fun ls hl => ?_)
              refine lv_goto (tgt := 8) gx gb dX5_addRowsBehind_69 (by decide) ?_
              exact ih8 n_ (s + 1) rw_ lk_ mk_ (by omega) (by rw [← bse_s hq1 (by omega), show plC s q = p by omega]; exact h3) (by rw [← bse_s hq1 (by omega), show plC s q = p by omega]; exact h4) (by omega) _ _ hP hD hS ls (lv_sub hl [3, 0, 4, 5] rfl)
            · skip
              rw [nI_leI (by omega) (by omega)] at c30
              have h3q := bse_le hq1 (show s < 4 by omega) (show p < plC s q by omega)
              have hlt : p < plC s q := by omega
              have hok2 := bRow_ok hbok hq hh (bse q s + p) (by omega)
              have hle2 := bRow_le q hd S (bse q s + p)
              have aH := hbok.2.2.2.1 hd hh
              have hevX := evC_X hq1 hq (show s < 4 by omega) hlt aH
              have aE := arr_ev aH hq h3q
              have hE21 := arr_21 hq aE
              obtain ⟨lv, hmk, hl7, hlv⟩ := h4
              have hN2 := bOK_n7 hq hok2
              have hn_ := h3.1
              have hadd := fun mks2 hm2 => sim_add (h := hd) (e := bse q s + p) hq h3 hl7 hlv aE (show hd * 64 + (10 * s + p) = hd * 64 + evN q (bse q s + p) by rw [evN_bse hq1 (by omega) hlt]) (mks2 := mks2) hm2
              have hroom : lv (evX q (bse q s + p) (bR S hd) % 262144) < 1 → n_ < 5040 := fun h9 => by have hx := hlv _ aE; by_cases hi : bIn (bRow q hd S (bse q s + p)) (evX q (bse q s + p) (bR S hd)); (rw [if_pos hi] at hx; omega); (have h8 := bAdd_ok hok2 hq (Nat.lt_of_lt_of_le hh hle2.1) h3q (show evX q (bse q s + p) (bR S hd) = evX q (bse q s + p) (bR (bRow q hd S (bse q s + p)) hd) by rw [(hle2.2 hd hh).1]); rw [bAdd_f hi] at h8; have h7 := bOK_n7 hq h8; have h6 : bN (bRow q hd S (bse q s + p)) + 1 ≤ 5040 := h7; omega)
              refine lv_aload_n gx gb dX5_addRowsBehind_33 rfl (lv_at hl 4 rfl) ?_
              refine lv_iload_n gx gb dX5_addRowsBehind_34 rfl (lv_at hl 2 rfl) ?_
              refine lv_aload_n gx gb dX5_addRowsBehind_35 rfl (lv_at hl 4 rfl) ?_
              refine va_get (D := D) (ci := 2) (v := .int (nI q)) (C := RX5) (T := TX5) (N := 7) gx gb gts i5 gown hK hP 0 rfl rfl 3 (by decide) (gts (.fieldLink RX5 22 "SwanSums$Routes" "size" "I") (by decide +kernel)) (fun _ h9 => h9) rfl dX5_addRowsBehind_36 ?_
              refine lv_iload_n gx gb dX5_addRowsBehind_39 rfl (lv_at hl 3 rfl) ?_
              refine lv_iload gx gb dX5_addRowsBehind_40 (lv_at hl 0 rfl) ?_
              refine vp_callSi (W.runS (As := [.int (nI (bR S hd)), .int (nI q), .int (nI s), .int (nI p)]) (rest := [.ref rt]) ⟨gx, gb, gml, gown, gts⟩ (kX6_behindEvent Gl (bR S hd) q s p (by omega) (by omega) (by omega) (by omega) (by omega)) (va_cwS 4 gts gX5_addRowsBehind_X6_behindEvent rfl rfl rfl (by decide +kernel) ⟨Nat.le_of_ble_eq_true rfl, Nat.le_of_ble_eq_true rfl⟩) ⟨fun _ _ _ _ h => h, fun U hU hW => ⟨rfl, trivial⟩⟩ rfl rfl hl.1 rfl (lv_room (Nat.le_of_ble_eq_true rfl)) dX5_addRowsBehind_42 ⟨Nat.le_of_ble_eq_true rfl, Nat.le_of_ble_eq_true rfl⟩) (fun r hw => ?_)
              have hr42 := hw
              subst hr42
              refine lv_evi (nI (evX q (bse q s + p) (bR S hd))) (congrArg nI hevX) ?_
              refine lv_iload_n gx gb dX5_addRowsBehind_45 rfl (lv_at hl 5 rfl) ?_
              refine lv_bipush (v := nI 6) gx gb dX5_addRowsBehind_46 (by decide) ?_
              refine lv_ishl gx gb dX5_addRowsBehind_48 ?_
              refine lv_evi (nI (hd * 2 ^ 6)) (e_shl _ (by omega)) ?_
              refine lv_bipush (v := nI 10) gx gb dX5_addRowsBehind_49 (by decide) ?_
              refine lv_iload_n gx gb dX5_addRowsBehind_51 rfl (lv_at hl 3 rfl) ?_
              refine lv_imul gx gb dX5_addRowsBehind_52 ?_
              refine lv_evi (nI (10 * s)) (pk_mul 10 s) ?_
              refine lv_iload gx gb dX5_addRowsBehind_53 (lv_at hl 0 rfl) ?_
              refine lv_iadd gx gb dX5_addRowsBehind_55 ?_
              refine lv_evi (nI ((10 * s) + p)) (nI_add (10 * s) p) ?_
              refine lv_ior gx gb dX5_addRowsBehind_56 ?_
              refine lv_evi (nI ((hd * 2 ^ 6) ||| ((10 * s) + p))) (e_or (hd * 2 ^ 6) ((10 * s) + p)) ?_
              refine lv_evi (nI (hd * 64 + (10 * s + p))) (congrArg nI (or_64 (by omega))) ?_
              have hPc := hP.sub (ws' := wT rt r0 r1 r4 r5 cI cJ n_ q tq rw_ lk_ mk_ qu) [0, 1, 2, 3, 4] rfl
              have hDc := hD.sub (ws' := wT rt r0 r1 r4 r5 cI cJ n_ q tq rw_ lk_ mk_ qu) [0, 1, 2, 3, 4] (by decide) rfl
              have hFc := va_free (wc := wT rt r0 r1 r4 r5 cI cJ n_ q tq rw_ lk_ mk_ qu) hD hS hA [0, 1, 2, 3, 4] rfl
              refine va_callv (va_runV (As := [.int (nI (evX q (bse q s + p) (bR S hd))), .int (nI (hd * 64 + (10 * s + p)))]) (rest := []) ⟨gx, gb, gml, gown, gts⟩ (kX5_addRow Gl D cI cJ cZ rt r0 r1 r4 r5 n_ q tq rw_ lk_ mk_ qu _ lv (evX q (bse q s + p) (bR S hd)) (hd * 64 + (10 * s + p)) (by omega) (by exact hmk) (by exact hl7) (by omega) (by exact hroom)) (cwV 2 gts gX5_addRowsBehind_X5_addRow rfl rfl rfl (by decide +kernel) ⟨Nat.le_of_ble_eq_true rfl, Nat.le_of_ble_eq_true rfl⟩) ⟨fun a U g mk q => by obtain ⟨q0, q1, qP, qK, qD⟩ := q; exact ⟨q0, q1, qP, va_K.moved (u := U) (U := U.calling g mk a) (Vm.Alike.refl U.vm) qK, qD⟩, va_recv hK hPc (ci := 2) (q0 := 0) rfl rfl, fun U hU hW => ⟨rfl, by rw [hU], by rw [hU]; exact hPc, va_K.moved hW.alike hK, hDc.weaken (fun _ _ _ _ => trivial)⟩⟩ rfl rfl hl.1 rfl (lv_room (Nat.le_of_ble_eq_true rfl)) dX5_addRowsBehind_57 ⟨Nat.le_of_ble_eq_true rfl, Nat.le_of_ble_eq_true rfl⟩) hS (fun q _ h => hFc q h) hFc (fun u t H1 locs ht hvm hw hB hz1 hk1 hS => ?_)
              obtain ⟨mks_57, rfl⟩ : ∃ z, z = u := ⟨_, rfl⟩
              obtain ⟨hP1, hK1, hD1⟩ := hB
              rw [ht] at hP1
              try dsimp only at hw
              try dsimp only at hP1
              try dsimp only at hD1
              have hK := va_K.moved hvm.symm hK1
              obtain ⟨hP, hD⟩ := va_join (wr := []) (w1 := wT rt r0 r1 r4 r5 cI cJ (if lv ((evX q (bse q s + p) (bR S hd)) % 262144) < 1 then n_ + 1 else n_) q tq (if lv ((evX q (bse q s + p) (bR S hd)) % 262144) < 1 then up rw_ n_ (evX q (bse q s + p) (bR S hd)) else rw_) (if lv ((evX q (bse q s + p) (bR S hd)) % 262144) < 1 then up lk_ n_ (hd * 64 + (10 * s + p)) else lk_) mks_57 qu) hP hD [0, 1, 2, 3, 4] [] rfl rfl (by decide) (by decide) hk1 hFc hP1 hD1
              have hP := hP.sub (ws' := wT rt r0 r1 r4 r5 cI cJ (if lv ((evX q (bse q s + p) (bR S hd)) % 262144) < 1 then n_ + 1 else n_) q tq (if lv ((evX q (bse q s + p) (bR S hd)) % 262144) < 1 then up rw_ n_ (evX q (bse q s + p) (bR S hd)) else rw_) (if lv ((evX q (bse q s + p) (bR S hd)) % 262144) < 1 then up lk_ n_ (hd * 64 + (10 * s + p)) else lk_) mks_57 qu) [0, 1, 2, 3, 4] rfl
              have hD := hD.sub (ws' := wT rt r0 r1 r4 r5 cI cJ (if lv ((evX q (bse q s + p) (bR S hd)) % 262144) < 1 then n_ + 1 else n_) q tq (if lv ((evX q (bse q s + p) (bR S hd)) % 262144) < 1 then up rw_ n_ (evX q (bse q s + p) (bR S hd)) else rw_) (if lv ((evX q (bse q s + p) (bR S hd)) % 262144) < 1 then up lk_ n_ (hd * 64 + (10 * s + p)) else lk_) mks_57 qu) [0, 1, 2, 3, 4] (by decide) rfl
              have hK := va_K.moved (Vm.Alike.refl Gs.vm) hK
              generalize H1 = H at hP hS ⊢
              refine lv_iinc (v := nI (p + 1)) (lv' := [(5, .int (nI (p + 1))), (4, .int (nI (plC s q))), (2, .int (nI (bR S hd))), (3, .int (nI s)), (0, .ref rt), (1, .int (nI hd))]) gx gb dX5_addRowsBehind_60 hl (k := 0) rfl (nI_add p 1) (by decide) rfl (fun ls hl => ?_)
              refine lv_goto (tgt := 26) gx gb dX5_addRowsBehind_63 (by decide) ?_
              exact ih26 (if lv ((evX q (bse q s + p) (bR S hd)) % 262144) < 1 then n_ + 1 else n_) (p + 1) (if lv ((evX q (bse q s + p) (bR S hd)) % 262144) < 1 then up rw_ n_ (evX q (bse q s + p) (bR S hd)) else rw_) (if lv ((evX q (bse q s + p) (bR S hd)) % 262144) < 1 then up lk_ n_ (hd * 64 + (10 * s + p)) else lk_) mks_57 (by omega) (by exact (hadd _ hw).1) (by exact (hadd _ hw).2) (by omega) _ _ hP hD hS ls (lv_sub hl [0, 1, 2, 3, 4, 5] rfl)
        exact L26 _ n_ 0 rw_ lk_ mk_ (by omega) (by exact h1) (by exact h2) (Nat.lt_succ_self _) _ _ hP hD hS ls (lv_sub hl [0, 1, 2, 3, 4, 5] rfl)
  exact L8 _ tn 0 rws lks mks (by omega) (by exact hsR) (by exact hsM) (Nat.lt_succ_self _) _ _ hP hD hS ls (lv_sub hl [1, 0, 2, 3] rfl)

set_option maxHeartbeats 4000000 in
set_option maxRecDepth 100000 in
theorem kX5_prepare (Gl : Launch) (D : va_G) (cI cJ cZ : ClassId) (rt : Nat) (r0 : Nat) (r1 : Nat) (r4 : Nat) (r5 : Nat) (tn : Nat) (ts : Nat) (tq : Nat) (rws : Nat → Nat) (lks : Nat → Nat) (mks : Nat → Nat) (qu : Nat → Nat) (sz : Nat) (k : Nat) (hkk1 : 1 ≤ k) (hk7 : k ≤ 7) (hts : ts ≤ 7) (hpre : ts = k → simR k (bAll k) tn rws lks) : Met Gl yX5_prepare wsX5_prepare ({ frames := 4, cells := 0, slots := 0, locals := 93 } : Room) (va_Pc [.ref rt, .int (nI k)] (fun U => U.heap.size = sz ∧ va_P D vwCl (wT rt r0 r1 r4 r5 cI cJ tn ts tq rws lks mks qu) U.heap ∧ va_K D vwCl [(cI, .int), (cJ, .long), (cZ, .boolean)] U ∧ va_D (fun _ => True) (wT rt r0 r1 r4 r5 cI cJ tn ts tq rws lks mks qu))) (va_Qv (fun u : (Nat) × (Nat → Nat) × (Nat → Nat) × (Nat → Nat) => simR k (bAll k) u.1 u.2.1 u.2.2.1) (fun (u : (Nat) × (Nat → Nat) × (Nat → Nat) × (Nat → Nat)) t => va_P D vwCl (wT rt r0 r1 r4 r5 cI cJ u.1 k tq u.2.1 u.2.2.1 u.2.2.2 qu) t.heap ∧ va_K D vwCl [(cI, .int), (cJ, .long), (cZ, .boolean)] t ∧ va_D (va_A (wT rt r0 r1 r4 r5 cI cJ tn ts tq rws lks mks qu) sz) (wT rt r0 r1 r4 r5 cI cJ u.1 k tq u.2.1 u.2.2.1 u.2.2.2 qu)) (va_A (wT rt r0 r1 r4 r5 cI cJ tn ts tq rws lks mks qu) sz)) 0 0 (va_A (wT rt r0 r1 r4 r5 cI cJ tn ts tq rws lks mks qu) sz) := by
  refine Met.ofW (cc := cX5_prepare) (maxL := 3) (ret := none) (by decide +kernel) rfl ?_
  intro Gp Ge Gs Gm Ga Gw Gt Gc G1 Bd gml gv
  obtain ⟨rfl, hsz, hP, hK, hD0⟩ := gv
  have gx := Bd.exec
  have gb := Bd.bytes
  have gr := Bd.returns
  have gts := atoms_spec (ws := wsX5_prepare) Bd.pre
  have gown : Gs.vm.findClass RX5 = some Gm.cls := findClass_of_methodNamed Bd.named
  have glk := Bd.notSynchronized
  subst hsz
  have hD := hD0.self (sz := Gs.heap.size)
  generalize hAe : va_A (wT rt r0 r1 r4 r5 cI cJ tn ts tq rws lks mks qu) Gs.heap.size = A at hD ⊢
  have hA : ∀ q : Nat, Gs.heap.size ≤ q → A q := fun q h => by rw [← hAe]; exact Or.inr h
  have hS : va_S A Gs.heap Gs.heap [] := va_S.rf
  have hP : va_P D vwCl (wT rt r0 r1 r4 r5 cI cJ tn ts tq rws lks mks qu) Gs.heap := hP
  have hl := lv_entry ([.ref rt, .int (nI k)]) (n := 3) (Nat.le_of_ble_eq_true rfl)
  rw [lg_entry_eq]
  generalize (lg_sl ([.ref rt, .int (nI k)]) ++ List.replicate (3 - (lg_sl ([.ref rt, .int (nI k)])).length) Slot.unset).toArray = ls at hl ⊢
  have hl : lv_has ls 3 [(0, .ref rt), (1, .int (nI k))] := hl
  have i5 : ∀ w ∈ wsX50, w ∈ wsX5_prepare := by decide +kernel
  refine lv_aload_n gx gb dX5_prepare_0 rfl (lv_at hl 0 rfl) ?_
  refine va_get (D := D) (ci := 2) (v := .int (nI ts)) (C := RX5) (T := TX5) (N := 7) gx gb gts i5 gown hK hP 0 rfl rfl 3 (by decide) (gts (.fieldLink RX5 22 "SwanSums$Routes" "size" "I") (by decide +kernel)) (fun _ h9 => h9) rfl dX5_prepare_1 ?_
  refine lv_iload_n gx gb dX5_prepare_4 rfl (lv_at hl 1 rfl) ?_
  refine lv_icmp_ne (tgt := 9) gx gb dX5_prepare_5 (by decide) (fun c5 => ?_) (fun c5 => ?_)
  · skip
    rw [nI_eq (by omega) (by omega)] at c5
    refine lv_aload_n gx gb dX5_prepare_9 rfl (lv_at hl 0 rfl) ?_
    refine lv_iload_n gx gb dX5_prepare_10 rfl (lv_at hl 1 rfl) ?_
    refine va_put (D := D) (ci := 2) (v := .int (nI k)) (ty := .int) (C := RX5) (T := TX5) (N := 7) gx gb gts i5 tyX5 tyX5_ok nmX5 gown hK hP hD hS 0 rfl rfl 3 (by decide) (gts (.fieldLink RX5 22 "SwanSums$Routes" "size" "I") (by decide +kernel)) (fun _ h9 => h9) rfl (by decide +kernel) rfl rfl (Nat.le_of_ble_eq_true rfl) dX5_prepare_11 (fun H locs hP hD hS => ?_)
    have hP : va_P D vwCl (wT rt r0 r1 r4 r5 cI cJ tn k tq rws lks mks qu) H := hP
    have hD : va_D A (wT rt r0 r1 r4 r5 cI cJ tn k tq rws lks mks qu) := hD
    refine lv_aload_n gx gb dX5_prepare_14 rfl (lv_at hl 0 rfl) ?_
    refine lv_iconst (v := nI 0) gx gb dX5_prepare_15 (by decide) ?_
    refine va_put (D := D) (ci := 2) (v := .int (nI 0)) (ty := .int) (C := RX5) (T := TX5) (N := 7) gx gb gts i5 tyX5 tyX5_ok nmX5 gown hK hP hD hS 0 rfl rfl 2 (by decide) (gts (.fieldLink RX5 18 "SwanSums$Routes" "count" "I") (by decide +kernel)) (fun _ h9 => h9) rfl (by decide +kernel) rfl rfl (Nat.le_of_ble_eq_true rfl) dX5_prepare_16 (fun H locs hP hD hS => ?_)
    have hP : va_P D vwCl (wT rt r0 r1 r4 r5 cI cJ 0 k tq rws lks mks qu) H := hP
    have hD : va_D A (wT rt r0 r1 r4 r5 cI cJ 0 k tq rws lks mks qu) := hD
    refine lv_aload_n gx gb dX5_prepare_19 rfl (lv_at hl 0 rfl) ?_
    refine va_get (D := D) (ci := 2) (v := .ref r4) (C := RX5) (T := TX5) (N := 7) gx gb gts i5 gown hK hP 0 rfl rfl 4 (by decide) (gts (.fieldLink RX5 25 "SwanSums$Routes" "marks" "[J") (by decide +kernel)) (fun _ h9 => h9) rfl dX5_prepare_20 ?_
    refine lv_lconst (v := lN 0) gx gb dX5_prepare_23 rfl ?_
    have hPc := hP.sub (ws' := wAJ r4 cJ mks) [3] rfl
    have hDc := hD.sub (ws' := wAJ r4 cJ mks) [3] (by decide) rfl
    have hFc := va_free (wc := wAJ r4 cJ mks) hD hS hA [3] rfl
    refine va_callv (va_runS (As := [.ref r4, .long (lN 0)]) (rest := []) ⟨gx, gb, gml, gown, gts⟩ (kJ7_fill_d0a16 Gl D cI cJ cZ r4 mks _  ) (va_cwS 2 gts gX5_prepare_J7_fill_d0a16 rfl rfl rfl (by decide +kernel) ⟨Nat.le_of_ble_eq_true rfl, Nat.le_of_ble_eq_true rfl⟩) ⟨fun a U g mk q => by obtain ⟨q0, q1, qP, qK, qD⟩ := q; exact ⟨q0, q1, qP, va_K.moved (u := U) (U := U.calling g mk a) (Vm.Alike.refl U.vm) qK, qD⟩, fun U hU hW => ⟨rfl, by rw [hU], by rw [hU]; exact hPc, va_K.moved hW.alike hK, hDc.weaken (fun _ _ _ _ => trivial)⟩⟩ rfl rfl hl.1 rfl (lv_room (Nat.le_of_ble_eq_true rfl)) dX5_prepare_24 ⟨Nat.le_of_ble_eq_true rfl, Nat.le_of_ble_eq_true rfl⟩) hS (fun q _ h => hFc q h) hFc (fun u t H1 locs ht hvm hw hB hz1 hk1 hS => ?_)
    obtain ⟨hP1, hK1, hD1⟩ := hB
    rw [ht] at hP1
    try dsimp only at hw
    try dsimp only at hP1
    try dsimp only at hD1
    have hK := va_K.moved hvm.symm hK1
    obtain ⟨hP, hD⟩ := va_join (wr := [(rt, .inr (2, [.ref r0, .ref r1, .int (nI 0), .int (nI k), .ref r4, .ref r5, .int (nI tq)])), (r0, .inl (cI, 5040, .inl (aN rws))), (r1, .inl (cI, 5040, .inl (aN lks))), (r5, .inl (cI, 20160, .inl (aN qu)))]) (w1 := wAJ r4 cJ (cpy (fun _ => 0) mks 16384)) hP hD [3] [0, 1, 2, 4] rfl rfl (by decide) (by decide) hk1 hFc hP1 hD1
    have hP := hP.sub (ws' := wT rt r0 r1 r4 r5 cI cJ 0 k tq rws lks (cpy (fun _ => 0) mks 16384) qu) [0, 1, 2, 4, 3] rfl
    have hD := hD.sub (ws' := wT rt r0 r1 r4 r5 cI cJ 0 k tq rws lks (cpy (fun _ => 0) mks 16384) qu) [0, 1, 2, 4, 3] (by decide) rfl
    have hK := va_K.moved (Vm.Alike.refl Gs.vm) hK
    generalize H1 = H at hP hS ⊢
    refine lv_aload_n gx gb dX5_prepare_27 rfl (lv_at hl 0 rfl) ?_
    refine lv_aload_n gx gb dX5_prepare_28 rfl (lv_at hl 0 rfl) ?_
    refine va_get (D := D) (ci := 2) (v := .int (nI k)) (C := RX5) (T := TX5) (N := 7) gx gb gts i5 gown hK hP 0 rfl rfl 3 (by decide) (gts (.fieldLink RX5 22 "SwanSums$Routes" "size" "I") (by decide +kernel)) (fun _ h9 => h9) rfl dX5_prepare_29 ?_
    refine vp_callSi (W.runS (As := [.int (nI k)]) (rest := [.ref rt]) ⟨gx, gb, gml, gown, gts⟩ (kX6_first Gl k (by omega)) (va_cwS 1 gts gX5_prepare_X6_first rfl rfl rfl (by decide +kernel) ⟨Nat.le_of_ble_eq_true rfl, Nat.le_of_ble_eq_true rfl⟩) ⟨fun _ _ _ _ h => h, fun U hU hW => ⟨rfl, trivial⟩⟩ rfl rfl hl.1 rfl (lv_room (Nat.le_of_ble_eq_true rfl)) dX5_prepare_32 ⟨Nat.le_of_ble_eq_true rfl, Nat.le_of_ble_eq_true rfl⟩) (fun r hw => ?_)
    have hr32 := hw
    subst hr32
    refine lv_evi (nI (cod k idn)) (rfl) ?_
    refine lv_iconst (v := nI 0) gx gb dX5_prepare_35 (by decide) ?_
    have hPc := hP.sub (ws' := wT rt r0 r1 r4 r5 cI cJ 0 k tq rws lks (cpy (fun _ => 0) mks 16384) qu) [0, 1, 2, 3, 4] rfl
    have hDc := hD.sub (ws' := wT rt r0 r1 r4 r5 cI cJ 0 k tq rws lks (cpy (fun _ => 0) mks 16384) qu) [0, 1, 2, 3, 4] (by decide) rfl
    have hFc := va_free (wc := wT rt r0 r1 r4 r5 cI cJ 0 k tq rws lks (cpy (fun _ => 0) mks 16384) qu) hD hS hA [0, 1, 2, 3, 4] rfl
    refine va_callv (va_runV (As := [.int (nI (cod k idn)), .int (nI 0)]) (rest := []) ⟨gx, gb, gml, gown, gts⟩ (kX5_addRow Gl D cI cJ cZ rt r0 r1 r4 r5 0 k tq rws lks (cpy (fun _ => 0) mks 16384) qu _ (fun _ => 0) (cod k idn) 0 (by have := arr_21 hk7 (arr_id k); omega) (by exact mk_0 (fun s hs => if_pos hs)) (by exact fun _ => Nat.zero_le _) (by omega) (by omega)) (cwV 2 gts gX5_prepare_X5_addRow rfl rfl rfl (by decide +kernel) ⟨Nat.le_of_ble_eq_true rfl, Nat.le_of_ble_eq_true rfl⟩) ⟨fun a U g mk q => by obtain ⟨q0, q1, qP, qK, qD⟩ := q; exact ⟨q0, q1, qP, va_K.moved (u := U) (U := U.calling g mk a) (Vm.Alike.refl U.vm) qK, qD⟩, va_recv hK hPc (ci := 2) (q0 := 0) rfl rfl, fun U hU hW => ⟨rfl, by rw [hU], by rw [hU]; exact hPc, va_K.moved hW.alike hK, hDc.weaken (fun _ _ _ _ => trivial)⟩⟩ rfl rfl hl.1 rfl (lv_room (Nat.le_of_ble_eq_true rfl)) dX5_prepare_36 ⟨Nat.le_of_ble_eq_true rfl, Nat.le_of_ble_eq_true rfl⟩) hS (fun q _ h => hFc q h) hFc (fun u t H1 locs ht hvm hw hB hz1 hk1 hS => ?_)
    obtain ⟨mks_36, rfl⟩ : ∃ z, z = u := ⟨_, rfl⟩
    obtain ⟨hP1, hK1, hD1⟩ := hB
    rw [ht] at hP1
    try dsimp only at hw
    try dsimp only at hP1
    try dsimp only at hD1
    have hK := va_K.moved hvm.symm hK1
    obtain ⟨hP, hD⟩ := va_join (wr := []) (w1 := wT rt r0 r1 r4 r5 cI cJ (if (fun _ => 0) ((cod k idn) % 262144) < 1 then 0 + 1 else 0) k tq (if (fun _ => 0) ((cod k idn) % 262144) < 1 then up rws 0 (cod k idn) else rws) (if (fun _ => 0) ((cod k idn) % 262144) < 1 then up lks 0 0 else lks) mks_36 qu) hP hD [0, 1, 2, 3, 4] [] rfl rfl (by decide) (by decide) hk1 hFc hP1 hD1
    have hP := hP.sub (ws' := wT rt r0 r1 r4 r5 cI cJ (if (fun _ => 0) ((cod k idn) % 262144) < 1 then 0 + 1 else 0) k tq (if (fun _ => 0) ((cod k idn) % 262144) < 1 then up rws 0 (cod k idn) else rws) (if (fun _ => 0) ((cod k idn) % 262144) < 1 then up lks 0 0 else lks) mks_36 qu) [0, 1, 2, 3, 4] rfl
    have hD := hD.sub (ws' := wT rt r0 r1 r4 r5 cI cJ (if (fun _ => 0) ((cod k idn) % 262144) < 1 then 0 + 1 else 0) k tq (if (fun _ => 0) ((cod k idn) % 262144) < 1 then up rws 0 (cod k idn) else rws) (if (fun _ => 0) ((cod k idn) % 262144) < 1 then up lks 0 0 else lks) mks_36 qu) [0, 1, 2, 3, 4] (by decide) rfl
    have hK := va_K.moved (Vm.Alike.refl Gs.vm) hK
    generalize H1 = H at hP hS ⊢
    have hini := sim_ini (rws := rws) (lks := lks) hkk1 hk7 hw
    have e_tn : (if (fun _ => 0) ((cod k idn) % 262144) < 1 then 0 + 1 else 0) = 1 := by exact if_pos Nat.zero_lt_one
    have e_rws : (if (fun _ => 0) ((cod k idn) % 262144) < 1 then up rws 0 (cod k idn) else rws) = (up rws 0 (cod k idn)) := by exact if_pos Nat.zero_lt_one
    have e_lks : (if (fun _ => 0) ((cod k idn) % 262144) < 1 then up lks 0 0 else lks) = (up lks 0 0) := by exact if_pos Nat.zero_lt_one
    have hP : va_P D vwCl (wT rt r0 r1 r4 r5 cI cJ 1 k tq (up rws 0 (cod k idn)) (up lks 0 0) mks_36 qu) H := by rw [← e_tn, ← e_rws, ← e_lks]; exact hP
    have hD : va_D A (wT rt r0 r1 r4 r5 cI cJ 1 k tq (up rws 0 (cod k idn)) (up lks 0 0) mks_36 qu) := by rw [← e_tn, ← e_rws, ← e_lks]; exact hD
    refine lv_iconst (v := nI 0) gx gb dX5_prepare_39 (by decide) ?_
    refine lv_istore_n (lv' := [(2, .int (nI 0)), (0, .ref rt), (1, .int (nI k))]) gx gb dX5_prepare_40 rfl hl (by decide) rfl (fun ls hl => ?_)
    have L41 : ∀ fu : Nat, ∀ (n_ hd : Nat) (rw_ lk_ mk_ : Nat → Nat) (hh5 : hd ≤ 5040) (h1 : simR k (bfs k hd) n_ rw_ lk_) (h2 : simM k (bfs k hd) mk_), (5040 - hd) < fu → ∀ (H : Heap) (locs : List Loc), va_P D vwCl (wT rt r0 r1 r4 r5 cI cJ n_ k tq rw_ lk_ mk_ qu) H → va_D A (wT rt r0 r1 r4 r5 cI cJ n_ k tq rw_ lk_ mk_ qu) → va_S A Gs.heap H locs → ∀ ls : Array Slot, lv_has ls 3 [(2, .int (nI hd)), (0, .ref rt), (1, .int (nI k))] → W Gp Gl Ge (headSpec wsX5_prepare ({ frames := 4, cells := 0, slots := 0, locals := 93 } : Room)).room Gs Gm ([.ref rt, .int (nI k)] : List Value).toArray Gw Gt Gc H locs 0 0 (MQ Gw (va_Qv (fun u : (Nat) × (Nat → Nat) × (Nat → Nat) × (Nat → Nat) => simR k (bAll k) u.1 u.2.1 u.2.2.1) (fun (u : (Nat) × (Nat → Nat) × (Nat → Nat) × (Nat → Nat)) t => va_P D vwCl (wT rt r0 r1 r4 r5 cI cJ u.1 k tq u.2.1 u.2.2.1 u.2.2.2 qu) t.heap ∧ va_K D vwCl [(cI, .int), (cJ, .long), (cZ, .boolean)] t ∧ va_D A (wT rt r0 r1 r4 r5 cI cJ u.1 k tq u.2.1 u.2.2.1 u.2.2.2 qu)) A) ([.ref rt, .int (nI k)] : List Value).toArray Gs 0 0 A) (F0 Gm 41 ls []) := by
      intro fu
      induction fu with
      | zero => intro n_ hd rw_ lk_ mk_ hh5 h1 h2 hfu; exact absurd hfu (Nat.not_lt_zero _)
      | succ fu ih41 =>
        intro n_ hd rw_ lk_ mk_ hh5 h1 h2 hfu H locs hP hD hS ls hl
        have hbn := bOK_n7 hk7 (bfs_ok hk7 hd)
        have hn_ := h1.1
        refine lv_iload_n gx gb dX5_prepare_41 rfl (lv_at hl 0 rfl) ?_
        refine lv_aload_n gx gb dX5_prepare_42 rfl (lv_at hl 1 rfl) ?_
        refine va_get (D := D) (ci := 2) (v := .int (nI n_)) (C := RX5) (T := TX5) (N := 7) gx gb gts i5 gown hK hP 0 rfl rfl 2 (by decide) (gts (.fieldLink RX5 18 "SwanSums$Routes" "count" "I") (by decide +kernel)) (fun _ h9 => h9) rfl dX5_prepare_43 ?_
        refine lv_icmp_ge (tgt := 67) gx gb dX5_prepare_46 (by decide) (fun c46 => ?_) (fun c46 => ?_)
        · skip
          rw [nI_leI (by omega) (by omega)] at c46
          exact W.vret gx gb gr (fun t ht hW => ⟨⟨(n_, rw_, lk_, mk_), rfl, (by first | (dsimp only; done) | ((try dsimp only); rw [← bAll_at hk7 (show bN (bfs k hd) ≤ hd ∨ 5040 ≤ hd by omega)]; exact h1)), by rw [ht]; exact hP, va_K.moved hW.alike hK, hD⟩, hS.F ht⟩) hS.2.2 dX5_prepare_67
        · skip
          rw [nI_leI (by omega) (by omega)] at c46
          refine lv_iload_n gx gb dX5_prepare_49 rfl (lv_at hl 0 rfl) ?_
          refine lv_sipush (v := nI 5040) gx gb dX5_prepare_50 (by decide) ?_
          refine lv_icmp_ge (tgt := 67) gx gb dX5_prepare_53 (by decide) (fun c53 => ?_) (fun c53 => ?_)
          · skip
            rw [nI_leI (by omega) (by omega)] at c53
            exact W.vret gx gb gr (fun t ht hW => ⟨⟨(n_, rw_, lk_, mk_), rfl, (by first | (dsimp only; done) | ((try dsimp only); rw [← bAll_at hk7 (show bN (bfs k hd) ≤ hd ∨ 5040 ≤ hd by omega)]; exact h1)), by rw [ht]; exact hP, va_K.moved hW.alike hK, hD⟩, hS.F ht⟩) hS.2.2 dX5_prepare_67
          · skip
            rw [nI_leI (by omega) (by omega)] at c53
            refine lv_aload_n gx gb dX5_prepare_56 rfl (lv_at hl 1 rfl) ?_
            have hlt : hd < bN (bfs k hd) := by omega
            refine lv_iload_n gx gb dX5_prepare_57 rfl (lv_at hl 0 rfl) ?_
            have hPc := hP.sub (ws' := wT rt r0 r1 r4 r5 cI cJ n_ k tq rw_ lk_ mk_ qu) [0, 1, 2, 3, 4] rfl
            have hDc := hD.sub (ws' := wT rt r0 r1 r4 r5 cI cJ n_ k tq rw_ lk_ mk_ qu) [0, 1, 2, 3, 4] (by decide) rfl
            have hFc := va_free (wc := wT rt r0 r1 r4 r5 cI cJ n_ k tq rw_ lk_ mk_ qu) hD hS hA [0, 1, 2, 3, 4] rfl
            refine va_callv (va_runV (As := [.int (nI hd)]) (rest := []) ⟨gx, gb, gml, gown, gts⟩ (kX5_addRowsBehind Gl D cI cJ cZ rt r0 r1 r4 r5 n_ tq rw_ lk_ mk_ qu _ (bfs k hd) k hd (by omega) (by omega) (by exact bfs_ok hk7 hd) (by omega) (by exact h1) (by exact h2)) (cwV 1 gts gX5_prepare_X5_addRowsBehind rfl rfl rfl (by decide +kernel) ⟨Nat.le_of_ble_eq_true rfl, Nat.le_of_ble_eq_true rfl⟩) ⟨fun a U g mk q => by obtain ⟨q0, q1, qP, qK, qD⟩ := q; exact ⟨q0, q1, qP, va_K.moved (u := U) (U := U.calling g mk a) (Vm.Alike.refl U.vm) qK, qD⟩, va_recv hK hPc (ci := 2) (q0 := 0) rfl rfl, fun U hU hW => ⟨rfl, by rw [hU], by rw [hU]; exact hPc, va_K.moved hW.alike hK, hDc.weaken (fun _ _ _ _ => trivial)⟩⟩ rfl rfl hl.1 rfl (lv_room (Nat.le_of_ble_eq_true rfl)) dX5_prepare_58 ⟨Nat.le_of_ble_eq_true rfl, Nat.le_of_ble_eq_true rfl⟩) hS (fun q _ h => hFc q h) hFc (fun u t H1 locs ht hvm hw hB hz1 hk1 hS => ?_)
            obtain ⟨tn_58, rws_58, lks_58, mks_58⟩ := u
            obtain ⟨hP1, hK1, hD1⟩ := hB
            rw [ht] at hP1
            try dsimp only at hw
            try dsimp only at hP1
            try dsimp only at hD1
            have hK := va_K.moved hvm.symm hK1
            obtain ⟨hP, hD⟩ := va_join (wr := []) (w1 := wT rt r0 r1 r4 r5 cI cJ tn_58 k tq rws_58 lks_58 mks_58 qu) hP hD [0, 1, 2, 3, 4] [] rfl rfl (by decide) (by decide) hk1 hFc hP1 hD1
            have hP := hP.sub (ws' := wT rt r0 r1 r4 r5 cI cJ tn_58 k tq rws_58 lks_58 mks_58 qu) [0, 1, 2, 3, 4] rfl
            have hD := hD.sub (ws' := wT rt r0 r1 r4 r5 cI cJ tn_58 k tq rws_58 lks_58 mks_58 qu) [0, 1, 2, 3, 4] (by decide) rfl
            have hK := va_K.moved (Vm.Alike.refl Gs.vm) hK
            generalize H1 = H at hP hS ⊢
            refine lv_iinc (v := nI (hd + 1)) (lv' := [(2, .int (nI (hd + 1))), (0, .ref rt), (1, .int (nI k))]) gx gb dX5_prepare_61 hl (k := 0) rfl (nI_add hd 1) (by decide) rfl (fun ls hl => ?_)
            refine lv_goto (tgt := 41) gx gb dX5_prepare_64 (by decide) ?_
            exact ih41 tn_58 (hd + 1) rws_58 lks_58 mks_58 (by omega) (by rw [bfs, if_pos hlt]; exact hw.1) (by rw [bfs, if_pos hlt]; exact hw.2) (by omega) _ _ hP hD hS ls (lv_sub hl [0, 1, 2] rfl)
    exact L41 _ 1 0 (up rws 0 (cod k idn)) (up lks 0 0) mks_36 (by omega) (by exact hini.1) (by exact hini.2) (Nat.lt_succ_self _) _ _ hP hD hS ls (lv_sub hl [0, 1, 2] rfl)
  · skip
    rw [nI_eq (by omega) (by omega)] at c5
    have e_ts : ts = k := by exact c5
    have hP : va_P D vwCl (wT rt r0 r1 r4 r5 cI cJ tn k tq rws lks mks qu) Gs.heap := by rw [← e_ts]; exact hP
    have hD : va_D A (wT rt r0 r1 r4 r5 cI cJ tn k tq rws lks mks qu) := by rw [← e_ts]; exact hD
    exact W.vret gx gb gr (fun t ht hW => ⟨⟨(tn, rws, lks, mks), rfl, (by first | (dsimp only; done) | ((try dsimp only); exact hpre c5)), by rw [ht]; exact hP, va_K.moved hW.alike hK, hD⟩, hS.F ht⟩) hS.2.2 dX5_prepare_8

set_option maxHeartbeats 4000000 in
set_option maxRecDepth 100000 in
theorem kX5_firstTaught (Gl : Launch) (D : va_G) (cI cJ cZ : ClassId) (rt : Nat) (r0 : Nat) (r1 : Nat) (r4 : Nat) (r5 : Nat) (tn : Nat) (tq : Nat) (rws : Nat → Nat) (lks : Nat → Nat) (mks : Nat → Nat) (qu : Nat → Nat) (S : BS) (num plc : Nat → Nat) (k q : Nat) (hk : k ≤ 6) (hq1 : 1 ≤ q) (hq : q ≤ 7) (hS : bOK q S) (hR : simR q S tn rws lks) (hnv : ∀ x, x < q → num (plc x) ≤ 99) : Met Gl yX5_firstTaught wsX5_firstTaught ({ frames := 3, cells := 0, slots := 0, locals := 88 } : Room) (va_Pc [.ref rt, .int (nI k), .long (lN (pk 256 (fun x_ => num (plc x_)) q))] (fun U => va_P D vwCl (wT rt r0 r1 r4 r5 cI cJ tn q tq rws lks mks qu) U.heap ∧ va_K D vwCl [(cI, .int), (cJ, .long), (cZ, .boolean)] U)) (vp_Si (fun r : Int32 => r = zI (ftZ (fstT (fun i_ => tkC num plc k q (bR S i_)) (bN S))))) 0 0 (fun _ => False) := by
  refine Met.ofW (cc := cX5_firstTaught) (maxL := 5) (ret := (some .int)) (by decide +kernel) rfl ?_
  intro Gp Ge Gs Gm Ga Gw Gt Gc G1 Bd gml gv
  obtain ⟨rfl, hP, hK⟩ := gv
  have gx := Bd.exec
  have gb := Bd.bytes
  have gr := Bd.returns
  have gts := atoms_spec (ws := wsX5_firstTaught) Bd.pre
  have gown : Gs.vm.findClass RX5 = some Gm.cls := findClass_of_methodNamed Bd.named
  have glk := Bd.notSynchronized
  have hl := lv_entry ([.ref rt, .int (nI k), .long (lN (pk 256 (fun x_ => num (plc x_)) q))]) (n := 5) (Nat.le_of_ble_eq_true rfl)
  rw [lg_entry_eq]
  generalize (lg_sl ([.ref rt, .int (nI k), .long (lN (pk 256 (fun x_ => num (plc x_)) q))]) ++ List.replicate (5 - (lg_sl ([.ref rt, .int (nI k), .long (lN (pk 256 (fun x_ => num (plc x_)) q))])).length) Slot.unset).toArray = ls at hl ⊢
  have hl : lv_has ls 5 [(0, .ref rt), (1, .int (nI k)), (2, .long (lN (pk 256 (fun x_ => num (plc x_)) q)))] := hl
  have i5 : ∀ w ∈ wsX50, w ∈ wsX5_firstTaught := by decide +kernel
  have hbn := bOK_n7 hq hS
  have htn := hR.1
  have hv256 : ∀ x, x < q → num (plc x) < 256 := fun x hx => by have := hnv x hx; omega
  have hl63 := pk256_lt (f := fun x_ => num (plc x_)) (z := q) hv256 (by omega)
  refine lv_iconst (v := nI 0) gx gb dX5_firstTaught_0 (by decide) ?_
  refine lv_istore (lv' := [(4, .int (nI 0)), (0, .ref rt), (1, .int (nI k)), (2, .long (lN (pk 256 (fun x_ => num (plc x_)) q)))]) gx gb dX5_firstTaught_1 hl (by decide) rfl (fun ls hl => ?_)
  have L3 : ∀ fu : Nat, ∀ (i : Nat) (hi : i ≤ tn) (h0 : ∀ x, x < i → tkC num plc k q (bR S x) = false), (tn - i) < fu → ∀ ls : Array Slot, lv_has ls 5 [(4, .int (nI i)), (0, .ref rt), (1, .int (nI k)), (2, .long (lN (pk 256 (fun x_ => num (plc x_)) q)))] → W Gp Gl Ge (headSpec wsX5_firstTaught ({ frames := 3, cells := 0, slots := 0, locals := 88 } : Room)).room Gs Gm ([.ref rt, .int (nI k), .long (lN (pk 256 (fun x_ => num (plc x_)) q))] : List Value).toArray Gw Gt Gc Gs.heap [] 0 0 (MQ Gw (vp_Si (fun r : Int32 => r = zI (ftZ (fstT (fun i_ => tkC num plc k q (bR S i_)) (bN S))))) ([.ref rt, .int (nI k), .long (lN (pk 256 (fun x_ => num (plc x_)) q))] : List Value).toArray Gs 0 0 (fun _ => False)) (F0 Gm 3 ls []) := by
    intro fu
    induction fu with
    | zero => intro i hi h0 hfu; exact absurd hfu (Nat.not_lt_zero _)
    | succ fu ih3 =>
      intro i hi h0 hfu ls hl
      refine lv_iload gx gb dX5_firstTaught_3 (lv_at hl 0 rfl) ?_
      refine lv_aload_n gx gb dX5_firstTaught_5 rfl (lv_at hl 1 rfl) ?_
      refine va_get (D := D) (ci := 2) (v := .int (nI tn)) (C := RX5) (T := TX5) (N := 7) gx gb gts i5 gown hK hP 0 rfl rfl 2 (by decide) (gts (.fieldLink RX5 18 "SwanSums$Routes" "count" "I") (by decide +kernel)) (fun _ h9 => h9) rfl dX5_firstTaught_6 ?_
      refine lv_icmp_ge (tgt := 46) gx gb dX5_firstTaught_9 (by decide) (fun c9 => ?_) (fun c9 => ?_)
      · skip
        rw [nI_leI (by omega) (by omega)] at c9
        refine lv_iconst (v := zI (-1)) gx gb dX5_firstTaught_46 (by decide) ?_
        exact W.iret (v := zI (-1)) gx gb gr (fun t ht hW => ⟨zI (-1), rfl, (by first | (dsimp only; done) | ((try dsimp only); rw [fstT_n (fun x hx => h0 x (by omega))]; rfl)), ht⟩) (fun q h => by cases h) dX5_firstTaught_47
      · skip
        rw [nI_leI (by omega) (by omega)] at c9
        have haR := hS.2.2.2.1 i (by omega)
        have h21 := arr_21 hq haR
        have hrw := (hR.2 i (by omega)).1
        have hw99 : ∀ x, x < q → num (rwF plc (bR S i) x) < 256 := fun x hx => hv256 _ (arr_lt haR hq x hx)
        have hl263 := pk256_lt (f := fun x_ => num (rwF plc (bR S i) x_)) (z := q) hw99 (by omega)
        refine lv_iload_n gx gb dX5_firstTaught_12 rfl (lv_at hl 2 rfl) ?_
        refine lv_lload_n gx gb dX5_firstTaught_13 rfl (lv_at hl 3 rfl) ?_
        refine lv_aload_n gx gb dX5_firstTaught_14 rfl (lv_at hl 1 rfl) ?_
        refine lv_iload gx gb dX5_firstTaught_15 (lv_at hl 0 rfl) ?_
        have hPc := hP.sub (ws' := wT rt r0 r1 r4 r5 cI cJ tn q tq rws lks mks qu) [0, 1, 2, 3, 4] rfl
        refine vp_callSi (W.runV (As := [.int (nI i)]) (rest := [.long (lN (pk 256 (fun x_ => num (plc x_)) q)), .int (nI k)]) ⟨gx, gb, gml, gown, gts⟩ (kX5_rowAt Gl D cI cJ cZ rt r0 r1 r4 r5 tn q tq rws lks mks qu i (by omega)) (cwV 1 gts gX5_firstTaught_X5_rowAt rfl rfl rfl (by decide +kernel) ⟨Nat.le_of_ble_eq_true rfl, Nat.le_of_ble_eq_true rfl⟩) ⟨fun a U g mk q => ⟨q.1, q.2.1, va_K.moved (u := U) (U := U.calling g mk a) (Vm.Alike.refl U.vm) q.2.2⟩, va_recv hK hPc (ci := 2) (q0 := 0) rfl rfl, fun U hU hW => ⟨rfl, by rw [hU]; exact hPc, va_K.moved hW.alike hK⟩⟩ rfl rfl hl.1 rfl (lv_room (Nat.le_of_ble_eq_true rfl)) dX5_firstTaught_17 ⟨Nat.le_of_ble_eq_true rfl, Nat.le_of_ble_eq_true rfl⟩) (fun r hw => ?_)
        have hr17 := hw
        subst hr17
        refine lv_evi (nI (bR S i)) (congrArg nI hrw) ?_
        refine lv_aload_n gx gb dX5_firstTaught_20 rfl (lv_at hl 1 rfl) ?_
        refine va_get (D := D) (ci := 2) (v := .int (nI q)) (C := RX5) (T := TX5) (N := 7) gx gb gts i5 gown hK hP 0 rfl rfl 3 (by decide) (gts (.fieldLink RX5 22 "SwanSums$Routes" "size" "I") (by decide +kernel)) (fun _ h9 => h9) rfl dX5_firstTaught_21 ?_
        refine vp_callSl (W.runS (As := [.long (lN (pk 256 (fun x_ => num (plc x_)) q)), .int (nI (bR S i)), .int (nI q)]) (rest := [.int (nI k)]) ⟨gx, gb, gml, gown, gts⟩ (kX3_inOrder Gl (pk 256 (fun x_ => num (plc x_)) q) (bR S i) q (by omega) (by omega) (by omega)) (va_cwS 3 gts gX5_firstTaught_X3_inOrder rfl rfl rfl (by decide +kernel) ⟨Nat.le_of_ble_eq_true rfl, Nat.le_of_ble_eq_true rfl⟩) ⟨fun _ _ _ _ h => h, fun U hU hW => ⟨rfl, trivial⟩⟩ rfl rfl hl.1 rfl (lv_room (Nat.le_of_ble_eq_true rfl)) dX5_firstTaught_24 ⟨Nat.le_of_ble_eq_true rfl, Nat.le_of_ble_eq_true rfl⟩) (fun r hw => ?_)
        have hr24 := hw
        subst hr24
        refine lv_evl (lN (pk 256 (fun x_ => num (rwF plc (bR S i) x_)) q)) (congrArg lN (pk_cong fun x hx => dg_pk hv256 (arr_lt haR hq x hx))) ?_
        refine lv_aload_n gx gb dX5_firstTaught_27 rfl (lv_at hl 1 rfl) ?_
        refine va_get (D := D) (ci := 2) (v := .int (nI q)) (C := RX5) (T := TX5) (N := 7) gx gb gts i5 gown hK hP 0 rfl rfl 3 (by decide) (gts (.fieldLink RX5 22 "SwanSums$Routes" "size" "I") (by decide +kernel)) (fun _ h9 => h9) rfl dX5_firstTaught_28 ?_
        refine vp_callSi (W.runS (As := [.int (nI k), .long (lN (pk 256 (fun x_ => num (rwF plc (bR S i) x_)) q)), .int (nI q)]) (rest := []) ⟨gx, gb, gml, gown, gts⟩ (kX2_teach Gl k (pk 256 (fun x_ => num (rwF plc (bR S i) x_)) q) q (by omega) (by omega) (by omega) (by omega) (by exact pk99 (fun x hx => hnv _ (arr_lt haR hq x hx)))) (va_cwS 3 gts gX5_firstTaught_X2_teach rfl rfl rfl (by decide +kernel) ⟨Nat.le_of_ble_eq_true rfl, Nat.le_of_ble_eq_true rfl⟩) ⟨fun _ _ _ _ h => h, fun U hU hW => ⟨rfl, trivial⟩⟩ rfl rfl hl.1 rfl (lv_room (Nat.le_of_ble_eq_true rfl)) dX5_firstTaught_31 ⟨Nat.le_of_ble_eq_true rfl, Nat.le_of_ble_eq_true rfl⟩) (fun r hw => ?_)
        have hr31 := hw
        subst hr31
        refine lv_evi (bI (tkC num plc k q (bR S i))) (congrArg bI (tau_cong hq1 (fun x hx => dg_pk hw99 hx))) ?_
        refine lv_if_eq (tgt := 40) gx gb dX5_firstTaught_34 (by decide) (fun c34 => ?_) (fun c34 => ?_)
        · skip
          rw [b0_eq] at c34
          refine lv_iinc (v := nI (i + 1)) (lv' := [(4, .int (nI (i + 1))), (0, .ref rt), (1, .int (nI k)), (2, .long (lN (pk 256 (fun x_ => num (plc x_)) q)))]) gx gb dX5_firstTaught_40 hl (k := 0) rfl (nI_add i 1) (by decide) rfl (fun ls hl => ?_)
          refine lv_goto (tgt := 3) gx gb dX5_firstTaught_43 (by decide) ?_
          exact ih3 (i + 1) (by omega) (by intro x hx; exact (Nat.lt_or_ge x i).elim (fun h => h0 x h) (fun h => by obtain rfl : x = i := (by omega); exact c34)) (by omega) ls (lv_sub hl [0, 1, 2, 3] rfl)
        · skip
          rw [b0_eq] at c34
          have c34 := nf_t c34
          refine lv_iload gx gb dX5_firstTaught_37 (lv_at hl 0 rfl) ?_
          exact W.iret (v := nI i) gx gb gr (fun t ht hW => ⟨nI i, rfl, (by first | (dsimp only; done) | ((try dsimp only); rw [fstT_k (T := fun i_ => tkC num plc k q (bR S i_)) h0 c34 _ (by omega)]; exact (zI_nat i).symm)), ht⟩) (fun q h => by cases h) dX5_firstTaught_39
  exact L3 _ 0 (by omega) (by intro x hx; exact absurd hx (Nat.not_lt_zero _)) (Nat.lt_succ_self _) ls (lv_sub hl [0, 1, 2, 3] rfl)

set_option maxHeartbeats 4000000 in
set_option maxRecDepth 100000 in
theorem kX5_length (Gl : Launch) (D : va_G) (cI cJ cZ : ClassId) (rt : Nat) (r0 : Nat) (r1 : Nat) (r4 : Nat) (r5 : Nat) (tn : Nat) (ts : Nat) (tq : Nat) (rws : Nat → Nat) (lks : Nat → Nat) (mks : Nat → Nat) (qu : Nat → Nat) (S : BS) (q k : Nat) (hq1 : 1 ≤ q) (hq : q ≤ 7) (hS : bOK q S) (hR : simR q S tn rws lks) (hk : k < bN S) : Met Gl yX5_length wsX5_length ({ frames := 1, cells := 0, slots := 0, locals := 21 } : Room) (va_Pc [.ref rt, .int (nI k)] (fun U => va_P D vwCl (wT rt r0 r1 r4 r5 cI cJ tn ts tq rws lks mks qu) U.heap ∧ va_K D vwCl [(cI, .int), (cJ, .long), (cZ, .boolean)] U)) (vp_Si (fun r : Int32 => r = nI (bD S k))) 0 0 (fun _ => False) := by
  refine Met.ofW (cc := cX5_length) (maxL := 4) (ret := (some .int)) (by decide +kernel) rfl ?_
  intro Gp Ge Gs Gm Ga Gw Gt Gc G1 Bd gml gv
  obtain ⟨rfl, hP, hK⟩ := gv
  have gx := Bd.exec
  have gb := Bd.bytes
  have gr := Bd.returns
  have gts := atoms_spec (ws := wsX5_length) Bd.pre
  have gown : Gs.vm.findClass RX5 = some Gm.cls := findClass_of_methodNamed Bd.named
  have glk := Bd.notSynchronized
  have hl := lv_entry ([.ref rt, .int (nI k)]) (n := 4) (Nat.le_of_ble_eq_true rfl)
  rw [lg_entry_eq]
  generalize (lg_sl ([.ref rt, .int (nI k)]) ++ List.replicate (4 - (lg_sl ([.ref rt, .int (nI k)])).length) Slot.unset).toArray = ls at hl ⊢
  have hl : lv_has ls 4 [(0, .ref rt), (1, .int (nI k))] := hl
  have hbn := bOK_n7 hq hS
  have hdk := bD_le hS k hk
  refine lv_iconst (v := nI 0) gx gb dX5_length_0 (by decide) ?_
  refine lv_istore_n (lv' := [(2, .int (nI 0)), (0, .ref rt), (1, .int (nI k))]) gx gb dX5_length_1 rfl hl (by decide) rfl (fun ls hl => ?_)
  refine lv_iload_n gx gb dX5_length_2 rfl (lv_at hl 2 rfl) ?_
  refine lv_istore_n (lv' := [(3, .int (nI k)), (2, .int (nI 0)), (0, .ref rt), (1, .int (nI k))]) gx gb dX5_length_3 rfl hl (by decide) rfl (fun ls hl => ?_)
  have L4 : ∀ fu : Nat, ∀ (a_ m : Nat) (ha : a_ < bN S) (hd : bD S a_ + m = bD S k), a_ < fu → ∀ ls : Array Slot, lv_has ls 4 [(2, .int (nI m)), (3, .int (nI a_)), (0, .ref rt), (1, .int (nI k))] → W Gp Gl Ge (headSpec wsX5_length ({ frames := 1, cells := 0, slots := 0, locals := 21 } : Room)).room Gs Gm ([.ref rt, .int (nI k)] : List Value).toArray Gw Gt Gc Gs.heap [] 0 0 (MQ Gw (vp_Si (fun r : Int32 => r = nI (bD S k))) ([.ref rt, .int (nI k)] : List Value).toArray Gs 0 0 (fun _ => False)) (F0 Gm 4 ls []) := by
    intro fu
    induction fu with
    | zero => intro a_ m ha hd hfu; exact absurd hfu (Nat.not_lt_zero _)
    | succ fu ih4 =>
      intro a_ m ha hd hfu ls hl
      refine lv_iload_n gx gb dX5_length_4 rfl (lv_at hl 1 rfl) ?_
      refine lv_if_le (tgt := 30) gx gb dX5_length_5 (by decide) (fun c5 => ?_) (fun c5 => ?_)
      · skip
        rw [n0_le (by omega)] at c5
        refine lv_iload_n gx gb dX5_length_30 rfl (lv_at hl 0 rfl) ?_
        exact W.iret (v := nI m) gx gb gr (fun t ht hW => ⟨nI m, rfl, (by first | (dsimp only; done) | ((try dsimp only); have h0 : a_ = 0 := (by omega); rw [h0, hS.2.2.1] at hd; exact congrArg nI (by omega))), ht⟩) (fun q h => by cases h) dX5_length_31
      · skip
        rw [n0_le (by omega)] at c5
        refine lv_iload_n gx gb dX5_length_8 rfl (lv_at hl 0 rfl) ?_
        refine lv_sipush (v := nI 5040) gx gb dX5_length_9 (by decide) ?_
        refine lv_icmp_ge (tgt := 30) gx gb dX5_length_12 (by decide) (fun c12 => ?_) (fun c12 => ?_)
        · skip
          rw [nI_leI (by omega) (by omega)] at c12
          exfalso; omega
        · skip
          rw [nI_leI (by omega) (by omega)] at c12
          have h6 := hS.2.2.2.2.2 a_ (by omega) ha
          have hlk := (hR.2 a_ ha).2
          have he4 := evN_lt hq h6.2.1
          refine lv_aload_n gx gb dX5_length_15 rfl (lv_at hl 2 rfl) ?_
          refine lv_iload_n gx gb dX5_length_16 rfl (lv_at hl 1 rfl) ?_
          have hPc := hP.sub (ws' := wT rt r0 r1 r4 r5 cI cJ tn ts tq rws lks mks qu) [0, 1, 2, 3, 4] rfl
          refine vp_callSi (W.runV (As := [.int (nI a_)]) (rest := []) ⟨gx, gb, gml, gown, gts⟩ (kX5_linkAt Gl D cI cJ cZ rt r0 r1 r4 r5 tn ts tq rws lks mks qu a_ (by omega)) (cwV 1 gts gX5_length_X5_linkAt rfl rfl rfl (by decide +kernel) ⟨Nat.le_of_ble_eq_true rfl, Nat.le_of_ble_eq_true rfl⟩) ⟨fun a U g mk q => ⟨q.1, q.2.1, va_K.moved (u := U) (U := U.calling g mk a) (Vm.Alike.refl U.vm) q.2.2⟩, va_recv hK hPc (ci := 2) (q0 := 0) rfl rfl, fun U hU hW => ⟨rfl, by rw [hU]; exact hPc, va_K.moved hW.alike hK⟩⟩ rfl rfl hl.1 rfl (lv_room (Nat.le_of_ble_eq_true rfl)) dX5_length_17 ⟨Nat.le_of_ble_eq_true rfl, Nat.le_of_ble_eq_true rfl⟩) (fun r hw => ?_)
          have hr17 := hw
          subst hr17
          refine lv_evi (nI (bP S a_ * 64 + evN q (bE S a_))) (congrArg nI hlk) ?_
          refine lv_bipush (v := nI 6) gx gb dX5_length_20 (by decide) ?_
          refine lv_ishr gx gb dX5_length_22 ?_
          refine lv_evi (nI ((bP S a_ * 64 + evN q (bE S a_)) / 2 ^ 6)) (e_shr (by omega) (by omega)) ?_
          refine lv_evi (nI (bP S a_)) (congrArg nI (by omega)) ?_
          refine lv_istore_n (lv' := [(3, .int (nI (bP S a_))), (2, .int (nI m)), (0, .ref rt), (1, .int (nI k))]) gx gb dX5_length_23 rfl hl (by decide) rfl (fun ls hl => ?_)
          refine lv_iinc (v := nI (m + 1)) (lv' := [(2, .int (nI (m + 1))), (3, .int (nI (bP S a_))), (0, .ref rt), (1, .int (nI k))]) gx gb dX5_length_24 hl (k := 1) rfl (nI_add m 1) (by decide) rfl (fun ls hl => ?_)
          refine lv_goto (tgt := 4) gx gb dX5_length_27 (by decide) ?_
          exact ih4 (bP S a_) (m + 1) (by omega) (by omega) (by omega) ls (lv_sub hl [0, 1, 2, 3] rfl)
  exact L4 _ k 0 (by omega) (by rfl) (Nat.lt_succ_self _) ls (lv_sub hl [1, 0, 2, 3] rfl)

set_option maxHeartbeats 4000000 in
set_option maxRecDepth 100000 in
theorem kX5_event (Gl : Launch) (D : va_G) (cI cJ cZ : ClassId) (rt : Nat) (r0 : Nat) (r1 : Nat) (r4 : Nat) (r5 : Nat) (tn : Nat) (ts : Nat) (tq : Nat) (rws : Nat → Nat) (lks : Nat → Nat) (mks : Nat → Nat) (qu : Nat → Nat) (S : BS) (q k m : Nat) (hq1 : 1 ≤ q) (hq : q ≤ 7) (hS : bOK q S) (hR : simR q S tn rws lks) (hk : k < bN S) (hm : m < bD S k) : Met Gl yX5_event wsX5_event ({ frames := 1, cells := 0, slots := 0, locals := 21 } : Room) (va_Pc [.ref rt, .int (nI k), .int (nI m)] (fun U => va_P D vwCl (wT rt r0 r1 r4 r5 cI cJ tn ts tq rws lks mks qu) U.heap ∧ va_K D vwCl [(cI, .int), (cJ, .long), (cZ, .boolean)] U)) (vp_Si (fun r : Int32 => r = nI (evN q (bE S (bAnc (bP S) k m))))) 0 0 (fun _ => False) := by
  refine Met.ofW (cc := cX5_event) (maxL := 5) (ret := (some .int)) (by decide +kernel) rfl ?_
  intro Gp Ge Gs Gm Ga Gw Gt Gc G1 Bd gml gv
  obtain ⟨rfl, hP, hK⟩ := gv
  have gx := Bd.exec
  have gb := Bd.bytes
  have gr := Bd.returns
  have gts := atoms_spec (ws := wsX5_event) Bd.pre
  have gown : Gs.vm.findClass RX5 = some Gm.cls := findClass_of_methodNamed Bd.named
  have glk := Bd.notSynchronized
  have hl := lv_entry ([.ref rt, .int (nI k), .int (nI m)]) (n := 5) (Nat.le_of_ble_eq_true rfl)
  rw [lg_entry_eq]
  generalize (lg_sl ([.ref rt, .int (nI k), .int (nI m)]) ++ List.replicate (5 - (lg_sl ([.ref rt, .int (nI k), .int (nI m)])).length) Slot.unset).toArray = ls at hl ⊢
  have hl : lv_has ls 5 [(0, .ref rt), (1, .int (nI k)), (2, .int (nI m))] := hl
  have hbn := bOK_n7 hq hS
  have hdk := bD_le hS k hk
  refine lv_iload_n gx gb dX5_event_0 rfl (lv_at hl 1 rfl) ?_
  refine lv_istore_n (lv' := [(3, .int (nI k)), (0, .ref rt), (1, .int (nI k)), (2, .int (nI m))]) gx gb dX5_event_1 rfl hl (by decide) rfl (fun ls hl => ?_)
  refine lv_iconst (v := nI 0) gx gb dX5_event_2 (by decide) ?_
  refine lv_istore (lv' := [(4, .int (nI 0)), (3, .int (nI k)), (0, .ref rt), (1, .int (nI k)), (2, .int (nI m))]) gx gb dX5_event_3 hl (by decide) rfl (fun ls hl => ?_)
  have L5 : ∀ fu : Nat, ∀ (i : Nat) (hi : i ≤ m), (m - i) < fu → ∀ ls : Array Slot, lv_has ls 5 [(3, .int (nI (bAnc (bP S) k i))), (4, .int (nI i)), (0, .ref rt), (1, .int (nI k)), (2, .int (nI m))] → W Gp Gl Ge (headSpec wsX5_event ({ frames := 1, cells := 0, slots := 0, locals := 21 } : Room)).room Gs Gm ([.ref rt, .int (nI k), .int (nI m)] : List Value).toArray Gw Gt Gc Gs.heap [] 0 0 (MQ Gw (vp_Si (fun r : Int32 => r = nI (evN q (bE S (bAnc (bP S) k m))))) ([.ref rt, .int (nI k), .int (nI m)] : List Value).toArray Gs 0 0 (fun _ => False)) (F0 Gm 5 ls []) := by
    intro fu
    induction fu with
    | zero => intro i hi hfu; exact absurd hfu (Nat.not_lt_zero _)
    | succ fu ih5 =>
      intro i hi hfu ls hl
      have hac := bAnc_D hS hk i (by omega)
      have hpos : 0 < bAnc (bP S) k i := (bD_0 hS hac.1).mpr (by omega)
      have h6 := hS.2.2.2.2.2 _ hpos hac.1
      have hlk := (hR.2 _ hac.1).2
      have he4 := evN_lt hq h6.2.1
      refine lv_iload gx gb dX5_event_5 (lv_at hl 1 rfl) ?_
      refine lv_iload_n gx gb dX5_event_7 rfl (lv_at hl 4 rfl) ?_
      refine lv_icmp_ge (tgt := 26) gx gb dX5_event_8 (by decide) (fun c8 => ?_) (fun c8 => ?_)
      · skip
        rw [nI_leI (by omega) (by omega)] at c8
        refine lv_aload_n gx gb dX5_event_26 rfl (lv_at hl 2 rfl) ?_
        refine lv_iload_n gx gb dX5_event_27 rfl (lv_at hl 0 rfl) ?_
        have hPc := hP.sub (ws' := wT rt r0 r1 r4 r5 cI cJ tn ts tq rws lks mks qu) [0, 1, 2, 3, 4] rfl
        refine vp_callSi (W.runV (As := [.int (nI (bAnc (bP S) k i))]) (rest := []) ⟨gx, gb, gml, gown, gts⟩ (kX5_linkAt Gl D cI cJ cZ rt r0 r1 r4 r5 tn ts tq rws lks mks qu (bAnc (bP S) k i) (by omega)) (cwV 1 gts gX5_event_X5_linkAt rfl rfl rfl (by decide +kernel) ⟨Nat.le_of_ble_eq_true rfl, Nat.le_of_ble_eq_true rfl⟩) ⟨fun a U g mk q => ⟨q.1, q.2.1, va_K.moved (u := U) (U := U.calling g mk a) (Vm.Alike.refl U.vm) q.2.2⟩, va_recv hK hPc (ci := 2) (q0 := 0) rfl rfl, fun U hU hW => ⟨rfl, by rw [hU]; exact hPc, va_K.moved hW.alike hK⟩⟩ rfl rfl hl.1 rfl (lv_room (Nat.le_of_ble_eq_true rfl)) dX5_event_28 ⟨Nat.le_of_ble_eq_true rfl, Nat.le_of_ble_eq_true rfl⟩) (fun r hw => ?_)
        have hr28 := hw
        subst hr28
        refine lv_evi (nI (bP S (bAnc (bP S) k i) * 64 + evN q (bE S (bAnc (bP S) k i)))) (congrArg nI hlk) ?_
        refine lv_bipush (v := nI 63) gx gb dX5_event_31 (by decide) ?_
        refine lv_iand gx gb dX5_event_33 ?_
        refine lv_evi (nI ((bP S (bAnc (bP S) k i) * 64 + evN q (bE S (bAnc (bP S) k i))) % 2 ^ 6)) (e_mask (bP S (bAnc (bP S) k i) * 64 + evN q (bE S (bAnc (bP S) k i))) 6 rfl) ?_
        refine lv_evi (nI (evN q (bE S (bAnc (bP S) k i)))) (congrArg nI (by omega)) ?_
        exact W.iret (v := nI (evN q (bE S (bAnc (bP S) k i)))) gx gb gr (fun t ht hW => ⟨nI (evN q (bE S (bAnc (bP S) k i))), rfl, (by first | (dsimp only; done) | ((try dsimp only); rw [show i = m by omega])), ht⟩) (fun q h => by cases h) dX5_event_34
      · skip
        rw [nI_leI (by omega) (by omega)] at c8
        refine lv_aload_n gx gb dX5_event_11 rfl (lv_at hl 2 rfl) ?_
        refine lv_iload_n gx gb dX5_event_12 rfl (lv_at hl 0 rfl) ?_
        have hPc := hP.sub (ws' := wT rt r0 r1 r4 r5 cI cJ tn ts tq rws lks mks qu) [0, 1, 2, 3, 4] rfl
        refine vp_callSi (W.runV (As := [.int (nI (bAnc (bP S) k i))]) (rest := []) ⟨gx, gb, gml, gown, gts⟩ (kX5_linkAt Gl D cI cJ cZ rt r0 r1 r4 r5 tn ts tq rws lks mks qu (bAnc (bP S) k i) (by omega)) (cwV 1 gts gX5_event_X5_linkAt rfl rfl rfl (by decide +kernel) ⟨Nat.le_of_ble_eq_true rfl, Nat.le_of_ble_eq_true rfl⟩) ⟨fun a U g mk q => ⟨q.1, q.2.1, va_K.moved (u := U) (U := U.calling g mk a) (Vm.Alike.refl U.vm) q.2.2⟩, va_recv hK hPc (ci := 2) (q0 := 0) rfl rfl, fun U hU hW => ⟨rfl, by rw [hU]; exact hPc, va_K.moved hW.alike hK⟩⟩ rfl rfl hl.1 rfl (lv_room (Nat.le_of_ble_eq_true rfl)) dX5_event_13 ⟨Nat.le_of_ble_eq_true rfl, Nat.le_of_ble_eq_true rfl⟩) (fun r hw => ?_)
        have hr13 := hw
        subst hr13
        refine lv_evi (nI (bP S (bAnc (bP S) k i) * 64 + evN q (bE S (bAnc (bP S) k i)))) (congrArg nI hlk) ?_
        refine lv_bipush (v := nI 6) gx gb dX5_event_16 (by decide) ?_
        refine lv_ishr gx gb dX5_event_18 ?_
        refine lv_evi (nI ((bP S (bAnc (bP S) k i) * 64 + evN q (bE S (bAnc (bP S) k i))) / 2 ^ 6)) (e_shr (by omega) (by omega)) ?_
        refine lv_evi (nI (bAnc (bP S) k (i + 1))) (congrArg nI (show (bP S (bAnc (bP S) k i) * 64 + evN q (bE S (bAnc (bP S) k i))) / 2 ^ 6 = bP S (bAnc (bP S) k i) by omega)) ?_
        refine lv_istore_n (lv' := [(3, .int (nI (bAnc (bP S) k (i + 1)))), (4, .int (nI i)), (0, .ref rt), (1, .int (nI k)), (2, .int (nI m))]) gx gb dX5_event_19 rfl hl (by decide) rfl (fun ls hl => ?_)
        refine lv_iinc (v := nI (i + 1)) (lv' := [(4, .int (nI (i + 1))), (3, .int (nI (bAnc (bP S) k (i + 1)))), (0, .ref rt), (1, .int (nI k)), (2, .int (nI m))]) gx gb dX5_event_20 hl (k := 1) rfl (nI_add i 1) (by decide) rfl (fun ls hl => ?_)
        refine lv_goto (tgt := 5) gx gb dX5_event_23 (by decide) ?_
        exact ih5 (i + 1) (by omega) (by omega) ls (lv_sub hl [1, 0, 2, 3, 4] rfl)
  exact L5 _ 0 (by omega) (Nat.lt_succ_self _) ls (lv_sub hl [1, 0, 2, 3, 4] rfl)

set_option maxHeartbeats 4000000 in
set_option maxRecDepth 100000 in
theorem kX5_enqueue (Gl : Launch) (D : va_G) (cI cJ cZ : ClassId) (rt : Nat) (r0 : Nat) (r1 : Nat) (r4 : Nat) (r5 : Nat) (tn : Nat) (ts : Nat) (tq : Nat) (rws : Nat → Nat) (lks : Nat → Nat) (mks : Nat → Nat) (qu : Nat → Nat) (sz : Nat) (R s d : Nat) (hQ : tq < 20160) (hR : R < 2097152) (hs : s < 8) (hd : d < 128) : Met Gl yX5_enqueue wsX5_enqueue ({ frames := 0, cells := 0, slots := 0, locals := 0 } : Room) (va_Pc [.ref rt, .int (nI R), .int (nI s), .int (nI d)] (fun U => U.heap.size = sz ∧ va_P D vwCl (wT rt r0 r1 r4 r5 cI cJ tn ts tq rws lks mks qu) U.heap ∧ va_K D vwCl [(cI, .int), (cJ, .long), (cZ, .boolean)] U ∧ va_D (fun _ => True) (wT rt r0 r1 r4 r5 cI cJ tn ts tq rws lks mks qu))) (va_Qv (fun u : Unit => True) (fun (u : Unit) t => va_P D vwCl (wT rt r0 r1 r4 r5 cI cJ tn ts (tq + 1) rws lks mks (up qu tq ((d * 8 + s) * 2097152 + R))) t.heap ∧ va_K D vwCl [(cI, .int), (cJ, .long), (cZ, .boolean)] t ∧ va_D (va_A (wT rt r0 r1 r4 r5 cI cJ tn ts tq rws lks mks qu) sz) (wT rt r0 r1 r4 r5 cI cJ tn ts (tq + 1) rws lks mks (up qu tq ((d * 8 + s) * 2097152 + R)))) (va_A (wT rt r0 r1 r4 r5 cI cJ tn ts tq rws lks mks qu) sz)) 0 0 (va_A (wT rt r0 r1 r4 r5 cI cJ tn ts tq rws lks mks qu) sz) := by
  refine Met.ofW (cc := cX5_enqueue) (maxL := 4) (ret := none) (by decide +kernel) rfl ?_
  intro Gp Ge Gs Gm Ga Gw Gt Gc G1 Bd gml gv
  obtain ⟨rfl, hsz, hP, hK, hD0⟩ := gv
  have gx := Bd.exec
  have gb := Bd.bytes
  have gr := Bd.returns
  have gts := atoms_spec (ws := wsX5_enqueue) Bd.pre
  have gown : Gs.vm.findClass RX5 = some Gm.cls := findClass_of_methodNamed Bd.named
  have glk := Bd.notSynchronized
  subst hsz
  have hD := hD0.self (sz := Gs.heap.size)
  generalize hAe : va_A (wT rt r0 r1 r4 r5 cI cJ tn ts tq rws lks mks qu) Gs.heap.size = A at hD ⊢
  have hA : ∀ q : Nat, Gs.heap.size ≤ q → A q := fun q h => by rw [← hAe]; exact Or.inr h
  have hS : va_S A Gs.heap Gs.heap [] := va_S.rf
  have hP : va_P D vwCl (wT rt r0 r1 r4 r5 cI cJ tn ts tq rws lks mks qu) Gs.heap := hP
  have hl := lv_entry ([.ref rt, .int (nI R), .int (nI s), .int (nI d)]) (n := 4) (Nat.le_of_ble_eq_true rfl)
  rw [lg_entry_eq]
  generalize (lg_sl ([.ref rt, .int (nI R), .int (nI s), .int (nI d)]) ++ List.replicate (4 - (lg_sl ([.ref rt, .int (nI R), .int (nI s), .int (nI d)])).length) Slot.unset).toArray = ls at hl ⊢
  have hl : lv_has ls 4 [(0, .ref rt), (1, .int (nI R)), (2, .int (nI s)), (3, .int (nI d))] := hl
  have i5 : ∀ w ∈ wsX50, w ∈ wsX5_enqueue := by decide +kernel
  refine lv_aload_n gx gb dX5_enqueue_0 rfl (lv_at hl 0 rfl) ?_
  refine va_get (D := D) (ci := 2) (v := .int (nI tq)) (C := RX5) (T := TX5) (N := 7) gx gb gts i5 gown hK hP 0 rfl rfl 6 (by decide) (gts (.fieldLink RX5 32 "SwanSums$Routes" "queued" "I") (by decide +kernel)) (fun _ h9 => h9) rfl dX5_enqueue_1 ?_
  refine lv_if_lt (tgt := 48) gx gb dX5_enqueue_4 (by decide) (fun c4 => ?_) (fun c4 => ?_)
  · skip
    rw [n0_lt (by omega)] at c4
    exfalso; omega
  · skip
    rw [n0_lt (by omega)] at c4
    refine lv_aload_n gx gb dX5_enqueue_7 rfl (lv_at hl 0 rfl) ?_
    refine va_get (D := D) (ci := 2) (v := .int (nI tq)) (C := RX5) (T := TX5) (N := 7) gx gb gts i5 gown hK hP 0 rfl rfl 6 (by decide) (gts (.fieldLink RX5 32 "SwanSums$Routes" "queued" "I") (by decide +kernel)) (fun _ h9 => h9) rfl dX5_enqueue_8 ?_
    refine lv_aload_n gx gb dX5_enqueue_11 rfl (lv_at hl 0 rfl) ?_
    refine va_get (D := D) (ci := 2) (v := .ref r5) (C := RX5) (T := TX5) (N := 7) gx gb gts i5 gown hK hP 0 rfl rfl 5 (by decide) (gts (.fieldLink RX5 29 "SwanSums$Routes" "queue" "[I") (by decide +kernel)) (fun _ h9 => h9) rfl dX5_enqueue_12 ?_
    refine va_alen (v := nI 20160) gx gb hK hP 4 0 rfl rfl rfl dX5_enqueue_15 ?_
    refine lv_icmp_ge (tgt := 48) gx gb dX5_enqueue_16 (by decide) (fun c16 => ?_) (fun c16 => ?_)
    · skip
      rw [nI_leI (by omega) (by omega)] at c16
      exfalso; omega
    · skip
      rw [nI_leI (by omega) (by omega)] at c16
      refine lv_aload_n gx gb dX5_enqueue_19 rfl (lv_at hl 0 rfl) ?_
      refine va_get (D := D) (ci := 2) (v := .ref r5) (C := RX5) (T := TX5) (N := 7) gx gb gts i5 gown hK hP 0 rfl rfl 5 (by decide) (gts (.fieldLink RX5 29 "SwanSums$Routes" "queue" "[I") (by decide +kernel)) (fun _ h9 => h9) rfl dX5_enqueue_20 ?_
      refine lv_aload_n gx gb dX5_enqueue_23 rfl (lv_at hl 0 rfl) ?_
      refine va_get (D := D) (ci := 2) (v := .int (nI tq)) (C := RX5) (T := TX5) (N := 7) gx gb gts i5 gown hK hP 0 rfl rfl 6 (by decide) (gts (.fieldLink RX5 32 "SwanSums$Routes" "queued" "I") (by decide +kernel)) (fun _ h9 => h9) rfl dX5_enqueue_24 ?_
      refine lv_iload_n gx gb dX5_enqueue_27 rfl (lv_at hl 3 rfl) ?_
      refine lv_iconst (v := nI 3) gx gb dX5_enqueue_28 (by decide) ?_
      refine lv_ishl gx gb dX5_enqueue_29 ?_
      refine lv_evi (nI (d * 2 ^ 3)) (e_shl _ (by omega)) ?_
      refine lv_iload_n gx gb dX5_enqueue_30 rfl (lv_at hl 2 rfl) ?_
      refine lv_ior gx gb dX5_enqueue_31 ?_
      refine lv_evi (nI ((d * 2 ^ 3) ||| s)) (e_or (d * 2 ^ 3) s) ?_
      refine lv_evi (nI (d * 8 + s)) (congrArg nI (or_8 hs)) ?_
      refine lv_bipush (v := nI 21) gx gb dX5_enqueue_32 (by decide) ?_
      refine lv_ishl gx gb dX5_enqueue_34 ?_
      refine lv_evi (nI ((d * 8 + s) * 2 ^ 21)) (e_shl _ (by omega)) ?_
      refine lv_iload_n gx gb dX5_enqueue_35 rfl (lv_at hl 1 rfl) ?_
      refine lv_ior gx gb dX5_enqueue_36 ?_
      refine lv_evi (nI (((d * 8 + s) * 2 ^ 21) ||| R)) (e_or ((d * 8 + s) * 2 ^ 21) R) ?_
      refine lv_evi (nI ((d * 8 + s) * 2097152 + R)) (congrArg nI (or_21 hR)) ?_
      refine va_iast gx gb hK hP hD hS 4 0 rfl rfl (vp_in_nI (n := tq) (by omega) (by decide)) dX5_enqueue_37 (fun H locs hP hD hS => ?_)
      rw [aN_st qu ((d * 8 + s) * 2097152 + R) (by omega)] at hP hD
      have hP : va_P D vwCl (wT rt r0 r1 r4 r5 cI cJ tn ts tq rws lks mks (up qu tq ((d * 8 + s) * 2097152 + R))) H := hP
      have hD : va_D A (wT rt r0 r1 r4 r5 cI cJ tn ts tq rws lks mks (up qu tq ((d * 8 + s) * 2097152 + R))) := hD
      refine lv_aload_n gx gb dX5_enqueue_38 rfl (lv_at hl 0 rfl) ?_
      refine lv_dup gx gb dX5_enqueue_39 rfl ?_
      refine va_get (D := D) (ci := 2) (v := .int (nI tq)) (C := RX5) (T := TX5) (N := 7) gx gb gts i5 gown hK hP 0 rfl rfl 6 (by decide) (gts (.fieldLink RX5 32 "SwanSums$Routes" "queued" "I") (by decide +kernel)) (fun _ h9 => h9) rfl dX5_enqueue_40 ?_
      refine lv_iconst (v := nI 1) gx gb dX5_enqueue_43 (by decide) ?_
      refine lv_iadd gx gb dX5_enqueue_44 ?_
      refine lv_evi (nI (tq + 1)) (nI_add tq 1) ?_
      refine va_put (D := D) (ci := 2) (v := .int (nI (tq + 1))) (ty := .int) (C := RX5) (T := TX5) (N := 7) gx gb gts i5 tyX5 tyX5_ok nmX5 gown hK hP hD hS 0 rfl rfl 6 (by decide) (gts (.fieldLink RX5 32 "SwanSums$Routes" "queued" "I") (by decide +kernel)) (fun _ h9 => h9) rfl (by decide +kernel) rfl rfl (Nat.le_of_ble_eq_true rfl) dX5_enqueue_45 (fun H locs hP hD hS => ?_)
      have hP : va_P D vwCl (wT rt r0 r1 r4 r5 cI cJ tn ts (tq + 1) rws lks mks (up qu tq ((d * 8 + s) * 2097152 + R))) H := hP
      have hD : va_D A (wT rt r0 r1 r4 r5 cI cJ tn ts (tq + 1) rws lks mks (up qu tq ((d * 8 + s) * 2097152 + R))) := hD
      exact W.vret gx gb gr (fun t ht hW => ⟨⟨(), rfl, (by first | (dsimp only; done) | ((try dsimp only); trivial)), by rw [ht]; exact hP, va_K.moved hW.alike hK, hD⟩, hS.F ht⟩) hS.2.2 dX5_enqueue_48

set_option maxHeartbeats 4000000 in
set_option maxRecDepth 100000 in
theorem kX5_stageAt (Gl : Launch) (D : va_G) (cI cJ cZ : ClassId) (rt : Nat) (r0 : Nat) (r1 : Nat) (r4 : Nat) (r5 : Nat) (tn : Nat) (tq : Nat) (rws : Nat → Nat) (lks : Nat → Nat) (mks : Nat → Nat) (qu : Nat → Nat) (num plc : Nat → Nat) (q C s0 a m : Nat) (hq1 : 1 ≤ q) (hq : q ≤ 7) (hC : arr q C) (hs : s0 ≤ m) (hm : m ≤ 4) (ha : a < 2147483648) (ha7 : ∀ k, k < m → dg 10 a k ≤ 6) (hnv : ∀ x, x < q → num (plc x) ≤ 99) : Met Gl yX5_stageAt wsX5_stageAt ({ frames := 3, cells := 0, slots := 0, locals := 88 } : Room) (va_Pc [.ref rt, .int (nI C), .int (nI s0), .int (nI a), .int (nI m), .long (lN (pk 256 (fun x_ => num (plc x_)) q))] (fun U => va_P D vwCl (wT rt r0 r1 r4 r5 cI cJ tn q tq rws lks mks qu) U.heap ∧ va_K D vwCl [(cI, .int), (cJ, .long), (cZ, .boolean)] U)) (vp_Si (fun r : Int32 => ∃ x_ : Nat, r = nI x_ ∧ s0 ≤ x_ ∧ x_ ≤ m ∧ (∀ j_, s0 ≤ j_ → j_ < x_ → tkW num plc q a m j_ C = true) ∧ (x_ < m → tkW num plc q a m x_ C = false))) 0 0 (fun _ => False) := by
  refine Met.ofW (cc := cX5_stageAt) (maxL := 10) (ret := (some .int)) (by decide +kernel) rfl ?_
  intro Gp Ge Gs Gm Ga Gw Gt Gc G1 Bd gml gv
  obtain ⟨rfl, hP, hK⟩ := gv
  have gx := Bd.exec
  have gb := Bd.bytes
  have gr := Bd.returns
  have gts := atoms_spec (ws := wsX5_stageAt) Bd.pre
  have gown : Gs.vm.findClass RX5 = some Gm.cls := findClass_of_methodNamed Bd.named
  have glk := Bd.notSynchronized
  have hl := lv_entry ([.ref rt, .int (nI C), .int (nI s0), .int (nI a), .int (nI m), .long (lN (pk 256 (fun x_ => num (plc x_)) q))]) (n := 10) (Nat.le_of_ble_eq_true rfl)
  rw [lg_entry_eq]
  generalize (lg_sl ([.ref rt, .int (nI C), .int (nI s0), .int (nI a), .int (nI m), .long (lN (pk 256 (fun x_ => num (plc x_)) q))]) ++ List.replicate (10 - (lg_sl ([.ref rt, .int (nI C), .int (nI s0), .int (nI a), .int (nI m), .long (lN (pk 256 (fun x_ => num (plc x_)) q))])).length) Slot.unset).toArray = ls at hl ⊢
  have hl : lv_has ls 10 [(0, .ref rt), (1, .int (nI C)), (2, .int (nI s0)), (3, .int (nI a)), (4, .int (nI m)), (5, .long (lN (pk 256 (fun x_ => num (plc x_)) q)))] := hl
  have i5 : ∀ w ∈ wsX50, w ∈ wsX5_stageAt := by decide +kernel
  have h21 := arr_21 hq hC
  have hv256 : ∀ x, x < q → num (plc x) < 256 := fun x hx => by have := hnv x hx; omega
  have hl63 := pk256_lt (f := fun x_ => num (plc x_)) (z := q) hv256 (by omega)
  have hw99 : ∀ x, x < q → num (rwF plc C x) < 256 := fun x hx => hv256 _ (arr_lt hC hq x hx)
  have hl263 := pk256_lt (f := fun x_ => num (rwF plc C x_)) (z := q) hw99 (by omega)
  refine lv_lload gx gb dX5_stageAt_0 (lv_at hl 5 rfl) ?_
  refine lv_iload_n gx gb dX5_stageAt_2 rfl (lv_at hl 1 rfl) ?_
  refine lv_aload_n gx gb dX5_stageAt_3 rfl (lv_at hl 0 rfl) ?_
  refine va_get (D := D) (ci := 2) (v := .int (nI q)) (C := RX5) (T := TX5) (N := 7) gx gb gts i5 gown hK hP 0 rfl rfl 3 (by decide) (gts (.fieldLink RX5 22 "SwanSums$Routes" "size" "I") (by decide +kernel)) (fun _ h9 => h9) rfl dX5_stageAt_4 ?_
  refine vp_callSl (W.runS (As := [.long (lN (pk 256 (fun x_ => num (plc x_)) q)), .int (nI C), .int (nI q)]) (rest := []) ⟨gx, gb, gml, gown, gts⟩ (kX3_inOrder Gl (pk 256 (fun x_ => num (plc x_)) q) C q (by omega) (by omega) (by omega)) (va_cwS 3 gts gX5_stageAt_X3_inOrder rfl rfl rfl (by decide +kernel) ⟨Nat.le_of_ble_eq_true rfl, Nat.le_of_ble_eq_true rfl⟩) ⟨fun _ _ _ _ h => h, fun U hU hW => ⟨rfl, trivial⟩⟩ rfl rfl hl.1 rfl (lv_room (Nat.le_of_ble_eq_true rfl)) dX5_stageAt_7 ⟨Nat.le_of_ble_eq_true rfl, Nat.le_of_ble_eq_true rfl⟩) (fun r hw => ?_)
  have hr7 := hw
  subst hr7
  refine lv_evl (lN (pk 256 (fun x_ => num (rwF plc C x_)) q)) (congrArg lN (pk_cong fun x hx => dg_pk hv256 (arr_lt hC hq x hx))) ?_
  refine lv_lstore (lv' := [(7, .long (lN (pk 256 (fun x_ => num (rwF plc C x_)) q))), (0, .ref rt), (1, .int (nI C)), (2, .int (nI s0)), (3, .int (nI a)), (4, .int (nI m)), (5, .long (lN (pk 256 (fun x_ => num (plc x_)) q)))]) gx gb dX5_stageAt_10 hl (by decide) rfl (fun ls hl => ?_)
  refine lv_iload_n gx gb dX5_stageAt_12 rfl (lv_at hl 3 rfl) ?_
  refine lv_istore (lv' := [(9, .int (nI s0)), (7, .long (lN (pk 256 (fun x_ => num (rwF plc C x_)) q))), (0, .ref rt), (1, .int (nI C)), (2, .int (nI s0)), (3, .int (nI a)), (4, .int (nI m)), (5, .long (lN (pk 256 (fun x_ => num (plc x_)) q)))]) gx gb dX5_stageAt_13 hl (by decide) rfl (fun ls hl => ?_)
  have L15 : ∀ fu : Nat, ∀ (i : Nat) (hi0 : s0 ≤ i) (hi : i ≤ m) (h0 : ∀ j, s0 ≤ j → j < i → tkW num plc q a m j C = true), (m - i) < fu → ∀ ls : Array Slot, lv_has ls 10 [(9, .int (nI i)), (7, .long (lN (pk 256 (fun x_ => num (rwF plc C x_)) q))), (0, .ref rt), (1, .int (nI C)), (2, .int (nI s0)), (3, .int (nI a)), (4, .int (nI m)), (5, .long (lN (pk 256 (fun x_ => num (plc x_)) q)))] → W Gp Gl Ge (headSpec wsX5_stageAt ({ frames := 3, cells := 0, slots := 0, locals := 88 } : Room)).room Gs Gm ([.ref rt, .int (nI C), .int (nI s0), .int (nI a), .int (nI m), .long (lN (pk 256 (fun x_ => num (plc x_)) q))] : List Value).toArray Gw Gt Gc Gs.heap [] 0 0 (MQ Gw (vp_Si (fun r : Int32 => ∃ x_ : Nat, r = nI x_ ∧ s0 ≤ x_ ∧ x_ ≤ m ∧ (∀ j_, s0 ≤ j_ → j_ < x_ → tkW num plc q a m j_ C = true) ∧ (x_ < m → tkW num plc q a m x_ C = false))) ([.ref rt, .int (nI C), .int (nI s0), .int (nI a), .int (nI m), .long (lN (pk 256 (fun x_ => num (plc x_)) q))] : List Value).toArray Gs 0 0 (fun _ => False)) (F0 Gm 15 ls []) := by
    intro fu
    induction fu with
    | zero => intro i hi0 hi h0 hfu; exact absurd hfu (Nat.not_lt_zero _)
    | succ fu ih15 =>
      intro i hi0 hi h0 hfu ls hl
      refine lv_iload gx gb dX5_stageAt_15 (lv_at hl 0 rfl) ?_
      refine lv_iload gx gb dX5_stageAt_17 (lv_at hl 6 rfl) ?_
      refine lv_icmp_ge (tgt := 53) gx gb dX5_stageAt_19 (by decide) (fun c19 => ?_) (fun c19 => ?_)
      · skip
        rw [nI_leI (by omega) (by omega)] at c19
        refine lv_iload gx gb dX5_stageAt_53 (lv_at hl 0 rfl) ?_
        exact W.iret (v := nI i) gx gb gr (fun t ht hW => ⟨nI i, rfl, (by first | (dsimp only; done) | ((try dsimp only); first | exact ⟨i, rfl, hi0, hi, h0, fun h9 => c44⟩ | exact ⟨i, rfl, hi0, hi, h0, fun h9 => by omega⟩)), ht⟩) (fun q h => by cases h) dX5_stageAt_55
      · skip
        rw [nI_leI (by omega) (by omega)] at c19
        have hd6 := ha7 (m - 1 - i) (by omega)
        refine lv_iload_n gx gb dX5_stageAt_22 rfl (lv_at hl 5 rfl) ?_
        refine lv_bipush (v := nI 10) gx gb dX5_stageAt_23 (by decide) ?_
        refine lv_iload gx gb dX5_stageAt_25 (lv_at hl 6 rfl) ?_
        refine lv_iconst (v := nI 1) gx gb dX5_stageAt_27 (by decide) ?_
        refine lv_isub gx gb dX5_stageAt_28 ?_
        refine lv_evi (nI (m - 1)) (e_sub (by omega)) ?_
        refine lv_iload gx gb dX5_stageAt_29 (lv_at hl 0 rfl) ?_
        refine lv_isub gx gb dX5_stageAt_31 ?_
        refine lv_evi (nI ((m - 1) - i)) (e_sub (by omega)) ?_
        refine vp_callSi (W.runS (As := [.int (nI a), .int (nI 10), .int (nI ((m - 1) - i))]) (rest := []) ⟨gx, gb, gml, gown, gts⟩ (kX0_digit Gl a 10 ((m - 1) - i) (by omega) (by omega) (by omega) (by omega)) (va_cwS 3 gts gX5_stageAt_X0_digit rfl rfl rfl (by decide +kernel) ⟨Nat.le_of_ble_eq_true rfl, Nat.le_of_ble_eq_true rfl⟩) ⟨fun _ _ _ _ h => h, fun U hU hW => ⟨rfl, trivial⟩⟩ rfl rfl hl.1 rfl (lv_room (Nat.le_of_ble_eq_true rfl)) dX5_stageAt_32 ⟨Nat.le_of_ble_eq_true rfl, Nat.le_of_ble_eq_true rfl⟩) (fun r hw => ?_)
        have hr32 := hw
        subst hr32
        refine lv_lload gx gb dX5_stageAt_35 (lv_at hl 1 rfl) ?_
        refine lv_aload_n gx gb dX5_stageAt_37 rfl (lv_at hl 2 rfl) ?_
        refine va_get (D := D) (ci := 2) (v := .int (nI q)) (C := RX5) (T := TX5) (N := 7) gx gb gts i5 gown hK hP 0 rfl rfl 3 (by decide) (gts (.fieldLink RX5 22 "SwanSums$Routes" "size" "I") (by decide +kernel)) (fun _ h9 => h9) rfl dX5_stageAt_38 ?_
        refine vp_callSi (W.runS (As := [.int (nI (dg 10 a ((m - 1) - i))), .long (lN (pk 256 (fun x_ => num (rwF plc C x_)) q)), .int (nI q)]) (rest := []) ⟨gx, gb, gml, gown, gts⟩ (kX2_teach Gl (dg 10 a ((m - 1) - i)) (pk 256 (fun x_ => num (rwF plc C x_)) q) q (by omega) (by omega) (by omega) (by omega) (by exact pk99 (fun x hx => hnv _ (arr_lt hC hq x hx)))) (va_cwS 3 gts gX5_stageAt_X2_teach rfl rfl rfl (by decide +kernel) ⟨Nat.le_of_ble_eq_true rfl, Nat.le_of_ble_eq_true rfl⟩) ⟨fun _ _ _ _ h => h, fun U hU hW => ⟨rfl, trivial⟩⟩ rfl rfl hl.1 rfl (lv_room (Nat.le_of_ble_eq_true rfl)) dX5_stageAt_41 ⟨Nat.le_of_ble_eq_true rfl, Nat.le_of_ble_eq_true rfl⟩) (fun r hw => ?_)
        have hr41 := hw
        subst hr41
        refine lv_evi (bI (tkW num plc q a m i C)) (congrArg bI (tau_cong hq1 (fun x hx => dg_pk hw99 hx))) ?_
        refine lv_if_eq (tgt := 53) gx gb dX5_stageAt_44 (by decide) (fun c44 => ?_) (fun c44 => ?_)
        · skip
          rw [b0_eq] at c44
          refine lv_iload gx gb dX5_stageAt_53 (lv_at hl 0 rfl) ?_
          exact W.iret (v := nI i) gx gb gr (fun t ht hW => ⟨nI i, rfl, (by first | (dsimp only; done) | ((try dsimp only); first | exact ⟨i, rfl, hi0, hi, h0, fun h9 => c44⟩ | exact ⟨i, rfl, hi0, hi, h0, fun h9 => by omega⟩)), ht⟩) (fun q h => by cases h) dX5_stageAt_55
        · skip
          rw [b0_eq] at c44
          have c44 := nf_t c44
          refine lv_iinc (v := nI (i + 1)) (lv' := [(9, .int (nI (i + 1))), (7, .long (lN (pk 256 (fun x_ => num (rwF plc C x_)) q))), (0, .ref rt), (1, .int (nI C)), (2, .int (nI s0)), (3, .int (nI a)), (4, .int (nI m)), (5, .long (lN (pk 256 (fun x_ => num (plc x_)) q)))]) gx gb dX5_stageAt_47 hl (k := 0) rfl (nI_add i 1) (by decide) rfl (fun ls hl => ?_)
          refine lv_goto (tgt := 15) gx gb dX5_stageAt_50 (by decide) ?_
          exact ih15 (i + 1) (by omega) (by omega) (by intro j h8 h9; exact (Nat.lt_or_ge j i).elim (fun h => h0 j h8 h) (fun h => by obtain rfl : j = i := (by omega); exact c44)) (by omega) ls (lv_sub hl [0, 1, 2, 3, 4, 5, 6, 7] rfl)
  exact L15 _ s0 (by omega) (by omega) (by intro j h8 h9; omega) (Nat.lt_succ_self _) ls (lv_sub hl [0, 1, 2, 3, 4, 5, 6, 7] rfl)

set_option maxHeartbeats 4000000 in
set_option maxRecDepth 100000 in
theorem kX5_eachCanBe (Gl : Launch) (D : va_G) (cI cJ cZ : ClassId) (rt : Nat) (r0 : Nat) (r1 : Nat) (r4 : Nat) (r5 : Nat) (tn : Nat) (tq : Nat) (rws : Nat → Nat) (lks : Nat → Nat) (mks : Nat → Nat) (qu : Nat → Nat) (S : BS) (num plc : Nat → Nat) (q a m : Nat) (hq1 : 1 ≤ q) (hq : q ≤ 7) (hS : bOK q S) (hR : simR q S tn rws lks) (hm : m ≤ 4) (ha : a < 2147483648) (ha7 : ∀ k, k < m → dg 10 a k ≤ 6) (hnv : ∀ x, x < q → num (plc x) ≤ 99) : Met Gl yX5_eachCanBe wsX5_eachCanBe ({ frames := 4, cells := 0, slots := 0, locals := 112 } : Room) (va_Pc [.ref rt, .int (nI a), .int (nI m), .long (lN (pk 256 (fun x_ => num (plc x_)) q))] (fun U => va_P D vwCl (wT rt r0 r1 r4 r5 cI cJ tn q tq rws lks mks qu) U.heap ∧ va_K D vwCl [(cI, .int), (cJ, .long), (cZ, .boolean)] U)) (vp_Si (fun r : Int32 => ∃ b_ : Bool, r = bI b_ ∧ (b_ = true ↔ ∀ k_, k_ < m → fstT (fun i_ => tkC num plc (dg 10 a k_) q (bR S i_)) (bN S) ≠ none))) 0 0 (fun _ => False) := by
  refine Met.ofW (cc := cX5_eachCanBe) (maxL := 6) (ret := (some .boolean)) (by decide +kernel) rfl ?_
  intro Gp Ge Gs Gm Ga Gw Gt Gc G1 Bd gml gv
  obtain ⟨rfl, hP, hK⟩ := gv
  have gx := Bd.exec
  have gb := Bd.bytes
  have gr := Bd.returns
  have gts := atoms_spec (ws := wsX5_eachCanBe) Bd.pre
  have gown : Gs.vm.findClass RX5 = some Gm.cls := findClass_of_methodNamed Bd.named
  have glk := Bd.notSynchronized
  have hl := lv_entry ([.ref rt, .int (nI a), .int (nI m), .long (lN (pk 256 (fun x_ => num (plc x_)) q))]) (n := 6) (Nat.le_of_ble_eq_true rfl)
  rw [lg_entry_eq]
  generalize (lg_sl ([.ref rt, .int (nI a), .int (nI m), .long (lN (pk 256 (fun x_ => num (plc x_)) q))]) ++ List.replicate (6 - (lg_sl ([.ref rt, .int (nI a), .int (nI m), .long (lN (pk 256 (fun x_ => num (plc x_)) q))])).length) Slot.unset).toArray = ls at hl ⊢
  have hl : lv_has ls 6 [(0, .ref rt), (1, .int (nI a)), (2, .int (nI m)), (3, .long (lN (pk 256 (fun x_ => num (plc x_)) q)))] := hl
  refine lv_iconst (v := nI 0) gx gb dX5_eachCanBe_0 (by decide) ?_
  refine lv_istore (lv' := [(5, .int (nI 0)), (0, .ref rt), (1, .int (nI a)), (2, .int (nI m)), (3, .long (lN (pk 256 (fun x_ => num (plc x_)) q)))]) gx gb dX5_eachCanBe_1 hl (by decide) rfl (fun ls hl => ?_)
  have L3 : ∀ fu : Nat, ∀ (k : Nat) (hk : k ≤ m) (h0 : ∀ x, x < k → fstT (fun i_ => tkC num plc (dg 10 a x) q (bR S i_)) (bN S) ≠ none), (m - k) < fu → ∀ ls : Array Slot, lv_has ls 6 [(5, .int (nI k)), (0, .ref rt), (1, .int (nI a)), (2, .int (nI m)), (3, .long (lN (pk 256 (fun x_ => num (plc x_)) q)))] → W Gp Gl Ge (headSpec wsX5_eachCanBe ({ frames := 4, cells := 0, slots := 0, locals := 112 } : Room)).room Gs Gm ([.ref rt, .int (nI a), .int (nI m), .long (lN (pk 256 (fun x_ => num (plc x_)) q))] : List Value).toArray Gw Gt Gc Gs.heap [] 0 0 (MQ Gw (vp_Si (fun r : Int32 => ∃ b_ : Bool, r = bI b_ ∧ (b_ = true ↔ ∀ k_, k_ < m → fstT (fun i_ => tkC num plc (dg 10 a k_) q (bR S i_)) (bN S) ≠ none))) ([.ref rt, .int (nI a), .int (nI m), .long (lN (pk 256 (fun x_ => num (plc x_)) q))] : List Value).toArray Gs 0 0 (fun _ => False)) (F0 Gm 3 ls []) := by
    intro fu
    induction fu with
    | zero => intro k hk h0 hfu; exact absurd hfu (Nat.not_lt_zero _)
    | succ fu ih3 =>
      intro k hk h0 hfu ls hl
      refine lv_iload gx gb dX5_eachCanBe_3 (lv_at hl 0 rfl) ?_
      refine lv_iload_n gx gb dX5_eachCanBe_5 rfl (lv_at hl 3 rfl) ?_
      refine lv_icmp_ge (tgt := 33) gx gb dX5_eachCanBe_6 (by decide) (fun c6 => ?_) (fun c6 => ?_)
      · skip
        rw [nI_leI (by omega) (by omega)] at c6
        refine lv_iconst (v := nI 1) gx gb dX5_eachCanBe_33 (by decide) ?_
        exact W.zret (v := nI 1) gx gb gr (by decide) (fun t ht hW => ⟨nI 1, rfl, (by first | (dsimp only; done) | ((try dsimp only); exact ⟨true, rfl, ⟨fun _ x hx => h0 x (by omega), fun _ => rfl⟩⟩)), ht⟩) (fun q h => by cases h) dX5_eachCanBe_34
      · skip
        rw [nI_leI (by omega) (by omega)] at c6
        have hd6 := ha7 k (by omega)
        refine lv_aload_n gx gb dX5_eachCanBe_9 rfl (lv_at hl 1 rfl) ?_
        refine lv_iload_n gx gb dX5_eachCanBe_10 rfl (lv_at hl 2 rfl) ?_
        refine lv_bipush (v := nI 10) gx gb dX5_eachCanBe_11 (by decide) ?_
        refine lv_iload gx gb dX5_eachCanBe_13 (lv_at hl 0 rfl) ?_
        refine vp_callSi (W.runS (As := [.int (nI a), .int (nI 10), .int (nI k)]) (rest := [.ref rt]) ⟨gx, gb, gml, gown, gts⟩ (kX0_digit Gl a 10 k (by omega) (by omega) (by omega) (by omega)) (va_cwS 3 gts gX5_eachCanBe_X0_digit rfl rfl rfl (by decide +kernel) ⟨Nat.le_of_ble_eq_true rfl, Nat.le_of_ble_eq_true rfl⟩) ⟨fun _ _ _ _ h => h, fun U hU hW => ⟨rfl, trivial⟩⟩ rfl rfl hl.1 rfl (lv_room (Nat.le_of_ble_eq_true rfl)) dX5_eachCanBe_15 ⟨Nat.le_of_ble_eq_true rfl, Nat.le_of_ble_eq_true rfl⟩) (fun r hw => ?_)
        have hr15 := hw
        subst hr15
        refine lv_lload_n gx gb dX5_eachCanBe_18 rfl (lv_at hl 4 rfl) ?_
        have hPc := hP.sub (ws' := wT rt r0 r1 r4 r5 cI cJ tn q tq rws lks mks qu) [0, 1, 2, 3, 4] rfl
        refine vp_callSi (W.runV (As := [.int (nI (dg 10 a k)), .long (lN (pk 256 (fun x_ => num (plc x_)) q))]) (rest := []) ⟨gx, gb, gml, gown, gts⟩ (kX5_firstTaught Gl D cI cJ cZ rt r0 r1 r4 r5 tn tq rws lks mks qu S num plc (dg 10 a k) q (by omega) (by omega) (by omega) (by exact hS) (by exact hR) (by exact hnv)) (cwV 2 gts gX5_eachCanBe_X5_firstTaught rfl rfl rfl (by decide +kernel) ⟨Nat.le_of_ble_eq_true rfl, Nat.le_of_ble_eq_true rfl⟩) ⟨fun a U g mk q => ⟨q.1, q.2.1, va_K.moved (u := U) (U := U.calling g mk a) (Vm.Alike.refl U.vm) q.2.2⟩, va_recv hK hPc (ci := 2) (q0 := 0) rfl rfl, fun U hU hW => ⟨rfl, by rw [hU]; exact hPc, va_K.moved hW.alike hK⟩⟩ rfl rfl hl.1 rfl (lv_room (Nat.le_of_ble_eq_true rfl)) dX5_eachCanBe_19 ⟨Nat.le_of_ble_eq_true rfl, Nat.le_of_ble_eq_true rfl⟩) (fun r hw => ?_)
        have hr19 := hw
        subst hr19
        have hfb := ftZ_bd (fstT (fun i_ => tkC num plc (dg 10 a k) q (bR S i_)) (bN S))
        have hfn := fun x h9 => fstT_lt (T := fun i_ => tkC num plc (dg 10 a k) q (bR S i_)) (n := bN S) (x := x) h9
        have hbn := bOK_n7 hq hS
        have hft := ftZ_lt hbn hfn
        refine lv_if_ge (tgt := 27) gx gb dX5_eachCanBe_22 (by decide) (fun c22 => ?_) (fun c22 => ?_)
        · skip
          rw [z0_ge (by omega) (by omega)] at c22
          refine lv_iinc (v := nI (k + 1)) (lv' := [(5, .int (nI (k + 1))), (0, .ref rt), (1, .int (nI a)), (2, .int (nI m)), (3, .long (lN (pk 256 (fun x_ => num (plc x_)) q)))]) gx gb dX5_eachCanBe_27 hl (k := 0) rfl (nI_add k 1) (by decide) rfl (fun ls hl => ?_)
          refine lv_goto (tgt := 3) gx gb dX5_eachCanBe_30 (by decide) ?_
          exact ih3 (k + 1) (by omega) (by intro x hx; exact (Nat.lt_or_ge x k).elim (fun h => h0 x h) (fun h => by obtain rfl : x = k := (by omega); intro h9; rw [h9] at c22; exact absurd c22 (by decide))) (by omega) ls (lv_sub hl [0, 1, 2, 3, 4] rfl)
        · skip
          rw [z0_ge (by omega) (by omega)] at c22
          refine lv_iconst (v := nI 0) gx gb dX5_eachCanBe_25 (by decide) ?_
          exact W.zret (v := nI 0) gx gb gr (by decide) (fun t ht hW => ⟨nI 0, rfl, (by first | (dsimp only; done) | ((try dsimp only); exact ⟨false, rfl, ⟨fun h9 => (by cases h9), fun h9 => absurd (ftZ_neg (by omega)) (h9 k (by omega))⟩⟩)), ht⟩) (fun q h => by cases h) dX5_eachCanBe_26
  exact L3 _ 0 (by omega) (by intro x hx; exact absurd hx (Nat.not_lt_zero _)) (Nat.lt_succ_self _) ls (lv_sub hl [0, 1, 2, 3, 4] rfl)

